theorem sgX2_replay_0 {E : En} {Q : Option Value → Hi → Prop} {H : Hi}  
    (hF : Cm E mX2_begin [rf E 22] H (fun w H_1 => w = none ∧ (Cm E mX6_become [rf E 26, rf E 23] H_1 (fun w H_2 => w = none ∧ (∀ H_3 : Hi, H_3 = up H_2 22 5 (0 : Int32) → (Rm E mX2_replay Q 22 [some (rf E 22), some (.int (0 : Int32))] [] H_3)))))) :
    Rm E mX2_replay Q 0 [some (rf E 22), none] [] H := by
  refine rn_aload_n dX2_replay_0 rfl ?_
  refine rm_callV (c0 := 22) (As := []) (st := []) mlRX2_36 mdX2_begin (Nat.le_of_ble_eq_true rfl) rfl (by decide) (by decide) rfl rfl rfl (Nat.le_of_ble_eq_true rfl) ⟨Nat.le_refl _, Nat.le_refl _⟩ dX2_replay_1 ?_
  refine cm_mono hF (fun w H_1 hF => ?_)
  obtain ⟨rfl, hF⟩ := hF
  refine rn_aload_n dX2_replay_4 rfl ?_
  refine rm_getr (r := 26) flRX2_25 rfl (by decide) rfl dX2_replay_5 ?_
  refine rn_aload_n dX2_replay_8 rfl ?_
  refine rm_getr (r := 23) flRX2_12 rfl (by decide) rfl dX2_replay_9 ?_
  refine rm_callV (c0 := 26) (As := [rf E 23]) (st := []) mlRX2_39 mdX6_become (Nat.le_of_ble_eq_true rfl) rfl (by decide) (by decide) rfl rfl rfl (Nat.le_of_ble_eq_true rfl) ⟨Nat.le_refl _, Nat.le_refl _⟩ dX2_replay_12 ?_
  refine cm_mono hF (fun w H_2 hF => ?_)
  obtain ⟨rfl, hF⟩ := hF
  refine rn_aload_n dX2_replay_15 rfl ?_
  refine rn_iconst (x := (0 : Int32)) dX2_replay_16 (by decide) ?_
  refine rm_puti flRX2_43 rfl (by decide) rfl dX2_replay_17 (fun H_3 eH_3 => ?_)
  replace hF := hF H_3 eH_3
  refine rn_iconst (x := (0 : Int32)) dX2_replay_20 (by decide) ?_
  refine rn_istore_n dX2_replay_21 rfl (by decide) (fun x1_4 ex1_4 => ?_)
  subst ex1_4
  exact rn_wk (L' := [some (rf E 22), some (.int (0 : Int32))]) (⟨rfl, ⟨rfl, trivial⟩⟩) hF
theorem cmX2_replay {E : En} {Q : Option Value → Hi → Prop} {H : Hi}  
    (hF : Cm E mX2_begin [rf E 22] H (fun w H_1 => w = none ∧ (Cm E mX6_become [rf E 26, rf E 23] H_1 (fun w H_2 => w = none ∧ (∀ H_3 : Hi, H_3 = up H_2 22 5 (0 : Int32) → (Rm E mX2_replay Q 22 [some (rf E 22), some (.int (0 : Int32))] [] H_3)))))) :
    Cm E mX2_replay [rf E 22] H Q :=
  cm_of (by decide +kernel) (Nat.le_of_ble_eq_true rfl) rfl (sgX2_replay_0  hF)
theorem sgX2_replay_22 {E : En} {Q : Option Value → Hi → Prop} {H : Hi} {x1 : Int32} 
    (hF : ((24 : Int32) ≤ x1 → (Q none H)) ∧ (¬ (24 : Int32) ≤ x1 → (Cm E mX2_open [rf E 22, rf E 26, .int x1] H (fun w H_2 => ∃ r_3 : Int32, w = some (.int r_3) ∧ (∀ H_4 : Hi, H_4 = up H_2 22 5 ((H 22 5) ||| r_3) → (∃ j_5 : Nat, (j_5 < 24 ∧ x1 = nI j_5) ∧ (Cm E mX6_become [rf E (27 + 2 * j_5), rf E 26] H_4 (fun w H_6 => w = none ∧ (Cm E mX2_close [rf E 22, rf E 26, .int x1, .int (H_6 11 1)] H_6 (fun w H_7 => w = none ∧ (∃ j_8 : Nat, (j_8 < 24 ∧ x1 = nI j_8) ∧ (Cm E mX6_become [rf E (28 + 2 * j_8), rf E 26] H_7 (fun w H_9 => w = none ∧ (∀ x1_10 : Int32, x1_10 = x1 + (1 : Int32) → (Rm E mX2_replay Q 22 [some (rf E 22), some (.int x1_10)] [] H_9))))))))))))))) :
    Rm E mX2_replay Q 22 [some (rf E 22), some (.int x1)] [] H := by
  refine rn_iload_n dX2_replay_22 rfl ?_
  refine rn_bipush (x := (24 : Int32)) dX2_replay_23 (by decide) ?_
  refine rn_icmp_ge (tgt := 94) dX2_replay_25 (by decide) (fun hc_1 => ?_) (fun hc_1 => ?_)
  · replace hF := hF.1 hc_1
    exact rm_vret rfl dX2_replay_94 hF
  · replace hF := hF.2 hc_1
    refine rn_aload_n dX2_replay_28 rfl ?_
    refine rn_dup dX2_replay_29 rfl ?_
    refine rm_geti flRX2_43 rfl (by decide) rfl dX2_replay_30 ?_
    refine rn_aload_n dX2_replay_33 rfl ?_
    refine rn_aload_n dX2_replay_34 rfl ?_
    refine rm_getr (r := 26) flRX2_25 rfl (by decide) rfl dX2_replay_35 ?_
    refine rn_iload_n dX2_replay_38 rfl ?_
    refine rm_callV (c0 := 22) (As := [rf E 26, .int x1]) (st := [.int (H 22 5), rf E 22]) mlRX2_47 mdX2_open (Nat.le_of_ble_eq_true rfl) rfl (by decide) (by decide) rfl rfl rfl (Nat.le_of_ble_eq_true rfl) ⟨Nat.le_refl _, Nat.le_refl _⟩ dX2_replay_39 ?_
    refine cm_mono hF (fun w H_2 hF => ?_)
    obtain ⟨r_3, rfl, hF⟩ := hF
    refine rn_ior dX2_replay_42 ?_
    refine rm_puti flRX2_43 rfl (by decide) rfl dX2_replay_43 (fun H_4 eH_4 => ?_)
    replace hF := hF H_4 eH_4
    refine rn_aload_n dX2_replay_46 rfl ?_
    refine rm_getr (r := 24) flRX2_18 rfl (by decide) rfl dX2_replay_47 ?_
    refine rn_iload_n dX2_replay_50 rfl ?_
    obtain ⟨j_5, hj_5, hF⟩ := hF
    refine rj_aald (Cn := RX6) (r := (27 + 2 * j_5)) hj_5 (st_mid _ hj_5.1).2 rfl (by decide) (by decide) rfl (by decide) dX2_replay_51 ?_
    refine rn_aload_n dX2_replay_52 rfl ?_
    refine rm_getr (r := 26) flRX2_25 rfl (by decide) rfl dX2_replay_53 ?_
    refine rm_callV (c0 := (27 + 2 * j_5)) (As := [rf E 26]) (st := []) mlRX2_39 mdX6_become (Nat.le_of_ble_eq_true rfl) (st_mid _ hj_5.1).1.2.1 (st_mid _ hj_5.1).1.1 (by decide) rfl rfl rfl (Nat.le_of_ble_eq_true rfl) ⟨Nat.le_refl _, Nat.le_refl _⟩ dX2_replay_56 ?_
    refine cm_mono hF (fun w H_6 hF => ?_)
    obtain ⟨rfl, hF⟩ := hF
    refine rn_aload_n dX2_replay_59 rfl ?_
    refine rn_aload_n dX2_replay_60 rfl ?_
    refine rm_getr (r := 26) flRX2_25 rfl (by decide) rfl dX2_replay_61 ?_
    refine rn_iload_n dX2_replay_64 rfl ?_
    refine rn_aload_n dX2_replay_65 rfl ?_
    refine rm_getr (r := 11) flRX2_32 rfl (by decide) rfl dX2_replay_66 ?_
    refine rm_geti flRX2_51 rfl (by decide) rfl dX2_replay_69 ?_
    refine rm_callV (c0 := 22) (As := [rf E 26, .int x1, .int (H_6 11 1)]) (st := []) mlRX2_56 mdX2_close (Nat.le_of_ble_eq_true rfl) rfl (by decide) (by decide) rfl rfl rfl (Nat.le_of_ble_eq_true rfl) ⟨Nat.le_refl _, Nat.le_refl _⟩ dX2_replay_72 ?_
    refine cm_mono hF (fun w H_7 hF => ?_)
    obtain ⟨rfl, hF⟩ := hF
    refine rn_aload_n dX2_replay_75 rfl ?_
    refine rm_getr (r := 25) flRX2_22 rfl (by decide) rfl dX2_replay_76 ?_
    refine rn_iload_n dX2_replay_79 rfl ?_
    obtain ⟨j_8, hj_8, hF⟩ := hF
    refine rj_aald (Cn := RX6) (r := (28 + 2 * j_8)) hj_8 (st_beh _ hj_8.1).2 rfl (by decide) (by decide) rfl (by decide) dX2_replay_80 ?_
    refine rn_aload_n dX2_replay_81 rfl ?_
    refine rm_getr (r := 26) flRX2_25 rfl (by decide) rfl dX2_replay_82 ?_
    refine rm_callV (c0 := (28 + 2 * j_8)) (As := [rf E 26]) (st := []) mlRX2_39 mdX6_become (Nat.le_of_ble_eq_true rfl) (st_beh _ hj_8.1).1.2.1 (st_beh _ hj_8.1).1.1 (by decide) rfl rfl rfl (Nat.le_of_ble_eq_true rfl) ⟨Nat.le_refl _, Nat.le_refl _⟩ dX2_replay_85 ?_
    refine cm_mono hF (fun w H_9 hF => ?_)
    obtain ⟨rfl, hF⟩ := hF
    refine rn_iinc (w := (1 : Int32)) dX2_replay_88 rfl (by decide) rfl (by decide) (fun x1_10 ex1_10 => ?_)
    replace hF := hF x1_10 ex1_10
    refine rn_goto (tgt := 22) dX2_replay_91 (by decide) ?_
    exact rn_wk (L' := [some (rf E 22), some (.int x1_10)]) (⟨rfl, ⟨rfl, trivial⟩⟩) hF
theorem sgX2_begin_0 {E : En} {Q : Option Value → Hi → Prop} {H : Hi}  
    (hF : Rm E mX2_begin Q 4 [some (rf E 22), some (.int (0 : Int32)), some (.int (0 : Int32)), none] [] H) :
    Rm E mX2_begin Q 0 [some (rf E 22), none, none, none] [] H := by
  refine rn_iconst (x := (0 : Int32)) dX2_begin_0 (by decide) ?_
  refine rn_istore_n dX2_begin_1 rfl (by decide) (fun x1_1 ex1_1 => ?_)
  subst ex1_1
  refine rn_iconst (x := (0 : Int32)) dX2_begin_2 (by decide) ?_
  refine rn_istore_n dX2_begin_3 rfl (by decide) (fun x2_2 ex2_2 => ?_)
  subst ex2_2
  exact rn_wk (L' := [some (rf E 22), some (.int (0 : Int32)), some (.int (0 : Int32)), none]) (⟨rfl, ⟨rfl, ⟨rfl, trivial⟩⟩⟩) hF
theorem cmX2_begin {E : En} {Q : Option Value → Hi → Prop} {H : Hi}  
    (hF : Rm E mX2_begin Q 4 [some (rf E 22), some (.int (0 : Int32)), some (.int (0 : Int32)), none] [] H) :
    Cm E mX2_begin [rf E 22] H Q :=
  cm_of (by decide +kernel) (Nat.le_of_ble_eq_true rfl) rfl (sgX2_begin_0  hF)
theorem sgX2_begin_4 {E : En} {Q : Option Value → Hi → Prop} {H : Hi} {x1 : Int32} {x2 : Int32} 
    (hF : ((H 5 0) ≤ x2 → (∀ H_2 : Hi, H_2 = up H 23 0 x1 → (Q none H_2))) ∧ (¬ (H 5 0) ≤ x2 → (∃ j_3 : Nat, (j_3 < 8 ∧ x2 = nI j_3) ∧ (∀ x3_4 : Int32, x3_4 = H 7 j_3 → (((H 5 1) ≤ x3_4 → (∀ x1_6 : Int32, x1_6 = x1 ||| ((9 : Int32) <<< (((4 : Int32) * x2) &&& 31)) → (∀ x2_7 : Int32, x2_7 = x2 + (1 : Int32) → (Rm E mX2_begin Q 4 [some (rf E 22), some (.int x1_6), some (.int x2_7), none] [] H)))) ∧ (¬ (H 5 1) ≤ x3_4 → (∀ x1_8 : Int32, x1_8 = x1 ||| (x3_4 <<< (((4 : Int32) * x2) &&& 31)) → (∀ x2_9 : Int32, x2_9 = x2 + (1 : Int32) → (Rm E mX2_begin Q 4 [some (rf E 22), some (.int x1_8), some (.int x2_9), none] [] H))))))))) :
    Rm E mX2_begin Q 4 [some (rf E 22), some (.int x1), some (.int x2), none] [] H := by
  refine rn_iload_n dX2_begin_4 rfl ?_
  refine rn_aload_n dX2_begin_5 rfl ?_
  refine rm_getr (r := 5) flRX2_28 rfl (by decide) rfl dX2_begin_6 ?_
  refine rm_geti flRX2_60 rfl (by decide) rfl dX2_begin_9 ?_
  refine rn_icmp_ge (tgt := 55) dX2_begin_12 (by decide) (fun hc_1 => ?_) (fun hc_1 => ?_)
  · replace hF := hF.1 hc_1
    refine rn_aload_n dX2_begin_55 rfl ?_
    refine rm_getr (r := 23) flRX2_12 rfl (by decide) rfl dX2_begin_56 ?_
    refine rn_iload_n dX2_begin_59 rfl ?_
    refine rm_puti flRX2_72 rfl (by decide) rfl dX2_begin_60 (fun H_2 eH_2 => ?_)
    replace hF := hF H_2 eH_2
    exact rm_vret rfl dX2_begin_63 hF
  · replace hF := hF.2 hc_1
    refine rn_aload_n dX2_begin_15 rfl ?_
    refine rm_getr (r := 5) flRX2_28 rfl (by decide) rfl dX2_begin_16 ?_
    refine rm_getr (r := 7) flRX2_65 rfl (by decide) rfl dX2_begin_19 ?_
    refine rn_iload_n dX2_begin_22 rfl ?_
    obtain ⟨j_3, hj_3, hF⟩ := hF
    refine rj_iald hj_3 rfl (by decide) rfl (by decide) dX2_begin_23 ?_
    refine rn_istore_n dX2_begin_24 rfl (by decide) (fun x3_4 ex3_4 => ?_)
    replace hF := hF x3_4 ex3_4
    refine rn_iload_n dX2_begin_25 rfl ?_
    refine rn_iload_n dX2_begin_26 rfl ?_
    refine rn_aload_n dX2_begin_27 rfl ?_
    refine rm_getr (r := 5) flRX2_28 rfl (by decide) rfl dX2_begin_28 ?_
    refine rm_geti flRX2_69 rfl (by decide) rfl dX2_begin_31 ?_
    refine rn_icmp_ge (tgt := 41) dX2_begin_34 (by decide) (fun hc_5 => ?_) (fun hc_5 => ?_)
    · replace hF := hF.1 hc_5
      refine rn_bipush (x := (9 : Int32)) dX2_begin_41 (by decide) ?_
      refine rn_iconst (x := (4 : Int32)) dX2_begin_43 (by decide) ?_
      refine rn_iload_n dX2_begin_44 rfl ?_
      refine rn_imul dX2_begin_45 ?_
      refine rn_ishl dX2_begin_46 ?_
      refine rn_ior dX2_begin_47 ?_
      refine rn_istore_n dX2_begin_48 rfl (by decide) (fun x1_6 ex1_6 => ?_)
      replace hF := hF x1_6 ex1_6
      refine rn_iinc (w := (1 : Int32)) dX2_begin_49 rfl (by decide) rfl (by decide) (fun x2_7 ex2_7 => ?_)
      replace hF := hF x2_7 ex2_7
      refine rn_goto (tgt := 4) dX2_begin_52 (by decide) ?_
      exact rn_wk (L' := [some (rf E 22), some (.int x1_6), some (.int x2_7), none]) (⟨rfl, ⟨rfl, ⟨rfl, trivial⟩⟩⟩) hF
    · replace hF := hF.2 hc_5
      refine rn_iload_n dX2_begin_37 rfl ?_
      refine rn_goto (tgt := 43) dX2_begin_38 (by decide) ?_
      refine rn_iconst (x := (4 : Int32)) dX2_begin_43 (by decide) ?_
      refine rn_iload_n dX2_begin_44 rfl ?_
      refine rn_imul dX2_begin_45 ?_
      refine rn_ishl dX2_begin_46 ?_
      refine rn_ior dX2_begin_47 ?_
      refine rn_istore_n dX2_begin_48 rfl (by decide) (fun x1_8 ex1_8 => ?_)
      replace hF := hF x1_8 ex1_8
      refine rn_iinc (w := (1 : Int32)) dX2_begin_49 rfl (by decide) rfl (by decide) (fun x2_9 ex2_9 => ?_)
      replace hF := hF x2_9 ex2_9
      refine rn_goto (tgt := 4) dX2_begin_52 (by decide) ?_
      exact rn_wk (L' := [some (rf E 22), some (.int x1_8), some (.int x2_9), none]) (⟨rfl, ⟨rfl, ⟨rfl, trivial⟩⟩⟩) hF
theorem sgX2_open_0 {E : En} {Q : Option Value → Hi → Prop} {H : Hi} {s1 : Nat} {x2 : Int32} (hs1 : isSt s1)
    (hF : Cm E mX2_putBack [rf E 22, rf E s1] H (fun w H_1 => w = none ∧ (∃ j_2 : Nat, (j_2 < 25 ∧ x2 = nI j_2) ∧ (∃ j_3 : Nat, (j_3 < 25 ∧ x2 + (1 : Int32) = nI j_3) ∧ (Cm E mX2_tell [rf E 22, rf E s1, .int (H_1 20 j_2), .int (H_1 20 j_3)] H_1 (fun w H_4 => ∃ r_5 : Int32, w = some (.int r_5) ∧ (Q (some (.int r_5)) H_4))))))) :
    Rm E mX2_open Q 0 [some (rf E 22), some (rf E s1), some (.int x2)] [] H := by
  refine rn_aload_n dX2_open_0 rfl ?_
  refine rn_aload_n dX2_open_1 rfl ?_
  refine rm_callV (c0 := 22) (As := [rf E s1]) (st := []) mlRX2_75 mdX2_putBack (Nat.le_of_ble_eq_true rfl) rfl (by decide) (by decide) rfl rfl rfl (Nat.le_of_ble_eq_true rfl) ⟨Nat.le_refl _, Nat.le_refl _⟩ dX2_open_2 ?_
  refine cm_mono hF (fun w H_1 hF => ?_)
  obtain ⟨rfl, hF⟩ := hF
  refine rn_aload_n dX2_open_5 rfl ?_
  refine rn_aload_n dX2_open_6 rfl ?_
  refine rn_aload_n dX2_open_7 rfl ?_
  refine rm_getr (r := 11) flRX2_32 rfl (by decide) rfl dX2_open_8 ?_
  refine rm_getr (r := 20) flRX2_78 rfl (by decide) rfl dX2_open_11 ?_
  refine rn_iload_n dX2_open_14 rfl ?_
  obtain ⟨j_2, hj_2, hF⟩ := hF
  refine rj_iald hj_2 rfl (by decide) rfl (by decide) dX2_open_15 ?_
  refine rn_aload_n dX2_open_16 rfl ?_
  refine rm_getr (r := 11) flRX2_32 rfl (by decide) rfl dX2_open_17 ?_
  refine rm_getr (r := 20) flRX2_78 rfl (by decide) rfl dX2_open_20 ?_
  refine rn_iload_n dX2_open_23 rfl ?_
  refine rn_iconst (x := (1 : Int32)) dX2_open_24 (by decide) ?_
  refine rn_iadd dX2_open_25 ?_
  obtain ⟨j_3, hj_3, hF⟩ := hF
  refine rj_iald hj_3 rfl (by decide) rfl (by decide) dX2_open_26 ?_
  refine rm_callV (c0 := 22) (As := [rf E s1, .int (H_1 20 j_2), .int (H_1 20 j_3)]) (st := []) mlRX2_81 mdX2_tell (Nat.le_of_ble_eq_true rfl) rfl (by decide) (by decide) rfl rfl rfl (Nat.le_of_ble_eq_true rfl) ⟨Nat.le_refl _, Nat.le_refl _⟩ dX2_open_27 ?_
  refine cm_mono hF (fun w H_4 hF => ?_)
  obtain ⟨r_5, rfl, hF⟩ := hF
  exact rm_iret rfl dX2_open_30 hF
theorem cmX2_open {E : En} {Q : Option Value → Hi → Prop} {H : Hi} {s1 : Nat} {x2 : Int32} (hs1 : isSt s1)
    (hF : Cm E mX2_putBack [rf E 22, rf E s1] H (fun w H_1 => w = none ∧ (∃ j_2 : Nat, (j_2 < 25 ∧ x2 = nI j_2) ∧ (∃ j_3 : Nat, (j_3 < 25 ∧ x2 + (1 : Int32) = nI j_3) ∧ (Cm E mX2_tell [rf E 22, rf E s1, .int (H_1 20 j_2), .int (H_1 20 j_3)] H_1 (fun w H_4 => ∃ r_5 : Int32, w = some (.int r_5) ∧ (Q (some (.int r_5)) H_4))))))) :
    Cm E mX2_open [rf E 22, rf E s1, .int x2] H Q :=
  cm_of (by decide +kernel) (Nat.le_of_ble_eq_true rfl) rfl (sgX2_open_0 hs1 hF)
theorem sgX2_putBack_0 {E : En} {Q : Option Value → Hi → Prop} {H : Hi} {s1 : Nat} (hs1 : isSt s1)
    (hF : ∀ x2_1 : Int32, x2_1 = H s1 3 → (∀ H_2 : Hi, H_2 = up H s1 3 (0 : Int32) → ((x2_1 = 0 → (Q none H_2)) ∧ (¬ x2_1 = 0 → ((¬ (H_2 5 6) = 0 → (Rm E mX2_putBack Q 27 [some (rf E 22), some (rf E s1), some (.int x2_1), some (.int (0 : Int32)), none, none] [] H_2)) ∧ ((H_2 5 6) = 0 → (Q none H_2))))))) :
    Rm E mX2_putBack Q 0 [some (rf E 22), some (rf E s1), none, none, none, none] [] H := by
  refine rn_aload_n dX2_putBack_0 rfl ?_
  refine rm_geti flRX2_85 hs1.2.1 hs1.1 (rT_row hs1.2.2 _) dX2_putBack_1 ?_
  refine rn_istore_n dX2_putBack_4 rfl (by decide) (fun x2_1 ex2_1 => ?_)
  replace hF := hF x2_1 ex2_1
  refine rn_aload_n dX2_putBack_5 rfl ?_
  refine rn_iconst (x := (0 : Int32)) dX2_putBack_6 (by decide) ?_
  refine rm_puti flRX2_85 hs1.2.1 hs1.1 (rT_row hs1.2.2 _) dX2_putBack_7 (fun H_2 eH_2 => ?_)
  replace hF := hF H_2 eH_2
  refine rn_iload_n dX2_putBack_10 rfl ?_
  refine rn_if_eq (tgt := 24) dX2_putBack_11 (by decide) (fun hc_3 => ?_) (fun hc_3 => ?_)
  · replace hF := hF.1 hc_3
    exact rm_vret rfl dX2_putBack_24 hF
  · replace hF := hF.2 hc_3
    refine rn_aload_n dX2_putBack_14 rfl ?_
    refine rm_getr (r := 5) flRX2_28 rfl (by decide) rfl dX2_putBack_15 ?_
    refine rm_geti flRX2_88 rfl (by decide) rfl dX2_putBack_18 ?_
    refine rn_if_ne (tgt := 25) dX2_putBack_21 (by decide) (fun hc_4 => ?_) (fun hc_4 => ?_)
    · replace hF := hF.1 hc_4
      refine rn_iconst (x := (0 : Int32)) dX2_putBack_25 (by decide) ?_
      refine rn_istore_n dX2_putBack_26 rfl (by decide) (fun x3_5 ex3_5 => ?_)
      subst ex3_5
      exact rn_wk (L' := [some (rf E 22), some (rf E s1), some (.int x2_1), some (.int (0 : Int32)), none, none]) (⟨rfl, ⟨rfl, ⟨rfl, ⟨rfl, trivial⟩⟩⟩⟩) hF
    · replace hF := hF.2 hc_4
      exact rm_vret rfl dX2_putBack_24 hF
theorem cmX2_putBack {E : En} {Q : Option Value → Hi → Prop} {H : Hi} {s1 : Nat} (hs1 : isSt s1)
    (hF : ∀ x2_1 : Int32, x2_1 = H s1 3 → (∀ H_2 : Hi, H_2 = up H s1 3 (0 : Int32) → ((x2_1 = 0 → (Q none H_2)) ∧ (¬ x2_1 = 0 → ((¬ (H_2 5 6) = 0 → (Rm E mX2_putBack Q 27 [some (rf E 22), some (rf E s1), some (.int x2_1), some (.int (0 : Int32)), none, none] [] H_2)) ∧ ((H_2 5 6) = 0 → (Q none H_2))))))) :
    Cm E mX2_putBack [rf E 22, rf E s1] H Q :=
  cm_of (by decide +kernel) (Nat.le_of_ble_eq_true rfl) rfl (sgX2_putBack_0 hs1 hF)
theorem sgX2_putBack_27 {E : En} {Q : Option Value → Hi → Prop} {H : Hi} {s1 : Nat} {x2 : Int32} {x3 : Int32} (hs1 : isSt s1)
    (hF : ((H 5 1) ≤ x3 → (Q none H)) ∧ (¬ (H 5 1) ≤ x3 → (Rm E mX2_putBack Q 41 [some (rf E 22), some (rf E s1), some (.int x2), some (.int x3), some (.int (0 : Int32)), none] [] H))) :
    Rm E mX2_putBack Q 27 [some (rf E 22), some (rf E s1), some (.int x2), some (.int x3), none, none] [] H := by
  refine rn_iload_n dX2_putBack_27 rfl ?_
  refine rn_aload_n dX2_putBack_28 rfl ?_
  refine rm_getr (r := 5) flRX2_28 rfl (by decide) rfl dX2_putBack_29 ?_
  refine rm_geti flRX2_69 rfl (by decide) rfl dX2_putBack_32 ?_
  refine rn_icmp_ge (tgt := 123) dX2_putBack_35 (by decide) (fun hc_1 => ?_) (fun hc_1 => ?_)
  · replace hF := hF.1 hc_1
    exact rm_vret rfl dX2_putBack_123 hF
  · replace hF := hF.2 hc_1
    refine rn_iconst (x := (0 : Int32)) dX2_putBack_38 (by decide) ?_
    refine rn_istore dX2_putBack_39 rfl (by decide) (fun x4_2 ex4_2 => ?_)
    subst ex4_2
    exact rn_wk (L' := [some (rf E 22), some (rf E s1), some (.int x2), some (.int x3), some (.int (0 : Int32)), none]) (⟨rfl, ⟨rfl, ⟨rfl, ⟨rfl, ⟨rfl, trivial⟩⟩⟩⟩⟩) hF
theorem sgX2_putBack_41 {E : En} {Q : Option Value → Hi → Prop} {H : Hi} {s1 : Nat} {x2 : Int32} {x3 : Int32} {x4 : Int32} (hs1 : isSt s1)
    (hF : ((H 5 0) ≤ x4 → (∀ x3_2 : Int32, x3_2 = x3 + (1 : Int32) → (Rm E mX2_putBack Q 27 [some (rf E 22), some (rf E s1), some (.int x2), some (.int x3_2), none, none] [] H))) ∧ (¬ (H 5 0) ≤ x4 → ((((((H 5 6) >>> (x3 &&& 31)) &&& (x2 >>> (x4 &&& 31))) &&& (1 : Int32)) = 0 → (((0 : Int32) = 0 → (∀ x4_6 : Int32, x4_6 = x4 + (1 : Int32) → (Rm E mX2_putBack Q 41 [some (rf E 22), some (rf E s1), some (.int x2), some (.int x3), some (.int x4_6), none] [] H))) ∧ (¬ (0 : Int32) = 0 → (Cm E mX2_reach [rf E 22, rf E s1, .int (((8 : Int32) * x3) + x4)] H (fun w H_7 => ∃ r_8 : Int32, w = some (.int r_8) ∧ (∀ x4_9 : Int32, x4_9 = x4 + (1 : Int32) → (Rm E mX2_putBack Q 41 [some (rf E 22), some (rf E s1), some (.int x2), some (.int x3), some (.int x4_9), none] [] H_7))))))) ∧ (¬ ((((H 5 6) >>> (x3 &&& 31)) &&& (x2 >>> (x4 &&& 31))) &&& (1 : Int32)) = 0 → (∃ j_10 : Nat, (j_10 < 8 ∧ x4 = nI j_10) ∧ (((H 7 j_10) = x3 → (((0 : Int32) = 0 → (∀ x4_14 : Int32, x4_14 = x4 + (1 : Int32) → (Rm E mX2_putBack Q 41 [some (rf E 22), some (rf E s1), some (.int x2), some (.int x3), some (.int x4_14), none] [] H))) ∧ (¬ (0 : Int32) = 0 → (Cm E mX2_reach [rf E 22, rf E s1, .int (((8 : Int32) * x3) + x4)] H (fun w H_15 => ∃ r_16 : Int32, w = some (.int r_16) ∧ (∀ x4_17 : Int32, x4_17 = x4 + (1 : Int32) → (Rm E mX2_putBack Q 41 [some (rf E 22), some (rf E s1), some (.int x2), some (.int x3), some (.int x4_17), none] [] H_15))))))) ∧ (¬ (H 7 j_10) = x3 → (((1 : Int32) = 0 → (∀ x4_20 : Int32, x4_20 = x4 + (1 : Int32) → (Rm E mX2_putBack Q 41 [some (rf E 22), some (rf E s1), some (.int x2), some (.int x3), some (.int x4_20), none] [] H))) ∧ (¬ (1 : Int32) = 0 → (Cm E mX2_reach [rf E 22, rf E s1, .int (((8 : Int32) * x3) + x4)] H (fun w H_21 => ∃ r_22 : Int32, w = some (.int r_22) ∧ (∀ x4_23 : Int32, x4_23 = x4 + (1 : Int32) → (Rm E mX2_putBack Q 41 [some (rf E 22), some (rf E s1), some (.int x2), some (.int x3), some (.int x4_23), none] [] H_21))))))))))))) :
    Rm E mX2_putBack Q 41 [some (rf E 22), some (rf E s1), some (.int x2), some (.int x3), some (.int x4), none] [] H := by
  refine rn_iload dX2_putBack_41 rfl ?_
  refine rn_aload_n dX2_putBack_43 rfl ?_
  refine rm_getr (r := 5) flRX2_28 rfl (by decide) rfl dX2_putBack_44 ?_
  refine rm_geti flRX2_60 rfl (by decide) rfl dX2_putBack_47 ?_
  refine rn_icmp_ge (tgt := 117) dX2_putBack_50 (by decide) (fun hc_1 => ?_) (fun hc_1 => ?_)
  · replace hF := hF.1 hc_1
    refine rn_iinc (w := (1 : Int32)) dX2_putBack_117 rfl (by decide) rfl (by decide) (fun x3_2 ex3_2 => ?_)
    replace hF := hF x3_2 ex3_2
    refine rn_goto (tgt := 27) dX2_putBack_120 (by decide) ?_
    exact rn_wk (L' := [some (rf E 22), some (rf E s1), some (.int x2), some (.int x3_2), none, none]) (⟨rfl, ⟨rfl, ⟨rfl, ⟨rfl, trivial⟩⟩⟩⟩) hF
  · replace hF := hF.2 hc_1
    refine rn_aload_n dX2_putBack_53 rfl ?_
    refine rm_getr (r := 5) flRX2_28 rfl (by decide) rfl dX2_putBack_54 ?_
    refine rm_geti flRX2_88 rfl (by decide) rfl dX2_putBack_57 ?_
    refine rn_iload_n dX2_putBack_60 rfl ?_
    refine rn_ishr dX2_putBack_61 ?_
    refine rn_iload_n dX2_putBack_62 rfl ?_
    refine rn_iload dX2_putBack_63 rfl ?_
    refine rn_ishr dX2_putBack_65 ?_
    refine rn_iand dX2_putBack_66 ?_
    refine rn_iconst (x := (1 : Int32)) dX2_putBack_67 (by decide) ?_
    refine rn_iand dX2_putBack_68 ?_
    refine rn_if_eq (tgt := 90) dX2_putBack_69 (by decide) (fun hc_3 => ?_) (fun hc_3 => ?_)
    · replace hF := hF.1 hc_3
      refine rn_iconst (x := (0 : Int32)) dX2_putBack_90 (by decide) ?_
      refine rn_istore dX2_putBack_91 rfl (by decide) (fun x5_4 ex5_4 => ?_)
      subst ex5_4
      refine rn_iload dX2_putBack_93 rfl ?_
      refine rn_if_eq (tgt := 111) dX2_putBack_95 (by decide) (fun hc_5 => ?_) (fun hc_5 => ?_)
      · replace hF := hF.1 hc_5
        refine rn_iinc (w := (1 : Int32)) dX2_putBack_111 rfl (by decide) rfl (by decide) (fun x4_6 ex4_6 => ?_)
        replace hF := hF x4_6 ex4_6
        refine rn_goto (tgt := 41) dX2_putBack_114 (by decide) ?_
        exact rn_wk (L' := [some (rf E 22), some (rf E s1), some (.int x2), some (.int x3), some (.int x4_6), none]) (⟨rfl, ⟨rfl, ⟨rfl, ⟨rfl, ⟨rfl, trivial⟩⟩⟩⟩⟩) hF
      · replace hF := hF.2 hc_5
        refine rn_aload_n dX2_putBack_98 rfl ?_
        refine rn_aload_n dX2_putBack_99 rfl ?_
        refine rn_bipush (x := (8 : Int32)) dX2_putBack_100 (by decide) ?_
        refine rn_iload_n dX2_putBack_102 rfl ?_
        refine rn_imul dX2_putBack_103 ?_
        refine rn_iload dX2_putBack_104 rfl ?_
        refine rn_iadd dX2_putBack_106 ?_
        refine rm_callV (c0 := 22) (As := [rf E s1, .int (((8 : Int32) * x3) + x4)]) (st := []) mlRX2_91 mdX2_reach (Nat.le_of_ble_eq_true rfl) rfl (by decide) (by decide) rfl rfl rfl (Nat.le_of_ble_eq_true rfl) ⟨Nat.le_refl _, Nat.le_refl _⟩ dX2_putBack_107 ?_
        refine cm_mono hF (fun w H_7 hF => ?_)
        obtain ⟨r_8, rfl, hF⟩ := hF
        refine rn_pop dX2_putBack_110 rfl ?_
        refine rn_iinc (w := (1 : Int32)) dX2_putBack_111 rfl (by decide) rfl (by decide) (fun x4_9 ex4_9 => ?_)
        replace hF := hF x4_9 ex4_9
        refine rn_goto (tgt := 41) dX2_putBack_114 (by decide) ?_
        exact rn_wk (L' := [some (rf E 22), some (rf E s1), some (.int x2), some (.int x3), some (.int x4_9), none]) (⟨rfl, ⟨rfl, ⟨rfl, ⟨rfl, ⟨rfl, trivial⟩⟩⟩⟩⟩) hF
    · replace hF := hF.2 hc_3
      refine rn_aload_n dX2_putBack_72 rfl ?_
      refine rm_getr (r := 5) flRX2_28 rfl (by decide) rfl dX2_putBack_73 ?_
      refine rm_getr (r := 7) flRX2_65 rfl (by decide) rfl dX2_putBack_76 ?_
      refine rn_iload dX2_putBack_79 rfl ?_
      obtain ⟨j_10, hj_10, hF⟩ := hF
      refine rj_iald hj_10 rfl (by decide) rfl (by decide) dX2_putBack_81 ?_
      refine rn_iload_n dX2_putBack_82 rfl ?_
      refine rn_icmp_eq (tgt := 90) dX2_putBack_83 (by decide) (fun hc_11 => ?_) (fun hc_11 => ?_)
      · replace hF := hF.1 hc_11
        refine rn_iconst (x := (0 : Int32)) dX2_putBack_90 (by decide) ?_
        refine rn_istore dX2_putBack_91 rfl (by decide) (fun x5_12 ex5_12 => ?_)
        subst ex5_12
        refine rn_iload dX2_putBack_93 rfl ?_
        refine rn_if_eq (tgt := 111) dX2_putBack_95 (by decide) (fun hc_13 => ?_) (fun hc_13 => ?_)
        · replace hF := hF.1 hc_13
          refine rn_iinc (w := (1 : Int32)) dX2_putBack_111 rfl (by decide) rfl (by decide) (fun x4_14 ex4_14 => ?_)
          replace hF := hF x4_14 ex4_14
          refine rn_goto (tgt := 41) dX2_putBack_114 (by decide) ?_
          exact rn_wk (L' := [some (rf E 22), some (rf E s1), some (.int x2), some (.int x3), some (.int x4_14), none]) (⟨rfl, ⟨rfl, ⟨rfl, ⟨rfl, ⟨rfl, trivial⟩⟩⟩⟩⟩) hF
        · replace hF := hF.2 hc_13
          refine rn_aload_n dX2_putBack_98 rfl ?_
          refine rn_aload_n dX2_putBack_99 rfl ?_
          refine rn_bipush (x := (8 : Int32)) dX2_putBack_100 (by decide) ?_
          refine rn_iload_n dX2_putBack_102 rfl ?_
          refine rn_imul dX2_putBack_103 ?_
          refine rn_iload dX2_putBack_104 rfl ?_
          refine rn_iadd dX2_putBack_106 ?_
          refine rm_callV (c0 := 22) (As := [rf E s1, .int (((8 : Int32) * x3) + x4)]) (st := []) mlRX2_91 mdX2_reach (Nat.le_of_ble_eq_true rfl) rfl (by decide) (by decide) rfl rfl rfl (Nat.le_of_ble_eq_true rfl) ⟨Nat.le_refl _, Nat.le_refl _⟩ dX2_putBack_107 ?_
          refine cm_mono hF (fun w H_15 hF => ?_)
          obtain ⟨r_16, rfl, hF⟩ := hF
          refine rn_pop dX2_putBack_110 rfl ?_
          refine rn_iinc (w := (1 : Int32)) dX2_putBack_111 rfl (by decide) rfl (by decide) (fun x4_17 ex4_17 => ?_)
          replace hF := hF x4_17 ex4_17
          refine rn_goto (tgt := 41) dX2_putBack_114 (by decide) ?_
          exact rn_wk (L' := [some (rf E 22), some (rf E s1), some (.int x2), some (.int x3), some (.int x4_17), none]) (⟨rfl, ⟨rfl, ⟨rfl, ⟨rfl, ⟨rfl, trivial⟩⟩⟩⟩⟩) hF
      · replace hF := hF.2 hc_11
        refine rn_iconst (x := (1 : Int32)) dX2_putBack_86 (by decide) ?_
        refine rn_goto (tgt := 91) dX2_putBack_87 (by decide) ?_
        refine rn_istore dX2_putBack_91 rfl (by decide) (fun x5_18 ex5_18 => ?_)
        subst ex5_18
        refine rn_iload dX2_putBack_93 rfl ?_
        refine rn_if_eq (tgt := 111) dX2_putBack_95 (by decide) (fun hc_19 => ?_) (fun hc_19 => ?_)
        · replace hF := hF.1 hc_19
          refine rn_iinc (w := (1 : Int32)) dX2_putBack_111 rfl (by decide) rfl (by decide) (fun x4_20 ex4_20 => ?_)
          replace hF := hF x4_20 ex4_20
          refine rn_goto (tgt := 41) dX2_putBack_114 (by decide) ?_
          exact rn_wk (L' := [some (rf E 22), some (rf E s1), some (.int x2), some (.int x3), some (.int x4_20), none]) (⟨rfl, ⟨rfl, ⟨rfl, ⟨rfl, ⟨rfl, trivial⟩⟩⟩⟩⟩) hF
        · replace hF := hF.2 hc_19
          refine rn_aload_n dX2_putBack_98 rfl ?_
          refine rn_aload_n dX2_putBack_99 rfl ?_
          refine rn_bipush (x := (8 : Int32)) dX2_putBack_100 (by decide) ?_
          refine rn_iload_n dX2_putBack_102 rfl ?_
          refine rn_imul dX2_putBack_103 ?_
          refine rn_iload dX2_putBack_104 rfl ?_
          refine rn_iadd dX2_putBack_106 ?_
          refine rm_callV (c0 := 22) (As := [rf E s1, .int (((8 : Int32) * x3) + x4)]) (st := []) mlRX2_91 mdX2_reach (Nat.le_of_ble_eq_true rfl) rfl (by decide) (by decide) rfl rfl rfl (Nat.le_of_ble_eq_true rfl) ⟨Nat.le_refl _, Nat.le_refl _⟩ dX2_putBack_107 ?_
          refine cm_mono hF (fun w H_21 hF => ?_)
          obtain ⟨r_22, rfl, hF⟩ := hF
          refine rn_pop dX2_putBack_110 rfl ?_
          refine rn_iinc (w := (1 : Int32)) dX2_putBack_111 rfl (by decide) rfl (by decide) (fun x4_23 ex4_23 => ?_)
          replace hF := hF x4_23 ex4_23
          refine rn_goto (tgt := 41) dX2_putBack_114 (by decide) ?_
          exact rn_wk (L' := [some (rf E 22), some (rf E s1), some (.int x2), some (.int x3), some (.int x4_23), none]) (⟨rfl, ⟨rfl, ⟨rfl, ⟨rfl, ⟨rfl, trivial⟩⟩⟩⟩⟩) hF
theorem sgX2_tell_0 {E : En} {Q : Option Value → Hi → Prop} {H : Hi} {s1 : Nat} {x2 : Int32} {x3 : Int32} (hs1 : isSt s1)
    (hF : Rm E mX2_tell Q 6 [some (rf E 22), some (rf E s1), none, some (.int x3), some (.int (0 : Int32)), some (.int x2), none] [] H) :
    Rm E mX2_tell Q 0 [some (rf E 22), some (rf E s1), some (.int x2), some (.int x3), none, none, none] [] H := by
  refine rn_iconst (x := (0 : Int32)) dX2_tell_0 (by decide) ?_
  refine rn_istore dX2_tell_1 rfl (by decide) (fun x4_1 ex4_1 => ?_)
  subst ex4_1
  refine rn_iload_n dX2_tell_3 rfl ?_
  refine rn_istore dX2_tell_4 rfl (by decide) (fun x5_2 ex5_2 => ?_)
  subst ex5_2
  exact rn_wk (L' := [some (rf E 22), some (rf E s1), none, some (.int x3), some (.int (0 : Int32)), some (.int x2), none]) (⟨rfl, ⟨rfl, ⟨rfl, ⟨rfl, ⟨rfl, trivial⟩⟩⟩⟩⟩) hF
theorem cmX2_tell {E : En} {Q : Option Value → Hi → Prop} {H : Hi} {s1 : Nat} {x2 : Int32} {x3 : Int32} (hs1 : isSt s1)
    (hF : Rm E mX2_tell Q 6 [some (rf E 22), some (rf E s1), none, some (.int x3), some (.int (0 : Int32)), some (.int x2), none] [] H) :
    Cm E mX2_tell [rf E 22, rf E s1, .int x2, .int x3] H Q :=
  cm_of (by decide +kernel) (Nat.le_of_ble_eq_true rfl) rfl (sgX2_tell_0 hs1 hF)
theorem sgX2_tell_6 {E : En} {Q : Option Value → Hi → Prop} {H : Hi} {s1 : Nat} {x3 : Int32} {x4 : Int32} {x5 : Int32} (hs1 : isSt s1)
    (hF : (x3 ≤ x5 → (Q (some (.int x4)) H)) ∧ (¬ x3 ≤ x5 → (∃ j_2 : Nat, (j_2 < 20 ∧ x5 = nI j_2) ∧ (∀ x6_3 : Int32, x6_3 = H 19 j_2 → (∃ j_4 : Nat, (j_4 < 20 ∧ x6_3 = nI j_4) ∧ (Cm E mX2_reach [rf E 22, rf E s1, .int (H 13 j_4)] H (fun w H_5 => ∃ r_6 : Int32, w = some (.int r_6) ∧ ((r_6 = 0 → (∀ x5_8 : Int32, x5_8 = x5 + (1 : Int32) → (Rm E mX2_tell Q 6 [some (rf E 22), some (rf E s1), none, some (.int x3), some (.int x4), some (.int x5_8), none] [] H_5))) ∧ (¬ r_6 = 0 → (∀ x4_9 : Int32, x4_9 = x4 ||| ((1 : Int32) <<< (x6_3 &&& 31)) → (∀ x5_10 : Int32, x5_10 = x5 + (1 : Int32) → (Rm E mX2_tell Q 6 [some (rf E 22), some (rf E s1), none, some (.int x3), some (.int x4_9), some (.int x5_10), none] [] H_5)))))))))))) :
    Rm E mX2_tell Q 6 [some (rf E 22), some (rf E s1), none, some (.int x3), some (.int x4), some (.int x5), none] [] H := by
  refine rn_iload dX2_tell_6 rfl ?_
  refine rn_iload_n dX2_tell_8 rfl ?_
  refine rn_icmp_ge (tgt := 57) dX2_tell_9 (by decide) (fun hc_1 => ?_) (fun hc_1 => ?_)
  · replace hF := hF.1 hc_1
    refine rn_iload dX2_tell_57 rfl ?_
    exact rm_iret rfl dX2_tell_59 hF
  · replace hF := hF.2 hc_1
    refine rn_aload_n dX2_tell_12 rfl ?_
    refine rm_getr (r := 11) flRX2_32 rfl (by decide) rfl dX2_tell_13 ?_
    refine rm_getr (r := 19) flRX2_95 rfl (by decide) rfl dX2_tell_16 ?_
    refine rn_iload dX2_tell_19 rfl ?_
    obtain ⟨j_2, hj_2, hF⟩ := hF
    refine rj_iald hj_2 rfl (by decide) rfl (by decide) dX2_tell_21 ?_
    refine rn_istore dX2_tell_22 rfl (by decide) (fun x6_3 ex6_3 => ?_)
    replace hF := hF x6_3 ex6_3
    refine rn_aload_n dX2_tell_24 rfl ?_
    refine rn_aload_n dX2_tell_25 rfl ?_
    refine rn_aload_n dX2_tell_26 rfl ?_
    refine rm_getr (r := 11) flRX2_32 rfl (by decide) rfl dX2_tell_27 ?_
    refine rm_getr (r := 13) flRX2_98 rfl (by decide) rfl dX2_tell_30 ?_
    refine rn_iload dX2_tell_33 rfl ?_
    obtain ⟨j_4, hj_4, hF⟩ := hF
    refine rj_iald hj_4 rfl (by decide) rfl (by decide) dX2_tell_35 ?_
    refine rm_callV (c0 := 22) (As := [rf E s1, .int (H 13 j_4)]) (st := []) mlRX2_91 mdX2_reach (Nat.le_of_ble_eq_true rfl) rfl (by decide) (by decide) rfl rfl rfl (Nat.le_of_ble_eq_true rfl) ⟨Nat.le_refl _, Nat.le_refl _⟩ dX2_tell_36 ?_
    refine cm_mono hF (fun w H_5 hF => ?_)
    obtain ⟨r_6, rfl, hF⟩ := hF
    refine rn_if_eq (tgt := 51) dX2_tell_39 (by decide) (fun hc_7 => ?_) (fun hc_7 => ?_)
    · replace hF := hF.1 hc_7
      refine rn_iinc (w := (1 : Int32)) dX2_tell_51 rfl (by decide) rfl (by decide) (fun x5_8 ex5_8 => ?_)
      replace hF := hF x5_8 ex5_8
      refine rn_goto (tgt := 6) dX2_tell_54 (by decide) ?_
      exact rn_wk (L' := [some (rf E 22), some (rf E s1), none, some (.int x3), some (.int x4), some (.int x5_8), none]) (⟨rfl, ⟨rfl, ⟨rfl, ⟨rfl, ⟨rfl, trivial⟩⟩⟩⟩⟩) hF
    · replace hF := hF.2 hc_7
      refine rn_iload dX2_tell_42 rfl ?_
      refine rn_iconst (x := (1 : Int32)) dX2_tell_44 (by decide) ?_
      refine rn_iload dX2_tell_45 rfl ?_
      refine rn_ishl dX2_tell_47 ?_
      refine rn_ior dX2_tell_48 ?_
      refine rn_istore dX2_tell_49 rfl (by decide) (fun x4_9 ex4_9 => ?_)
      replace hF := hF x4_9 ex4_9
      refine rn_iinc (w := (1 : Int32)) dX2_tell_51 rfl (by decide) rfl (by decide) (fun x5_10 ex5_10 => ?_)
      replace hF := hF x5_10 ex5_10
      refine rn_goto (tgt := 6) dX2_tell_54 (by decide) ?_
      exact rn_wk (L' := [some (rf E 22), some (rf E s1), none, some (.int x3), some (.int x4_9), some (.int x5_10), none]) (⟨rfl, ⟨rfl, ⟨rfl, ⟨rfl, ⟨rfl, trivial⟩⟩⟩⟩⟩) hF
theorem sgX2_reach_0 {E : En} {Q : Option Value → Hi → Prop} {H : Hi} {s1 : Nat} {x2 : Int32} (hs1 : isSt s1)
    (hF : ∀ x3_1 : Int32, x3_1 = x2 &&& (7 : Int32) → (∀ x4_2 : Int32, x4_2 = (x2 >>> ((3 : Int32) &&& 31)) &&& (7 : Int32) → (((H 5 0) ≤ x3_1 → (Q (some (.int (0 : Int32))) H)) ∧ (¬ (H 5 0) ≤ x3_1 → ((x4_2 < (H 5 1) → (∀ x5_5 : Int32, x5_5 = (4 : Int32) * x3_1 → (∃ j_6 : Nat, (j_6 < 8 ∧ x3_1 = nI j_6) ∧ (∀ x6_7 : Int32, x6_7 = H 6 j_6 → ((x2 < (64 : Int32) → ((¬ ((ushr (H s1 0) x5_5) &&& (15 : Int32)) = x4_2 → (Q (some (.int (0 : Int32))) H)) ∧ (((ushr (H s1 0) x5_5) &&& (15 : Int32)) = x4_2 → ((((H s1 2) + x6_7) ≤ (H 11 0) → (∀ H_11 : Hi, H_11 = up H s1 0 ((H s1 0) + (((8 : Int32) - x4_2) <<< (x5_5 &&& 31))) → (∀ H_12 : Hi, H_12 = up H_11 s1 1 ((H_11 s1 1) + ((1 : Int32) <<< (x3_1 &&& 31))) → (∀ H_13 : Hi, H_13 = up H_12 s1 2 ((H_12 s1 2) + x6_7) → (∀ H_14 : Hi, H_14 = up H_13 s1 3 ((H_13 s1 3) &&& (((1 : Int32) <<< (x3_1 &&& 31)) ^^^ (-1 : Int32))) → (Q (some (.int (1 : Int32))) H_14)))))) ∧ (¬ ((H s1 2) + x6_7) ≤ (H 11 0) → (Q (some (.int (0 : Int32))) H)))))) ∧ (¬ x2 < (64 : Int32) → ((¬ (((H s1 1) >>> (x3_1 &&& 31)) &&& (1 : Int32)) = 0 → (∀ H_16 : Hi, H_16 = up H s1 0 ((H s1 0) + ((x4_2 - (8 : Int32)) <<< (x5_5 &&& 31))) → (∀ H_17 : Hi, H_17 = up H_16 s1 1 ((H_16 s1 1) - ((1 : Int32) <<< (x3_1 &&& 31))) → (∀ H_18 : Hi, H_18 = up H_17 s1 2 ((H_17 s1 2) - x6_7) → (∀ H_19 : Hi, H_19 = up H_18 s1 3 ((H_18 s1 3) ||| ((1 : Int32) <<< (x3_1 &&& 31))) → (Q (some (.int (1 : Int32))) H_19)))))) ∧ ((((H s1 1) >>> (x3_1 &&& 31)) &&& (1 : Int32)) = 0 → (Q (some (.int (0 : Int32))) H))))))))) ∧ (¬ x4_2 < (H 5 1) → (Q (some (.int (0 : Int32))) H))))))) :
    Rm E mX2_reach Q 0 [some (rf E 22), some (rf E s1), some (.int x2), none, none, none, none] [] H := by
  refine rn_iload_n dX2_reach_0 rfl ?_
  refine rn_bipush (x := (7 : Int32)) dX2_reach_1 (by decide) ?_
  refine rn_iand dX2_reach_3 ?_
  refine rn_istore_n dX2_reach_4 rfl (by decide) (fun x3_1 ex3_1 => ?_)
  replace hF := hF x3_1 ex3_1
  refine rn_iload_n dX2_reach_5 rfl ?_
  refine rn_iconst (x := (3 : Int32)) dX2_reach_6 (by decide) ?_
  refine rn_ishr dX2_reach_7 ?_
  refine rn_bipush (x := (7 : Int32)) dX2_reach_8 (by decide) ?_
  refine rn_iand dX2_reach_10 ?_
  refine rn_istore dX2_reach_11 rfl (by decide) (fun x4_2 ex4_2 => ?_)
  replace hF := hF x4_2 ex4_2
  refine rn_iload_n dX2_reach_13 rfl ?_
  refine rn_aload_n dX2_reach_14 rfl ?_
  refine rm_getr (r := 5) flRX2_28 rfl (by decide) rfl dX2_reach_15 ?_
  refine rm_geti flRX2_60 rfl (by decide) rfl dX2_reach_18 ?_
  refine rn_icmp_ge (tgt := 36) dX2_reach_21 (by decide) (fun hc_3 => ?_) (fun hc_3 => ?_)
  · replace hF := hF.1 hc_3
    refine rn_iconst (x := (0 : Int32)) dX2_reach_36 (by decide) ?_
    exact rm_zret rfl rfl dX2_reach_37 hF
  · replace hF := hF.2 hc_3
    refine rn_iload dX2_reach_24 rfl ?_
    refine rn_aload_n dX2_reach_26 rfl ?_
    refine rm_getr (r := 5) flRX2_28 rfl (by decide) rfl dX2_reach_27 ?_
    refine rm_geti flRX2_69 rfl (by decide) rfl dX2_reach_30 ?_
    refine rn_icmp_lt (tgt := 38) dX2_reach_33 (by decide) (fun hc_4 => ?_) (fun hc_4 => ?_)
    · replace hF := hF.1 hc_4
      refine rn_iconst (x := (4 : Int32)) dX2_reach_38 (by decide) ?_
      refine rn_iload_n dX2_reach_39 rfl ?_
      refine rn_imul dX2_reach_40 ?_
      refine rn_istore dX2_reach_41 rfl (by decide) (fun x5_5 ex5_5 => ?_)
      replace hF := hF x5_5 ex5_5
      refine rn_aload_n dX2_reach_43 rfl ?_
      refine rm_getr (r := 5) flRX2_28 rfl (by decide) rfl dX2_reach_44 ?_
      refine rm_getr (r := 6) flRX2_101 rfl (by decide) rfl dX2_reach_47 ?_
      refine rn_iload_n dX2_reach_50 rfl ?_
      obtain ⟨j_6, hj_6, hF⟩ := hF
      refine rj_iald hj_6 rfl (by decide) rfl (by decide) dX2_reach_51 ?_
      refine rn_istore dX2_reach_52 rfl (by decide) (fun x6_7 ex6_7 => ?_)
      replace hF := hF x6_7 ex6_7
      refine rn_iload_n dX2_reach_54 rfl ?_
      refine rn_bipush (x := (64 : Int32)) dX2_reach_55 (by decide) ?_
      refine rn_icmp_lt (tgt := 127) dX2_reach_57 (by decide) (fun hc_8 => ?_) (fun hc_8 => ?_)
      · replace hF := hF.1 hc_8
        refine rn_aload_n dX2_reach_127 rfl ?_
        refine rm_geti flRX2_72 hs1.2.1 hs1.1 (rT_row hs1.2.2 _) dX2_reach_128 ?_
        refine rn_iload dX2_reach_131 rfl ?_
        refine rn_iushr dX2_reach_133 ?_
        refine rn_bipush (x := (15 : Int32)) dX2_reach_134 (by decide) ?_
        refine rn_iand dX2_reach_136 ?_
        refine rn_iload dX2_reach_137 rfl ?_
        refine rn_icmp_ne (tgt := 159) dX2_reach_139 (by decide) (fun hc_9 => ?_) (fun hc_9 => ?_)
        · replace hF := hF.1 hc_9
          refine rn_iconst (x := (0 : Int32)) dX2_reach_159 (by decide) ?_
          exact rm_zret rfl rfl dX2_reach_160 hF
        · replace hF := hF.2 hc_9
          refine rn_aload_n dX2_reach_142 rfl ?_
          refine rm_geti flRX2_107 hs1.2.1 hs1.1 (rT_row hs1.2.2 _) dX2_reach_143 ?_
          refine rn_iload dX2_reach_146 rfl ?_
          refine rn_iadd dX2_reach_148 ?_
          refine rn_aload_n dX2_reach_149 rfl ?_
          refine rm_getr (r := 11) flRX2_32 rfl (by decide) rfl dX2_reach_150 ?_
          refine rm_geti flRX2_110 rfl (by decide) rfl dX2_reach_153 ?_
          refine rn_icmp_le (tgt := 161) dX2_reach_156 (by decide) (fun hc_10 => ?_) (fun hc_10 => ?_)
          · replace hF := hF.1 hc_10
            refine rn_aload_n dX2_reach_161 rfl ?_
            refine rn_dup dX2_reach_162 rfl ?_
            refine rm_geti flRX2_72 hs1.2.1 hs1.1 (rT_row hs1.2.2 _) dX2_reach_163 ?_
            refine rn_bipush (x := (8 : Int32)) dX2_reach_166 (by decide) ?_
            refine rn_iload dX2_reach_168 rfl ?_
            refine rn_isub dX2_reach_170 ?_
            refine rn_iload dX2_reach_171 rfl ?_
            refine rn_ishl dX2_reach_173 ?_
            refine rn_iadd dX2_reach_174 ?_
            refine rm_puti flRX2_72 hs1.2.1 hs1.1 (rT_row hs1.2.2 _) dX2_reach_175 (fun H_11 eH_11 => ?_)
            replace hF := hF H_11 eH_11
            refine rn_aload_n dX2_reach_178 rfl ?_
            refine rn_dup dX2_reach_179 rfl ?_
            refine rm_geti flRX2_104 hs1.2.1 hs1.1 (rT_row hs1.2.2 _) dX2_reach_180 ?_
            refine rn_iconst (x := (1 : Int32)) dX2_reach_183 (by decide) ?_
            refine rn_iload_n dX2_reach_184 rfl ?_
            refine rn_ishl dX2_reach_185 ?_
            refine rn_iadd dX2_reach_186 ?_
            refine rm_puti flRX2_104 hs1.2.1 hs1.1 (rT_row hs1.2.2 _) dX2_reach_187 (fun H_12 eH_12 => ?_)
            replace hF := hF H_12 eH_12
            refine rn_aload_n dX2_reach_190 rfl ?_
            refine rn_dup dX2_reach_191 rfl ?_
            refine rm_geti flRX2_107 hs1.2.1 hs1.1 (rT_row hs1.2.2 _) dX2_reach_192 ?_
            refine rn_iload dX2_reach_195 rfl ?_
            refine rn_iadd dX2_reach_197 ?_
            refine rm_puti flRX2_107 hs1.2.1 hs1.1 (rT_row hs1.2.2 _) dX2_reach_198 (fun H_13 eH_13 => ?_)
            replace hF := hF H_13 eH_13
            refine rn_aload_n dX2_reach_201 rfl ?_
            refine rn_dup dX2_reach_202 rfl ?_
            refine rm_geti flRX2_85 hs1.2.1 hs1.1 (rT_row hs1.2.2 _) dX2_reach_203 ?_
            refine rn_iconst (x := (1 : Int32)) dX2_reach_206 (by decide) ?_
            refine rn_iload_n dX2_reach_207 rfl ?_
            refine rn_ishl dX2_reach_208 ?_
            refine rn_iconst (x := (-1 : Int32)) dX2_reach_209 (by decide) ?_
            refine rn_ixor dX2_reach_210 ?_
            refine rn_iand dX2_reach_211 ?_
            refine rm_puti flRX2_85 hs1.2.1 hs1.1 (rT_row hs1.2.2 _) dX2_reach_212 (fun H_14 eH_14 => ?_)
            replace hF := hF H_14 eH_14
            refine rn_iconst (x := (1 : Int32)) dX2_reach_215 (by decide) ?_
            exact rm_zret rfl rfl dX2_reach_216 hF
          · replace hF := hF.2 hc_10
            refine rn_iconst (x := (0 : Int32)) dX2_reach_159 (by decide) ?_
            exact rm_zret rfl rfl dX2_reach_160 hF
      · replace hF := hF.2 hc_8
        refine rn_aload_n dX2_reach_60 rfl ?_
        refine rm_geti flRX2_104 hs1.2.1 hs1.1 (rT_row hs1.2.2 _) dX2_reach_61 ?_
        refine rn_iload_n dX2_reach_64 rfl ?_
        refine rn_ishr dX2_reach_65 ?_
        refine rn_iconst (x := (1 : Int32)) dX2_reach_66 (by decide) ?_
        refine rn_iand dX2_reach_67 ?_
        refine rn_if_ne (tgt := 73) dX2_reach_68 (by decide) (fun hc_15 => ?_) (fun hc_15 => ?_)
        · replace hF := hF.1 hc_15
          refine rn_aload_n dX2_reach_73 rfl ?_
          refine rn_dup dX2_reach_74 rfl ?_
          refine rm_geti flRX2_72 hs1.2.1 hs1.1 (rT_row hs1.2.2 _) dX2_reach_75 ?_
          refine rn_iload dX2_reach_78 rfl ?_
          refine rn_bipush (x := (8 : Int32)) dX2_reach_80 (by decide) ?_
          refine rn_isub dX2_reach_82 ?_
          refine rn_iload dX2_reach_83 rfl ?_
          refine rn_ishl dX2_reach_85 ?_
          refine rn_iadd dX2_reach_86 ?_
          refine rm_puti flRX2_72 hs1.2.1 hs1.1 (rT_row hs1.2.2 _) dX2_reach_87 (fun H_16 eH_16 => ?_)
          replace hF := hF H_16 eH_16
          refine rn_aload_n dX2_reach_90 rfl ?_
          refine rn_dup dX2_reach_91 rfl ?_
          refine rm_geti flRX2_104 hs1.2.1 hs1.1 (rT_row hs1.2.2 _) dX2_reach_92 ?_
          refine rn_iconst (x := (1 : Int32)) dX2_reach_95 (by decide) ?_
          refine rn_iload_n dX2_reach_96 rfl ?_
          refine rn_ishl dX2_reach_97 ?_
          refine rn_isub dX2_reach_98 ?_
          refine rm_puti flRX2_104 hs1.2.1 hs1.1 (rT_row hs1.2.2 _) dX2_reach_99 (fun H_17 eH_17 => ?_)
          replace hF := hF H_17 eH_17
          refine rn_aload_n dX2_reach_102 rfl ?_
          refine rn_dup dX2_reach_103 rfl ?_
          refine rm_geti flRX2_107 hs1.2.1 hs1.1 (rT_row hs1.2.2 _) dX2_reach_104 ?_
          refine rn_iload dX2_reach_107 rfl ?_
          refine rn_isub dX2_reach_109 ?_
          refine rm_puti flRX2_107 hs1.2.1 hs1.1 (rT_row hs1.2.2 _) dX2_reach_110 (fun H_18 eH_18 => ?_)
          replace hF := hF H_18 eH_18
          refine rn_aload_n dX2_reach_113 rfl ?_
          refine rn_dup dX2_reach_114 rfl ?_
          refine rm_geti flRX2_85 hs1.2.1 hs1.1 (rT_row hs1.2.2 _) dX2_reach_115 ?_
          refine rn_iconst (x := (1 : Int32)) dX2_reach_118 (by decide) ?_
          refine rn_iload_n dX2_reach_119 rfl ?_
          refine rn_ishl dX2_reach_120 ?_
          refine rn_ior dX2_reach_121 ?_
          refine rm_puti flRX2_85 hs1.2.1 hs1.1 (rT_row hs1.2.2 _) dX2_reach_122 (fun H_19 eH_19 => ?_)
          replace hF := hF H_19 eH_19
          refine rn_iconst (x := (1 : Int32)) dX2_reach_125 (by decide) ?_
          exact rm_zret rfl rfl dX2_reach_126 hF
        · replace hF := hF.2 hc_15
          refine rn_iconst (x := (0 : Int32)) dX2_reach_71 (by decide) ?_
          exact rm_zret rfl rfl dX2_reach_72 hF
    · replace hF := hF.2 hc_4
      refine rn_iconst (x := (0 : Int32)) dX2_reach_36 (by decide) ?_
      exact rm_zret rfl rfl dX2_reach_37 hF
theorem cmX2_reach {E : En} {Q : Option Value → Hi → Prop} {H : Hi} {s1 : Nat} {x2 : Int32} (hs1 : isSt s1)
    (hF : ∀ x3_1 : Int32, x3_1 = x2 &&& (7 : Int32) → (∀ x4_2 : Int32, x4_2 = (x2 >>> ((3 : Int32) &&& 31)) &&& (7 : Int32) → (((H 5 0) ≤ x3_1 → (Q (some (.int (0 : Int32))) H)) ∧ (¬ (H 5 0) ≤ x3_1 → ((x4_2 < (H 5 1) → (∀ x5_5 : Int32, x5_5 = (4 : Int32) * x3_1 → (∃ j_6 : Nat, (j_6 < 8 ∧ x3_1 = nI j_6) ∧ (∀ x6_7 : Int32, x6_7 = H 6 j_6 → ((x2 < (64 : Int32) → ((¬ ((ushr (H s1 0) x5_5) &&& (15 : Int32)) = x4_2 → (Q (some (.int (0 : Int32))) H)) ∧ (((ushr (H s1 0) x5_5) &&& (15 : Int32)) = x4_2 → ((((H s1 2) + x6_7) ≤ (H 11 0) → (∀ H_11 : Hi, H_11 = up H s1 0 ((H s1 0) + (((8 : Int32) - x4_2) <<< (x5_5 &&& 31))) → (∀ H_12 : Hi, H_12 = up H_11 s1 1 ((H_11 s1 1) + ((1 : Int32) <<< (x3_1 &&& 31))) → (∀ H_13 : Hi, H_13 = up H_12 s1 2 ((H_12 s1 2) + x6_7) → (∀ H_14 : Hi, H_14 = up H_13 s1 3 ((H_13 s1 3) &&& (((1 : Int32) <<< (x3_1 &&& 31)) ^^^ (-1 : Int32))) → (Q (some (.int (1 : Int32))) H_14)))))) ∧ (¬ ((H s1 2) + x6_7) ≤ (H 11 0) → (Q (some (.int (0 : Int32))) H)))))) ∧ (¬ x2 < (64 : Int32) → ((¬ (((H s1 1) >>> (x3_1 &&& 31)) &&& (1 : Int32)) = 0 → (∀ H_16 : Hi, H_16 = up H s1 0 ((H s1 0) + ((x4_2 - (8 : Int32)) <<< (x5_5 &&& 31))) → (∀ H_17 : Hi, H_17 = up H_16 s1 1 ((H_16 s1 1) - ((1 : Int32) <<< (x3_1 &&& 31))) → (∀ H_18 : Hi, H_18 = up H_17 s1 2 ((H_17 s1 2) - x6_7) → (∀ H_19 : Hi, H_19 = up H_18 s1 3 ((H_18 s1 3) ||| ((1 : Int32) <<< (x3_1 &&& 31))) → (Q (some (.int (1 : Int32))) H_19)))))) ∧ ((((H s1 1) >>> (x3_1 &&& 31)) &&& (1 : Int32)) = 0 → (Q (some (.int (0 : Int32))) H))))))))) ∧ (¬ x4_2 < (H 5 1) → (Q (some (.int (0 : Int32))) H))))))) :
    Cm E mX2_reach [rf E 22, rf E s1, .int x2] H Q :=
  cm_of (by decide +kernel) (Nat.le_of_ble_eq_true rfl) rfl (sgX2_reach_0 hs1 hF)
theorem sgX2_close_0 {E : En} {Q : Option Value → Hi → Prop} {H : Hi} {s1 : Nat} {x2 : Int32} {x3 : Int32} (hs1 : isSt s1)
    (hF : ∃ j_1 : Nat, (j_1 < 24 ∧ x2 = nI j_1) ∧ (∃ j_2 : Nat, (j_2 < 10 ∧ H 21 j_1 = nI j_2) ∧ (Cm E mX2_spill [rf E 22, rf E s1, .int ((H s1 1) &&& (H 10 j_2))] H (fun w H_3 => w = none ∧ (∀ x4_4 : Int32, x4_4 = H_3 s1 1 → (Cm E mX2_spill [rf E 22, rf E s1, .int (((x4_4 &&& (H_3 s1 4)) &&& (H_3 s1 5)) &&& (H_3 5 7))] H_3 (fun w H_5 => w = none ∧ (∀ H_6 : Hi, H_6 = up H_5 s1 5 (H_5 s1 4) → (∀ H_7 : Hi, H_7 = up H_6 s1 4 x4_4 → ((((x3 >>> (x2 &&& 31)) &&& (1 : Int32)) = 0 → (Q none H_7)) ∧ (¬ ((x3 >>> (x2 &&& 31)) &&& (1 : Int32)) = 0 → (Cm E mX2_sendHome [rf E 22, rf E s1] H_7 (fun w H_9 => w = none ∧ (Q none H_9)))))))))))))) :
    Rm E mX2_close Q 0 [some (rf E 22), some (rf E s1), some (.int x2), some (.int x3), none] [] H := by
  refine rn_aload_n dX2_close_0 rfl ?_
  refine rn_aload_n dX2_close_1 rfl ?_
  refine rn_aload_n dX2_close_2 rfl ?_
  refine rm_geti flRX2_104 hs1.2.1 hs1.1 (rT_row hs1.2.2 _) dX2_close_3 ?_
  refine rn_aload_n dX2_close_6 rfl ?_
  refine rm_getr (r := 5) flRX2_28 rfl (by decide) rfl dX2_close_7 ?_
  refine rm_getr (r := 10) flRX2_113 rfl (by decide) rfl dX2_close_10 ?_
  refine rn_aload_n dX2_close_13 rfl ?_
  refine rm_getr (r := 11) flRX2_32 rfl (by decide) rfl dX2_close_14 ?_
  refine rm_getr (r := 21) flRX2_116 rfl (by decide) rfl dX2_close_17 ?_
  refine rn_iload_n dX2_close_20 rfl ?_
  obtain ⟨j_1, hj_1, hF⟩ := hF
  refine rj_iald hj_1 rfl (by decide) rfl (by decide) dX2_close_21 ?_
  obtain ⟨j_2, hj_2, hF⟩ := hF
  refine rj_iald hj_2 rfl (by decide) rfl (by decide) dX2_close_22 ?_
  refine rn_iand dX2_close_23 ?_
  refine rm_callV (c0 := 22) (As := [rf E s1, .int ((H s1 1) &&& (H 10 j_2))]) (st := []) mlRX2_119 mdX2_spill (Nat.le_of_ble_eq_true rfl) rfl (by decide) (by decide) rfl rfl rfl (Nat.le_of_ble_eq_true rfl) ⟨Nat.le_refl _, Nat.le_refl _⟩ dX2_close_24 ?_
  refine cm_mono hF (fun w H_3 hF => ?_)
  obtain ⟨rfl, hF⟩ := hF
  refine rn_aload_n dX2_close_27 rfl ?_
  refine rm_geti flRX2_104 hs1.2.1 hs1.1 (rT_row hs1.2.2 _) dX2_close_28 ?_
  refine rn_istore dX2_close_31 rfl (by decide) (fun x4_4 ex4_4 => ?_)
  replace hF := hF x4_4 ex4_4
  refine rn_aload_n dX2_close_33 rfl ?_
  refine rn_aload_n dX2_close_34 rfl ?_
  refine rn_iload dX2_close_35 rfl ?_
  refine rn_aload_n dX2_close_37 rfl ?_
  refine rm_geti flRX2_123 hs1.2.1 hs1.1 (rT_row hs1.2.2 _) dX2_close_38 ?_
  refine rn_iand dX2_close_41 ?_
  refine rn_aload_n dX2_close_42 rfl ?_
  refine rm_geti flRX2_126 hs1.2.1 hs1.1 (rT_row hs1.2.2 _) dX2_close_43 ?_
  refine rn_iand dX2_close_46 ?_
  refine rn_aload_n dX2_close_47 rfl ?_
  refine rm_getr (r := 5) flRX2_28 rfl (by decide) rfl dX2_close_48 ?_
  refine rm_geti flRX2_129 rfl (by decide) rfl dX2_close_51 ?_
  refine rn_iand dX2_close_54 ?_
  refine rm_callV (c0 := 22) (As := [rf E s1, .int (((x4_4 &&& (H_3 s1 4)) &&& (H_3 s1 5)) &&& (H_3 5 7))]) (st := []) mlRX2_119 mdX2_spill (Nat.le_of_ble_eq_true rfl) rfl (by decide) (by decide) rfl rfl rfl (Nat.le_of_ble_eq_true rfl) ⟨Nat.le_refl _, Nat.le_refl _⟩ dX2_close_55 ?_
  refine cm_mono hF (fun w H_5 hF => ?_)
  obtain ⟨rfl, hF⟩ := hF
  refine rn_aload_n dX2_close_58 rfl ?_
  refine rn_aload_n dX2_close_59 rfl ?_
  refine rm_geti flRX2_123 hs1.2.1 hs1.1 (rT_row hs1.2.2 _) dX2_close_60 ?_
  refine rm_puti flRX2_126 hs1.2.1 hs1.1 (rT_row hs1.2.2 _) dX2_close_63 (fun H_6 eH_6 => ?_)
  replace hF := hF H_6 eH_6
  refine rn_aload_n dX2_close_66 rfl ?_
  refine rn_iload dX2_close_67 rfl ?_
  refine rm_puti flRX2_123 hs1.2.1 hs1.1 (rT_row hs1.2.2 _) dX2_close_69 (fun H_7 eH_7 => ?_)
  replace hF := hF H_7 eH_7
  refine rn_iload_n dX2_close_72 rfl ?_
  refine rn_iload_n dX2_close_73 rfl ?_
  refine rn_ishr dX2_close_74 ?_
  refine rn_iconst (x := (1 : Int32)) dX2_close_75 (by decide) ?_
  refine rn_iand dX2_close_76 ?_
  refine rn_if_eq (tgt := 85) dX2_close_77 (by decide) (fun hc_8 => ?_) (fun hc_8 => ?_)
  · replace hF := hF.1 hc_8
    exact rm_vret rfl dX2_close_85 hF
  · replace hF := hF.2 hc_8
    refine rn_aload_n dX2_close_80 rfl ?_
    refine rn_aload_n dX2_close_81 rfl ?_
    refine rm_callV (c0 := 22) (As := [rf E s1]) (st := []) mlRX2_132 mdX2_sendHome (Nat.le_of_ble_eq_true rfl) rfl (by decide) (by decide) rfl rfl rfl (Nat.le_of_ble_eq_true rfl) ⟨Nat.le_refl _, Nat.le_refl _⟩ dX2_close_82 ?_
    refine cm_mono hF (fun w H_9 hF => ?_)
    obtain ⟨rfl, hF⟩ := hF
    exact rm_vret rfl dX2_close_85 hF
theorem cmX2_close {E : En} {Q : Option Value → Hi → Prop} {H : Hi} {s1 : Nat} {x2 : Int32} {x3 : Int32} (hs1 : isSt s1)
    (hF : ∃ j_1 : Nat, (j_1 < 24 ∧ x2 = nI j_1) ∧ (∃ j_2 : Nat, (j_2 < 10 ∧ H 21 j_1 = nI j_2) ∧ (Cm E mX2_spill [rf E 22, rf E s1, .int ((H s1 1) &&& (H 10 j_2))] H (fun w H_3 => w = none ∧ (∀ x4_4 : Int32, x4_4 = H_3 s1 1 → (Cm E mX2_spill [rf E 22, rf E s1, .int (((x4_4 &&& (H_3 s1 4)) &&& (H_3 s1 5)) &&& (H_3 5 7))] H_3 (fun w H_5 => w = none ∧ (∀ H_6 : Hi, H_6 = up H_5 s1 5 (H_5 s1 4) → (∀ H_7 : Hi, H_7 = up H_6 s1 4 x4_4 → ((((x3 >>> (x2 &&& 31)) &&& (1 : Int32)) = 0 → (Q none H_7)) ∧ (¬ ((x3 >>> (x2 &&& 31)) &&& (1 : Int32)) = 0 → (Cm E mX2_sendHome [rf E 22, rf E s1] H_7 (fun w H_9 => w = none ∧ (Q none H_9)))))))))))))) :
    Cm E mX2_close [rf E 22, rf E s1, .int x2, .int x3] H Q :=
  cm_of (by decide +kernel) (Nat.le_of_ble_eq_true rfl) rfl (sgX2_close_0 hs1 hF)
theorem sgX2_spill_0 {E : En} {Q : Option Value → Hi → Prop} {H : Hi} {s1 : Nat} {x2 : Int32} (hs1 : isSt s1)
    (hF : (¬ x2 = 0 → (Rm E mX2_spill Q 7 [some (rf E 22), some (rf E s1), some (.int x2), some (.int (0 : Int32))] [] H)) ∧ (x2 = 0 → (Q none H))) :
    Rm E mX2_spill Q 0 [some (rf E 22), some (rf E s1), some (.int x2), none] [] H := by
  refine rn_iload_n dX2_spill_0 rfl ?_
  refine rn_if_ne (tgt := 5) dX2_spill_1 (by decide) (fun hc_1 => ?_) (fun hc_1 => ?_)
  · replace hF := hF.1 hc_1
    refine rn_iconst (x := (0 : Int32)) dX2_spill_5 (by decide) ?_
    refine rn_istore_n dX2_spill_6 rfl (by decide) (fun x3_2 ex3_2 => ?_)
    subst ex3_2
    exact rn_wk (L' := [some (rf E 22), some (rf E s1), some (.int x2), some (.int (0 : Int32))]) (⟨rfl, ⟨rfl, ⟨rfl, ⟨rfl, trivial⟩⟩⟩⟩) hF
  · replace hF := hF.2 hc_1
    exact rm_vret rfl dX2_spill_4 hF
theorem cmX2_spill {E : En} {Q : Option Value → Hi → Prop} {H : Hi} {s1 : Nat} {x2 : Int32} (hs1 : isSt s1)
    (hF : (¬ x2 = 0 → (Rm E mX2_spill Q 7 [some (rf E 22), some (rf E s1), some (.int x2), some (.int (0 : Int32))] [] H)) ∧ (x2 = 0 → (Q none H))) :
    Cm E mX2_spill [rf E 22, rf E s1, .int x2] H Q :=
  cm_of (by decide +kernel) (Nat.le_of_ble_eq_true rfl) rfl (sgX2_spill_0 hs1 hF)
theorem sgX2_spill_7 {E : En} {Q : Option Value → Hi → Prop} {H : Hi} {s1 : Nat} {x2 : Int32} {x3 : Int32} (hs1 : isSt s1)
    (hF : ((H 5 0) ≤ x3 → (Q none H)) ∧ (¬ (H 5 0) ≤ x3 → ((((x2 >>> (x3 &&& 31)) &&& (1 : Int32)) = 0 → (∀ x3_3 : Int32, x3_3 = x3 + (1 : Int32) → (Rm E mX2_spill Q 7 [some (rf E 22), some (rf E s1), some (.int x2), some (.int x3_3)] [] H))) ∧ (¬ ((x2 >>> (x3 &&& 31)) &&& (1 : Int32)) = 0 → (∀ H_4 : Hi, H_4 = up H s1 0 ((H s1 0) + ((1 : Int32) <<< (((4 : Int32) * x3) &&& 31))) → (∀ H_5 : Hi, H_5 = up H_4 s1 1 ((H_4 s1 1) - ((1 : Int32) <<< (x3 &&& 31))) → (∃ j_6 : Nat, (j_6 < 8 ∧ x3 = nI j_6) ∧ (∀ H_7 : Hi, H_7 = up H_5 s1 2 ((H_5 s1 2) - (H_5 6 j_6)) → (∀ x3_8 : Int32, x3_8 = x3 + (1 : Int32) → (Rm E mX2_spill Q 7 [some (rf E 22), some (rf E s1), some (.int x2), some (.int x3_8)] [] H_7)))))))))) :
    Rm E mX2_spill Q 7 [some (rf E 22), some (rf E s1), some (.int x2), some (.int x3)] [] H := by
  refine rn_iload_n dX2_spill_7 rfl ?_
  refine rn_aload_n dX2_spill_8 rfl ?_
  refine rm_getr (r := 5) flRX2_28 rfl (by decide) rfl dX2_spill_9 ?_
  refine rm_geti flRX2_60 rfl (by decide) rfl dX2_spill_12 ?_
  refine rn_icmp_ge (tgt := 76) dX2_spill_15 (by decide) (fun hc_1 => ?_) (fun hc_1 => ?_)
  · replace hF := hF.1 hc_1
    exact rm_vret rfl dX2_spill_76 hF
  · replace hF := hF.2 hc_1
    refine rn_iload_n dX2_spill_18 rfl ?_
    refine rn_iload_n dX2_spill_19 rfl ?_
    refine rn_ishr dX2_spill_20 ?_
    refine rn_iconst (x := (1 : Int32)) dX2_spill_21 (by decide) ?_
    refine rn_iand dX2_spill_22 ?_
    refine rn_if_eq (tgt := 70) dX2_spill_23 (by decide) (fun hc_2 => ?_) (fun hc_2 => ?_)
    · replace hF := hF.1 hc_2
      refine rn_iinc (w := (1 : Int32)) dX2_spill_70 rfl (by decide) rfl (by decide) (fun x3_3 ex3_3 => ?_)
      replace hF := hF x3_3 ex3_3
      refine rn_goto (tgt := 7) dX2_spill_73 (by decide) ?_
      exact rn_wk (L' := [some (rf E 22), some (rf E s1), some (.int x2), some (.int x3_3)]) (⟨rfl, ⟨rfl, ⟨rfl, ⟨rfl, trivial⟩⟩⟩⟩) hF
    · replace hF := hF.2 hc_2
      refine rn_aload_n dX2_spill_26 rfl ?_
      refine rn_dup dX2_spill_27 rfl ?_
      refine rm_geti flRX2_72 hs1.2.1 hs1.1 (rT_row hs1.2.2 _) dX2_spill_28 ?_
      refine rn_iconst (x := (1 : Int32)) dX2_spill_31 (by decide) ?_
      refine rn_iconst (x := (4 : Int32)) dX2_spill_32 (by decide) ?_
      refine rn_iload_n dX2_spill_33 rfl ?_
      refine rn_imul dX2_spill_34 ?_
      refine rn_ishl dX2_spill_35 ?_
      refine rn_iadd dX2_spill_36 ?_
      refine rm_puti flRX2_72 hs1.2.1 hs1.1 (rT_row hs1.2.2 _) dX2_spill_37 (fun H_4 eH_4 => ?_)
      replace hF := hF H_4 eH_4
      refine rn_aload_n dX2_spill_40 rfl ?_
      refine rn_dup dX2_spill_41 rfl ?_
      refine rm_geti flRX2_104 hs1.2.1 hs1.1 (rT_row hs1.2.2 _) dX2_spill_42 ?_
      refine rn_iconst (x := (1 : Int32)) dX2_spill_45 (by decide) ?_
      refine rn_iload_n dX2_spill_46 rfl ?_
      refine rn_ishl dX2_spill_47 ?_
      refine rn_isub dX2_spill_48 ?_
      refine rm_puti flRX2_104 hs1.2.1 hs1.1 (rT_row hs1.2.2 _) dX2_spill_49 (fun H_5 eH_5 => ?_)
      replace hF := hF H_5 eH_5
      refine rn_aload_n dX2_spill_52 rfl ?_
      refine rn_dup dX2_spill_53 rfl ?_
      refine rm_geti flRX2_107 hs1.2.1 hs1.1 (rT_row hs1.2.2 _) dX2_spill_54 ?_
      refine rn_aload_n dX2_spill_57 rfl ?_
      refine rm_getr (r := 5) flRX2_28 rfl (by decide) rfl dX2_spill_58 ?_
      refine rm_getr (r := 6) flRX2_101 rfl (by decide) rfl dX2_spill_61 ?_
      refine rn_iload_n dX2_spill_64 rfl ?_
      obtain ⟨j_6, hj_6, hF⟩ := hF
      refine rj_iald hj_6 rfl (by decide) rfl (by decide) dX2_spill_65 ?_
      refine rn_isub dX2_spill_66 ?_
      refine rm_puti flRX2_107 hs1.2.1 hs1.1 (rT_row hs1.2.2 _) dX2_spill_67 (fun H_7 eH_7 => ?_)
      replace hF := hF H_7 eH_7
      refine rn_iinc (w := (1 : Int32)) dX2_spill_70 rfl (by decide) rfl (by decide) (fun x3_8 ex3_8 => ?_)
      replace hF := hF x3_8 ex3_8
      refine rn_goto (tgt := 7) dX2_spill_73 (by decide) ?_
      exact rn_wk (L' := [some (rf E 22), some (rf E s1), some (.int x2), some (.int x3_8)]) (⟨rfl, ⟨rfl, ⟨rfl, ⟨rfl, trivial⟩⟩⟩⟩) hF
theorem sgX2_sendHome_0 {E : En} {Q : Option Value → Hi → Prop} {H : Hi} {s1 : Nat} (hs1 : isSt s1)
    (hF : Rm E mX2_sendHome Q 2 [some (rf E 22), some (rf E s1), some (.int (0 : Int32))] [] H) :
    Rm E mX2_sendHome Q 0 [some (rf E 22), some (rf E s1), none] [] H := by
  refine rn_iconst (x := (0 : Int32)) dX2_sendHome_0 (by decide) ?_
  refine rn_istore_n dX2_sendHome_1 rfl (by decide) (fun x2_1 ex2_1 => ?_)
  subst ex2_1
  exact rn_wk (L' := [some (rf E 22), some (rf E s1), some (.int (0 : Int32))]) (⟨rfl, ⟨rfl, ⟨rfl, trivial⟩⟩⟩) hF
theorem cmX2_sendHome {E : En} {Q : Option Value → Hi → Prop} {H : Hi} {s1 : Nat} (hs1 : isSt s1)
    (hF : Rm E mX2_sendHome Q 2 [some (rf E 22), some (rf E s1), some (.int (0 : Int32))] [] H) :
    Cm E mX2_sendHome [rf E 22, rf E s1] H Q :=
  cm_of (by decide +kernel) (Nat.le_of_ble_eq_true rfl) rfl (sgX2_sendHome_0 hs1 hF)
theorem sgX2_sendHome_2 {E : En} {Q : Option Value → Hi → Prop} {H : Hi} {s1 : Nat} {x2 : Int32} (hs1 : isSt s1)
    (hF : ((H 5 0) ≤ x2 → (∀ H_2 : Hi, H_2 = up H s1 1 (0 : Int32) → (∀ H_3 : Hi, H_3 = up H_2 s1 2 (0 : Int32) → (Q none H_3)))) ∧ (¬ (H 5 0) ≤ x2 → (((((H s1 1) >>> (x2 &&& 31)) &&& (1 : Int32)) = 0 → (∀ x2_5 : Int32, x2_5 = x2 + (1 : Int32) → (Rm E mX2_sendHome Q 2 [some (rf E 22), some (rf E s1), some (.int x2_5)] [] H))) ∧ (¬ (((H s1 1) >>> (x2 &&& 31)) &&& (1 : Int32)) = 0 → (∃ j_6 : Nat, (j_6 < 8 ∧ x2 = nI j_6) ∧ (∀ H_7 : Hi, H_7 = up H s1 0 ((H s1 0) + (((H 7 j_6) - (8 : Int32)) <<< (((4 : Int32) * x2) &&& 31))) → (∀ x2_8 : Int32, x2_8 = x2 + (1 : Int32) → (Rm E mX2_sendHome Q 2 [some (rf E 22), some (rf E s1), some (.int x2_8)] [] H_7)))))))) :
    Rm E mX2_sendHome Q 2 [some (rf E 22), some (rf E s1), some (.int x2)] [] H := by
  refine rn_iload_n dX2_sendHome_2 rfl ?_
  refine rn_aload_n dX2_sendHome_3 rfl ?_
  refine rm_getr (r := 5) flRX2_28 rfl (by decide) rfl dX2_sendHome_4 ?_
  refine rm_geti flRX2_60 rfl (by decide) rfl dX2_sendHome_7 ?_
  refine rn_icmp_ge (tgt := 55) dX2_sendHome_10 (by decide) (fun hc_1 => ?_) (fun hc_1 => ?_)
  · replace hF := hF.1 hc_1
    refine rn_aload_n dX2_sendHome_55 rfl ?_
    refine rn_iconst (x := (0 : Int32)) dX2_sendHome_56 (by decide) ?_
    refine rm_puti flRX2_104 hs1.2.1 hs1.1 (rT_row hs1.2.2 _) dX2_sendHome_57 (fun H_2 eH_2 => ?_)
    replace hF := hF H_2 eH_2
    refine rn_aload_n dX2_sendHome_60 rfl ?_
    refine rn_iconst (x := (0 : Int32)) dX2_sendHome_61 (by decide) ?_
    refine rm_puti flRX2_107 hs1.2.1 hs1.1 (rT_row hs1.2.2 _) dX2_sendHome_62 (fun H_3 eH_3 => ?_)
    replace hF := hF H_3 eH_3
    exact rm_vret rfl dX2_sendHome_65 hF
  · replace hF := hF.2 hc_1
    refine rn_aload_n dX2_sendHome_13 rfl ?_
    refine rm_geti flRX2_104 hs1.2.1 hs1.1 (rT_row hs1.2.2 _) dX2_sendHome_14 ?_
    refine rn_iload_n dX2_sendHome_17 rfl ?_
    refine rn_ishr dX2_sendHome_18 ?_
    refine rn_iconst (x := (1 : Int32)) dX2_sendHome_19 (by decide) ?_
    refine rn_iand dX2_sendHome_20 ?_
    refine rn_if_eq (tgt := 49) dX2_sendHome_21 (by decide) (fun hc_4 => ?_) (fun hc_4 => ?_)
    · replace hF := hF.1 hc_4
      refine rn_iinc (w := (1 : Int32)) dX2_sendHome_49 rfl (by decide) rfl (by decide) (fun x2_5 ex2_5 => ?_)
      replace hF := hF x2_5 ex2_5
      refine rn_goto (tgt := 2) dX2_sendHome_52 (by decide) ?_
      exact rn_wk (L' := [some (rf E 22), some (rf E s1), some (.int x2_5)]) (⟨rfl, ⟨rfl, ⟨rfl, trivial⟩⟩⟩) hF
    · replace hF := hF.2 hc_4
      refine rn_aload_n dX2_sendHome_24 rfl ?_
      refine rn_dup dX2_sendHome_25 rfl ?_
      refine rm_geti flRX2_72 hs1.2.1 hs1.1 (rT_row hs1.2.2 _) dX2_sendHome_26 ?_
      refine rn_aload_n dX2_sendHome_29 rfl ?_
      refine rm_getr (r := 5) flRX2_28 rfl (by decide) rfl dX2_sendHome_30 ?_
      refine rm_getr (r := 7) flRX2_65 rfl (by decide) rfl dX2_sendHome_33 ?_
      refine rn_iload_n dX2_sendHome_36 rfl ?_
      obtain ⟨j_6, hj_6, hF⟩ := hF
      refine rj_iald hj_6 rfl (by decide) rfl (by decide) dX2_sendHome_37 ?_
      refine rn_bipush (x := (8 : Int32)) dX2_sendHome_38 (by decide) ?_
      refine rn_isub dX2_sendHome_40 ?_
      refine rn_iconst (x := (4 : Int32)) dX2_sendHome_41 (by decide) ?_
      refine rn_iload_n dX2_sendHome_42 rfl ?_
      refine rn_imul dX2_sendHome_43 ?_
      refine rn_ishl dX2_sendHome_44 ?_
      refine rn_iadd dX2_sendHome_45 ?_
      refine rm_puti flRX2_72 hs1.2.1 hs1.1 (rT_row hs1.2.2 _) dX2_sendHome_46 (fun H_7 eH_7 => ?_)
      replace hF := hF H_7 eH_7
      refine rn_iinc (w := (1 : Int32)) dX2_sendHome_49 rfl (by decide) rfl (by decide) (fun x2_8 ex2_8 => ?_)
      replace hF := hF x2_8 ex2_8
      refine rn_goto (tgt := 2) dX2_sendHome_52 (by decide) ?_
      exact rn_wk (L' := [some (rf E 22), some (rf E s1), some (.int x2_8)]) (⟨rfl, ⟨rfl, ⟨rfl, trivial⟩⟩⟩) hF
theorem sgX2_goOn_0 {E : En} {Q : Option Value → Hi → Prop} {H : Hi} {s1 : Nat} {x2 : Int32} {x3 : Int32} (hs1 : isSt s1)
    (hF : Cm E mX2_close [rf E 22, rf E s1, .int x2, .int (H 11 1)] H (fun w H_1 => w = none ∧ (∀ x4_2 : Int32, x4_2 = x2 + (1 : Int32) → (Rm E mX2_goOn Q 18 [some (rf E 22), some (rf E s1), none, some (.int x3), some (.int x4_2)] [] H_1)))) :
    Rm E mX2_goOn Q 0 [some (rf E 22), some (rf E s1), some (.int x2), some (.int x3), none] [] H := by
  refine rn_aload_n dX2_goOn_0 rfl ?_
  refine rn_aload_n dX2_goOn_1 rfl ?_
  refine rn_iload_n dX2_goOn_2 rfl ?_
  refine rn_aload_n dX2_goOn_3 rfl ?_
  refine rm_getr (r := 11) flRX2_32 rfl (by decide) rfl dX2_goOn_4 ?_
  refine rm_geti flRX2_51 rfl (by decide) rfl dX2_goOn_7 ?_
  refine rm_callV (c0 := 22) (As := [rf E s1, .int x2, .int (H 11 1)]) (st := []) mlRX2_56 mdX2_close (Nat.le_of_ble_eq_true rfl) rfl (by decide) (by decide) rfl rfl rfl (Nat.le_of_ble_eq_true rfl) ⟨Nat.le_refl _, Nat.le_refl _⟩ dX2_goOn_10 ?_
  refine cm_mono hF (fun w H_1 hF => ?_)
  obtain ⟨rfl, hF⟩ := hF
  refine rn_iload_n dX2_goOn_13 rfl ?_
  refine rn_iconst (x := (1 : Int32)) dX2_goOn_14 (by decide) ?_
  refine rn_iadd dX2_goOn_15 ?_
  refine rn_istore dX2_goOn_16 rfl (by decide) (fun x4_2 ex4_2 => ?_)
  replace hF := hF x4_2 ex4_2
  exact rn_wk (L' := [some (rf E 22), some (rf E s1), none, some (.int x3), some (.int x4_2)]) (⟨rfl, ⟨rfl, ⟨rfl, ⟨rfl, trivial⟩⟩⟩⟩) hF
theorem cmX2_goOn {E : En} {Q : Option Value → Hi → Prop} {H : Hi} {s1 : Nat} {x2 : Int32} {x3 : Int32} (hs1 : isSt s1)
    (hF : Cm E mX2_close [rf E 22, rf E s1, .int x2, .int (H 11 1)] H (fun w H_1 => w = none ∧ (∀ x4_2 : Int32, x4_2 = x2 + (1 : Int32) → (Rm E mX2_goOn Q 18 [some (rf E 22), some (rf E s1), none, some (.int x3), some (.int x4_2)] [] H_1)))) :
    Cm E mX2_goOn [rf E 22, rf E s1, .int x2, .int x3] H Q :=
  cm_of (by decide +kernel) (Nat.le_of_ble_eq_true rfl) rfl (sgX2_goOn_0 hs1 hF)
theorem sgX2_goOn_18 {E : En} {Q : Option Value → Hi → Prop} {H : Hi} {s1 : Nat} {x3 : Int32} {x4 : Int32} (hs1 : isSt s1)
    (hF : (x3 < x4 → (Q none H)) ∧ (¬ x3 < x4 → (Cm E mX2_open [rf E 22, rf E s1, .int x4] H (fun w H_2 => ∃ r_3 : Int32, w = some (.int r_3) ∧ (Cm E mX2_close [rf E 22, rf E s1, .int x4, .int (H_2 11 1)] H_2 (fun w H_4 => w = none ∧ (∀ x4_5 : Int32, x4_5 = x4 + (1 : Int32) → (Rm E mX2_goOn Q 18 [some (rf E 22), some (rf E s1), none, some (.int x3), some (.int x4_5)] [] H_4)))))))) :
    Rm E mX2_goOn Q 18 [some (rf E 22), some (rf E s1), none, some (.int x3), some (.int x4)] [] H := by
  refine rn_iload dX2_goOn_18 rfl ?_
  refine rn_iload_n dX2_goOn_20 rfl ?_
  refine rn_icmp_gt (tgt := 52) dX2_goOn_21 (by decide) (fun hc_1 => ?_) (fun hc_1 => ?_)
  · replace hF := hF.1 hc_1
    exact rm_vret rfl dX2_goOn_52 hF
  · replace hF := hF.2 hc_1
    refine rn_aload_n dX2_goOn_24 rfl ?_
    refine rn_aload_n dX2_goOn_25 rfl ?_
    refine rn_iload dX2_goOn_26 rfl ?_
    refine rm_callV (c0 := 22) (As := [rf E s1, .int x4]) (st := []) mlRX2_47 mdX2_open (Nat.le_of_ble_eq_true rfl) rfl (by decide) (by decide) rfl rfl rfl (Nat.le_of_ble_eq_true rfl) ⟨Nat.le_refl _, Nat.le_refl _⟩ dX2_goOn_28 ?_
    refine cm_mono hF (fun w H_2 hF => ?_)
    obtain ⟨r_3, rfl, hF⟩ := hF
    refine rn_pop dX2_goOn_31 rfl ?_
    refine rn_aload_n dX2_goOn_32 rfl ?_
    refine rn_aload_n dX2_goOn_33 rfl ?_
    refine rn_iload dX2_goOn_34 rfl ?_
    refine rn_aload_n dX2_goOn_36 rfl ?_
    refine rm_getr (r := 11) flRX2_32 rfl (by decide) rfl dX2_goOn_37 ?_
    refine rm_geti flRX2_51 rfl (by decide) rfl dX2_goOn_40 ?_
    refine rm_callV (c0 := 22) (As := [rf E s1, .int x4, .int (H_2 11 1)]) (st := []) mlRX2_56 mdX2_close (Nat.le_of_ble_eq_true rfl) rfl (by decide) (by decide) rfl rfl rfl (Nat.le_of_ble_eq_true rfl) ⟨Nat.le_refl _, Nat.le_refl _⟩ dX2_goOn_43 ?_
    refine cm_mono hF (fun w H_4 hF => ?_)
    obtain ⟨rfl, hF⟩ := hF
    refine rn_iinc (w := (1 : Int32)) dX2_goOn_46 rfl (by decide) rfl (by decide) (fun x4_5 ex4_5 => ?_)
    replace hF := hF x4_5 ex4_5
    refine rn_goto (tgt := 18) dX2_goOn_49 (by decide) ?_
    exact rn_wk (L' := [some (rf E 22), some (rf E s1), none, some (.int x3), some (.int x4_5)]) (⟨rfl, ⟨rfl, ⟨rfl, ⟨rfl, trivial⟩⟩⟩⟩) hF
theorem sgX2_heldBy_0 {E : En} {Q : Option Value → Hi → Prop} {H : Hi} {x1 : Int32} {x2 : Int32} 
    (hF : Rm E mX2_heldBy Q 5 [some (rf E 22), some (.int x1), some (.int x2), some (.int (0 : Int32)), some (.int (0 : Int32))] [] H) :
    Rm E mX2_heldBy Q 0 [some (rf E 22), some (.int x1), some (.int x2), none, none] [] H := by
  refine rn_iconst (x := (0 : Int32)) dX2_heldBy_0 (by decide) ?_
  refine rn_istore_n dX2_heldBy_1 rfl (by decide) (fun x3_1 ex3_1 => ?_)
  subst ex3_1
  refine rn_iconst (x := (0 : Int32)) dX2_heldBy_2 (by decide) ?_
  refine rn_istore dX2_heldBy_3 rfl (by decide) (fun x4_2 ex4_2 => ?_)
  subst ex4_2
  exact rn_wk (L' := [some (rf E 22), some (.int x1), some (.int x2), some (.int (0 : Int32)), some (.int (0 : Int32))]) (⟨rfl, ⟨rfl, ⟨rfl, ⟨rfl, ⟨rfl, trivial⟩⟩⟩⟩⟩) hF
theorem cmX2_heldBy {E : En} {Q : Option Value → Hi → Prop} {H : Hi} {x1 : Int32} {x2 : Int32} 
    (hF : Rm E mX2_heldBy Q 5 [some (rf E 22), some (.int x1), some (.int x2), some (.int (0 : Int32)), some (.int (0 : Int32))] [] H) :
    Cm E mX2_heldBy [rf E 22, .int x1, .int x2] H Q :=
  cm_of (by decide +kernel) (Nat.le_of_ble_eq_true rfl) rfl (sgX2_heldBy_0  hF)
theorem sgX2_heldBy_5 {E : En} {Q : Option Value → Hi → Prop} {H : Hi} {x1 : Int32} {x2 : Int32} {x3 : Int32} {x4 : Int32} 
    (hF : ((H 5 0) ≤ x4 → (Q (some (.int x3)) H)) ∧ (¬ (H 5 0) ≤ x4 → (∃ j_2 : Nat, (j_2 < 24 ∧ x1 = nI j_2) ∧ (Cm E mX6_placeOf [rf E (28 + 2 * j_2), .int x4] H (fun w H_3 => ∃ r_4 : Int32, w = some (.int r_4) ∧ ((¬ r_4 = x2 → (∀ x4_6 : Int32, x4_6 = x4 + (1 : Int32) → (Rm E mX2_heldBy Q 5 [some (rf E 22), some (.int x1), some (.int x2), some (.int x3), some (.int x4_6)] [] H_3))) ∧ (r_4 = x2 → (∀ x3_7 : Int32, x3_7 = x3 ||| ((1 : Int32) <<< (x4 &&& 31)) → (∀ x4_8 : Int32, x4_8 = x4 + (1 : Int32) → (Rm E mX2_heldBy Q 5 [some (rf E 22), some (.int x1), some (.int x2), some (.int x3_7), some (.int x4_8)] [] H_3)))))))))) :
    Rm E mX2_heldBy Q 5 [some (rf E 22), some (.int x1), some (.int x2), some (.int x3), some (.int x4)] [] H := by
  refine rn_iload dX2_heldBy_5 rfl ?_
  refine rn_aload_n dX2_heldBy_7 rfl ?_
  refine rm_getr (r := 5) flRX2_28 rfl (by decide) rfl dX2_heldBy_8 ?_
  refine rm_geti flRX2_60 rfl (by decide) rfl dX2_heldBy_11 ?_
  refine rn_icmp_ge (tgt := 45) dX2_heldBy_14 (by decide) (fun hc_1 => ?_) (fun hc_1 => ?_)
  · replace hF := hF.1 hc_1
    refine rn_iload_n dX2_heldBy_45 rfl ?_
    exact rm_iret rfl dX2_heldBy_46 hF
  · replace hF := hF.2 hc_1
    refine rn_aload_n dX2_heldBy_17 rfl ?_
    refine rm_getr (r := 25) flRX2_22 rfl (by decide) rfl dX2_heldBy_18 ?_
    refine rn_iload_n dX2_heldBy_21 rfl ?_
    obtain ⟨j_2, hj_2, hF⟩ := hF
    refine rj_aald (Cn := RX6) (r := (28 + 2 * j_2)) hj_2 (st_beh _ hj_2.1).2 rfl (by decide) (by decide) rfl (by decide) dX2_heldBy_22 ?_
    refine rn_iload dX2_heldBy_23 rfl ?_
    refine rm_callV (c0 := (28 + 2 * j_2)) (As := [.int x4]) (st := []) mlRX2_135 mdX6_placeOf (Nat.le_of_ble_eq_true rfl) (st_beh _ hj_2.1).1.2.1 (st_beh _ hj_2.1).1.1 (by decide) rfl rfl rfl (Nat.le_of_ble_eq_true rfl) ⟨Nat.le_refl _, Nat.le_refl _⟩ dX2_heldBy_25 ?_
    refine cm_mono hF (fun w H_3 hF => ?_)
    obtain ⟨r_4, rfl, hF⟩ := hF
    refine rn_iload_n dX2_heldBy_28 rfl ?_
    refine rn_icmp_ne (tgt := 39) dX2_heldBy_29 (by decide) (fun hc_5 => ?_) (fun hc_5 => ?_)
    · replace hF := hF.1 hc_5
      refine rn_iinc (w := (1 : Int32)) dX2_heldBy_39 rfl (by decide) rfl (by decide) (fun x4_6 ex4_6 => ?_)
      replace hF := hF x4_6 ex4_6
      refine rn_goto (tgt := 5) dX2_heldBy_42 (by decide) ?_
      exact rn_wk (L' := [some (rf E 22), some (.int x1), some (.int x2), some (.int x3), some (.int x4_6)]) (⟨rfl, ⟨rfl, ⟨rfl, ⟨rfl, ⟨rfl, trivial⟩⟩⟩⟩⟩) hF
    · replace hF := hF.2 hc_5
      refine rn_iload_n dX2_heldBy_32 rfl ?_
      refine rn_iconst (x := (1 : Int32)) dX2_heldBy_33 (by decide) ?_
      refine rn_iload dX2_heldBy_34 rfl ?_
      refine rn_ishl dX2_heldBy_36 ?_
      refine rn_ior dX2_heldBy_37 ?_
      refine rn_istore_n dX2_heldBy_38 rfl (by decide) (fun x3_7 ex3_7 => ?_)
      replace hF := hF x3_7 ex3_7
      refine rn_iinc (w := (1 : Int32)) dX2_heldBy_39 rfl (by decide) rfl (by decide) (fun x4_8 ex4_8 => ?_)
      replace hF := hF x4_8 ex4_8
      refine rn_goto (tgt := 5) dX2_heldBy_42 (by decide) ?_
      exact rn_wk (L' := [some (rf E 22), some (.int x1), some (.int x2), some (.int x3_7), some (.int x4_8)]) (⟨rfl, ⟨rfl, ⟨rfl, ⟨rfl, ⟨rfl, trivial⟩⟩⟩⟩⟩) hF
theorem sgX2_content_0 {E : En} {Q : Option Value → Hi → Prop} {H : Hi} {x1 : Int32} 
    (hF : Rm E mX2_content Q 4 [some (rf E 22), some (.int x1), some (.int (0 : Int32)), some (.int (0 : Int32)), none] [] H) :
    Rm E mX2_content Q 0 [some (rf E 22), some (.int x1), none, none, none] [] H := by
  refine rn_iconst (x := (0 : Int32)) dX2_content_0 (by decide) ?_
  refine rn_istore_n dX2_content_1 rfl (by decide) (fun x2_1 ex2_1 => ?_)
  subst ex2_1
  refine rn_iconst (x := (0 : Int32)) dX2_content_2 (by decide) ?_
  refine rn_istore_n dX2_content_3 rfl (by decide) (fun x3_2 ex3_2 => ?_)
  subst ex3_2
  exact rn_wk (L' := [some (rf E 22), some (.int x1), some (.int (0 : Int32)), some (.int (0 : Int32)), none]) (⟨rfl, ⟨rfl, ⟨rfl, ⟨rfl, trivial⟩⟩⟩⟩) hF
theorem cmX2_content {E : En} {Q : Option Value → Hi → Prop} {H : Hi} {x1 : Int32} 
    (hF : Rm E mX2_content Q 4 [some (rf E 22), some (.int x1), some (.int (0 : Int32)), some (.int (0 : Int32)), none] [] H) :
    Cm E mX2_content [rf E 22, .int x1] H Q :=
  cm_of (by decide +kernel) (Nat.le_of_ble_eq_true rfl) rfl (sgX2_content_0  hF)
theorem sgX2_content_4 {E : En} {Q : Option Value → Hi → Prop} {H : Hi} {x1 : Int32} {x2 : Int32} {x3 : Int32} 
    (hF : ((H 5 1) ≤ x3 → (Q (some (.int x2)) H)) ∧ (¬ (H 5 1) ≤ x3 → (∃ j_2 : Nat, (j_2 < 8 ∧ x3 = nI j_2) ∧ (∀ x4_3 : Int32, x4_3 = H 9 j_2 → ((x4_3 = (-1 : Int32) → (∀ x3_5 : Int32, x3_5 = x3 + (1 : Int32) → (Rm E mX2_content Q 4 [some (rf E 22), some (.int x1), some (.int x2), some (.int x3_5), none] [] H))) ∧ (¬ x4_3 = (-1 : Int32) → (((H 5 0) ≤ x4_3 → (∀ x3_7 : Int32, x3_7 = x3 + (1 : Int32) → (Rm E mX2_content Q 4 [some (rf E 22), some (.int x1), some (.int x2), some (.int x3_7), none] [] H))) ∧ (¬ (H 5 0) ≤ x4_3 → (∃ j_8 : Nat, (j_8 < 24 ∧ x1 = nI j_8) ∧ (Cm E mX6_placeOf [rf E (28 + 2 * j_8), .int x4_3] H (fun w H_9 => ∃ r_10 : Int32, w = some (.int r_10) ∧ ((¬ r_10 = x3 → (∀ x3_12 : Int32, x3_12 = x3 + (1 : Int32) → (Rm E mX2_content Q 4 [some (rf E 22), some (.int x1), some (.int x2), some (.int x3_12), none] [] H_9))) ∧ (r_10 = x3 → (∀ x2_13 : Int32, x2_13 = x2 ||| ((1 : Int32) <<< (x3 &&& 31)) → (∀ x3_14 : Int32, x3_14 = x3 + (1 : Int32) → (Rm E mX2_content Q 4 [some (rf E 22), some (.int x1), some (.int x2_13), some (.int x3_14), none] [] H_9)))))))))))))))) :
    Rm E mX2_content Q 4 [some (rf E 22), some (.int x1), some (.int x2), some (.int x3), none] [] H := by
  refine rn_iload_n dX2_content_4 rfl ?_
  refine rn_aload_n dX2_content_5 rfl ?_
  refine rm_getr (r := 5) flRX2_28 rfl (by decide) rfl dX2_content_6 ?_
  refine rm_geti flRX2_69 rfl (by decide) rfl dX2_content_9 ?_
  refine rn_icmp_ge (tgt := 71) dX2_content_12 (by decide) (fun hc_1 => ?_) (fun hc_1 => ?_)
  · replace hF := hF.1 hc_1
    refine rn_iload_n dX2_content_71 rfl ?_
    exact rm_iret rfl dX2_content_72 hF
  · replace hF := hF.2 hc_1
    refine rn_aload_n dX2_content_15 rfl ?_
    refine rm_getr (r := 5) flRX2_28 rfl (by decide) rfl dX2_content_16 ?_
    refine rm_getr (r := 9) flRX2_139 rfl (by decide) rfl dX2_content_19 ?_
    refine rn_iload_n dX2_content_22 rfl ?_
    obtain ⟨j_2, hj_2, hF⟩ := hF
    refine rj_iald hj_2 rfl (by decide) rfl (by decide) dX2_content_23 ?_
    refine rn_istore dX2_content_24 rfl (by decide) (fun x4_3 ex4_3 => ?_)
    replace hF := hF x4_3 ex4_3
    refine rn_iload dX2_content_26 rfl ?_
    refine rn_iconst (x := (-1 : Int32)) dX2_content_28 (by decide) ?_
    refine rn_icmp_eq (tgt := 65) dX2_content_29 (by decide) (fun hc_4 => ?_) (fun hc_4 => ?_)
    · replace hF := hF.1 hc_4
      refine rn_iinc (w := (1 : Int32)) dX2_content_65 rfl (by decide) rfl (by decide) (fun x3_5 ex3_5 => ?_)
      replace hF := hF x3_5 ex3_5
      refine rn_goto (tgt := 4) dX2_content_68 (by decide) ?_
      exact rn_wk (L' := [some (rf E 22), some (.int x1), some (.int x2), some (.int x3_5), none]) (⟨rfl, ⟨rfl, ⟨rfl, ⟨rfl, trivial⟩⟩⟩⟩) hF
    · replace hF := hF.2 hc_4
      refine rn_iload dX2_content_32 rfl ?_
      refine rn_aload_n dX2_content_34 rfl ?_
      refine rm_getr (r := 5) flRX2_28 rfl (by decide) rfl dX2_content_35 ?_
      refine rm_geti flRX2_60 rfl (by decide) rfl dX2_content_38 ?_
      refine rn_icmp_ge (tgt := 65) dX2_content_41 (by decide) (fun hc_6 => ?_) (fun hc_6 => ?_)
      · replace hF := hF.1 hc_6
        refine rn_iinc (w := (1 : Int32)) dX2_content_65 rfl (by decide) rfl (by decide) (fun x3_7 ex3_7 => ?_)
        replace hF := hF x3_7 ex3_7
        refine rn_goto (tgt := 4) dX2_content_68 (by decide) ?_
        exact rn_wk (L' := [some (rf E 22), some (.int x1), some (.int x2), some (.int x3_7), none]) (⟨rfl, ⟨rfl, ⟨rfl, ⟨rfl, trivial⟩⟩⟩⟩) hF
      · replace hF := hF.2 hc_6
        refine rn_aload_n dX2_content_44 rfl ?_
        refine rm_getr (r := 25) flRX2_22 rfl (by decide) rfl dX2_content_45 ?_
        refine rn_iload_n dX2_content_48 rfl ?_
        obtain ⟨j_8, hj_8, hF⟩ := hF
        refine rj_aald (Cn := RX6) (r := (28 + 2 * j_8)) hj_8 (st_beh _ hj_8.1).2 rfl (by decide) (by decide) rfl (by decide) dX2_content_49 ?_
        refine rn_iload dX2_content_50 rfl ?_
        refine rm_callV (c0 := (28 + 2 * j_8)) (As := [.int x4_3]) (st := []) mlRX2_135 mdX6_placeOf (Nat.le_of_ble_eq_true rfl) (st_beh _ hj_8.1).1.2.1 (st_beh _ hj_8.1).1.1 (by decide) rfl rfl rfl (Nat.le_of_ble_eq_true rfl) ⟨Nat.le_refl _, Nat.le_refl _⟩ dX2_content_52 ?_
        refine cm_mono hF (fun w H_9 hF => ?_)
        obtain ⟨r_10, rfl, hF⟩ := hF
        refine rn_iload_n dX2_content_55 rfl ?_
        refine rn_icmp_ne (tgt := 65) dX2_content_56 (by decide) (fun hc_11 => ?_) (fun hc_11 => ?_)
        · replace hF := hF.1 hc_11
          refine rn_iinc (w := (1 : Int32)) dX2_content_65 rfl (by decide) rfl (by decide) (fun x3_12 ex3_12 => ?_)
          replace hF := hF x3_12 ex3_12
          refine rn_goto (tgt := 4) dX2_content_68 (by decide) ?_
          exact rn_wk (L' := [some (rf E 22), some (.int x1), some (.int x2), some (.int x3_12), none]) (⟨rfl, ⟨rfl, ⟨rfl, ⟨rfl, trivial⟩⟩⟩⟩) hF
        · replace hF := hF.2 hc_11
          refine rn_iload_n dX2_content_59 rfl ?_
          refine rn_iconst (x := (1 : Int32)) dX2_content_60 (by decide) ?_
          refine rn_iload_n dX2_content_61 rfl ?_
          refine rn_ishl dX2_content_62 ?_
          refine rn_ior dX2_content_63 ?_
          refine rn_istore_n dX2_content_64 rfl (by decide) (fun x2_13 ex2_13 => ?_)
          replace hF := hF x2_13 ex2_13
          refine rn_iinc (w := (1 : Int32)) dX2_content_65 rfl (by decide) rfl (by decide) (fun x3_14 ex3_14 => ?_)
          replace hF := hF x3_14 ex3_14
          refine rn_goto (tgt := 4) dX2_content_68 (by decide) ?_
          exact rn_wk (L' := [some (rf E 22), some (.int x1), some (.int x2_13), some (.int x3_14), none]) (⟨rfl, ⟨rfl, ⟨rfl, ⟨rfl, trivial⟩⟩⟩⟩) hF
theorem sgX2_firstIdle_0 {E : En} {Q : Option Value → Hi → Prop} {H : Hi}  
    (hF : Rm E mX2_firstIdle Q 2 [some (rf E 22), some (.int (0 : Int32)), none] [] H) :
    Rm E mX2_firstIdle Q 0 [some (rf E 22), none, none] [] H := by
  refine rn_iconst (x := (0 : Int32)) dX2_firstIdle_0 (by decide) ?_
  refine rn_istore_n dX2_firstIdle_1 rfl (by decide) (fun x1_1 ex1_1 => ?_)
  subst ex1_1
  exact rn_wk (L' := [some (rf E 22), some (.int (0 : Int32)), none]) (⟨rfl, ⟨rfl, trivial⟩⟩) hF
theorem cmX2_firstIdle {E : En} {Q : Option Value → Hi → Prop} {H : Hi}  
    (hF : Rm E mX2_firstIdle Q 2 [some (rf E 22), some (.int (0 : Int32)), none] [] H) :
    Cm E mX2_firstIdle [rf E 22] H Q :=
  cm_of (by decide +kernel) (Nat.le_of_ble_eq_true rfl) rfl (sgX2_firstIdle_0  hF)
theorem sgX2_firstIdle_2 {E : En} {Q : Option Value → Hi → Prop} {H : Hi} {x1 : Int32} 
    (hF : ((H 11 2) ≤ x1 → (Q (some (.int (-1 : Int32))) H)) ∧ (¬ (H 11 2) ≤ x1 → (∃ j_2 : Nat, (j_2 < 20 ∧ x1 = nI j_2) ∧ (∀ x2_3 : Int32, x2_3 = H 19 j_2 → ((¬ (((H 22 5) >>> (x2_3 &&& 31)) &&& (1 : Int32)) = 0 → (∀ x1_5 : Int32, x1_5 = x1 + (1 : Int32) → (Rm E mX2_firstIdle Q 2 [some (rf E 22), some (.int x1_5), none] [] H))) ∧ ((((H 22 5) >>> (x2_3 &&& 31)) &&& (1 : Int32)) = 0 → (Q (some (.int x2_3)) H))))))) :
    Rm E mX2_firstIdle Q 2 [some (rf E 22), some (.int x1), none] [] H := by
  refine rn_iload_n dX2_firstIdle_2 rfl ?_
  refine rn_aload_n dX2_firstIdle_3 rfl ?_
  refine rm_getr (r := 11) flRX2_32 rfl (by decide) rfl dX2_firstIdle_4 ?_
  refine rm_geti flRX2_142 rfl (by decide) rfl dX2_firstIdle_7 ?_
  refine rn_icmp_ge (tgt := 42) dX2_firstIdle_10 (by decide) (fun hc_1 => ?_) (fun hc_1 => ?_)
  · replace hF := hF.1 hc_1
    refine rn_iconst (x := (-1 : Int32)) dX2_firstIdle_42 (by decide) ?_
    exact rm_iret rfl dX2_firstIdle_43 hF
  · replace hF := hF.2 hc_1
    refine rn_aload_n dX2_firstIdle_13 rfl ?_
    refine rm_getr (r := 11) flRX2_32 rfl (by decide) rfl dX2_firstIdle_14 ?_
    refine rm_getr (r := 19) flRX2_95 rfl (by decide) rfl dX2_firstIdle_17 ?_
    refine rn_iload_n dX2_firstIdle_20 rfl ?_
    obtain ⟨j_2, hj_2, hF⟩ := hF
    refine rj_iald hj_2 rfl (by decide) rfl (by decide) dX2_firstIdle_21 ?_
    refine rn_istore_n dX2_firstIdle_22 rfl (by decide) (fun x2_3 ex2_3 => ?_)
    replace hF := hF x2_3 ex2_3
    refine rn_aload_n dX2_firstIdle_23 rfl ?_
    refine rm_geti flRX2_43 rfl (by decide) rfl dX2_firstIdle_24 ?_
    refine rn_iload_n dX2_firstIdle_27 rfl ?_
    refine rn_ishr dX2_firstIdle_28 ?_
    refine rn_iconst (x := (1 : Int32)) dX2_firstIdle_29 (by decide) ?_
    refine rn_iand dX2_firstIdle_30 ?_
    refine rn_if_ne (tgt := 36) dX2_firstIdle_31 (by decide) (fun hc_4 => ?_) (fun hc_4 => ?_)
    · replace hF := hF.1 hc_4
      refine rn_iinc (w := (1 : Int32)) dX2_firstIdle_36 rfl (by decide) rfl (by decide) (fun x1_5 ex1_5 => ?_)
      replace hF := hF x1_5 ex1_5
      refine rn_goto (tgt := 2) dX2_firstIdle_39 (by decide) ?_
      exact rn_wk (L' := [some (rf E 22), some (.int x1_5), none]) (⟨rfl, ⟨rfl, trivial⟩⟩) hF
    · replace hF := hF.2 hc_4
      refine rn_iload_n dX2_firstIdle_34 rfl ?_
      exact rm_iret rfl dX2_firstIdle_35 hF
theorem sgX2_firstGone_0 {E : En} {Q : Option Value → Hi → Prop} {H : Hi} {x1 : Int32} 
    (hF : Cm E mX6_placeOf [rf E 23, .int x1] H (fun w H_1 => ∃ r_2 : Int32, w = some (.int r_2) ∧ ((¬ r_2 = (9 : Int32) → (Rm E mX2_firstGone Q 17 [some (rf E 22), some (.int x1), some (.int (0 : Int32))] [] H_1)) ∧ (r_2 = (9 : Int32) → (Q (some (.int (-1 : Int32))) H_1))))) :
    Rm E mX2_firstGone Q 0 [some (rf E 22), some (.int x1), none] [] H := by
  refine rn_aload_n dX2_firstGone_0 rfl ?_
  refine rm_getr (r := 23) flRX2_12 rfl (by decide) rfl dX2_firstGone_1 ?_
  refine rn_iload_n dX2_firstGone_4 rfl ?_
  refine rm_callV (c0 := 23) (As := [.int x1]) (st := []) mlRX2_135 mdX6_placeOf (Nat.le_of_ble_eq_true rfl) rfl (by decide) (by decide) rfl rfl rfl (Nat.le_of_ble_eq_true rfl) ⟨Nat.le_refl _, Nat.le_refl _⟩ dX2_firstGone_5 ?_
  refine cm_mono hF (fun w H_1 hF => ?_)
  obtain ⟨r_2, rfl, hF⟩ := hF
  refine rn_bipush (x := (9 : Int32)) dX2_firstGone_8 (by decide) ?_
  refine rn_icmp_ne (tgt := 15) dX2_firstGone_10 (by decide) (fun hc_3 => ?_) (fun hc_3 => ?_)
  · replace hF := hF.1 hc_3
    refine rn_iconst (x := (0 : Int32)) dX2_firstGone_15 (by decide) ?_
    refine rn_istore_n dX2_firstGone_16 rfl (by decide) (fun x2_4 ex2_4 => ?_)
    subst ex2_4
    exact rn_wk (L' := [some (rf E 22), some (.int x1), some (.int (0 : Int32))]) (⟨rfl, ⟨rfl, ⟨rfl, trivial⟩⟩⟩) hF
  · replace hF := hF.2 hc_3
    refine rn_iconst (x := (-1 : Int32)) dX2_firstGone_13 (by decide) ?_
    exact rm_iret rfl dX2_firstGone_14 hF
theorem cmX2_firstGone {E : En} {Q : Option Value → Hi → Prop} {H : Hi} {x1 : Int32} 
    (hF : Cm E mX6_placeOf [rf E 23, .int x1] H (fun w H_1 => ∃ r_2 : Int32, w = some (.int r_2) ∧ ((¬ r_2 = (9 : Int32) → (Rm E mX2_firstGone Q 17 [some (rf E 22), some (.int x1), some (.int (0 : Int32))] [] H_1)) ∧ (r_2 = (9 : Int32) → (Q (some (.int (-1 : Int32))) H_1))))) :
    Cm E mX2_firstGone [rf E 22, .int x1] H Q :=
  cm_of (by decide +kernel) (Nat.le_of_ble_eq_true rfl) rfl (sgX2_firstGone_0  hF)
theorem sgX2_firstGone_17 {E : En} {Q : Option Value → Hi → Prop} {H : Hi} {x1 : Int32} {x2 : Int32} 
    (hF : ((24 : Int32) ≤ x2 → (Q (some (.int (-1 : Int32))) H)) ∧ (¬ (24 : Int32) ≤ x2 → (∃ j_2 : Nat, (j_2 < 24 ∧ x2 = nI j_2) ∧ (Cm E mX6_placeOf [rf E (28 + 2 * j_2), .int x1] H (fun w H_3 => ∃ r_4 : Int32, w = some (.int r_4) ∧ ((¬ r_4 = (9 : Int32) → (∀ x2_6 : Int32, x2_6 = x2 + (1 : Int32) → (Rm E mX2_firstGone Q 17 [some (rf E 22), some (.int x1), some (.int x2_6)] [] H_3))) ∧ (r_4 = (9 : Int32) → (Q (some (.int x2)) H_3)))))))) :
    Rm E mX2_firstGone Q 17 [some (rf E 22), some (.int x1), some (.int x2)] [] H := by
  refine rn_iload_n dX2_firstGone_17 rfl ?_
  refine rn_bipush (x := (24 : Int32)) dX2_firstGone_18 (by decide) ?_
  refine rn_icmp_ge (tgt := 46) dX2_firstGone_20 (by decide) (fun hc_1 => ?_) (fun hc_1 => ?_)
  · replace hF := hF.1 hc_1
    refine rn_iconst (x := (-1 : Int32)) dX2_firstGone_46 (by decide) ?_
    exact rm_iret rfl dX2_firstGone_47 hF
  · replace hF := hF.2 hc_1
    refine rn_aload_n dX2_firstGone_23 rfl ?_
    refine rm_getr (r := 25) flRX2_22 rfl (by decide) rfl dX2_firstGone_24 ?_
    refine rn_iload_n dX2_firstGone_27 rfl ?_
    obtain ⟨j_2, hj_2, hF⟩ := hF
    refine rj_aald (Cn := RX6) (r := (28 + 2 * j_2)) hj_2 (st_beh _ hj_2.1).2 rfl (by decide) (by decide) rfl (by decide) dX2_firstGone_28 ?_
    refine rn_iload_n dX2_firstGone_29 rfl ?_
    refine rm_callV (c0 := (28 + 2 * j_2)) (As := [.int x1]) (st := []) mlRX2_135 mdX6_placeOf (Nat.le_of_ble_eq_true rfl) (st_beh _ hj_2.1).1.2.1 (st_beh _ hj_2.1).1.1 (by decide) rfl rfl rfl (Nat.le_of_ble_eq_true rfl) ⟨Nat.le_refl _, Nat.le_refl _⟩ dX2_firstGone_30 ?_
    refine cm_mono hF (fun w H_3 hF => ?_)
    obtain ⟨r_4, rfl, hF⟩ := hF
    refine rn_bipush (x := (9 : Int32)) dX2_firstGone_33 (by decide) ?_
    refine rn_icmp_ne (tgt := 40) dX2_firstGone_35 (by decide) (fun hc_5 => ?_) (fun hc_5 => ?_)
    · replace hF := hF.1 hc_5
      refine rn_iinc (w := (1 : Int32)) dX2_firstGone_40 rfl (by decide) rfl (by decide) (fun x2_6 ex2_6 => ?_)
      replace hF := hF x2_6 ex2_6
      refine rn_goto (tgt := 17) dX2_firstGone_43 (by decide) ?_
      exact rn_wk (L' := [some (rf E 22), some (.int x1), some (.int x2_6)]) (⟨rfl, ⟨rfl, ⟨rfl, trivial⟩⟩⟩) hF
    · replace hF := hF.2 hc_5
      refine rn_iload_n dX2_firstGone_38 rfl ?_
      exact rm_iret rfl dX2_firstGone_39 hF
theorem sgX2_stayChance_0 {E : En} {Q : Option Value → Hi → Prop} {H : Hi} {x1 : Int32} {x2 : Int32} {x3 : Int32} {x4 : Int32} 
    (hF : ∀ x5_1 : Int32, x5_1 = (16 : Int32) - x1 → (Rm E mX2_stayChance Q 13 [some (rf E 22), none, some (.int x2), some (.int x3), some (.int x4), some (.int x5_1), some (.int (16 : Int32)), some (.int (0 : Int32)), none, none, none, none] [] H)) :
    Rm E mX2_stayChance Q 0 [some (rf E 22), some (.int x1), some (.int x2), some (.int x3), some (.int x4), none, none, none, none, none, none, none] [] H := by
  refine rn_bipush (x := (16 : Int32)) dX2_stayChance_0 (by decide) ?_
  refine rn_iload_n dX2_stayChance_2 rfl ?_
  refine rn_isub dX2_stayChance_3 ?_
  refine rn_istore dX2_stayChance_4 rfl (by decide) (fun x5_1 ex5_1 => ?_)
  replace hF := hF x5_1 ex5_1
  refine rn_bipush (x := (16 : Int32)) dX2_stayChance_6 (by decide) ?_
  refine rn_istore dX2_stayChance_8 rfl (by decide) (fun x6_2 ex6_2 => ?_)
  subst ex6_2
  refine rn_iconst (x := (0 : Int32)) dX2_stayChance_10 (by decide) ?_
  refine rn_istore dX2_stayChance_11 rfl (by decide) (fun x7_3 ex7_3 => ?_)
  subst ex7_3
  exact rn_wk (L' := [some (rf E 22), none, some (.int x2), some (.int x3), some (.int x4), some (.int x5_1), some (.int (16 : Int32)), some (.int (0 : Int32)), none, none, none, none]) (⟨rfl, ⟨rfl, ⟨rfl, ⟨rfl, ⟨rfl, ⟨rfl, ⟨rfl, trivial⟩⟩⟩⟩⟩⟩⟩) hF
theorem cmX2_stayChance {E : En} {Q : Option Value → Hi → Prop} {H : Hi} {x1 : Int32} {x2 : Int32} {x3 : Int32} {x4 : Int32} 
    (hF : ∀ x5_1 : Int32, x5_1 = (16 : Int32) - x1 → (Rm E mX2_stayChance Q 13 [some (rf E 22), none, some (.int x2), some (.int x3), some (.int x4), some (.int x5_1), some (.int (16 : Int32)), some (.int (0 : Int32)), none, none, none, none] [] H)) :
    Cm E mX2_stayChance [rf E 22, .int x1, .int x2, .int x3, .int x4] H Q :=
  cm_of (by decide +kernel) (Nat.le_of_ble_eq_true rfl) rfl (sgX2_stayChance_0  hF)
theorem sgX2_stayChance_13 {E : En} {Q : Option Value → Hi → Prop} {H : Hi} {x2 : Int32} {x3 : Int32} {x4 : Int32} {x5 : Int32} {x6 : Int32} {x7 : Int32} 
    (hF : ((4 : Int32) ≤ x7 → ((¬ x4 = 0 → (∃ j_4 : Nat, (j_4 < 8 ∧ x2 = nI j_4) ∧ ((¬ (H 8 j_4) = (2 : Int32) → (Rm E mX2_stayChance Q 84 [some (rf E 22), none, some (.int x2), some (.int x3), none, none, none, some (.int x6), some (.int (0 : Int32)), some (.long (1 : Int64)), none, some (.int (0 : Int32))] [] H)) ∧ ((H 8 j_4) = (2 : Int32) → (Rm E mX2_stayChance Q 84 [some (rf E 22), none, some (.int x2), some (.int x3), none, none, none, some (.int x6), some (.int (1 : Int32)), some (.long (1 : Int64)), none, some (.int (0 : Int32))] [] H))))) ∧ (x4 = 0 → (∃ j_13 : Nat, (j_13 < 8 ∧ x2 = nI j_13) ∧ ((¬ (H 8 j_13) = (2 : Int32) → (Rm E mX2_stayChance Q 84 [some (rf E 22), none, some (.int x2), some (.int x3), none, none, none, some (.int x5), some (.int (0 : Int32)), some (.long (1 : Int64)), none, some (.int (0 : Int32))] [] H)) ∧ ((H 8 j_13) = (2 : Int32) → (Rm E mX2_stayChance Q 84 [some (rf E 22), none, some (.int x2), some (.int x3), none, none, none, some (.int x5), some (.int (1 : Int32)), some (.long (1 : Int64)), none, some (.int (0 : Int32))] [] H))))))) ∧ (¬ (4 : Int32) ≤ x7 → ((¬ (x5 - x5 / (2 : Int32) * (2 : Int32)) = 0 → ((¬ x4 = 0 → (∃ j_24 : Nat, (j_24 < 8 ∧ x2 = nI j_24) ∧ ((¬ (H 8 j_24) = (2 : Int32) → (Rm E mX2_stayChance Q 84 [some (rf E 22), none, some (.int x2), some (.int x3), none, none, none, some (.int x6), some (.int (0 : Int32)), some (.long (1 : Int64)), none, some (.int (0 : Int32))] [] H)) ∧ ((H 8 j_24) = (2 : Int32) → (Rm E mX2_stayChance Q 84 [some (rf E 22), none, some (.int x2), some (.int x3), none, none, none, some (.int x6), some (.int (1 : Int32)), some (.long (1 : Int64)), none, some (.int (0 : Int32))] [] H))))) ∧ (x4 = 0 → (∃ j_33 : Nat, (j_33 < 8 ∧ x2 = nI j_33) ∧ ((¬ (H 8 j_33) = (2 : Int32) → (Rm E mX2_stayChance Q 84 [some (rf E 22), none, some (.int x2), some (.int x3), none, none, none, some (.int x5), some (.int (0 : Int32)), some (.long (1 : Int64)), none, some (.int (0 : Int32))] [] H)) ∧ ((H 8 j_33) = (2 : Int32) → (Rm E mX2_stayChance Q 84 [some (rf E 22), none, some (.int x2), some (.int x3), none, none, none, some (.int x5), some (.int (1 : Int32)), some (.long (1 : Int64)), none, some (.int (0 : Int32))] [] H))))))) ∧ ((x5 - x5 / (2 : Int32) * (2 : Int32)) = 0 → (∀ x5_41 : Int32, x5_41 = x5 / (2 : Int32) → (∀ x6_42 : Int32, x6_42 = x6 / (2 : Int32) → (∀ x7_43 : Int32, x7_43 = x7 + (1 : Int32) → (Rm E mX2_stayChance Q 13 [some (rf E 22), none, some (.int x2), some (.int x3), some (.int x4), some (.int x5_41), some (.int x6_42), some (.int x7_43), none, none, none, none] [] H)))))))) :
    Rm E mX2_stayChance Q 13 [some (rf E 22), none, some (.int x2), some (.int x3), some (.int x4), some (.int x5), some (.int x6), some (.int x7), none, none, none, none] [] H := by
  refine rn_iload dX2_stayChance_13 rfl ?_
  refine rn_iconst (x := (4 : Int32)) dX2_stayChance_15 (by decide) ?_
  refine rn_icmp_ge (tgt := 44) dX2_stayChance_16 (by decide) (fun hc_1 => ?_) (fun hc_1 => ?_)
  · replace hF := hF.1 hc_1
    refine rn_iload dX2_stayChance_44 rfl ?_
    refine rn_if_ne (tgt := 54) dX2_stayChance_46 (by decide) (fun hc_2 => ?_) (fun hc_2 => ?_)
    · replace hF := hF.1 hc_2
      refine rn_iload dX2_stayChance_54 rfl ?_
      refine rn_istore dX2_stayChance_56 rfl (by decide) (fun x7_3 ex7_3 => ?_)
      subst ex7_3
      refine rn_aload_n dX2_stayChance_58 rfl ?_
      refine rm_getr (r := 5) flRX2_28 rfl (by decide) rfl dX2_stayChance_59 ?_
      refine rm_getr (r := 8) flRX2_145 rfl (by decide) rfl dX2_stayChance_62 ?_
      refine rn_iload_n dX2_stayChance_65 rfl ?_
      obtain ⟨j_4, hj_4, hF⟩ := hF
      refine rj_iald hj_4 rfl (by decide) rfl (by decide) dX2_stayChance_66 ?_
      refine rn_iconst (x := (2 : Int32)) dX2_stayChance_67 (by decide) ?_
      refine rn_icmp_ne (tgt := 75) dX2_stayChance_68 (by decide) (fun hc_5 => ?_) (fun hc_5 => ?_)
      · replace hF := hF.1 hc_5
        refine rn_iconst (x := (0 : Int32)) dX2_stayChance_75 (by decide) ?_
        refine rn_istore dX2_stayChance_76 rfl (by decide) (fun x8_6 ex8_6 => ?_)
        subst ex8_6
        refine rn_lconst (x := (1 : Int64)) dX2_stayChance_78 (by decide) ?_
        refine rn_lstore dX2_stayChance_79 rfl (by decide) (fun x9_7 ex9_7 => ?_)
        subst ex9_7
        refine rn_iconst (x := (0 : Int32)) dX2_stayChance_81 (by decide) ?_
        refine rn_istore dX2_stayChance_82 rfl (by decide) (fun x11_8 ex11_8 => ?_)
        subst ex11_8
        exact rn_wk (L' := [some (rf E 22), none, some (.int x2), some (.int x3), none, none, none, some (.int x6), some (.int (0 : Int32)), some (.long (1 : Int64)), none, some (.int (0 : Int32))]) (⟨rfl, ⟨rfl, ⟨rfl, ⟨rfl, ⟨rfl, ⟨rfl, ⟨rfl, trivial⟩⟩⟩⟩⟩⟩⟩) hF
      · replace hF := hF.2 hc_5
        refine rn_iconst (x := (1 : Int32)) dX2_stayChance_71 (by decide) ?_
        refine rn_goto (tgt := 76) dX2_stayChance_72 (by decide) ?_
        refine rn_istore dX2_stayChance_76 rfl (by decide) (fun x8_9 ex8_9 => ?_)
        subst ex8_9
        refine rn_lconst (x := (1 : Int64)) dX2_stayChance_78 (by decide) ?_
        refine rn_lstore dX2_stayChance_79 rfl (by decide) (fun x9_10 ex9_10 => ?_)
        subst ex9_10
        refine rn_iconst (x := (0 : Int32)) dX2_stayChance_81 (by decide) ?_
        refine rn_istore dX2_stayChance_82 rfl (by decide) (fun x11_11 ex11_11 => ?_)
        subst ex11_11
        exact rn_wk (L' := [some (rf E 22), none, some (.int x2), some (.int x3), none, none, none, some (.int x6), some (.int (1 : Int32)), some (.long (1 : Int64)), none, some (.int (0 : Int32))]) (⟨rfl, ⟨rfl, ⟨rfl, ⟨rfl, ⟨rfl, ⟨rfl, ⟨rfl, trivial⟩⟩⟩⟩⟩⟩⟩) hF
    · replace hF := hF.2 hc_2
      refine rn_iload dX2_stayChance_49 rfl ?_
      refine rn_goto (tgt := 56) dX2_stayChance_51 (by decide) ?_
      refine rn_istore dX2_stayChance_56 rfl (by decide) (fun x7_12 ex7_12 => ?_)
      subst ex7_12
      refine rn_aload_n dX2_stayChance_58 rfl ?_
      refine rm_getr (r := 5) flRX2_28 rfl (by decide) rfl dX2_stayChance_59 ?_
      refine rm_getr (r := 8) flRX2_145 rfl (by decide) rfl dX2_stayChance_62 ?_
      refine rn_iload_n dX2_stayChance_65 rfl ?_
      obtain ⟨j_13, hj_13, hF⟩ := hF
      refine rj_iald hj_13 rfl (by decide) rfl (by decide) dX2_stayChance_66 ?_
      refine rn_iconst (x := (2 : Int32)) dX2_stayChance_67 (by decide) ?_
      refine rn_icmp_ne (tgt := 75) dX2_stayChance_68 (by decide) (fun hc_14 => ?_) (fun hc_14 => ?_)
      · replace hF := hF.1 hc_14
        refine rn_iconst (x := (0 : Int32)) dX2_stayChance_75 (by decide) ?_
        refine rn_istore dX2_stayChance_76 rfl (by decide) (fun x8_15 ex8_15 => ?_)
        subst ex8_15
        refine rn_lconst (x := (1 : Int64)) dX2_stayChance_78 (by decide) ?_
        refine rn_lstore dX2_stayChance_79 rfl (by decide) (fun x9_16 ex9_16 => ?_)
        subst ex9_16
        refine rn_iconst (x := (0 : Int32)) dX2_stayChance_81 (by decide) ?_
        refine rn_istore dX2_stayChance_82 rfl (by decide) (fun x11_17 ex11_17 => ?_)
        subst ex11_17
        exact rn_wk (L' := [some (rf E 22), none, some (.int x2), some (.int x3), none, none, none, some (.int x5), some (.int (0 : Int32)), some (.long (1 : Int64)), none, some (.int (0 : Int32))]) (⟨rfl, ⟨rfl, ⟨rfl, ⟨rfl, ⟨rfl, ⟨rfl, ⟨rfl, trivial⟩⟩⟩⟩⟩⟩⟩) hF
      · replace hF := hF.2 hc_14
        refine rn_iconst (x := (1 : Int32)) dX2_stayChance_71 (by decide) ?_
        refine rn_goto (tgt := 76) dX2_stayChance_72 (by decide) ?_
        refine rn_istore dX2_stayChance_76 rfl (by decide) (fun x8_18 ex8_18 => ?_)
        subst ex8_18
        refine rn_lconst (x := (1 : Int64)) dX2_stayChance_78 (by decide) ?_
        refine rn_lstore dX2_stayChance_79 rfl (by decide) (fun x9_19 ex9_19 => ?_)
        subst ex9_19
        refine rn_iconst (x := (0 : Int32)) dX2_stayChance_81 (by decide) ?_
        refine rn_istore dX2_stayChance_82 rfl (by decide) (fun x11_20 ex11_20 => ?_)
        subst ex11_20
        exact rn_wk (L' := [some (rf E 22), none, some (.int x2), some (.int x3), none, none, none, some (.int x5), some (.int (1 : Int32)), some (.long (1 : Int64)), none, some (.int (0 : Int32))]) (⟨rfl, ⟨rfl, ⟨rfl, ⟨rfl, ⟨rfl, ⟨rfl, ⟨rfl, trivial⟩⟩⟩⟩⟩⟩⟩) hF
  · replace hF := hF.2 hc_1
    refine rn_iload dX2_stayChance_19 rfl ?_
    refine rn_iconst (x := (2 : Int32)) dX2_stayChance_21 (by decide) ?_
    refine rn_irem dX2_stayChance_22 (by decide) ?_
    refine rn_if_ne (tgt := 44) dX2_stayChance_23 (by decide) (fun hc_21 => ?_) (fun hc_21 => ?_)
    · replace hF := hF.1 hc_21
      refine rn_iload dX2_stayChance_44 rfl ?_
      refine rn_if_ne (tgt := 54) dX2_stayChance_46 (by decide) (fun hc_22 => ?_) (fun hc_22 => ?_)
      · replace hF := hF.1 hc_22
        refine rn_iload dX2_stayChance_54 rfl ?_
        refine rn_istore dX2_stayChance_56 rfl (by decide) (fun x7_23 ex7_23 => ?_)
        subst ex7_23
        refine rn_aload_n dX2_stayChance_58 rfl ?_
        refine rm_getr (r := 5) flRX2_28 rfl (by decide) rfl dX2_stayChance_59 ?_
        refine rm_getr (r := 8) flRX2_145 rfl (by decide) rfl dX2_stayChance_62 ?_
        refine rn_iload_n dX2_stayChance_65 rfl ?_
        obtain ⟨j_24, hj_24, hF⟩ := hF
        refine rj_iald hj_24 rfl (by decide) rfl (by decide) dX2_stayChance_66 ?_
        refine rn_iconst (x := (2 : Int32)) dX2_stayChance_67 (by decide) ?_
        refine rn_icmp_ne (tgt := 75) dX2_stayChance_68 (by decide) (fun hc_25 => ?_) (fun hc_25 => ?_)
        · replace hF := hF.1 hc_25
          refine rn_iconst (x := (0 : Int32)) dX2_stayChance_75 (by decide) ?_
          refine rn_istore dX2_stayChance_76 rfl (by decide) (fun x8_26 ex8_26 => ?_)
          subst ex8_26
          refine rn_lconst (x := (1 : Int64)) dX2_stayChance_78 (by decide) ?_
          refine rn_lstore dX2_stayChance_79 rfl (by decide) (fun x9_27 ex9_27 => ?_)
          subst ex9_27
          refine rn_iconst (x := (0 : Int32)) dX2_stayChance_81 (by decide) ?_
          refine rn_istore dX2_stayChance_82 rfl (by decide) (fun x11_28 ex11_28 => ?_)
          subst ex11_28
          exact rn_wk (L' := [some (rf E 22), none, some (.int x2), some (.int x3), none, none, none, some (.int x6), some (.int (0 : Int32)), some (.long (1 : Int64)), none, some (.int (0 : Int32))]) (⟨rfl, ⟨rfl, ⟨rfl, ⟨rfl, ⟨rfl, ⟨rfl, ⟨rfl, trivial⟩⟩⟩⟩⟩⟩⟩) hF
        · replace hF := hF.2 hc_25
          refine rn_iconst (x := (1 : Int32)) dX2_stayChance_71 (by decide) ?_
          refine rn_goto (tgt := 76) dX2_stayChance_72 (by decide) ?_
          refine rn_istore dX2_stayChance_76 rfl (by decide) (fun x8_29 ex8_29 => ?_)
          subst ex8_29
          refine rn_lconst (x := (1 : Int64)) dX2_stayChance_78 (by decide) ?_
          refine rn_lstore dX2_stayChance_79 rfl (by decide) (fun x9_30 ex9_30 => ?_)
          subst ex9_30
          refine rn_iconst (x := (0 : Int32)) dX2_stayChance_81 (by decide) ?_
          refine rn_istore dX2_stayChance_82 rfl (by decide) (fun x11_31 ex11_31 => ?_)
          subst ex11_31
          exact rn_wk (L' := [some (rf E 22), none, some (.int x2), some (.int x3), none, none, none, some (.int x6), some (.int (1 : Int32)), some (.long (1 : Int64)), none, some (.int (0 : Int32))]) (⟨rfl, ⟨rfl, ⟨rfl, ⟨rfl, ⟨rfl, ⟨rfl, ⟨rfl, trivial⟩⟩⟩⟩⟩⟩⟩) hF
      · replace hF := hF.2 hc_22
        refine rn_iload dX2_stayChance_49 rfl ?_
        refine rn_goto (tgt := 56) dX2_stayChance_51 (by decide) ?_
        refine rn_istore dX2_stayChance_56 rfl (by decide) (fun x7_32 ex7_32 => ?_)
        subst ex7_32
        refine rn_aload_n dX2_stayChance_58 rfl ?_
        refine rm_getr (r := 5) flRX2_28 rfl (by decide) rfl dX2_stayChance_59 ?_
        refine rm_getr (r := 8) flRX2_145 rfl (by decide) rfl dX2_stayChance_62 ?_
        refine rn_iload_n dX2_stayChance_65 rfl ?_
        obtain ⟨j_33, hj_33, hF⟩ := hF
        refine rj_iald hj_33 rfl (by decide) rfl (by decide) dX2_stayChance_66 ?_
        refine rn_iconst (x := (2 : Int32)) dX2_stayChance_67 (by decide) ?_
        refine rn_icmp_ne (tgt := 75) dX2_stayChance_68 (by decide) (fun hc_34 => ?_) (fun hc_34 => ?_)
        · replace hF := hF.1 hc_34
          refine rn_iconst (x := (0 : Int32)) dX2_stayChance_75 (by decide) ?_
          refine rn_istore dX2_stayChance_76 rfl (by decide) (fun x8_35 ex8_35 => ?_)
          subst ex8_35
          refine rn_lconst (x := (1 : Int64)) dX2_stayChance_78 (by decide) ?_
          refine rn_lstore dX2_stayChance_79 rfl (by decide) (fun x9_36 ex9_36 => ?_)
          subst ex9_36
          refine rn_iconst (x := (0 : Int32)) dX2_stayChance_81 (by decide) ?_
          refine rn_istore dX2_stayChance_82 rfl (by decide) (fun x11_37 ex11_37 => ?_)
          subst ex11_37
          exact rn_wk (L' := [some (rf E 22), none, some (.int x2), some (.int x3), none, none, none, some (.int x5), some (.int (0 : Int32)), some (.long (1 : Int64)), none, some (.int (0 : Int32))]) (⟨rfl, ⟨rfl, ⟨rfl, ⟨rfl, ⟨rfl, ⟨rfl, ⟨rfl, trivial⟩⟩⟩⟩⟩⟩⟩) hF
        · replace hF := hF.2 hc_34
          refine rn_iconst (x := (1 : Int32)) dX2_stayChance_71 (by decide) ?_
          refine rn_goto (tgt := 76) dX2_stayChance_72 (by decide) ?_
          refine rn_istore dX2_stayChance_76 rfl (by decide) (fun x8_38 ex8_38 => ?_)
          subst ex8_38
          refine rn_lconst (x := (1 : Int64)) dX2_stayChance_78 (by decide) ?_
          refine rn_lstore dX2_stayChance_79 rfl (by decide) (fun x9_39 ex9_39 => ?_)
          subst ex9_39
          refine rn_iconst (x := (0 : Int32)) dX2_stayChance_81 (by decide) ?_
          refine rn_istore dX2_stayChance_82 rfl (by decide) (fun x11_40 ex11_40 => ?_)
          subst ex11_40
          exact rn_wk (L' := [some (rf E 22), none, some (.int x2), some (.int x3), none, none, none, some (.int x5), some (.int (1 : Int32)), some (.long (1 : Int64)), none, some (.int (0 : Int32))]) (⟨rfl, ⟨rfl, ⟨rfl, ⟨rfl, ⟨rfl, ⟨rfl, ⟨rfl, trivial⟩⟩⟩⟩⟩⟩⟩) hF
    · replace hF := hF.2 hc_21
      refine rn_iload dX2_stayChance_26 rfl ?_
      refine rn_iconst (x := (2 : Int32)) dX2_stayChance_28 (by decide) ?_
      refine rn_idiv dX2_stayChance_29 (by decide) ?_
      refine rn_istore dX2_stayChance_30 rfl (by decide) (fun x5_41 ex5_41 => ?_)
      replace hF := hF x5_41 ex5_41
      refine rn_iload dX2_stayChance_32 rfl ?_
      refine rn_iconst (x := (2 : Int32)) dX2_stayChance_34 (by decide) ?_
      refine rn_idiv dX2_stayChance_35 (by decide) ?_
      refine rn_istore dX2_stayChance_36 rfl (by decide) (fun x6_42 ex6_42 => ?_)
      replace hF := hF x6_42 ex6_42
      refine rn_iinc (w := (1 : Int32)) dX2_stayChance_38 rfl (by decide) rfl (by decide) (fun x7_43 ex7_43 => ?_)
      replace hF := hF x7_43 ex7_43
      refine rn_goto (tgt := 13) dX2_stayChance_41 (by decide) ?_
      exact rn_wk (L' := [some (rf E 22), none, some (.int x2), some (.int x3), some (.int x4), some (.int x5_41), some (.int x6_42), some (.int x7_43), none, none, none, none]) (⟨rfl, ⟨rfl, ⟨rfl, ⟨rfl, ⟨rfl, ⟨rfl, ⟨rfl, trivial⟩⟩⟩⟩⟩⟩⟩) hF
theorem sgX2_stayChance_84 {E : En} {Q : Option Value → Hi → Prop} {H : Hi} {x2 : Int32} {x3 : Int32} {x7 : Int32} {x8 : Int32} {y9 : Int64} {x11 : Int32} 
    (hF : (x3 < x11 → (Q (some (.long y9)) H)) ∧ (¬ x3 < x11 → ((x8 = 0 → (∀ x11_3 : Int32, x11_3 = x11 + (1 : Int32) → (Rm E mX2_stayChance Q 84 [some (rf E 22), none, some (.int x2), some (.int x3), none, none, none, some (.int x7), some (.int x8), some (.long y9), none, some (.int x11_3)] [] H))) ∧ (¬ x8 = 0 → (∃ j_4 : Nat, (j_4 < 24 ∧ x11 = nI j_4) ∧ (((((H (28 + 2 * j_4) 1) >>> (x2 &&& 31)) &&& (1 : Int32)) = 0 → (∀ x11_6 : Int32, x11_6 = x11 + (1 : Int32) → (Rm E mX2_stayChance Q 84 [some (rf E 22), none, some (.int x2), some (.int x3), none, none, none, some (.int x7), some (.int x8), some (.long y9), none, some (.int x11_6)] [] H))) ∧ (¬ (((H (28 + 2 * j_4) 1) >>> (x2 &&& 31)) &&& (1 : Int32)) = 0 → (∀ x9_7 : Int64, x9_7 = y9 * (x7.toInt64) → (∀ x11_8 : Int32, x11_8 = x11 + (1 : Int32) → (Rm E mX2_stayChance Q 84 [some (rf E 22), none, some (.int x2), some (.int x3), none, none, none, some (.int x7), some (.int x8), some (.long x9_7), none, some (.int x11_8)] [] H)))))))))) :
    Rm E mX2_stayChance Q 84 [some (rf E 22), none, some (.int x2), some (.int x3), none, none, none, some (.int x7), some (.int x8), some (.long y9), none, some (.int x11)] [] H := by
  refine rn_iload dX2_stayChance_84 rfl ?_
  refine rn_iload_n dX2_stayChance_86 rfl ?_
  refine rn_icmp_gt (tgt := 126) dX2_stayChance_87 (by decide) (fun hc_1 => ?_) (fun hc_1 => ?_)
  · replace hF := hF.1 hc_1
    refine rn_lload dX2_stayChance_126 rfl ?_
    exact rm_lret rfl dX2_stayChance_128 hF
  · replace hF := hF.2 hc_1
    refine rn_iload dX2_stayChance_90 rfl ?_
    refine rn_if_eq (tgt := 120) dX2_stayChance_92 (by decide) (fun hc_2 => ?_) (fun hc_2 => ?_)
    · replace hF := hF.1 hc_2
      refine rn_iinc (w := (1 : Int32)) dX2_stayChance_120 rfl (by decide) rfl (by decide) (fun x11_3 ex11_3 => ?_)
      replace hF := hF x11_3 ex11_3
      refine rn_goto (tgt := 84) dX2_stayChance_123 (by decide) ?_
      exact rn_wk (L' := [some (rf E 22), none, some (.int x2), some (.int x3), none, none, none, some (.int x7), some (.int x8), some (.long y9), none, some (.int x11_3)]) (⟨rfl, ⟨rfl, ⟨rfl, ⟨rfl, ⟨rfl, ⟨rfl, ⟨rfl, trivial⟩⟩⟩⟩⟩⟩⟩) hF
    · replace hF := hF.2 hc_2
      refine rn_aload_n dX2_stayChance_95 rfl ?_
      refine rm_getr (r := 25) flRX2_22 rfl (by decide) rfl dX2_stayChance_96 ?_
      refine rn_iload dX2_stayChance_99 rfl ?_
      obtain ⟨j_4, hj_4, hF⟩ := hF
      refine rj_aald (Cn := RX6) (r := (28 + 2 * j_4)) hj_4 (st_beh _ hj_4.1).2 rfl (by decide) (by decide) rfl (by decide) dX2_stayChance_101 ?_
      refine rm_geti flRX2_104 (st_beh _ hj_4.1).1.2.1 (st_beh _ hj_4.1).1.1 (rT_row (st_beh _ hj_4.1).1.2.2 _) dX2_stayChance_102 ?_
      refine rn_iload_n dX2_stayChance_105 rfl ?_
      refine rn_ishr dX2_stayChance_106 ?_
      refine rn_iconst (x := (1 : Int32)) dX2_stayChance_107 (by decide) ?_
      refine rn_iand dX2_stayChance_108 ?_
      refine rn_if_eq (tgt := 120) dX2_stayChance_109 (by decide) (fun hc_5 => ?_) (fun hc_5 => ?_)
      · replace hF := hF.1 hc_5
        refine rn_iinc (w := (1 : Int32)) dX2_stayChance_120 rfl (by decide) rfl (by decide) (fun x11_6 ex11_6 => ?_)
        replace hF := hF x11_6 ex11_6
        refine rn_goto (tgt := 84) dX2_stayChance_123 (by decide) ?_
        exact rn_wk (L' := [some (rf E 22), none, some (.int x2), some (.int x3), none, none, none, some (.int x7), some (.int x8), some (.long y9), none, some (.int x11_6)]) (⟨rfl, ⟨rfl, ⟨rfl, ⟨rfl, ⟨rfl, ⟨rfl, ⟨rfl, trivial⟩⟩⟩⟩⟩⟩⟩) hF
      · replace hF := hF.2 hc_5
        refine rn_lload dX2_stayChance_112 rfl ?_
        refine rn_iload dX2_stayChance_114 rfl ?_
        refine rn_i2l dX2_stayChance_116 ?_
        refine rn_lmul dX2_stayChance_117 ?_
        refine rn_lstore dX2_stayChance_118 rfl (by decide) (fun x9_7 ex9_7 => ?_)
        replace hF := hF x9_7 ex9_7
        refine rn_iinc (w := (1 : Int32)) dX2_stayChance_120 rfl (by decide) rfl (by decide) (fun x11_8 ex11_8 => ?_)
        replace hF := hF x11_8 ex11_8
        refine rn_goto (tgt := 84) dX2_stayChance_123 (by decide) ?_
        exact rn_wk (L' := [some (rf E 22), none, some (.int x2), some (.int x3), none, none, none, some (.int x7), some (.int x8), some (.long x9_7), none, some (.int x11_8)]) (⟨rfl, ⟨rfl, ⟨rfl, ⟨rfl, ⟨rfl, ⟨rfl, ⟨rfl, trivial⟩⟩⟩⟩⟩⟩⟩) hF
theorem sgX2_dayBySeed_0 {E : En} {Q : Option Value → Hi → Prop} {H : Hi} {x1 : Int32} {x2 : Int32} {x3 : Int32} 
    (hF : ((H 5 0) ≤ 0 → (Cm E mX6_become [rf E 26, rf E 23] H (fun w H_5 => w = none ∧ (Rm E mX2_dayBySeed Q 47 [some (rf E 22), none, some (.int x2), some (.int x3), some (.int (0 : Int32)), some (.int x1), some (.int (0 : Int32)), some (.int (0 : Int32)), none, none] [] H_5)))) ∧ (¬ (H 5 0) ≤ 0 → (((H 5 1) ≤ 0 → (Cm E mX6_become [rf E 26, rf E 23] H (fun w H_11 => w = none ∧ (Rm E mX2_dayBySeed Q 47 [some (rf E 22), none, some (.int x2), some (.int x3), some (.int (0 : Int32)), some (.int x1), some (.int (0 : Int32)), some (.int (0 : Int32)), none, none] [] H_11)))) ∧ (¬ (H 5 1) ≤ 0 → (Cm E mX6_become [rf E 26, rf E 23] H (fun w H_16 => w = none ∧ (Rm E mX2_dayBySeed Q 47 [some (rf E 22), none, some (.int x2), some (.int x3), some (.int (1 : Int32)), some (.int x1), some (.int (0 : Int32)), some (.int (0 : Int32)), none, none] [] H_16))))))) :
    Rm E mX2_dayBySeed Q 0 [some (rf E 22), some (.int x1), some (.int x2), some (.int x3), none, none, none, none, none, none] [] H := by
  refine rn_aload_n dX2_dayBySeed_0 rfl ?_
  refine rm_getr (r := 5) flRX2_28 rfl (by decide) rfl dX2_dayBySeed_1 ?_
  refine rm_geti flRX2_60 rfl (by decide) rfl dX2_dayBySeed_4 ?_
  refine rn_if_le (tgt := 24) dX2_dayBySeed_7 (by decide) (fun hc_1 => ?_) (fun hc_1 => ?_)
  · replace hF := hF.1 hc_1
    refine rn_iconst (x := (0 : Int32)) dX2_dayBySeed_24 (by decide) ?_
    refine rn_istore dX2_dayBySeed_25 rfl (by decide) (fun x4_2 ex4_2 => ?_)
    subst ex4_2
    refine rn_iload_n dX2_dayBySeed_27 rfl ?_
    refine rn_istore dX2_dayBySeed_28 rfl (by decide) (fun x5_3 ex5_3 => ?_)
    subst ex5_3
    refine rn_iconst (x := (0 : Int32)) dX2_dayBySeed_30 (by decide) ?_
    refine rn_istore dX2_dayBySeed_31 rfl (by decide) (fun x6_4 ex6_4 => ?_)
    subst ex6_4
    refine rn_aload_n dX2_dayBySeed_33 rfl ?_
    refine rm_getr (r := 26) flRX2_25 rfl (by decide) rfl dX2_dayBySeed_34 ?_
    refine rn_aload_n dX2_dayBySeed_37 rfl ?_
    refine rm_getr (r := 23) flRX2_12 rfl (by decide) rfl dX2_dayBySeed_38 ?_
    refine rm_callV (c0 := 26) (As := [rf E 23]) (st := []) mlRX2_39 mdX6_become (Nat.le_of_ble_eq_true rfl) rfl (by decide) (by decide) rfl rfl rfl (Nat.le_of_ble_eq_true rfl) ⟨Nat.le_refl _, Nat.le_refl _⟩ dX2_dayBySeed_41 ?_
    refine cm_mono hF (fun w H_5 hF => ?_)
    obtain ⟨rfl, hF⟩ := hF
    refine rn_iconst (x := (0 : Int32)) dX2_dayBySeed_44 (by decide) ?_
    refine rn_istore dX2_dayBySeed_45 rfl (by decide) (fun x7_6 ex7_6 => ?_)
    subst ex7_6
    exact rn_wk (L' := [some (rf E 22), none, some (.int x2), some (.int x3), some (.int (0 : Int32)), some (.int x1), some (.int (0 : Int32)), some (.int (0 : Int32)), none, none]) (⟨rfl, ⟨rfl, ⟨rfl, ⟨rfl, ⟨rfl, ⟨rfl, ⟨rfl, trivial⟩⟩⟩⟩⟩⟩⟩) hF
  · replace hF := hF.2 hc_1
    refine rn_aload_n dX2_dayBySeed_10 rfl ?_
    refine rm_getr (r := 5) flRX2_28 rfl (by decide) rfl dX2_dayBySeed_11 ?_
    refine rm_geti flRX2_69 rfl (by decide) rfl dX2_dayBySeed_14 ?_
    refine rn_if_le (tgt := 24) dX2_dayBySeed_17 (by decide) (fun hc_7 => ?_) (fun hc_7 => ?_)
    · replace hF := hF.1 hc_7
      refine rn_iconst (x := (0 : Int32)) dX2_dayBySeed_24 (by decide) ?_
      refine rn_istore dX2_dayBySeed_25 rfl (by decide) (fun x4_8 ex4_8 => ?_)
      subst ex4_8
      refine rn_iload_n dX2_dayBySeed_27 rfl ?_
      refine rn_istore dX2_dayBySeed_28 rfl (by decide) (fun x5_9 ex5_9 => ?_)
      subst ex5_9
      refine rn_iconst (x := (0 : Int32)) dX2_dayBySeed_30 (by decide) ?_
      refine rn_istore dX2_dayBySeed_31 rfl (by decide) (fun x6_10 ex6_10 => ?_)
      subst ex6_10
      refine rn_aload_n dX2_dayBySeed_33 rfl ?_
      refine rm_getr (r := 26) flRX2_25 rfl (by decide) rfl dX2_dayBySeed_34 ?_
      refine rn_aload_n dX2_dayBySeed_37 rfl ?_
      refine rm_getr (r := 23) flRX2_12 rfl (by decide) rfl dX2_dayBySeed_38 ?_
      refine rm_callV (c0 := 26) (As := [rf E 23]) (st := []) mlRX2_39 mdX6_become (Nat.le_of_ble_eq_true rfl) rfl (by decide) (by decide) rfl rfl rfl (Nat.le_of_ble_eq_true rfl) ⟨Nat.le_refl _, Nat.le_refl _⟩ dX2_dayBySeed_41 ?_
      refine cm_mono hF (fun w H_11 hF => ?_)
      obtain ⟨rfl, hF⟩ := hF
      refine rn_iconst (x := (0 : Int32)) dX2_dayBySeed_44 (by decide) ?_
      refine rn_istore dX2_dayBySeed_45 rfl (by decide) (fun x7_12 ex7_12 => ?_)
      subst ex7_12
      exact rn_wk (L' := [some (rf E 22), none, some (.int x2), some (.int x3), some (.int (0 : Int32)), some (.int x1), some (.int (0 : Int32)), some (.int (0 : Int32)), none, none]) (⟨rfl, ⟨rfl, ⟨rfl, ⟨rfl, ⟨rfl, ⟨rfl, ⟨rfl, trivial⟩⟩⟩⟩⟩⟩⟩) hF
    · replace hF := hF.2 hc_7
      refine rn_iconst (x := (1 : Int32)) dX2_dayBySeed_20 (by decide) ?_
      refine rn_goto (tgt := 25) dX2_dayBySeed_21 (by decide) ?_
      refine rn_istore dX2_dayBySeed_25 rfl (by decide) (fun x4_13 ex4_13 => ?_)
      subst ex4_13
      refine rn_iload_n dX2_dayBySeed_27 rfl ?_
      refine rn_istore dX2_dayBySeed_28 rfl (by decide) (fun x5_14 ex5_14 => ?_)
      subst ex5_14
      refine rn_iconst (x := (0 : Int32)) dX2_dayBySeed_30 (by decide) ?_
      refine rn_istore dX2_dayBySeed_31 rfl (by decide) (fun x6_15 ex6_15 => ?_)
      subst ex6_15
      refine rn_aload_n dX2_dayBySeed_33 rfl ?_
      refine rm_getr (r := 26) flRX2_25 rfl (by decide) rfl dX2_dayBySeed_34 ?_
      refine rn_aload_n dX2_dayBySeed_37 rfl ?_
      refine rm_getr (r := 23) flRX2_12 rfl (by decide) rfl dX2_dayBySeed_38 ?_
      refine rm_callV (c0 := 26) (As := [rf E 23]) (st := []) mlRX2_39 mdX6_become (Nat.le_of_ble_eq_true rfl) rfl (by decide) (by decide) rfl rfl rfl (Nat.le_of_ble_eq_true rfl) ⟨Nat.le_refl _, Nat.le_refl _⟩ dX2_dayBySeed_41 ?_
      refine cm_mono hF (fun w H_16 hF => ?_)
      obtain ⟨rfl, hF⟩ := hF
      refine rn_iconst (x := (0 : Int32)) dX2_dayBySeed_44 (by decide) ?_
      refine rn_istore dX2_dayBySeed_45 rfl (by decide) (fun x7_17 ex7_17 => ?_)
      subst ex7_17
      exact rn_wk (L' := [some (rf E 22), none, some (.int x2), some (.int x3), some (.int (1 : Int32)), some (.int x1), some (.int (0 : Int32)), some (.int (0 : Int32)), none, none]) (⟨rfl, ⟨rfl, ⟨rfl, ⟨rfl, ⟨rfl, ⟨rfl, ⟨rfl, trivial⟩⟩⟩⟩⟩⟩⟩) hF
theorem cmX2_dayBySeed {E : En} {Q : Option Value → Hi → Prop} {H : Hi} {x1 : Int32} {x2 : Int32} {x3 : Int32} 
    (hF : ((H 5 0) ≤ 0 → (Cm E mX6_become [rf E 26, rf E 23] H (fun w H_5 => w = none ∧ (Rm E mX2_dayBySeed Q 47 [some (rf E 22), none, some (.int x2), some (.int x3), some (.int (0 : Int32)), some (.int x1), some (.int (0 : Int32)), some (.int (0 : Int32)), none, none] [] H_5)))) ∧ (¬ (H 5 0) ≤ 0 → (((H 5 1) ≤ 0 → (Cm E mX6_become [rf E 26, rf E 23] H (fun w H_11 => w = none ∧ (Rm E mX2_dayBySeed Q 47 [some (rf E 22), none, some (.int x2), some (.int x3), some (.int (0 : Int32)), some (.int x1), some (.int (0 : Int32)), some (.int (0 : Int32)), none, none] [] H_11)))) ∧ (¬ (H 5 1) ≤ 0 → (Cm E mX6_become [rf E 26, rf E 23] H (fun w H_16 => w = none ∧ (Rm E mX2_dayBySeed Q 47 [some (rf E 22), none, some (.int x2), some (.int x3), some (.int (1 : Int32)), some (.int x1), some (.int (0 : Int32)), some (.int (0 : Int32)), none, none] [] H_16))))))) :
    Cm E mX2_dayBySeed [rf E 22, .int x1, .int x2, .int x3] H Q :=
  cm_of (by decide +kernel) (Nat.le_of_ble_eq_true rfl) rfl (sgX2_dayBySeed_0  hF)
theorem sgX2_dayBySeed_47 {E : En} {Q : Option Value → Hi → Prop} {H : Hi} {x2 : Int32} {x3 : Int32} {x4 : Int32} {x5 : Int32} {x6 : Int32} {x7 : Int32} 
    (hF : (x2 < x7 → ((¬ x3 = (-1 : Int32) → (Cm E mX6_placeOf [rf E 26, .int x3] H (fun w H_3 => ∃ r_4 : Int32, w = some (.int r_4) ∧ (Q (some (.int r_4)) H_3)))) ∧ (x3 = (-1 : Int32) → (Q (some (.int x6)) H)))) ∧ (¬ x2 < x7 → (Cm E mX2_open [rf E 22, rf E 26, .int x7] H (fun w H_5 => ∃ r_6 : Int32, w = some (.int r_6) ∧ ((x4 = 0 → (Cm E mX2_close [rf E 22, rf E 26, .int x7, .int (H_5 11 1)] H_5 (fun w H_8 => w = none ∧ (∀ x7_9 : Int32, x7_9 = x7 + (1 : Int32) → (Rm E mX2_dayBySeed Q 47 [some (rf E 22), none, some (.int x2), some (.int x3), some (.int x4), some (.int x5), some (.int x6), some (.int x7_9), none, none] [] H_8))))) ∧ (¬ x4 = 0 → (Cm E mX2_nextLot [.int x5] H_5 (fun w H_10 => ∃ r_11 : Int32, w = some (.int r_11) ∧ (Cm E mX2_drawn [.int r_11, .int (H_10 5 1)] H_10 (fun w H_13 => ∃ r_14 : Int32, w = some (.int r_14) ∧ (Cm E mX2_nextLot [.int r_11] H_13 (fun w H_16 => ∃ r_17 : Int32, w = some (.int r_17) ∧ (Cm E mX2_drawn [.int r_17, .int (H_16 5 0)] H_16 (fun w H_19 => ∃ r_20 : Int32, w = some (.int r_20) ∧ (Cm E mX2_nextLot [.int r_17] H_19 (fun w H_22 => ∃ r_23 : Int32, w = some (.int r_23) ∧ (Cm E mX2_drawn [.int r_23, .int (2 : Int32)] H_22 (fun w H_25 => ∃ r_26 : Int32, w = some (.int r_26) ∧ (Cm E mX2_reach [rf E 22, rf E 26, .int ((((64 : Int32) * r_26) + ((8 : Int32) * r_14)) + r_20)] H_25 (fun w H_27 => ∃ r_28 : Int32, w = some (.int r_28) ∧ ((r_28 = 0 → (∀ x6_30 : Int32, x6_30 = x6 + (0 : Int32) → (Cm E mX2_close [rf E 22, rf E 26, .int x7, .int (H_27 11 1)] H_27 (fun w H_31 => w = none ∧ (∀ x7_32 : Int32, x7_32 = x7 + (1 : Int32) → (Rm E mX2_dayBySeed Q 47 [some (rf E 22), none, some (.int x2), some (.int x3), some (.int x4), some (.int r_23), some (.int x6_30), some (.int x7_32), none, none] [] H_31)))))) ∧ (¬ r_28 = 0 → (∀ x6_33 : Int32, x6_33 = x6 + (1 : Int32) → (Cm E mX2_close [rf E 22, rf E 26, .int x7, .int (H_27 11 1)] H_27 (fun w H_34 => w = none ∧ (∀ x7_35 : Int32, x7_35 = x7 + (1 : Int32) → (Rm E mX2_dayBySeed Q 47 [some (rf E 22), none, some (.int x2), some (.int x3), some (.int x4), some (.int r_23), some (.int x6_33), some (.int x7_35), none, none] [] H_34))))))))))))))))))))))))))) :
    Rm E mX2_dayBySeed Q 47 [some (rf E 22), none, some (.int x2), some (.int x3), some (.int x4), some (.int x5), some (.int x6), some (.int x7), none, none] [] H := by
  refine rn_iload dX2_dayBySeed_47 rfl ?_
  refine rn_iload_n dX2_dayBySeed_49 rfl ?_
  refine rn_icmp_gt (tgt := 180) dX2_dayBySeed_50 (by decide) (fun hc_1 => ?_) (fun hc_1 => ?_)
  · replace hF := hF.1 hc_1
    refine rn_iload_n dX2_dayBySeed_180 rfl ?_
    refine rn_iconst (x := (-1 : Int32)) dX2_dayBySeed_181 (by decide) ?_
    refine rn_icmp_ne (tgt := 190) dX2_dayBySeed_182 (by decide) (fun hc_2 => ?_) (fun hc_2 => ?_)
    · replace hF := hF.1 hc_2
      refine rn_aload_n dX2_dayBySeed_190 rfl ?_
      refine rm_getr (r := 26) flRX2_25 rfl (by decide) rfl dX2_dayBySeed_191 ?_
      refine rn_iload_n dX2_dayBySeed_194 rfl ?_
      refine rm_callV (c0 := 26) (As := [.int x3]) (st := []) mlRX2_135 mdX6_placeOf (Nat.le_of_ble_eq_true rfl) rfl (by decide) (by decide) rfl rfl rfl (Nat.le_of_ble_eq_true rfl) ⟨Nat.le_refl _, Nat.le_refl _⟩ dX2_dayBySeed_195 ?_
      refine cm_mono hF (fun w H_3 hF => ?_)
      obtain ⟨r_4, rfl, hF⟩ := hF
      exact rm_iret rfl dX2_dayBySeed_198 hF
    · replace hF := hF.2 hc_2
      refine rn_iload dX2_dayBySeed_185 rfl ?_
      refine rn_goto (tgt := 198) dX2_dayBySeed_187 (by decide) ?_
      exact rm_iret rfl dX2_dayBySeed_198 hF
  · replace hF := hF.2 hc_1
    refine rn_aload_n dX2_dayBySeed_53 rfl ?_
    refine rn_aload_n dX2_dayBySeed_54 rfl ?_
    refine rm_getr (r := 26) flRX2_25 rfl (by decide) rfl dX2_dayBySeed_55 ?_
    refine rn_iload dX2_dayBySeed_58 rfl ?_
    refine rm_callV (c0 := 22) (As := [rf E 26, .int x7]) (st := []) mlRX2_47 mdX2_open (Nat.le_of_ble_eq_true rfl) rfl (by decide) (by decide) rfl rfl rfl (Nat.le_of_ble_eq_true rfl) ⟨Nat.le_refl _, Nat.le_refl _⟩ dX2_dayBySeed_60 ?_
    refine cm_mono hF (fun w H_5 hF => ?_)
    obtain ⟨r_6, rfl, hF⟩ := hF
    refine rn_pop dX2_dayBySeed_63 rfl ?_
    refine rn_iload dX2_dayBySeed_64 rfl ?_
    refine rn_if_eq (tgt := 157) dX2_dayBySeed_66 (by decide) (fun hc_7 => ?_) (fun hc_7 => ?_)
    · replace hF := hF.1 hc_7
      refine rn_aload_n dX2_dayBySeed_157 rfl ?_
      refine rn_aload_n dX2_dayBySeed_158 rfl ?_
      refine rm_getr (r := 26) flRX2_25 rfl (by decide) rfl dX2_dayBySeed_159 ?_
      refine rn_iload dX2_dayBySeed_162 rfl ?_
      refine rn_aload_n dX2_dayBySeed_164 rfl ?_
      refine rm_getr (r := 11) flRX2_32 rfl (by decide) rfl dX2_dayBySeed_165 ?_
      refine rm_geti flRX2_51 rfl (by decide) rfl dX2_dayBySeed_168 ?_
      refine rm_callV (c0 := 22) (As := [rf E 26, .int x7, .int (H_5 11 1)]) (st := []) mlRX2_56 mdX2_close (Nat.le_of_ble_eq_true rfl) rfl (by decide) (by decide) rfl rfl rfl (Nat.le_of_ble_eq_true rfl) ⟨Nat.le_refl _, Nat.le_refl _⟩ dX2_dayBySeed_171 ?_
      refine cm_mono hF (fun w H_8 hF => ?_)
      obtain ⟨rfl, hF⟩ := hF
      refine rn_iinc (w := (1 : Int32)) dX2_dayBySeed_174 rfl (by decide) rfl (by decide) (fun x7_9 ex7_9 => ?_)
      replace hF := hF x7_9 ex7_9
      refine rn_goto (tgt := 47) dX2_dayBySeed_177 (by decide) ?_
      exact rn_wk (L' := [some (rf E 22), none, some (.int x2), some (.int x3), some (.int x4), some (.int x5), some (.int x6), some (.int x7_9), none, none]) (⟨rfl, ⟨rfl, ⟨rfl, ⟨rfl, ⟨rfl, ⟨rfl, ⟨rfl, trivial⟩⟩⟩⟩⟩⟩⟩) hF
    · replace hF := hF.2 hc_7
      refine rn_iload dX2_dayBySeed_69 rfl ?_
      refine rm_callS (As := [.int x5]) (st := []) mlRX2_148 mdX2_nextLot (Nat.le_of_ble_eq_true rfl) rfl rfl (Nat.le_of_ble_eq_true rfl) ⟨Nat.le_refl _, Nat.le_refl _⟩ dX2_dayBySeed_71 ?_
      refine cm_mono hF (fun w H_10 hF => ?_)
      obtain ⟨r_11, rfl, hF⟩ := hF
      refine rn_istore dX2_dayBySeed_74 rfl (by decide) (fun x5_12 ex5_12 => ?_)
      subst ex5_12
      refine rn_iload dX2_dayBySeed_76 rfl ?_
      refine rn_aload_n dX2_dayBySeed_78 rfl ?_
      refine rm_getr (r := 5) flRX2_28 rfl (by decide) rfl dX2_dayBySeed_79 ?_
      refine rm_geti flRX2_69 rfl (by decide) rfl dX2_dayBySeed_82 ?_
      refine rm_callS (As := [.int r_11, .int (H_10 5 1)]) (st := []) mlRX2_151 mdX2_drawn (Nat.le_of_ble_eq_true rfl) rfl rfl (Nat.le_of_ble_eq_true rfl) ⟨Nat.le_refl _, Nat.le_refl _⟩ dX2_dayBySeed_85 ?_
      refine cm_mono hF (fun w H_13 hF => ?_)
      obtain ⟨r_14, rfl, hF⟩ := hF
      refine rn_istore dX2_dayBySeed_88 rfl (by decide) (fun x8_15 ex8_15 => ?_)
      subst ex8_15
      refine rn_iload dX2_dayBySeed_90 rfl ?_
      refine rm_callS (As := [.int r_11]) (st := []) mlRX2_148 mdX2_nextLot (Nat.le_of_ble_eq_true rfl) rfl rfl (Nat.le_of_ble_eq_true rfl) ⟨Nat.le_refl _, Nat.le_refl _⟩ dX2_dayBySeed_92 ?_
      refine cm_mono hF (fun w H_16 hF => ?_)
      obtain ⟨r_17, rfl, hF⟩ := hF
      refine rn_istore dX2_dayBySeed_95 rfl (by decide) (fun x5_18 ex5_18 => ?_)
      subst ex5_18
      refine rn_iload dX2_dayBySeed_97 rfl ?_
      refine rn_aload_n dX2_dayBySeed_99 rfl ?_
      refine rm_getr (r := 5) flRX2_28 rfl (by decide) rfl dX2_dayBySeed_100 ?_
      refine rm_geti flRX2_60 rfl (by decide) rfl dX2_dayBySeed_103 ?_
      refine rm_callS (As := [.int r_17, .int (H_16 5 0)]) (st := []) mlRX2_151 mdX2_drawn (Nat.le_of_ble_eq_true rfl) rfl rfl (Nat.le_of_ble_eq_true rfl) ⟨Nat.le_refl _, Nat.le_refl _⟩ dX2_dayBySeed_106 ?_
      refine cm_mono hF (fun w H_19 hF => ?_)
      obtain ⟨r_20, rfl, hF⟩ := hF
      refine rn_istore dX2_dayBySeed_109 rfl (by decide) (fun x9_21 ex9_21 => ?_)
      subst ex9_21
      refine rn_iload dX2_dayBySeed_111 rfl ?_
      refine rm_callS (As := [.int r_17]) (st := []) mlRX2_148 mdX2_nextLot (Nat.le_of_ble_eq_true rfl) rfl rfl (Nat.le_of_ble_eq_true rfl) ⟨Nat.le_refl _, Nat.le_refl _⟩ dX2_dayBySeed_113 ?_
      refine cm_mono hF (fun w H_22 hF => ?_)
      obtain ⟨r_23, rfl, hF⟩ := hF
      refine rn_istore dX2_dayBySeed_116 rfl (by decide) (fun x5_24 ex5_24 => ?_)
      subst ex5_24
      refine rn_iload dX2_dayBySeed_118 rfl ?_
      refine rn_aload_n dX2_dayBySeed_120 rfl ?_
      refine rn_aload_n dX2_dayBySeed_121 rfl ?_
      refine rm_getr (r := 26) flRX2_25 rfl (by decide) rfl dX2_dayBySeed_122 ?_
      refine rn_bipush (x := (64 : Int32)) dX2_dayBySeed_125 (by decide) ?_
      refine rn_iload dX2_dayBySeed_127 rfl ?_
      refine rn_iconst (x := (2 : Int32)) dX2_dayBySeed_129 (by decide) ?_
      refine rm_callS (As := [.int r_23, .int (2 : Int32)]) (st := [.int (64 : Int32), rf E 26, rf E 22, .int x6]) mlRX2_151 mdX2_drawn (Nat.le_of_ble_eq_true rfl) rfl rfl (Nat.le_of_ble_eq_true rfl) ⟨Nat.le_refl _, Nat.le_refl _⟩ dX2_dayBySeed_130 ?_
      refine cm_mono hF (fun w H_25 hF => ?_)
      obtain ⟨r_26, rfl, hF⟩ := hF
      refine rn_imul dX2_dayBySeed_133 ?_
      refine rn_bipush (x := (8 : Int32)) dX2_dayBySeed_134 (by decide) ?_
      refine rn_iload dX2_dayBySeed_136 rfl ?_
      refine rn_imul dX2_dayBySeed_138 ?_
      refine rn_iadd dX2_dayBySeed_139 ?_
      refine rn_iload dX2_dayBySeed_140 rfl ?_
      refine rn_iadd dX2_dayBySeed_142 ?_
      refine rm_callV (c0 := 22) (As := [rf E 26, .int ((((64 : Int32) * r_26) + ((8 : Int32) * r_14)) + r_20)]) (st := [.int x6]) mlRX2_91 mdX2_reach (Nat.le_of_ble_eq_true rfl) rfl (by decide) (by decide) rfl rfl rfl (Nat.le_of_ble_eq_true rfl) ⟨Nat.le_refl _, Nat.le_refl _⟩ dX2_dayBySeed_143 ?_
      refine cm_mono hF (fun w H_27 hF => ?_)
      obtain ⟨r_28, rfl, hF⟩ := hF
      refine rn_if_eq (tgt := 153) dX2_dayBySeed_146 (by decide) (fun hc_29 => ?_) (fun hc_29 => ?_)
      · replace hF := hF.1 hc_29
        refine rn_iconst (x := (0 : Int32)) dX2_dayBySeed_153 (by decide) ?_
        refine rn_iadd dX2_dayBySeed_154 ?_
        refine rn_istore dX2_dayBySeed_155 rfl (by decide) (fun x6_30 ex6_30 => ?_)
        replace hF := hF x6_30 ex6_30
        refine rn_aload_n dX2_dayBySeed_157 rfl ?_
        refine rn_aload_n dX2_dayBySeed_158 rfl ?_
        refine rm_getr (r := 26) flRX2_25 rfl (by decide) rfl dX2_dayBySeed_159 ?_
        refine rn_iload dX2_dayBySeed_162 rfl ?_
        refine rn_aload_n dX2_dayBySeed_164 rfl ?_
        refine rm_getr (r := 11) flRX2_32 rfl (by decide) rfl dX2_dayBySeed_165 ?_
        refine rm_geti flRX2_51 rfl (by decide) rfl dX2_dayBySeed_168 ?_
        refine rm_callV (c0 := 22) (As := [rf E 26, .int x7, .int (H_27 11 1)]) (st := []) mlRX2_56 mdX2_close (Nat.le_of_ble_eq_true rfl) rfl (by decide) (by decide) rfl rfl rfl (Nat.le_of_ble_eq_true rfl) ⟨Nat.le_refl _, Nat.le_refl _⟩ dX2_dayBySeed_171 ?_
        refine cm_mono hF (fun w H_31 hF => ?_)
        obtain ⟨rfl, hF⟩ := hF
        refine rn_iinc (w := (1 : Int32)) dX2_dayBySeed_174 rfl (by decide) rfl (by decide) (fun x7_32 ex7_32 => ?_)
        replace hF := hF x7_32 ex7_32
        refine rn_goto (tgt := 47) dX2_dayBySeed_177 (by decide) ?_
        exact rn_wk (L' := [some (rf E 22), none, some (.int x2), some (.int x3), some (.int x4), some (.int r_23), some (.int x6_30), some (.int x7_32), none, none]) (⟨rfl, ⟨rfl, ⟨rfl, ⟨rfl, ⟨rfl, ⟨rfl, ⟨rfl, trivial⟩⟩⟩⟩⟩⟩⟩) hF
      · replace hF := hF.2 hc_29
        refine rn_iconst (x := (1 : Int32)) dX2_dayBySeed_149 (by decide) ?_
        refine rn_goto (tgt := 154) dX2_dayBySeed_150 (by decide) ?_
        refine rn_iadd dX2_dayBySeed_154 ?_
        refine rn_istore dX2_dayBySeed_155 rfl (by decide) (fun x6_33 ex6_33 => ?_)
        replace hF := hF x6_33 ex6_33
        refine rn_aload_n dX2_dayBySeed_157 rfl ?_
        refine rn_aload_n dX2_dayBySeed_158 rfl ?_
        refine rm_getr (r := 26) flRX2_25 rfl (by decide) rfl dX2_dayBySeed_159 ?_
        refine rn_iload dX2_dayBySeed_162 rfl ?_
        refine rn_aload_n dX2_dayBySeed_164 rfl ?_
        refine rm_getr (r := 11) flRX2_32 rfl (by decide) rfl dX2_dayBySeed_165 ?_
        refine rm_geti flRX2_51 rfl (by decide) rfl dX2_dayBySeed_168 ?_
        refine rm_callV (c0 := 22) (As := [rf E 26, .int x7, .int (H_27 11 1)]) (st := []) mlRX2_56 mdX2_close (Nat.le_of_ble_eq_true rfl) rfl (by decide) (by decide) rfl rfl rfl (Nat.le_of_ble_eq_true rfl) ⟨Nat.le_refl _, Nat.le_refl _⟩ dX2_dayBySeed_171 ?_
        refine cm_mono hF (fun w H_34 hF => ?_)
        obtain ⟨rfl, hF⟩ := hF
        refine rn_iinc (w := (1 : Int32)) dX2_dayBySeed_174 rfl (by decide) rfl (by decide) (fun x7_35 ex7_35 => ?_)
        replace hF := hF x7_35 ex7_35
        refine rn_goto (tgt := 47) dX2_dayBySeed_177 (by decide) ?_
        exact rn_wk (L' := [some (rf E 22), none, some (.int x2), some (.int x3), some (.int x4), some (.int r_23), some (.int x6_33), some (.int x7_35), none, none]) (⟨rfl, ⟨rfl, ⟨rfl, ⟨rfl, ⟨rfl, ⟨rfl, ⟨rfl, trivial⟩⟩⟩⟩⟩⟩⟩) hF
theorem sgX2_nextLot_0 {E : En} {Q : Option Value → Hi → Prop} {H : Hi} {x0 : Int32} 
    (hF : Q (some (.int (((1103515245 : Int32) * x0) + (12345 : Int32)))) H) :
    Rm E mX2_nextLot Q 0 [some (.int x0)] [] H := by
  refine rn_ldc coRX2_155 dX2_nextLot_0 ?_
  refine rn_iload_n dX2_nextLot_2 rfl ?_
  refine rn_imul dX2_nextLot_3 ?_
  refine rn_sipush (x := (12345 : Int32)) dX2_nextLot_4 (by decide) ?_
  refine rn_iadd dX2_nextLot_7 ?_
  exact rm_iret rfl dX2_nextLot_8 hF
theorem cmX2_nextLot {E : En} {Q : Option Value → Hi → Prop} {H : Hi} {x0 : Int32} 
    (hF : Q (some (.int (((1103515245 : Int32) * x0) + (12345 : Int32)))) H) :
    Cm E mX2_nextLot [.int x0] H Q :=
  cm_of (by decide +kernel) (Nat.le_of_ble_eq_true rfl) rfl (sgX2_nextLot_0  hF)
theorem sgX2_drawn_0 {E : En} {Q : Option Value → Hi → Prop} {H : Hi} {x0 : Int32} {x1 : Int32} 
    (hF : (x1 ≤ 0 → (Q (some (.int (0 : Int32))) H)) ∧ (¬ x1 ≤ 0 → ((¬ x1 = 0) ∧ (Q (some (.int ((ushr x0 (16 : Int32)) - (ushr x0 (16 : Int32)) / x1 * x1))) H)))) :
    Rm E mX2_drawn Q 0 [some (.int x0), some (.int x1)] [] H := by
  refine rn_iload_n dX2_drawn_0 rfl ?_
  refine rn_if_le (tgt := 13) dX2_drawn_1 (by decide) (fun hc_1 => ?_) (fun hc_1 => ?_)
  · replace hF := hF.1 hc_1
    refine rn_iconst (x := (0 : Int32)) dX2_drawn_13 (by decide) ?_
    exact rm_iret rfl dX2_drawn_14 hF
  · replace hF := hF.2 hc_1
    refine rn_iload_n dX2_drawn_4 rfl ?_
    refine rn_bipush (x := (16 : Int32)) dX2_drawn_5 (by decide) ?_
    refine rn_iushr dX2_drawn_7 ?_
    refine rn_iload_n dX2_drawn_8 rfl ?_
    obtain ⟨hz_2, hF⟩ := hF
    refine rn_irem dX2_drawn_9 hz_2 ?_
    refine rn_goto (tgt := 14) dX2_drawn_10 (by decide) ?_
    exact rm_iret rfl dX2_drawn_14 hF
theorem cmX2_drawn {E : En} {Q : Option Value → Hi → Prop} {H : Hi} {x0 : Int32} {x1 : Int32} 
    (hF : (x1 ≤ 0 → (Q (some (.int (0 : Int32))) H)) ∧ (¬ x1 ≤ 0 → ((¬ x1 = 0) ∧ (Q (some (.int ((ushr x0 (16 : Int32)) - (ushr x0 (16 : Int32)) / x1 * x1))) H)))) :
    Cm E mX2_drawn [.int x0, .int x1] H Q :=
  cm_of (by decide +kernel) (Nat.le_of_ble_eq_true rfl) rfl (sgX2_drawn_0  hF)
