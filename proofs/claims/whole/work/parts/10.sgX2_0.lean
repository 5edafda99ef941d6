theorem sgX2_replay_0 {E : En} {Q : Option Value → Hi → Prop} {H : Hi}  
    (hF : Cm E mX2_begin [rf E 22] H (fun w zH_1 => w = none ∧ (Cm E mX6_become [rf E 26, rf E 23] zH_1 (fun w zH_2 => w = none ∧ (∀ zH_3 : Hi, zH_3 = up zH_2 22 5 (0 : Int32) → (Rm E mX2_replay Q 22 [some (rf E 22), some (.int (0 : Int32))] [] zH_3)))))) :
    Rm E mX2_replay Q 0 [some (rf E 22), none] [] H := by
  refine rn_aload_n dX2_replay_0 rfl ?_
  refine rm_callV (c0 := 22) (As := []) (st := []) mlRX2_36 mdX2_begin (Nat.le_of_ble_eq_true rfl) rfl (by decide) (by decide) rfl rfl rfl (Nat.le_of_ble_eq_true rfl) ⟨Nat.le_refl _, Nat.le_refl _⟩ dX2_replay_1 ?_
  refine cm_mono hF (fun w zH_1 hF => ?_)
  obtain ⟨rfl, hF⟩ := hF
  refine rn_aload_n dX2_replay_4 rfl ?_
  refine rm_getr (r := 26) flRX2_25 rfl (by decide) rfl dX2_replay_5 ?_
  refine rn_aload_n dX2_replay_8 rfl ?_
  refine rm_getr (r := 23) flRX2_12 rfl (by decide) rfl dX2_replay_9 ?_
  refine rm_callV (c0 := 26) (As := [rf E 23]) (st := []) mlRX2_39 mdX6_become (Nat.le_of_ble_eq_true rfl) rfl (by decide) (by decide) rfl rfl rfl (Nat.le_of_ble_eq_true rfl) ⟨Nat.le_refl _, Nat.le_refl _⟩ dX2_replay_12 ?_
  refine cm_mono hF (fun w zH_2 hF => ?_)
  obtain ⟨rfl, hF⟩ := hF
  refine rn_aload_n dX2_replay_15 rfl ?_
  refine rn_iconst (x := (0 : Int32)) dX2_replay_16 (by decide) ?_
  refine rm_puti flRX2_43 rfl (by decide) rfl dX2_replay_17 (fun zH_3 ezH_3 => ?_)
  replace hF := hF zH_3 ezH_3
  refine rn_iconst (x := (0 : Int32)) dX2_replay_20 (by decide) ?_
  refine ra_istore_n dX2_replay_21 rfl (Nat.le_of_ble_eq_true rfl) ?_
  show Rn _ _ _ _ _ _ _ _ [some (rf E 22), some (.int (0 : Int32))] _ _ _
  exact rn_wk (L' := [some (rf E 22), some (.int (0 : Int32))]) (⟨rfl, ⟨rfl, trivial⟩⟩) hF
theorem cmX2_replay {E : En} {Q : Option Value → Hi → Prop} {H : Hi}  
    (hF : Cm E mX2_begin [rf E 22] H (fun w zH_1 => w = none ∧ (Cm E mX6_become [rf E 26, rf E 23] zH_1 (fun w zH_2 => w = none ∧ (∀ zH_3 : Hi, zH_3 = up zH_2 22 5 (0 : Int32) → (Rm E mX2_replay Q 22 [some (rf E 22), some (.int (0 : Int32))] [] zH_3)))))) :
    Cm E mX2_replay [rf E 22] H Q :=
  cm_of (by decide +kernel : plainName RX2 = true) (Nat.le_of_ble_eq_true rfl) rfl (sgX2_replay_0  hF)
theorem sgX2_replay_22 {E : En} {Q : Option Value → Hi → Prop} {H : Hi} {zx1 : Int32} 
    (hF : ((24 : Int32) ≤ zx1 → (Q none H)) ∧ (¬ (24 : Int32) ≤ zx1 → (Cm E mX2_open [rf E 22, rf E 26, .int zx1] H (fun w zH_2 => ∃ zr_3 : Int32, w = some (.int zr_3) ∧ (∀ zH_4 : Hi, zH_4 = up zH_2 22 5 ((H 22 5) ||| zr_3) → (∃ zj_5 : Nat, (zj_5 < 24 ∧ zx1 = nI zj_5) ∧ (Cm E mX6_become [rf E (27 + 2 * zj_5), rf E 26] zH_4 (fun w zH_6 => w = none ∧ (Cm E mX2_close [rf E 22, rf E 26, .int zx1, .int (zH_6 11 1)] zH_6 (fun w zH_7 => w = none ∧ (∃ zj_8 : Nat, (zj_8 < 24 ∧ zx1 = nI zj_8) ∧ (Cm E mX6_become [rf E (28 + 2 * zj_8), rf E 26] zH_7 (fun w zH_9 => w = none ∧ (∀ zx1_10 : Int32, zx1_10 = zx1 + (1 : Int32) → (Rm E mX2_replay Q 22 [some (rf E 22), some (.int zx1_10)] [] zH_9))))))))))))))) :
    Rm E mX2_replay Q 22 [some (rf E 22), some (.int zx1)] [] H := by
  refine rn_iload_n dX2_replay_22 rfl ?_
  refine rn_bipush (x := (24 : Int32)) dX2_replay_23 (by decide) ?_
  refine rn_icmp_ge (tgt := 94) dX2_replay_25 (by decide) (fun hc_1 => ?_) (fun hc_1 => ?_)
  · replace hF := hF.1 hc_1
    exact rm_vret rfl dX2_replay_94 hF
  · replace hF := hF.2 hc_1
    refine rn_aload_n dX2_replay_28 rfl ?_
    refine rn_dup dX2_replay_29 rfl ?_
    refine rm_geti flRX2_43 rfl (by decide) rfl dX2_replay_30 ?_
    refine rn_aload_n dX2_replay_33 rfl ?_
    refine rn_aload_n dX2_replay_34 rfl ?_
    refine rm_getr (r := 26) flRX2_25 rfl (by decide) rfl dX2_replay_35 ?_
    refine rn_iload_n dX2_replay_38 rfl ?_
    refine rm_callV (c0 := 22) (As := [rf E 26, .int zx1]) (st := [.int (H 22 5), rf E 22]) mlRX2_47 mdX2_open (Nat.le_of_ble_eq_true rfl) rfl (by decide) (by decide) rfl rfl rfl (Nat.le_of_ble_eq_true rfl) ⟨Nat.le_refl _, Nat.le_refl _⟩ dX2_replay_39 ?_
    refine cm_mono hF (fun w zH_2 hF => ?_)
    obtain ⟨zr_3, rfl, hF⟩ := hF
    refine rn_ior dX2_replay_42 ?_
    refine rm_puti flRX2_43 rfl (by decide) rfl dX2_replay_43 (fun zH_4 ezH_4 => ?_)
    replace hF := hF zH_4 ezH_4
    refine rn_aload_n dX2_replay_46 rfl ?_
    refine rm_getr (r := 24) flRX2_18 rfl (by decide) rfl dX2_replay_47 ?_
    refine rn_iload_n dX2_replay_50 rfl ?_
    obtain ⟨zj_5, hzj_5, hF⟩ := hF
    refine rj_aald (j := zj_5) (Cn := RX6) (r := (27 + 2 * zj_5)) hzj_5 (st_mid _ hzj_5.1).2 rfl (by decide) (by decide) rfl (by decide) dX2_replay_51 ?_
    refine rn_aload_n dX2_replay_52 rfl ?_
    refine rm_getr (r := 26) flRX2_25 rfl (by decide) rfl dX2_replay_53 ?_
    refine rm_callV (c0 := (27 + 2 * zj_5)) (As := [rf E 26]) (st := []) mlRX2_39 mdX6_become (Nat.le_of_ble_eq_true rfl) (st_mid _ hzj_5.1).1.2.1 (st_mid _ hzj_5.1).1.1 (by decide) rfl rfl rfl (Nat.le_of_ble_eq_true rfl) ⟨Nat.le_refl _, Nat.le_refl _⟩ dX2_replay_56 ?_
    refine cm_mono hF (fun w zH_6 hF => ?_)
    obtain ⟨rfl, hF⟩ := hF
    refine rn_aload_n dX2_replay_59 rfl ?_
    refine rn_aload_n dX2_replay_60 rfl ?_
    refine rm_getr (r := 26) flRX2_25 rfl (by decide) rfl dX2_replay_61 ?_
    refine rn_iload_n dX2_replay_64 rfl ?_
    refine rn_aload_n dX2_replay_65 rfl ?_
    refine rm_getr (r := 11) flRX2_32 rfl (by decide) rfl dX2_replay_66 ?_
    refine rm_geti flRX2_51 rfl (by decide) rfl dX2_replay_69 ?_
    refine rm_callV (c0 := 22) (As := [rf E 26, .int zx1, .int (zH_6 11 1)]) (st := []) mlRX2_56 mdX2_close (Nat.le_of_ble_eq_true rfl) rfl (by decide) (by decide) rfl rfl rfl (Nat.le_of_ble_eq_true rfl) ⟨Nat.le_refl _, Nat.le_refl _⟩ dX2_replay_72 ?_
    refine cm_mono hF (fun w zH_7 hF => ?_)
    obtain ⟨rfl, hF⟩ := hF
    refine rn_aload_n dX2_replay_75 rfl ?_
    refine rm_getr (r := 25) flRX2_22 rfl (by decide) rfl dX2_replay_76 ?_
    refine rn_iload_n dX2_replay_79 rfl ?_
    obtain ⟨zj_8, hzj_8, hF⟩ := hF
    refine rj_aald (j := zj_8) (Cn := RX6) (r := (28 + 2 * zj_8)) hzj_8 (st_beh _ hzj_8.1).2 rfl (by decide) (by decide) rfl (by decide) dX2_replay_80 ?_
    refine rn_aload_n dX2_replay_81 rfl ?_
    refine rm_getr (r := 26) flRX2_25 rfl (by decide) rfl dX2_replay_82 ?_
    refine rm_callV (c0 := (28 + 2 * zj_8)) (As := [rf E 26]) (st := []) mlRX2_39 mdX6_become (Nat.le_of_ble_eq_true rfl) (st_beh _ hzj_8.1).1.2.1 (st_beh _ hzj_8.1).1.1 (by decide) rfl rfl rfl (Nat.le_of_ble_eq_true rfl) ⟨Nat.le_refl _, Nat.le_refl _⟩ dX2_replay_85 ?_
    refine cm_mono hF (fun w zH_9 hF => ?_)
    obtain ⟨rfl, hF⟩ := hF
    refine rn_iinc (w := (1 : Int32)) dX2_replay_88 rfl (by decide) rfl (Nat.le_of_ble_eq_true rfl) (fun zx1_10 ezx1_10 => ?_)
    replace hF := hF zx1_10 ezx1_10
    show Rn _ _ _ _ _ _ _ _ [some (rf E 22), some (.int zx1_10)] _ _ _
    refine rn_goto (tgt := 22) dX2_replay_91 (by decide) ?_
    exact rn_wk (L' := [some (rf E 22), some (.int zx1_10)]) (⟨rfl, ⟨rfl, trivial⟩⟩) hF
theorem sgX2_begin_0 {E : En} {Q : Option Value → Hi → Prop} {H : Hi}  
    (hF : Rm E mX2_begin Q 4 [some (rf E 22), some (.int (0 : Int32)), some (.int (0 : Int32)), none] [] H) :
    Rm E mX2_begin Q 0 [some (rf E 22), none, none, none] [] H := by
  refine rn_iconst (x := (0 : Int32)) dX2_begin_0 (by decide) ?_
  refine ra_istore_n dX2_begin_1 rfl (Nat.le_of_ble_eq_true rfl) ?_
  show Rn _ _ _ _ _ _ _ _ [some (rf E 22), some (.int (0 : Int32)), none, none] _ _ _
  refine rn_iconst (x := (0 : Int32)) dX2_begin_2 (by decide) ?_
  refine ra_istore_n dX2_begin_3 rfl (Nat.le_of_ble_eq_true rfl) ?_
  show Rn _ _ _ _ _ _ _ _ [some (rf E 22), some (.int (0 : Int32)), some (.int (0 : Int32)), none] _ _ _
  exact rn_wk (L' := [some (rf E 22), some (.int (0 : Int32)), some (.int (0 : Int32)), none]) (⟨rfl, ⟨rfl, ⟨rfl, trivial⟩⟩⟩) hF
theorem cmX2_begin {E : En} {Q : Option Value → Hi → Prop} {H : Hi}  
    (hF : Rm E mX2_begin Q 4 [some (rf E 22), some (.int (0 : Int32)), some (.int (0 : Int32)), none] [] H) :
    Cm E mX2_begin [rf E 22] H Q :=
  cm_of (by decide +kernel : plainName RX2 = true) (Nat.le_of_ble_eq_true rfl) rfl (sgX2_begin_0  hF)
theorem sgX2_begin_4 {E : En} {Q : Option Value → Hi → Prop} {H : Hi} {zx1 : Int32} {zx2 : Int32} 
    (hF : ((H 5 0) ≤ zx2 → (∀ zH_2 : Hi, zH_2 = up H 23 0 zx1 → (Q none zH_2))) ∧ (¬ (H 5 0) ≤ zx2 → (∃ zj_3 : Nat, (zj_3 < 8 ∧ zx2 = nI zj_3) ∧ (∀ zx3_4 : Int32, zx3_4 = H 7 zj_3 → (((H 5 1) ≤ zx3_4 → (∀ zx1_6 : Int32, zx1_6 = zx1 ||| ((9 : Int32) <<< (((4 : Int32) * zx2) &&& 31)) → (∀ zx2_7 : Int32, zx2_7 = zx2 + (1 : Int32) → (Rm E mX2_begin Q 4 [some (rf E 22), some (.int zx1_6), some (.int zx2_7), none] [] H)))) ∧ (¬ (H 5 1) ≤ zx3_4 → (∀ zx1_8 : Int32, zx1_8 = zx1 ||| (zx3_4 <<< (((4 : Int32) * zx2) &&& 31)) → (∀ zx2_9 : Int32, zx2_9 = zx2 + (1 : Int32) → (Rm E mX2_begin Q 4 [some (rf E 22), some (.int zx1_8), some (.int zx2_9), none] [] H))))))))) :
    Rm E mX2_begin Q 4 [some (rf E 22), some (.int zx1), some (.int zx2), none] [] H := by
  refine rn_iload_n dX2_begin_4 rfl ?_
  refine rn_aload_n dX2_begin_5 rfl ?_
  refine rm_getr (r := 5) flRX2_28 rfl (by decide) rfl dX2_begin_6 ?_
  refine rm_geti flRX2_60 rfl (by decide) rfl dX2_begin_9 ?_
  refine rn_icmp_ge (tgt := 55) dX2_begin_12 (by decide) (fun hc_1 => ?_) (fun hc_1 => ?_)
  · replace hF := hF.1 hc_1
    refine rn_aload_n dX2_begin_55 rfl ?_
    refine rm_getr (r := 23) flRX2_12 rfl (by decide) rfl dX2_begin_56 ?_
    refine rn_iload_n dX2_begin_59 rfl ?_
    refine rm_puti flRX2_72 rfl (by decide) rfl dX2_begin_60 (fun zH_2 ezH_2 => ?_)
    replace hF := hF zH_2 ezH_2
    exact rm_vret rfl dX2_begin_63 hF
  · replace hF := hF.2 hc_1
    refine rn_aload_n dX2_begin_15 rfl ?_
    refine rm_getr (r := 5) flRX2_28 rfl (by decide) rfl dX2_begin_16 ?_
    refine rm_getr (r := 7) flRX2_65 rfl (by decide) rfl dX2_begin_19 ?_
    refine rn_iload_n dX2_begin_22 rfl ?_
    obtain ⟨zj_3, hzj_3, hF⟩ := hF
    refine rj_iald (j := zj_3) hzj_3 rfl (by decide) rfl (by decide) dX2_begin_23 ?_
    refine rn_istore_n dX2_begin_24 rfl (Nat.le_of_ble_eq_true rfl) (fun zx3_4 ezx3_4 => ?_)
    replace hF := hF zx3_4 ezx3_4
    show Rn _ _ _ _ _ _ _ _ [some (rf E 22), some (.int zx1), some (.int zx2), some (.int zx3_4)] _ _ _
    refine rn_iload_n dX2_begin_25 rfl ?_
    refine rn_iload_n dX2_begin_26 rfl ?_
    refine rn_aload_n dX2_begin_27 rfl ?_
    refine rm_getr (r := 5) flRX2_28 rfl (by decide) rfl dX2_begin_28 ?_
    refine rm_geti flRX2_69 rfl (by decide) rfl dX2_begin_31 ?_
    refine rn_icmp_ge (tgt := 41) dX2_begin_34 (by decide) (fun hc_5 => ?_) (fun hc_5 => ?_)
    · replace hF := hF.1 hc_5
      refine rn_bipush (x := (9 : Int32)) dX2_begin_41 (by decide) ?_
      refine rn_iconst (x := (4 : Int32)) dX2_begin_43 (by decide) ?_
      refine rn_iload_n dX2_begin_44 rfl ?_
      refine rn_imul dX2_begin_45 ?_
      refine rn_ishl dX2_begin_46 ?_
      refine rn_ior dX2_begin_47 ?_
      refine rn_istore_n dX2_begin_48 rfl (Nat.le_of_ble_eq_true rfl) (fun zx1_6 ezx1_6 => ?_)
      replace hF := hF zx1_6 ezx1_6
      show Rn _ _ _ _ _ _ _ _ [some (rf E 22), some (.int zx1_6), some (.int zx2), some (.int zx3_4)] _ _ _
      refine rn_iinc (w := (1 : Int32)) dX2_begin_49 rfl (by decide) rfl (Nat.le_of_ble_eq_true rfl) (fun zx2_7 ezx2_7 => ?_)
      replace hF := hF zx2_7 ezx2_7
      show Rn _ _ _ _ _ _ _ _ [some (rf E 22), some (.int zx1_6), some (.int zx2_7), some (.int zx3_4)] _ _ _
      refine rn_goto (tgt := 4) dX2_begin_52 (by decide) ?_
      exact rn_wk (L' := [some (rf E 22), some (.int zx1_6), some (.int zx2_7), none]) (⟨rfl, ⟨rfl, ⟨rfl, trivial⟩⟩⟩) hF
    · replace hF := hF.2 hc_5
      refine rn_iload_n dX2_begin_37 rfl ?_
      refine rn_goto (tgt := 43) dX2_begin_38 (by decide) ?_
      refine rn_iconst (x := (4 : Int32)) dX2_begin_43 (by decide) ?_
      refine rn_iload_n dX2_begin_44 rfl ?_
      refine rn_imul dX2_begin_45 ?_
      refine rn_ishl dX2_begin_46 ?_
      refine rn_ior dX2_begin_47 ?_
      refine rn_istore_n dX2_begin_48 rfl (Nat.le_of_ble_eq_true rfl) (fun zx1_8 ezx1_8 => ?_)
      replace hF := hF zx1_8 ezx1_8
      show Rn _ _ _ _ _ _ _ _ [some (rf E 22), some (.int zx1_8), some (.int zx2), some (.int zx3_4)] _ _ _
      refine rn_iinc (w := (1 : Int32)) dX2_begin_49 rfl (by decide) rfl (Nat.le_of_ble_eq_true rfl) (fun zx2_9 ezx2_9 => ?_)
      replace hF := hF zx2_9 ezx2_9
      show Rn _ _ _ _ _ _ _ _ [some (rf E 22), some (.int zx1_8), some (.int zx2_9), some (.int zx3_4)] _ _ _
      refine rn_goto (tgt := 4) dX2_begin_52 (by decide) ?_
      exact rn_wk (L' := [some (rf E 22), some (.int zx1_8), some (.int zx2_9), none]) (⟨rfl, ⟨rfl, ⟨rfl, trivial⟩⟩⟩) hF
theorem sgX2_open_0 {E : En} {Q : Option Value → Hi → Prop} {H : Hi} {zs1 : Nat} {zx2 : Int32} (hs1 : isSt zs1)
    (hF : Cm E mX2_putBack [rf E 22, rf E zs1] H (fun w zH_1 => w = none ∧ (∃ zj_2 : Nat, (zj_2 < 25 ∧ zx2 = nI zj_2) ∧ (∃ zj_3 : Nat, (zj_3 < 25 ∧ zx2 + (1 : Int32) = nI zj_3) ∧ (Cm E mX2_tell [rf E 22, rf E zs1, .int (zH_1 20 zj_2), .int (zH_1 20 zj_3)] zH_1 (fun w zH_4 => ∃ zr_5 : Int32, w = some (.int zr_5) ∧ (Q (some (.int zr_5)) zH_4))))))) :
    Rm E mX2_open Q 0 [some (rf E 22), some (rf E zs1), some (.int zx2)] [] H := by
  refine rn_aload_n dX2_open_0 rfl ?_
  refine rn_aload_n dX2_open_1 rfl ?_
  refine rm_callV (c0 := 22) (As := [rf E zs1]) (st := []) mlRX2_75 mdX2_putBack (Nat.le_of_ble_eq_true rfl) rfl (by decide) (by decide) rfl rfl rfl (Nat.le_of_ble_eq_true rfl) ⟨Nat.le_refl _, Nat.le_refl _⟩ dX2_open_2 ?_
  refine cm_mono hF (fun w zH_1 hF => ?_)
  obtain ⟨rfl, hF⟩ := hF
  refine rn_aload_n dX2_open_5 rfl ?_
  refine rn_aload_n dX2_open_6 rfl ?_
  refine rn_aload_n dX2_open_7 rfl ?_
  refine rm_getr (r := 11) flRX2_32 rfl (by decide) rfl dX2_open_8 ?_
  refine rm_getr (r := 20) flRX2_78 rfl (by decide) rfl dX2_open_11 ?_
  refine rn_iload_n dX2_open_14 rfl ?_
  obtain ⟨zj_2, hzj_2, hF⟩ := hF
  refine rj_iald (j := zj_2) hzj_2 rfl (by decide) rfl (by decide) dX2_open_15 ?_
  refine rn_aload_n dX2_open_16 rfl ?_
  refine rm_getr (r := 11) flRX2_32 rfl (by decide) rfl dX2_open_17 ?_
  refine rm_getr (r := 20) flRX2_78 rfl (by decide) rfl dX2_open_20 ?_
  refine rn_iload_n dX2_open_23 rfl ?_
  refine rn_iconst (x := (1 : Int32)) dX2_open_24 (by decide) ?_
  refine rn_iadd dX2_open_25 ?_
  obtain ⟨zj_3, hzj_3, hF⟩ := hF
  refine rj_iald (j := zj_3) hzj_3 rfl (by decide) rfl (by decide) dX2_open_26 ?_
  refine rm_callV (c0 := 22) (As := [rf E zs1, .int (zH_1 20 zj_2), .int (zH_1 20 zj_3)]) (st := []) mlRX2_81 mdX2_tell (Nat.le_of_ble_eq_true rfl) rfl (by decide) (by decide) rfl rfl rfl (Nat.le_of_ble_eq_true rfl) ⟨Nat.le_refl _, Nat.le_refl _⟩ dX2_open_27 ?_
  refine cm_mono hF (fun w zH_4 hF => ?_)
  obtain ⟨zr_5, rfl, hF⟩ := hF
  exact rm_iret rfl dX2_open_30 hF
theorem cmX2_open {E : En} {Q : Option Value → Hi → Prop} {H : Hi} {zs1 : Nat} {zx2 : Int32} (hs1 : isSt zs1)
    (hF : Cm E mX2_putBack [rf E 22, rf E zs1] H (fun w zH_1 => w = none ∧ (∃ zj_2 : Nat, (zj_2 < 25 ∧ zx2 = nI zj_2) ∧ (∃ zj_3 : Nat, (zj_3 < 25 ∧ zx2 + (1 : Int32) = nI zj_3) ∧ (Cm E mX2_tell [rf E 22, rf E zs1, .int (zH_1 20 zj_2), .int (zH_1 20 zj_3)] zH_1 (fun w zH_4 => ∃ zr_5 : Int32, w = some (.int zr_5) ∧ (Q (some (.int zr_5)) zH_4))))))) :
    Cm E mX2_open [rf E 22, rf E zs1, .int zx2] H Q :=
  cm_of (by decide +kernel : plainName RX2 = true) (Nat.le_of_ble_eq_true rfl) rfl (sgX2_open_0 hs1 hF)
theorem sgX2_putBack_0 {E : En} {Q : Option Value → Hi → Prop} {H : Hi} {zs1 : Nat} (hs1 : isSt zs1)
    (hF : ∀ zx2_1 : Int32, zx2_1 = H zs1 3 → (∀ zH_2 : Hi, zH_2 = up H zs1 3 (0 : Int32) → ((zx2_1 = 0 → (Q none zH_2)) ∧ (¬ zx2_1 = 0 → ((¬ (zH_2 5 6) = 0 → (Rm E mX2_putBack Q 27 [some (rf E 22), some (rf E zs1), some (.int zx2_1), some (.int (0 : Int32)), none, none] [] zH_2)) ∧ ((zH_2 5 6) = 0 → (Q none zH_2))))))) :
    Rm E mX2_putBack Q 0 [some (rf E 22), some (rf E zs1), none, none, none, none] [] H := by
  refine rn_aload_n dX2_putBack_0 rfl ?_
  refine rm_geti flRX2_85 hs1.2.1 hs1.1 (rT_row hs1.2.2 _) dX2_putBack_1 ?_
  refine rn_istore_n dX2_putBack_4 rfl (Nat.le_of_ble_eq_true rfl) (fun zx2_1 ezx2_1 => ?_)
  replace hF := hF zx2_1 ezx2_1
  show Rn _ _ _ _ _ _ _ _ [some (rf E 22), some (rf E zs1), some (.int zx2_1), none, none, none] _ _ _
  refine rn_aload_n dX2_putBack_5 rfl ?_
  refine rn_iconst (x := (0 : Int32)) dX2_putBack_6 (by decide) ?_
  refine rm_puti flRX2_85 hs1.2.1 hs1.1 (rT_row hs1.2.2 _) dX2_putBack_7 (fun zH_2 ezH_2 => ?_)
  replace hF := hF zH_2 ezH_2
  refine rn_iload_n dX2_putBack_10 rfl ?_
  refine rn_if_eq (tgt := 24) dX2_putBack_11 (by decide) (fun hc_3 => ?_) (fun hc_3 => ?_)
  · replace hF := hF.1 hc_3
    exact rm_vret rfl dX2_putBack_24 hF
  · replace hF := hF.2 hc_3
    refine rn_aload_n dX2_putBack_14 rfl ?_
    refine rm_getr (r := 5) flRX2_28 rfl (by decide) rfl dX2_putBack_15 ?_
    refine rm_geti flRX2_88 rfl (by decide) rfl dX2_putBack_18 ?_
    refine rn_if_ne (tgt := 25) dX2_putBack_21 (by decide) (fun hc_4 => ?_) (fun hc_4 => ?_)
    · replace hF := hF.1 hc_4
      refine rn_iconst (x := (0 : Int32)) dX2_putBack_25 (by decide) ?_
      refine ra_istore_n dX2_putBack_26 rfl (Nat.le_of_ble_eq_true rfl) ?_
      show Rn _ _ _ _ _ _ _ _ [some (rf E 22), some (rf E zs1), some (.int zx2_1), some (.int (0 : Int32)), none, none] _ _ _
      exact rn_wk (L' := [some (rf E 22), some (rf E zs1), some (.int zx2_1), some (.int (0 : Int32)), none, none]) (⟨rfl, ⟨rfl, ⟨rfl, ⟨rfl, trivial⟩⟩⟩⟩) hF
    · replace hF := hF.2 hc_4
      exact rm_vret rfl dX2_putBack_24 hF
theorem cmX2_putBack {E : En} {Q : Option Value → Hi → Prop} {H : Hi} {zs1 : Nat} (hs1 : isSt zs1)
    (hF : ∀ zx2_1 : Int32, zx2_1 = H zs1 3 → (∀ zH_2 : Hi, zH_2 = up H zs1 3 (0 : Int32) → ((zx2_1 = 0 → (Q none zH_2)) ∧ (¬ zx2_1 = 0 → ((¬ (zH_2 5 6) = 0 → (Rm E mX2_putBack Q 27 [some (rf E 22), some (rf E zs1), some (.int zx2_1), some (.int (0 : Int32)), none, none] [] zH_2)) ∧ ((zH_2 5 6) = 0 → (Q none zH_2))))))) :
    Cm E mX2_putBack [rf E 22, rf E zs1] H Q :=
  cm_of (by decide +kernel : plainName RX2 = true) (Nat.le_of_ble_eq_true rfl) rfl (sgX2_putBack_0 hs1 hF)
theorem sgX2_putBack_27 {E : En} {Q : Option Value → Hi → Prop} {H : Hi} {zs1 : Nat} {zx2 : Int32} {zx3 : Int32} (hs1 : isSt zs1)
    (hF : ((H 5 1) ≤ zx3 → (Q none H)) ∧ (¬ (H 5 1) ≤ zx3 → (Rm E mX2_putBack Q 41 [some (rf E 22), some (rf E zs1), some (.int zx2), some (.int zx3), some (.int (0 : Int32)), none] [] H))) :
    Rm E mX2_putBack Q 27 [some (rf E 22), some (rf E zs1), some (.int zx2), some (.int zx3), none, none] [] H := by
  refine rn_iload_n dX2_putBack_27 rfl ?_
  refine rn_aload_n dX2_putBack_28 rfl ?_
  refine rm_getr (r := 5) flRX2_28 rfl (by decide) rfl dX2_putBack_29 ?_
  refine rm_geti flRX2_69 rfl (by decide) rfl dX2_putBack_32 ?_
  refine rn_icmp_ge (tgt := 123) dX2_putBack_35 (by decide) (fun hc_1 => ?_) (fun hc_1 => ?_)
  · replace hF := hF.1 hc_1
    exact rm_vret rfl dX2_putBack_123 hF
  · replace hF := hF.2 hc_1
    refine rn_iconst (x := (0 : Int32)) dX2_putBack_38 (by decide) ?_
    refine ra_istore dX2_putBack_39 rfl (Nat.le_of_ble_eq_true rfl) ?_
    show Rn _ _ _ _ _ _ _ _ [some (rf E 22), some (rf E zs1), some (.int zx2), some (.int zx3), some (.int (0 : Int32)), none] _ _ _
    exact rn_wk (L' := [some (rf E 22), some (rf E zs1), some (.int zx2), some (.int zx3), some (.int (0 : Int32)), none]) (⟨rfl, ⟨rfl, ⟨rfl, ⟨rfl, ⟨rfl, trivial⟩⟩⟩⟩⟩) hF
theorem sgX2_putBack_41 {E : En} {Q : Option Value → Hi → Prop} {H : Hi} {zs1 : Nat} {zx2 : Int32} {zx3 : Int32} {zx4 : Int32} (hs1 : isSt zs1)
    (hF : ((H 5 0) ≤ zx4 → (∀ zx3_2 : Int32, zx3_2 = zx3 + (1 : Int32) → (Rm E mX2_putBack Q 27 [some (rf E 22), some (rf E zs1), some (.int zx2), some (.int zx3_2), none, none] [] H))) ∧ (¬ (H 5 0) ≤ zx4 → ((((((H 5 6) >>> (zx3 &&& 31)) &&& (zx2 >>> (zx4 &&& 31))) &&& (1 : Int32)) = 0 → (((0 : Int32) = 0 → (∀ zx4_6 : Int32, zx4_6 = zx4 + (1 : Int32) → (Rm E mX2_putBack Q 41 [some (rf E 22), some (rf E zs1), some (.int zx2), some (.int zx3), some (.int zx4_6), none] [] H))) ∧ (¬ (0 : Int32) = 0 → (Cm E mX2_reach [rf E 22, rf E zs1, .int (((8 : Int32) * zx3) + zx4)] H (fun w zH_7 => ∃ zr_8 : Int32, w = some (.int zr_8) ∧ (∀ zx4_9 : Int32, zx4_9 = zx4 + (1 : Int32) → (Rm E mX2_putBack Q 41 [some (rf E 22), some (rf E zs1), some (.int zx2), some (.int zx3), some (.int zx4_9), none] [] zH_7))))))) ∧ (¬ ((((H 5 6) >>> (zx3 &&& 31)) &&& (zx2 >>> (zx4 &&& 31))) &&& (1 : Int32)) = 0 → (∃ zj_10 : Nat, (zj_10 < 8 ∧ zx4 = nI zj_10) ∧ (((H 7 zj_10) = zx3 → (((0 : Int32) = 0 → (∀ zx4_14 : Int32, zx4_14 = zx4 + (1 : Int32) → (Rm E mX2_putBack Q 41 [some (rf E 22), some (rf E zs1), some (.int zx2), some (.int zx3), some (.int zx4_14), none] [] H))) ∧ (¬ (0 : Int32) = 0 → (Cm E mX2_reach [rf E 22, rf E zs1, .int (((8 : Int32) * zx3) + zx4)] H (fun w zH_15 => ∃ zr_16 : Int32, w = some (.int zr_16) ∧ (∀ zx4_17 : Int32, zx4_17 = zx4 + (1 : Int32) → (Rm E mX2_putBack Q 41 [some (rf E 22), some (rf E zs1), some (.int zx2), some (.int zx3), some (.int zx4_17), none] [] zH_15))))))) ∧ (¬ (H 7 zj_10) = zx3 → (((1 : Int32) = 0 → (∀ zx4_20 : Int32, zx4_20 = zx4 + (1 : Int32) → (Rm E mX2_putBack Q 41 [some (rf E 22), some (rf E zs1), some (.int zx2), some (.int zx3), some (.int zx4_20), none] [] H))) ∧ (¬ (1 : Int32) = 0 → (Cm E mX2_reach [rf E 22, rf E zs1, .int (((8 : Int32) * zx3) + zx4)] H (fun w zH_21 => ∃ zr_22 : Int32, w = some (.int zr_22) ∧ (∀ zx4_23 : Int32, zx4_23 = zx4 + (1 : Int32) → (Rm E mX2_putBack Q 41 [some (rf E 22), some (rf E zs1), some (.int zx2), some (.int zx3), some (.int zx4_23), none] [] zH_21))))))))))))) :
    Rm E mX2_putBack Q 41 [some (rf E 22), some (rf E zs1), some (.int zx2), some (.int zx3), some (.int zx4), none] [] H := by
  refine rn_iload dX2_putBack_41 rfl ?_
  refine rn_aload_n dX2_putBack_43 rfl ?_
  refine rm_getr (r := 5) flRX2_28 rfl (by decide) rfl dX2_putBack_44 ?_
  refine rm_geti flRX2_60 rfl (by decide) rfl dX2_putBack_47 ?_
  refine rn_icmp_ge (tgt := 117) dX2_putBack_50 (by decide) (fun hc_1 => ?_) (fun hc_1 => ?_)
  · replace hF := hF.1 hc_1
    refine rn_iinc (w := (1 : Int32)) dX2_putBack_117 rfl (by decide) rfl (Nat.le_of_ble_eq_true rfl) (fun zx3_2 ezx3_2 => ?_)
    replace hF := hF zx3_2 ezx3_2
    show Rn _ _ _ _ _ _ _ _ [some (rf E 22), some (rf E zs1), some (.int zx2), some (.int zx3_2), some (.int zx4), none] _ _ _
    refine rn_goto (tgt := 27) dX2_putBack_120 (by decide) ?_
    exact rn_wk (L' := [some (rf E 22), some (rf E zs1), some (.int zx2), some (.int zx3_2), none, none]) (⟨rfl, ⟨rfl, ⟨rfl, ⟨rfl, trivial⟩⟩⟩⟩) hF
  · replace hF := hF.2 hc_1
    refine rn_aload_n dX2_putBack_53 rfl ?_
    refine rm_getr (r := 5) flRX2_28 rfl (by decide) rfl dX2_putBack_54 ?_
    refine rm_geti flRX2_88 rfl (by decide) rfl dX2_putBack_57 ?_
    refine rn_iload_n dX2_putBack_60 rfl ?_
    refine rn_ishr dX2_putBack_61 ?_
    refine rn_iload_n dX2_putBack_62 rfl ?_
    refine rn_iload dX2_putBack_63 rfl ?_
    refine rn_ishr dX2_putBack_65 ?_
    refine rn_iand dX2_putBack_66 ?_
    refine rn_iconst (x := (1 : Int32)) dX2_putBack_67 (by decide) ?_
    refine rn_iand dX2_putBack_68 ?_
    refine rn_if_eq (tgt := 90) dX2_putBack_69 (by decide) (fun hc_3 => ?_) (fun hc_3 => ?_)
    · replace hF := hF.1 hc_3
      refine rn_iconst (x := (0 : Int32)) dX2_putBack_90 (by decide) ?_
      refine ra_istore dX2_putBack_91 rfl (Nat.le_of_ble_eq_true rfl) ?_
      show Rn _ _ _ _ _ _ _ _ [some (rf E 22), some (rf E zs1), some (.int zx2), some (.int zx3), some (.int zx4), some (.int (0 : Int32))] _ _ _
      refine rn_iload dX2_putBack_93 rfl ?_
      refine rn_if_eq (tgt := 111) dX2_putBack_95 (by decide) (fun hc_5 => ?_) (fun hc_5 => ?_)
      · replace hF := hF.1 hc_5
        refine rn_iinc (w := (1 : Int32)) dX2_putBack_111 rfl (by decide) rfl (Nat.le_of_ble_eq_true rfl) (fun zx4_6 ezx4_6 => ?_)
        replace hF := hF zx4_6 ezx4_6
        show Rn _ _ _ _ _ _ _ _ [some (rf E 22), some (rf E zs1), some (.int zx2), some (.int zx3), some (.int zx4_6), some (.int (0 : Int32))] _ _ _
        refine rn_goto (tgt := 41) dX2_putBack_114 (by decide) ?_
        exact rn_wk (L' := [some (rf E 22), some (rf E zs1), some (.int zx2), some (.int zx3), some (.int zx4_6), none]) (⟨rfl, ⟨rfl, ⟨rfl, ⟨rfl, ⟨rfl, trivial⟩⟩⟩⟩⟩) hF
      · replace hF := hF.2 hc_5
        refine rn_aload_n dX2_putBack_98 rfl ?_
        refine rn_aload_n dX2_putBack_99 rfl ?_
        refine rn_bipush (x := (8 : Int32)) dX2_putBack_100 (by decide) ?_
        refine rn_iload_n dX2_putBack_102 rfl ?_
        refine rn_imul dX2_putBack_103 ?_
        refine rn_iload dX2_putBack_104 rfl ?_
        refine rn_iadd dX2_putBack_106 ?_
        refine rm_callV (c0 := 22) (As := [rf E zs1, .int (((8 : Int32) * zx3) + zx4)]) (st := []) mlRX2_91 mdX2_reach (Nat.le_of_ble_eq_true rfl) rfl (by decide) (by decide) rfl rfl rfl (Nat.le_of_ble_eq_true rfl) ⟨Nat.le_refl _, Nat.le_refl _⟩ dX2_putBack_107 ?_
        refine cm_mono hF (fun w zH_7 hF => ?_)
        obtain ⟨zr_8, rfl, hF⟩ := hF
        refine rn_pop dX2_putBack_110 rfl ?_
        refine rn_iinc (w := (1 : Int32)) dX2_putBack_111 rfl (by decide) rfl (Nat.le_of_ble_eq_true rfl) (fun zx4_9 ezx4_9 => ?_)
        replace hF := hF zx4_9 ezx4_9
        show Rn _ _ _ _ _ _ _ _ [some (rf E 22), some (rf E zs1), some (.int zx2), some (.int zx3), some (.int zx4_9), some (.int (0 : Int32))] _ _ _
        refine rn_goto (tgt := 41) dX2_putBack_114 (by decide) ?_
        exact rn_wk (L' := [some (rf E 22), some (rf E zs1), some (.int zx2), some (.int zx3), some (.int zx4_9), none]) (⟨rfl, ⟨rfl, ⟨rfl, ⟨rfl, ⟨rfl, trivial⟩⟩⟩⟩⟩) hF
    · replace hF := hF.2 hc_3
      refine rn_aload_n dX2_putBack_72 rfl ?_
      refine rm_getr (r := 5) flRX2_28 rfl (by decide) rfl dX2_putBack_73 ?_
      refine rm_getr (r := 7) flRX2_65 rfl (by decide) rfl dX2_putBack_76 ?_
      refine rn_iload dX2_putBack_79 rfl ?_
      obtain ⟨zj_10, hzj_10, hF⟩ := hF
      refine rj_iald (j := zj_10) hzj_10 rfl (by decide) rfl (by decide) dX2_putBack_81 ?_
      refine rn_iload_n dX2_putBack_82 rfl ?_
      refine rn_icmp_eq (tgt := 90) dX2_putBack_83 (by decide) (fun hc_11 => ?_) (fun hc_11 => ?_)
      · replace hF := hF.1 hc_11
        refine rn_iconst (x := (0 : Int32)) dX2_putBack_90 (by decide) ?_
        refine ra_istore dX2_putBack_91 rfl (Nat.le_of_ble_eq_true rfl) ?_
        show Rn _ _ _ _ _ _ _ _ [some (rf E 22), some (rf E zs1), some (.int zx2), some (.int zx3), some (.int zx4), some (.int (0 : Int32))] _ _ _
        refine rn_iload dX2_putBack_93 rfl ?_
        refine rn_if_eq (tgt := 111) dX2_putBack_95 (by decide) (fun hc_13 => ?_) (fun hc_13 => ?_)
        · replace hF := hF.1 hc_13
          refine rn_iinc (w := (1 : Int32)) dX2_putBack_111 rfl (by decide) rfl (Nat.le_of_ble_eq_true rfl) (fun zx4_14 ezx4_14 => ?_)
          replace hF := hF zx4_14 ezx4_14
          show Rn _ _ _ _ _ _ _ _ [some (rf E 22), some (rf E zs1), some (.int zx2), some (.int zx3), some (.int zx4_14), some (.int (0 : Int32))] _ _ _
          refine rn_goto (tgt := 41) dX2_putBack_114 (by decide) ?_
          exact rn_wk (L' := [some (rf E 22), some (rf E zs1), some (.int zx2), some (.int zx3), some (.int zx4_14), none]) (⟨rfl, ⟨rfl, ⟨rfl, ⟨rfl, ⟨rfl, trivial⟩⟩⟩⟩⟩) hF
        · replace hF := hF.2 hc_13
          refine rn_aload_n dX2_putBack_98 rfl ?_
          refine rn_aload_n dX2_putBack_99 rfl ?_
          refine rn_bipush (x := (8 : Int32)) dX2_putBack_100 (by decide) ?_
          refine rn_iload_n dX2_putBack_102 rfl ?_
          refine rn_imul dX2_putBack_103 ?_
          refine rn_iload dX2_putBack_104 rfl ?_
          refine rn_iadd dX2_putBack_106 ?_
          refine rm_callV (c0 := 22) (As := [rf E zs1, .int (((8 : Int32) * zx3) + zx4)]) (st := []) mlRX2_91 mdX2_reach (Nat.le_of_ble_eq_true rfl) rfl (by decide) (by decide) rfl rfl rfl (Nat.le_of_ble_eq_true rfl) ⟨Nat.le_refl _, Nat.le_refl _⟩ dX2_putBack_107 ?_
          refine cm_mono hF (fun w zH_15 hF => ?_)
          obtain ⟨zr_16, rfl, hF⟩ := hF
          refine rn_pop dX2_putBack_110 rfl ?_
          refine rn_iinc (w := (1 : Int32)) dX2_putBack_111 rfl (by decide) rfl (Nat.le_of_ble_eq_true rfl) (fun zx4_17 ezx4_17 => ?_)
          replace hF := hF zx4_17 ezx4_17
          show Rn _ _ _ _ _ _ _ _ [some (rf E 22), some (rf E zs1), some (.int zx2), some (.int zx3), some (.int zx4_17), some (.int (0 : Int32))] _ _ _
          refine rn_goto (tgt := 41) dX2_putBack_114 (by decide) ?_
          exact rn_wk (L' := [some (rf E 22), some (rf E zs1), some (.int zx2), some (.int zx3), some (.int zx4_17), none]) (⟨rfl, ⟨rfl, ⟨rfl, ⟨rfl, ⟨rfl, trivial⟩⟩⟩⟩⟩) hF
      · replace hF := hF.2 hc_11
        refine rn_iconst (x := (1 : Int32)) dX2_putBack_86 (by decide) ?_
        refine rn_goto (tgt := 91) dX2_putBack_87 (by decide) ?_
        refine ra_istore dX2_putBack_91 rfl (Nat.le_of_ble_eq_true rfl) ?_
        show Rn _ _ _ _ _ _ _ _ [some (rf E 22), some (rf E zs1), some (.int zx2), some (.int zx3), some (.int zx4), some (.int (1 : Int32))] _ _ _
        refine rn_iload dX2_putBack_93 rfl ?_
        refine rn_if_eq (tgt := 111) dX2_putBack_95 (by decide) (fun hc_19 => ?_) (fun hc_19 => ?_)
        · replace hF := hF.1 hc_19
          refine rn_iinc (w := (1 : Int32)) dX2_putBack_111 rfl (by decide) rfl (Nat.le_of_ble_eq_true rfl) (fun zx4_20 ezx4_20 => ?_)
          replace hF := hF zx4_20 ezx4_20
          show Rn _ _ _ _ _ _ _ _ [some (rf E 22), some (rf E zs1), some (.int zx2), some (.int zx3), some (.int zx4_20), some (.int (1 : Int32))] _ _ _
          refine rn_goto (tgt := 41) dX2_putBack_114 (by decide) ?_
          exact rn_wk (L' := [some (rf E 22), some (rf E zs1), some (.int zx2), some (.int zx3), some (.int zx4_20), none]) (⟨rfl, ⟨rfl, ⟨rfl, ⟨rfl, ⟨rfl, trivial⟩⟩⟩⟩⟩) hF
        · replace hF := hF.2 hc_19
          refine rn_aload_n dX2_putBack_98 rfl ?_
          refine rn_aload_n dX2_putBack_99 rfl ?_
          refine rn_bipush (x := (8 : Int32)) dX2_putBack_100 (by decide) ?_
          refine rn_iload_n dX2_putBack_102 rfl ?_
          refine rn_imul dX2_putBack_103 ?_
          refine rn_iload dX2_putBack_104 rfl ?_
          refine rn_iadd dX2_putBack_106 ?_
          refine rm_callV (c0 := 22) (As := [rf E zs1, .int (((8 : Int32) * zx3) + zx4)]) (st := []) mlRX2_91 mdX2_reach (Nat.le_of_ble_eq_true rfl) rfl (by decide) (by decide) rfl rfl rfl (Nat.le_of_ble_eq_true rfl) ⟨Nat.le_refl _, Nat.le_refl _⟩ dX2_putBack_107 ?_
          refine cm_mono hF (fun w zH_21 hF => ?_)
          obtain ⟨zr_22, rfl, hF⟩ := hF
          refine rn_pop dX2_putBack_110 rfl ?_
          refine rn_iinc (w := (1 : Int32)) dX2_putBack_111 rfl (by decide) rfl (Nat.le_of_ble_eq_true rfl) (fun zx4_23 ezx4_23 => ?_)
          replace hF := hF zx4_23 ezx4_23
          show Rn _ _ _ _ _ _ _ _ [some (rf E 22), some (rf E zs1), some (.int zx2), some (.int zx3), some (.int zx4_23), some (.int (1 : Int32))] _ _ _
          refine rn_goto (tgt := 41) dX2_putBack_114 (by decide) ?_
          exact rn_wk (L' := [some (rf E 22), some (rf E zs1), some (.int zx2), some (.int zx3), some (.int zx4_23), none]) (⟨rfl, ⟨rfl, ⟨rfl, ⟨rfl, ⟨rfl, trivial⟩⟩⟩⟩⟩) hF
theorem sgX2_tell_0 {E : En} {Q : Option Value → Hi → Prop} {H : Hi} {zs1 : Nat} {zx2 : Int32} {zx3 : Int32} (hs1 : isSt zs1)
    (hF : Rm E mX2_tell Q 6 [some (rf E 22), some (rf E zs1), none, some (.int zx3), some (.int (0 : Int32)), some (.int zx2), none] [] H) :
    Rm E mX2_tell Q 0 [some (rf E 22), some (rf E zs1), some (.int zx2), some (.int zx3), none, none, none] [] H := by
  refine rn_iconst (x := (0 : Int32)) dX2_tell_0 (by decide) ?_
  refine ra_istore dX2_tell_1 rfl (Nat.le_of_ble_eq_true rfl) ?_
  show Rn _ _ _ _ _ _ _ _ [some (rf E 22), some (rf E zs1), some (.int zx2), some (.int zx3), some (.int (0 : Int32)), none, none] _ _ _
  refine rn_iload_n dX2_tell_3 rfl ?_
  refine ra_istore dX2_tell_4 rfl (Nat.le_of_ble_eq_true rfl) ?_
  show Rn _ _ _ _ _ _ _ _ [some (rf E 22), some (rf E zs1), some (.int zx2), some (.int zx3), some (.int (0 : Int32)), some (.int zx2), none] _ _ _
  exact rn_wk (L' := [some (rf E 22), some (rf E zs1), none, some (.int zx3), some (.int (0 : Int32)), some (.int zx2), none]) (⟨rfl, ⟨rfl, ⟨rfl, ⟨rfl, ⟨rfl, trivial⟩⟩⟩⟩⟩) hF
theorem cmX2_tell {E : En} {Q : Option Value → Hi → Prop} {H : Hi} {zs1 : Nat} {zx2 : Int32} {zx3 : Int32} (hs1 : isSt zs1)
    (hF : Rm E mX2_tell Q 6 [some (rf E 22), some (rf E zs1), none, some (.int zx3), some (.int (0 : Int32)), some (.int zx2), none] [] H) :
    Cm E mX2_tell [rf E 22, rf E zs1, .int zx2, .int zx3] H Q :=
  cm_of (by decide +kernel : plainName RX2 = true) (Nat.le_of_ble_eq_true rfl) rfl (sgX2_tell_0 hs1 hF)
theorem sgX2_tell_6 {E : En} {Q : Option Value → Hi → Prop} {H : Hi} {zs1 : Nat} {zx3 : Int32} {zx4 : Int32} {zx5 : Int32} (hs1 : isSt zs1)
    (hF : (zx3 ≤ zx5 → (Q (some (.int zx4)) H)) ∧ (¬ zx3 ≤ zx5 → (∃ zj_2 : Nat, (zj_2 < 20 ∧ zx5 = nI zj_2) ∧ (∀ zx6_3 : Int32, zx6_3 = H 19 zj_2 → (∃ zj_4 : Nat, (zj_4 < 20 ∧ zx6_3 = nI zj_4) ∧ (Cm E mX2_reach [rf E 22, rf E zs1, .int (H 13 zj_4)] H (fun w zH_5 => ∃ zr_6 : Int32, w = some (.int zr_6) ∧ ((zr_6 = 0 → (∀ zx5_8 : Int32, zx5_8 = zx5 + (1 : Int32) → (Rm E mX2_tell Q 6 [some (rf E 22), some (rf E zs1), none, some (.int zx3), some (.int zx4), some (.int zx5_8), none] [] zH_5))) ∧ (¬ zr_6 = 0 → (∀ zx4_9 : Int32, zx4_9 = zx4 ||| ((1 : Int32) <<< (zx6_3 &&& 31)) → (∀ zx5_10 : Int32, zx5_10 = zx5 + (1 : Int32) → (Rm E mX2_tell Q 6 [some (rf E 22), some (rf E zs1), none, some (.int zx3), some (.int zx4_9), some (.int zx5_10), none] [] zH_5)))))))))))) :
    Rm E mX2_tell Q 6 [some (rf E 22), some (rf E zs1), none, some (.int zx3), some (.int zx4), some (.int zx5), none] [] H := by
  refine rn_iload dX2_tell_6 rfl ?_
  refine rn_iload_n dX2_tell_8 rfl ?_
  refine rn_icmp_ge (tgt := 57) dX2_tell_9 (by decide) (fun hc_1 => ?_) (fun hc_1 => ?_)
  · replace hF := hF.1 hc_1
    refine rn_iload dX2_tell_57 rfl ?_
    exact rm_iret rfl dX2_tell_59 hF
  · replace hF := hF.2 hc_1
    refine rn_aload_n dX2_tell_12 rfl ?_
    refine rm_getr (r := 11) flRX2_32 rfl (by decide) rfl dX2_tell_13 ?_
    refine rm_getr (r := 19) flRX2_95 rfl (by decide) rfl dX2_tell_16 ?_
    refine rn_iload dX2_tell_19 rfl ?_
    obtain ⟨zj_2, hzj_2, hF⟩ := hF
    refine rj_iald (j := zj_2) hzj_2 rfl (by decide) rfl (by decide) dX2_tell_21 ?_
    refine rn_istore dX2_tell_22 rfl (Nat.le_of_ble_eq_true rfl) (fun zx6_3 ezx6_3 => ?_)
    replace hF := hF zx6_3 ezx6_3
    show Rn _ _ _ _ _ _ _ _ [some (rf E 22), some (rf E zs1), none, some (.int zx3), some (.int zx4), some (.int zx5), some (.int zx6_3)] _ _ _
    refine rn_aload_n dX2_tell_24 rfl ?_
    refine rn_aload_n dX2_tell_25 rfl ?_
    refine rn_aload_n dX2_tell_26 rfl ?_
    refine rm_getr (r := 11) flRX2_32 rfl (by decide) rfl dX2_tell_27 ?_
    refine rm_getr (r := 13) flRX2_98 rfl (by decide) rfl dX2_tell_30 ?_
    refine rn_iload dX2_tell_33 rfl ?_
    obtain ⟨zj_4, hzj_4, hF⟩ := hF
    refine rj_iald (j := zj_4) hzj_4 rfl (by decide) rfl (by decide) dX2_tell_35 ?_
    refine rm_callV (c0 := 22) (As := [rf E zs1, .int (H 13 zj_4)]) (st := []) mlRX2_91 mdX2_reach (Nat.le_of_ble_eq_true rfl) rfl (by decide) (by decide) rfl rfl rfl (Nat.le_of_ble_eq_true rfl) ⟨Nat.le_refl _, Nat.le_refl _⟩ dX2_tell_36 ?_
    refine cm_mono hF (fun w zH_5 hF => ?_)
    obtain ⟨zr_6, rfl, hF⟩ := hF
    refine rn_if_eq (tgt := 51) dX2_tell_39 (by decide) (fun hc_7 => ?_) (fun hc_7 => ?_)
    · replace hF := hF.1 hc_7
      refine rn_iinc (w := (1 : Int32)) dX2_tell_51 rfl (by decide) rfl (Nat.le_of_ble_eq_true rfl) (fun zx5_8 ezx5_8 => ?_)
      replace hF := hF zx5_8 ezx5_8
      show Rn _ _ _ _ _ _ _ _ [some (rf E 22), some (rf E zs1), none, some (.int zx3), some (.int zx4), some (.int zx5_8), some (.int zx6_3)] _ _ _
      refine rn_goto (tgt := 6) dX2_tell_54 (by decide) ?_
      exact rn_wk (L' := [some (rf E 22), some (rf E zs1), none, some (.int zx3), some (.int zx4), some (.int zx5_8), none]) (⟨rfl, ⟨rfl, ⟨rfl, ⟨rfl, ⟨rfl, trivial⟩⟩⟩⟩⟩) hF
    · replace hF := hF.2 hc_7
      refine rn_iload dX2_tell_42 rfl ?_
      refine rn_iconst (x := (1 : Int32)) dX2_tell_44 (by decide) ?_
      refine rn_iload dX2_tell_45 rfl ?_
      refine rn_ishl dX2_tell_47 ?_
      refine rn_ior dX2_tell_48 ?_
      refine rn_istore dX2_tell_49 rfl (Nat.le_of_ble_eq_true rfl) (fun zx4_9 ezx4_9 => ?_)
      replace hF := hF zx4_9 ezx4_9
      show Rn _ _ _ _ _ _ _ _ [some (rf E 22), some (rf E zs1), none, some (.int zx3), some (.int zx4_9), some (.int zx5), some (.int zx6_3)] _ _ _
      refine rn_iinc (w := (1 : Int32)) dX2_tell_51 rfl (by decide) rfl (Nat.le_of_ble_eq_true rfl) (fun zx5_10 ezx5_10 => ?_)
      replace hF := hF zx5_10 ezx5_10
      show Rn _ _ _ _ _ _ _ _ [some (rf E 22), some (rf E zs1), none, some (.int zx3), some (.int zx4_9), some (.int zx5_10), some (.int zx6_3)] _ _ _
      refine rn_goto (tgt := 6) dX2_tell_54 (by decide) ?_
      exact rn_wk (L' := [some (rf E 22), some (rf E zs1), none, some (.int zx3), some (.int zx4_9), some (.int zx5_10), none]) (⟨rfl, ⟨rfl, ⟨rfl, ⟨rfl, ⟨rfl, trivial⟩⟩⟩⟩⟩) hF
theorem sgX2_reach_0 {E : En} {Q : Option Value → Hi → Prop} {H : Hi} {zs1 : Nat} {zx2 : Int32} (hs1 : isSt zs1)
    (hF : ∀ zx3_1 : Int32, zx3_1 = zx2 &&& (7 : Int32) → (∀ zx4_2 : Int32, zx4_2 = (zx2 >>> ((3 : Int32) &&& 31)) &&& (7 : Int32) → (((H 5 0) ≤ zx3_1 → (Q (some (.int (0 : Int32))) H)) ∧ (¬ (H 5 0) ≤ zx3_1 → ((zx4_2 < (H 5 1) → (∀ zx5_5 : Int32, zx5_5 = (4 : Int32) * zx3_1 → (∃ zj_6 : Nat, (zj_6 < 8 ∧ zx3_1 = nI zj_6) ∧ (∀ zx6_7 : Int32, zx6_7 = H 6 zj_6 → ((zx2 < (64 : Int32) → ((¬ ((ushr (H zs1 0) zx5_5) &&& (15 : Int32)) = zx4_2 → (Q (some (.int (0 : Int32))) H)) ∧ (((ushr (H zs1 0) zx5_5) &&& (15 : Int32)) = zx4_2 → ((((H zs1 2) + zx6_7) ≤ (H 11 0) → (∀ zH_11 : Hi, zH_11 = up H zs1 0 ((H zs1 0) + (((8 : Int32) - zx4_2) <<< (zx5_5 &&& 31))) → (∀ zH_12 : Hi, zH_12 = up zH_11 zs1 1 ((zH_11 zs1 1) + ((1 : Int32) <<< (zx3_1 &&& 31))) → (∀ zH_13 : Hi, zH_13 = up zH_12 zs1 2 ((zH_12 zs1 2) + zx6_7) → (∀ zH_14 : Hi, zH_14 = up zH_13 zs1 3 ((zH_13 zs1 3) &&& (((1 : Int32) <<< (zx3_1 &&& 31)) ^^^ (-1 : Int32))) → (Q (some (.int (1 : Int32))) zH_14)))))) ∧ (¬ ((H zs1 2) + zx6_7) ≤ (H 11 0) → (Q (some (.int (0 : Int32))) H)))))) ∧ (¬ zx2 < (64 : Int32) → ((¬ (((H zs1 1) >>> (zx3_1 &&& 31)) &&& (1 : Int32)) = 0 → (∀ zH_16 : Hi, zH_16 = up H zs1 0 ((H zs1 0) + ((zx4_2 - (8 : Int32)) <<< (zx5_5 &&& 31))) → (∀ zH_17 : Hi, zH_17 = up zH_16 zs1 1 ((zH_16 zs1 1) - ((1 : Int32) <<< (zx3_1 &&& 31))) → (∀ zH_18 : Hi, zH_18 = up zH_17 zs1 2 ((zH_17 zs1 2) - zx6_7) → (∀ zH_19 : Hi, zH_19 = up zH_18 zs1 3 ((zH_18 zs1 3) ||| ((1 : Int32) <<< (zx3_1 &&& 31))) → (Q (some (.int (1 : Int32))) zH_19)))))) ∧ ((((H zs1 1) >>> (zx3_1 &&& 31)) &&& (1 : Int32)) = 0 → (Q (some (.int (0 : Int32))) H))))))))) ∧ (¬ zx4_2 < (H 5 1) → (Q (some (.int (0 : Int32))) H))))))) :
    Rm E mX2_reach Q 0 [some (rf E 22), some (rf E zs1), some (.int zx2), none, none, none, none] [] H := by
  refine rn_iload_n dX2_reach_0 rfl ?_
  refine rn_bipush (x := (7 : Int32)) dX2_reach_1 (by decide) ?_
  refine rn_iand dX2_reach_3 ?_
  refine rn_istore_n dX2_reach_4 rfl (Nat.le_of_ble_eq_true rfl) (fun zx3_1 ezx3_1 => ?_)
  replace hF := hF zx3_1 ezx3_1
  show Rn _ _ _ _ _ _ _ _ [some (rf E 22), some (rf E zs1), some (.int zx2), some (.int zx3_1), none, none, none] _ _ _
  refine rn_iload_n dX2_reach_5 rfl ?_
  refine rn_iconst (x := (3 : Int32)) dX2_reach_6 (by decide) ?_
  refine rn_ishr dX2_reach_7 ?_
  refine rn_bipush (x := (7 : Int32)) dX2_reach_8 (by decide) ?_
  refine rn_iand dX2_reach_10 ?_
  refine rn_istore dX2_reach_11 rfl (Nat.le_of_ble_eq_true rfl) (fun zx4_2 ezx4_2 => ?_)
  replace hF := hF zx4_2 ezx4_2
  show Rn _ _ _ _ _ _ _ _ [some (rf E 22), some (rf E zs1), some (.int zx2), some (.int zx3_1), some (.int zx4_2), none, none] _ _ _
  refine rn_iload_n dX2_reach_13 rfl ?_
  refine rn_aload_n dX2_reach_14 rfl ?_
  refine rm_getr (r := 5) flRX2_28 rfl (by decide) rfl dX2_reach_15 ?_
  refine rm_geti flRX2_60 rfl (by decide) rfl dX2_reach_18 ?_
  refine rn_icmp_ge (tgt := 36) dX2_reach_21 (by decide) (fun hc_3 => ?_) (fun hc_3 => ?_)
  · replace hF := hF.1 hc_3
    refine rn_iconst (x := (0 : Int32)) dX2_reach_36 (by decide) ?_
    exact rm_zret rfl rfl dX2_reach_37 hF
  · replace hF := hF.2 hc_3
    refine rn_iload dX2_reach_24 rfl ?_
    refine rn_aload_n dX2_reach_26 rfl ?_
    refine rm_getr (r := 5) flRX2_28 rfl (by decide) rfl dX2_reach_27 ?_
    refine rm_geti flRX2_69 rfl (by decide) rfl dX2_reach_30 ?_
    refine rn_icmp_lt (tgt := 38) dX2_reach_33 (by decide) (fun hc_4 => ?_) (fun hc_4 => ?_)
    · replace hF := hF.1 hc_4
      refine rn_iconst (x := (4 : Int32)) dX2_reach_38 (by decide) ?_
      refine rn_iload_n dX2_reach_39 rfl ?_
      refine rn_imul dX2_reach_40 ?_
      refine rn_istore dX2_reach_41 rfl (Nat.le_of_ble_eq_true rfl) (fun zx5_5 ezx5_5 => ?_)
      replace hF := hF zx5_5 ezx5_5
      show Rn _ _ _ _ _ _ _ _ [some (rf E 22), some (rf E zs1), some (.int zx2), some (.int zx3_1), some (.int zx4_2), some (.int zx5_5), none] _ _ _
      refine rn_aload_n dX2_reach_43 rfl ?_
      refine rm_getr (r := 5) flRX2_28 rfl (by decide) rfl dX2_reach_44 ?_
      refine rm_getr (r := 6) flRX2_101 rfl (by decide) rfl dX2_reach_47 ?_
      refine rn_iload_n dX2_reach_50 rfl ?_
      obtain ⟨zj_6, hzj_6, hF⟩ := hF
      refine rj_iald (j := zj_6) hzj_6 rfl (by decide) rfl (by decide) dX2_reach_51 ?_
      refine rn_istore dX2_reach_52 rfl (Nat.le_of_ble_eq_true rfl) (fun zx6_7 ezx6_7 => ?_)
      replace hF := hF zx6_7 ezx6_7
      show Rn _ _ _ _ _ _ _ _ [some (rf E 22), some (rf E zs1), some (.int zx2), some (.int zx3_1), some (.int zx4_2), some (.int zx5_5), some (.int zx6_7)] _ _ _
      refine rn_iload_n dX2_reach_54 rfl ?_
      refine rn_bipush (x := (64 : Int32)) dX2_reach_55 (by decide) ?_
      refine rn_icmp_lt (tgt := 127) dX2_reach_57 (by decide) (fun hc_8 => ?_) (fun hc_8 => ?_)
      · replace hF := hF.1 hc_8
        refine rn_aload_n dX2_reach_127 rfl ?_
        refine rm_geti flRX2_72 hs1.2.1 hs1.1 (rT_row hs1.2.2 _) dX2_reach_128 ?_
        refine rn_iload dX2_reach_131 rfl ?_
        refine rn_iushr dX2_reach_133 ?_
        refine rn_bipush (x := (15 : Int32)) dX2_reach_134 (by decide) ?_
        refine rn_iand dX2_reach_136 ?_
        refine rn_iload dX2_reach_137 rfl ?_
        refine rn_icmp_ne (tgt := 159) dX2_reach_139 (by decide) (fun hc_9 => ?_) (fun hc_9 => ?_)
        · replace hF := hF.1 hc_9
          refine rn_iconst (x := (0 : Int32)) dX2_reach_159 (by decide) ?_
          exact rm_zret rfl rfl dX2_reach_160 hF
        · replace hF := hF.2 hc_9
          refine rn_aload_n dX2_reach_142 rfl ?_
          refine rm_geti flRX2_107 hs1.2.1 hs1.1 (rT_row hs1.2.2 _) dX2_reach_143 ?_
          refine rn_iload dX2_reach_146 rfl ?_
          refine rn_iadd dX2_reach_148 ?_
          refine rn_aload_n dX2_reach_149 rfl ?_
          refine rm_getr (r := 11) flRX2_32 rfl (by decide) rfl dX2_reach_150 ?_
          refine rm_geti flRX2_110 rfl (by decide) rfl dX2_reach_153 ?_
          refine rn_icmp_le (tgt := 161) dX2_reach_156 (by decide) (fun hc_10 => ?_) (fun hc_10 => ?_)
          · replace hF := hF.1 hc_10
            refine rn_aload_n dX2_reach_161 rfl ?_
            refine rn_dup dX2_reach_162 rfl ?_
            refine rm_geti flRX2_72 hs1.2.1 hs1.1 (rT_row hs1.2.2 _) dX2_reach_163 ?_
            refine rn_bipush (x := (8 : Int32)) dX2_reach_166 (by decide) ?_
            refine rn_iload dX2_reach_168 rfl ?_
            refine rn_isub dX2_reach_170 ?_
            refine rn_iload dX2_reach_171 rfl ?_
            refine rn_ishl dX2_reach_173 ?_
            refine rn_iadd dX2_reach_174 ?_
            refine rm_puti flRX2_72 hs1.2.1 hs1.1 (rT_row hs1.2.2 _) dX2_reach_175 (fun zH_11 ezH_11 => ?_)
            replace hF := hF zH_11 ezH_11
            refine rn_aload_n dX2_reach_178 rfl ?_
            refine rn_dup dX2_reach_179 rfl ?_
            refine rm_geti flRX2_104 hs1.2.1 hs1.1 (rT_row hs1.2.2 _) dX2_reach_180 ?_
            refine rn_iconst (x := (1 : Int32)) dX2_reach_183 (by decide) ?_
            refine rn_iload_n dX2_reach_184 rfl ?_
            refine rn_ishl dX2_reach_185 ?_
            refine rn_iadd dX2_reach_186 ?_
            refine rm_puti flRX2_104 hs1.2.1 hs1.1 (rT_row hs1.2.2 _) dX2_reach_187 (fun zH_12 ezH_12 => ?_)
            replace hF := hF zH_12 ezH_12
            refine rn_aload_n dX2_reach_190 rfl ?_
            refine rn_dup dX2_reach_191 rfl ?_
            refine rm_geti flRX2_107 hs1.2.1 hs1.1 (rT_row hs1.2.2 _) dX2_reach_192 ?_
            refine rn_iload dX2_reach_195 rfl ?_
            refine rn_iadd dX2_reach_197 ?_
            refine rm_puti flRX2_107 hs1.2.1 hs1.1 (rT_row hs1.2.2 _) dX2_reach_198 (fun zH_13 ezH_13 => ?_)
            replace hF := hF zH_13 ezH_13
            refine rn_aload_n dX2_reach_201 rfl ?_
            refine rn_dup dX2_reach_202 rfl ?_
            refine rm_geti flRX2_85 hs1.2.1 hs1.1 (rT_row hs1.2.2 _) dX2_reach_203 ?_
            refine rn_iconst (x := (1 : Int32)) dX2_reach_206 (by decide) ?_
            refine rn_iload_n dX2_reach_207 rfl ?_
            refine rn_ishl dX2_reach_208 ?_
            refine rn_iconst (x := (-1 : Int32)) dX2_reach_209 (by decide) ?_
            refine rn_ixor dX2_reach_210 ?_
            refine rn_iand dX2_reach_211 ?_
            refine rm_puti flRX2_85 hs1.2.1 hs1.1 (rT_row hs1.2.2 _) dX2_reach_212 (fun zH_14 ezH_14 => ?_)
            replace hF := hF zH_14 ezH_14
            refine rn_iconst (x := (1 : Int32)) dX2_reach_215 (by decide) ?_
            exact rm_zret rfl rfl dX2_reach_216 hF
          · replace hF := hF.2 hc_10
            refine rn_iconst (x := (0 : Int32)) dX2_reach_159 (by decide) ?_
            exact rm_zret rfl rfl dX2_reach_160 hF
      · replace hF := hF.2 hc_8
        refine rn_aload_n dX2_reach_60 rfl ?_
        refine rm_geti flRX2_104 hs1.2.1 hs1.1 (rT_row hs1.2.2 _) dX2_reach_61 ?_
        refine rn_iload_n dX2_reach_64 rfl ?_
        refine rn_ishr dX2_reach_65 ?_
        refine rn_iconst (x := (1 : Int32)) dX2_reach_66 (by decide) ?_
        refine rn_iand dX2_reach_67 ?_
        refine rn_if_ne (tgt := 73) dX2_reach_68 (by decide) (fun hc_15 => ?_) (fun hc_15 => ?_)
        · replace hF := hF.1 hc_15
          refine rn_aload_n dX2_reach_73 rfl ?_
          refine rn_dup dX2_reach_74 rfl ?_
          refine rm_geti flRX2_72 hs1.2.1 hs1.1 (rT_row hs1.2.2 _) dX2_reach_75 ?_
          refine rn_iload dX2_reach_78 rfl ?_
          refine rn_bipush (x := (8 : Int32)) dX2_reach_80 (by decide) ?_
          refine rn_isub dX2_reach_82 ?_
          refine rn_iload dX2_reach_83 rfl ?_
          refine rn_ishl dX2_reach_85 ?_
          refine rn_iadd dX2_reach_86 ?_
          refine rm_puti flRX2_72 hs1.2.1 hs1.1 (rT_row hs1.2.2 _) dX2_reach_87 (fun zH_16 ezH_16 => ?_)
          replace hF := hF zH_16 ezH_16
          refine rn_aload_n dX2_reach_90 rfl ?_
          refine rn_dup dX2_reach_91 rfl ?_
          refine rm_geti flRX2_104 hs1.2.1 hs1.1 (rT_row hs1.2.2 _) dX2_reach_92 ?_
          refine rn_iconst (x := (1 : Int32)) dX2_reach_95 (by decide) ?_
          refine rn_iload_n dX2_reach_96 rfl ?_
          refine rn_ishl dX2_reach_97 ?_
          refine rn_isub dX2_reach_98 ?_
          refine rm_puti flRX2_104 hs1.2.1 hs1.1 (rT_row hs1.2.2 _) dX2_reach_99 (fun zH_17 ezH_17 => ?_)
          replace hF := hF zH_17 ezH_17
          refine rn_aload_n dX2_reach_102 rfl ?_
          refine rn_dup dX2_reach_103 rfl ?_
          refine rm_geti flRX2_107 hs1.2.1 hs1.1 (rT_row hs1.2.2 _) dX2_reach_104 ?_
          refine rn_iload dX2_reach_107 rfl ?_
          refine rn_isub dX2_reach_109 ?_
          refine rm_puti flRX2_107 hs1.2.1 hs1.1 (rT_row hs1.2.2 _) dX2_reach_110 (fun zH_18 ezH_18 => ?_)
          replace hF := hF zH_18 ezH_18
          refine rn_aload_n dX2_reach_113 rfl ?_
          refine rn_dup dX2_reach_114 rfl ?_
          refine rm_geti flRX2_85 hs1.2.1 hs1.1 (rT_row hs1.2.2 _) dX2_reach_115 ?_
          refine rn_iconst (x := (1 : Int32)) dX2_reach_118 (by decide) ?_
          refine rn_iload_n dX2_reach_119 rfl ?_
          refine rn_ishl dX2_reach_120 ?_
          refine rn_ior dX2_reach_121 ?_
          refine rm_puti flRX2_85 hs1.2.1 hs1.1 (rT_row hs1.2.2 _) dX2_reach_122 (fun zH_19 ezH_19 => ?_)
          replace hF := hF zH_19 ezH_19
          refine rn_iconst (x := (1 : Int32)) dX2_reach_125 (by decide) ?_
          exact rm_zret rfl rfl dX2_reach_126 hF
        · replace hF := hF.2 hc_15
          refine rn_iconst (x := (0 : Int32)) dX2_reach_71 (by decide) ?_
          exact rm_zret rfl rfl dX2_reach_72 hF
    · replace hF := hF.2 hc_4
      refine rn_iconst (x := (0 : Int32)) dX2_reach_36 (by decide) ?_
      exact rm_zret rfl rfl dX2_reach_37 hF
theorem cmX2_reach {E : En} {Q : Option Value → Hi → Prop} {H : Hi} {zs1 : Nat} {zx2 : Int32} (hs1 : isSt zs1)
    (hF : ∀ zx3_1 : Int32, zx3_1 = zx2 &&& (7 : Int32) → (∀ zx4_2 : Int32, zx4_2 = (zx2 >>> ((3 : Int32) &&& 31)) &&& (7 : Int32) → (((H 5 0) ≤ zx3_1 → (Q (some (.int (0 : Int32))) H)) ∧ (¬ (H 5 0) ≤ zx3_1 → ((zx4_2 < (H 5 1) → (∀ zx5_5 : Int32, zx5_5 = (4 : Int32) * zx3_1 → (∃ zj_6 : Nat, (zj_6 < 8 ∧ zx3_1 = nI zj_6) ∧ (∀ zx6_7 : Int32, zx6_7 = H 6 zj_6 → ((zx2 < (64 : Int32) → ((¬ ((ushr (H zs1 0) zx5_5) &&& (15 : Int32)) = zx4_2 → (Q (some (.int (0 : Int32))) H)) ∧ (((ushr (H zs1 0) zx5_5) &&& (15 : Int32)) = zx4_2 → ((((H zs1 2) + zx6_7) ≤ (H 11 0) → (∀ zH_11 : Hi, zH_11 = up H zs1 0 ((H zs1 0) + (((8 : Int32) - zx4_2) <<< (zx5_5 &&& 31))) → (∀ zH_12 : Hi, zH_12 = up zH_11 zs1 1 ((zH_11 zs1 1) + ((1 : Int32) <<< (zx3_1 &&& 31))) → (∀ zH_13 : Hi, zH_13 = up zH_12 zs1 2 ((zH_12 zs1 2) + zx6_7) → (∀ zH_14 : Hi, zH_14 = up zH_13 zs1 3 ((zH_13 zs1 3) &&& (((1 : Int32) <<< (zx3_1 &&& 31)) ^^^ (-1 : Int32))) → (Q (some (.int (1 : Int32))) zH_14)))))) ∧ (¬ ((H zs1 2) + zx6_7) ≤ (H 11 0) → (Q (some (.int (0 : Int32))) H)))))) ∧ (¬ zx2 < (64 : Int32) → ((¬ (((H zs1 1) >>> (zx3_1 &&& 31)) &&& (1 : Int32)) = 0 → (∀ zH_16 : Hi, zH_16 = up H zs1 0 ((H zs1 0) + ((zx4_2 - (8 : Int32)) <<< (zx5_5 &&& 31))) → (∀ zH_17 : Hi, zH_17 = up zH_16 zs1 1 ((zH_16 zs1 1) - ((1 : Int32) <<< (zx3_1 &&& 31))) → (∀ zH_18 : Hi, zH_18 = up zH_17 zs1 2 ((zH_17 zs1 2) - zx6_7) → (∀ zH_19 : Hi, zH_19 = up zH_18 zs1 3 ((zH_18 zs1 3) ||| ((1 : Int32) <<< (zx3_1 &&& 31))) → (Q (some (.int (1 : Int32))) zH_19)))))) ∧ ((((H zs1 1) >>> (zx3_1 &&& 31)) &&& (1 : Int32)) = 0 → (Q (some (.int (0 : Int32))) H))))))))) ∧ (¬ zx4_2 < (H 5 1) → (Q (some (.int (0 : Int32))) H))))))) :
    Cm E mX2_reach [rf E 22, rf E zs1, .int zx2] H Q :=
  cm_of (by decide +kernel : plainName RX2 = true) (Nat.le_of_ble_eq_true rfl) rfl (sgX2_reach_0 hs1 hF)
theorem sgX2_close_0 {E : En} {Q : Option Value → Hi → Prop} {H : Hi} {zs1 : Nat} {zx2 : Int32} {zx3 : Int32} (hs1 : isSt zs1)
    (hF : ∃ zj_1 : Nat, (zj_1 < 24 ∧ zx2 = nI zj_1) ∧ (∃ zj_2 : Nat, (zj_2 < 10 ∧ H 21 zj_1 = nI zj_2) ∧ (Cm E mX2_spill [rf E 22, rf E zs1, .int ((H zs1 1) &&& (H 10 zj_2))] H (fun w zH_3 => w = none ∧ (∀ zx4_4 : Int32, zx4_4 = zH_3 zs1 1 → (Cm E mX2_spill [rf E 22, rf E zs1, .int (((zx4_4 &&& (zH_3 zs1 4)) &&& (zH_3 zs1 5)) &&& (zH_3 5 7))] zH_3 (fun w zH_5 => w = none ∧ (∀ zH_6 : Hi, zH_6 = up zH_5 zs1 5 (zH_5 zs1 4) → (∀ zH_7 : Hi, zH_7 = up zH_6 zs1 4 zx4_4 → ((((zx3 >>> (zx2 &&& 31)) &&& (1 : Int32)) = 0 → (Q none zH_7)) ∧ (¬ ((zx3 >>> (zx2 &&& 31)) &&& (1 : Int32)) = 0 → (Cm E mX2_sendHome [rf E 22, rf E zs1] zH_7 (fun w zH_9 => w = none ∧ (Q none zH_9)))))))))))))) :
    Rm E mX2_close Q 0 [some (rf E 22), some (rf E zs1), some (.int zx2), some (.int zx3), none] [] H := by
  refine rn_aload_n dX2_close_0 rfl ?_
  refine rn_aload_n dX2_close_1 rfl ?_
  refine rn_aload_n dX2_close_2 rfl ?_
  refine rm_geti flRX2_104 hs1.2.1 hs1.1 (rT_row hs1.2.2 _) dX2_close_3 ?_
  refine rn_aload_n dX2_close_6 rfl ?_
  refine rm_getr (r := 5) flRX2_28 rfl (by decide) rfl dX2_close_7 ?_
  refine rm_getr (r := 10) flRX2_113 rfl (by decide) rfl dX2_close_10 ?_
  refine rn_aload_n dX2_close_13 rfl ?_
  refine rm_getr (r := 11) flRX2_32 rfl (by decide) rfl dX2_close_14 ?_
  refine rm_getr (r := 21) flRX2_116 rfl (by decide) rfl dX2_close_17 ?_
  refine rn_iload_n dX2_close_20 rfl ?_
  obtain ⟨zj_1, hzj_1, hF⟩ := hF
  refine rj_iald (j := zj_1) hzj_1 rfl (by decide) rfl (by decide) dX2_close_21 ?_
  obtain ⟨zj_2, hzj_2, hF⟩ := hF
  refine rj_iald (j := zj_2) hzj_2 rfl (by decide) rfl (by decide) dX2_close_22 ?_
  refine rn_iand dX2_close_23 ?_
  refine rm_callV (c0 := 22) (As := [rf E zs1, .int ((H zs1 1) &&& (H 10 zj_2))]) (st := []) mlRX2_119 mdX2_spill (Nat.le_of_ble_eq_true rfl) rfl (by decide) (by decide) rfl rfl rfl (Nat.le_of_ble_eq_true rfl) ⟨Nat.le_refl _, Nat.le_refl _⟩ dX2_close_24 ?_
  refine cm_mono hF (fun w zH_3 hF => ?_)
  obtain ⟨rfl, hF⟩ := hF
  refine rn_aload_n dX2_close_27 rfl ?_
  refine rm_geti flRX2_104 hs1.2.1 hs1.1 (rT_row hs1.2.2 _) dX2_close_28 ?_
  refine rn_istore dX2_close_31 rfl (Nat.le_of_ble_eq_true rfl) (fun zx4_4 ezx4_4 => ?_)
  replace hF := hF zx4_4 ezx4_4
  show Rn _ _ _ _ _ _ _ _ [some (rf E 22), some (rf E zs1), some (.int zx2), some (.int zx3), some (.int zx4_4)] _ _ _
  refine rn_aload_n dX2_close_33 rfl ?_
  refine rn_aload_n dX2_close_34 rfl ?_
  refine rn_iload dX2_close_35 rfl ?_
  refine rn_aload_n dX2_close_37 rfl ?_
  refine rm_geti flRX2_123 hs1.2.1 hs1.1 (rT_row hs1.2.2 _) dX2_close_38 ?_
  refine rn_iand dX2_close_41 ?_
  refine rn_aload_n dX2_close_42 rfl ?_
  refine rm_geti flRX2_126 hs1.2.1 hs1.1 (rT_row hs1.2.2 _) dX2_close_43 ?_
  refine rn_iand dX2_close_46 ?_
  refine rn_aload_n dX2_close_47 rfl ?_
  refine rm_getr (r := 5) flRX2_28 rfl (by decide) rfl dX2_close_48 ?_
  refine rm_geti flRX2_129 rfl (by decide) rfl dX2_close_51 ?_
  refine rn_iand dX2_close_54 ?_
  refine rm_callV (c0 := 22) (As := [rf E zs1, .int (((zx4_4 &&& (zH_3 zs1 4)) &&& (zH_3 zs1 5)) &&& (zH_3 5 7))]) (st := []) mlRX2_119 mdX2_spill (Nat.le_of_ble_eq_true rfl) rfl (by decide) (by decide) rfl rfl rfl (Nat.le_of_ble_eq_true rfl) ⟨Nat.le_refl _, Nat.le_refl _⟩ dX2_close_55 ?_
  refine cm_mono hF (fun w zH_5 hF => ?_)
  obtain ⟨rfl, hF⟩ := hF
  refine rn_aload_n dX2_close_58 rfl ?_
  refine rn_aload_n dX2_close_59 rfl ?_
  refine rm_geti flRX2_123 hs1.2.1 hs1.1 (rT_row hs1.2.2 _) dX2_close_60 ?_
  refine rm_puti flRX2_126 hs1.2.1 hs1.1 (rT_row hs1.2.2 _) dX2_close_63 (fun zH_6 ezH_6 => ?_)
  replace hF := hF zH_6 ezH_6
  refine rn_aload_n dX2_close_66 rfl ?_
  refine rn_iload dX2_close_67 rfl ?_
  refine rm_puti flRX2_123 hs1.2.1 hs1.1 (rT_row hs1.2.2 _) dX2_close_69 (fun zH_7 ezH_7 => ?_)
  replace hF := hF zH_7 ezH_7
  refine rn_iload_n dX2_close_72 rfl ?_
  refine rn_iload_n dX2_close_73 rfl ?_
  refine rn_ishr dX2_close_74 ?_
  refine rn_iconst (x := (1 : Int32)) dX2_close_75 (by decide) ?_
  refine rn_iand dX2_close_76 ?_
  refine rn_if_eq (tgt := 85) dX2_close_77 (by decide) (fun hc_8 => ?_) (fun hc_8 => ?_)
  · replace hF := hF.1 hc_8
    exact rm_vret rfl dX2_close_85 hF
  · replace hF := hF.2 hc_8
    refine rn_aload_n dX2_close_80 rfl ?_
    refine rn_aload_n dX2_close_81 rfl ?_
    refine rm_callV (c0 := 22) (As := [rf E zs1]) (st := []) mlRX2_132 mdX2_sendHome (Nat.le_of_ble_eq_true rfl) rfl (by decide) (by decide) rfl rfl rfl (Nat.le_of_ble_eq_true rfl) ⟨Nat.le_refl _, Nat.le_refl _⟩ dX2_close_82 ?_
    refine cm_mono hF (fun w zH_9 hF => ?_)
    obtain ⟨rfl, hF⟩ := hF
    exact rm_vret rfl dX2_close_85 hF
theorem cmX2_close {E : En} {Q : Option Value → Hi → Prop} {H : Hi} {zs1 : Nat} {zx2 : Int32} {zx3 : Int32} (hs1 : isSt zs1)
    (hF : ∃ zj_1 : Nat, (zj_1 < 24 ∧ zx2 = nI zj_1) ∧ (∃ zj_2 : Nat, (zj_2 < 10 ∧ H 21 zj_1 = nI zj_2) ∧ (Cm E mX2_spill [rf E 22, rf E zs1, .int ((H zs1 1) &&& (H 10 zj_2))] H (fun w zH_3 => w = none ∧ (∀ zx4_4 : Int32, zx4_4 = zH_3 zs1 1 → (Cm E mX2_spill [rf E 22, rf E zs1, .int (((zx4_4 &&& (zH_3 zs1 4)) &&& (zH_3 zs1 5)) &&& (zH_3 5 7))] zH_3 (fun w zH_5 => w = none ∧ (∀ zH_6 : Hi, zH_6 = up zH_5 zs1 5 (zH_5 zs1 4) → (∀ zH_7 : Hi, zH_7 = up zH_6 zs1 4 zx4_4 → ((((zx3 >>> (zx2 &&& 31)) &&& (1 : Int32)) = 0 → (Q none zH_7)) ∧ (¬ ((zx3 >>> (zx2 &&& 31)) &&& (1 : Int32)) = 0 → (Cm E mX2_sendHome [rf E 22, rf E zs1] zH_7 (fun w zH_9 => w = none ∧ (Q none zH_9)))))))))))))) :
    Cm E mX2_close [rf E 22, rf E zs1, .int zx2, .int zx3] H Q :=
  cm_of (by decide +kernel : plainName RX2 = true) (Nat.le_of_ble_eq_true rfl) rfl (sgX2_close_0 hs1 hF)
theorem sgX2_spill_0 {E : En} {Q : Option Value → Hi → Prop} {H : Hi} {zs1 : Nat} {zx2 : Int32} (hs1 : isSt zs1)
    (hF : (¬ zx2 = 0 → (Rm E mX2_spill Q 7 [some (rf E 22), some (rf E zs1), some (.int zx2), some (.int (0 : Int32))] [] H)) ∧ (zx2 = 0 → (Q none H))) :
    Rm E mX2_spill Q 0 [some (rf E 22), some (rf E zs1), some (.int zx2), none] [] H := by
  refine rn_iload_n dX2_spill_0 rfl ?_
  refine rn_if_ne (tgt := 5) dX2_spill_1 (by decide) (fun hc_1 => ?_) (fun hc_1 => ?_)
  · replace hF := hF.1 hc_1
    refine rn_iconst (x := (0 : Int32)) dX2_spill_5 (by decide) ?_
    refine ra_istore_n dX2_spill_6 rfl (Nat.le_of_ble_eq_true rfl) ?_
    show Rn _ _ _ _ _ _ _ _ [some (rf E 22), some (rf E zs1), some (.int zx2), some (.int (0 : Int32))] _ _ _
    exact rn_wk (L' := [some (rf E 22), some (rf E zs1), some (.int zx2), some (.int (0 : Int32))]) (⟨rfl, ⟨rfl, ⟨rfl, ⟨rfl, trivial⟩⟩⟩⟩) hF
  · replace hF := hF.2 hc_1
    exact rm_vret rfl dX2_spill_4 hF
theorem cmX2_spill {E : En} {Q : Option Value → Hi → Prop} {H : Hi} {zs1 : Nat} {zx2 : Int32} (hs1 : isSt zs1)
    (hF : (¬ zx2 = 0 → (Rm E mX2_spill Q 7 [some (rf E 22), some (rf E zs1), some (.int zx2), some (.int (0 : Int32))] [] H)) ∧ (zx2 = 0 → (Q none H))) :
    Cm E mX2_spill [rf E 22, rf E zs1, .int zx2] H Q :=
  cm_of (by decide +kernel : plainName RX2 = true) (Nat.le_of_ble_eq_true rfl) rfl (sgX2_spill_0 hs1 hF)
theorem sgX2_spill_7 {E : En} {Q : Option Value → Hi → Prop} {H : Hi} {zs1 : Nat} {zx2 : Int32} {zx3 : Int32} (hs1 : isSt zs1)
    (hF : ((H 5 0) ≤ zx3 → (Q none H)) ∧ (¬ (H 5 0) ≤ zx3 → ((((zx2 >>> (zx3 &&& 31)) &&& (1 : Int32)) = 0 → (∀ zx3_3 : Int32, zx3_3 = zx3 + (1 : Int32) → (Rm E mX2_spill Q 7 [some (rf E 22), some (rf E zs1), some (.int zx2), some (.int zx3_3)] [] H))) ∧ (¬ ((zx2 >>> (zx3 &&& 31)) &&& (1 : Int32)) = 0 → (∀ zH_4 : Hi, zH_4 = up H zs1 0 ((H zs1 0) + ((1 : Int32) <<< (((4 : Int32) * zx3) &&& 31))) → (∀ zH_5 : Hi, zH_5 = up zH_4 zs1 1 ((zH_4 zs1 1) - ((1 : Int32) <<< (zx3 &&& 31))) → (∃ zj_6 : Nat, (zj_6 < 8 ∧ zx3 = nI zj_6) ∧ (∀ zH_7 : Hi, zH_7 = up zH_5 zs1 2 ((zH_5 zs1 2) - (zH_5 6 zj_6)) → (∀ zx3_8 : Int32, zx3_8 = zx3 + (1 : Int32) → (Rm E mX2_spill Q 7 [some (rf E 22), some (rf E zs1), some (.int zx2), some (.int zx3_8)] [] zH_7)))))))))) :
    Rm E mX2_spill Q 7 [some (rf E 22), some (rf E zs1), some (.int zx2), some (.int zx3)] [] H := by
  refine rn_iload_n dX2_spill_7 rfl ?_
  refine rn_aload_n dX2_spill_8 rfl ?_
  refine rm_getr (r := 5) flRX2_28 rfl (by decide) rfl dX2_spill_9 ?_
  refine rm_geti flRX2_60 rfl (by decide) rfl dX2_spill_12 ?_
  refine rn_icmp_ge (tgt := 76) dX2_spill_15 (by decide) (fun hc_1 => ?_) (fun hc_1 => ?_)
  · replace hF := hF.1 hc_1
    exact rm_vret rfl dX2_spill_76 hF
  · replace hF := hF.2 hc_1
    refine rn_iload_n dX2_spill_18 rfl ?_
    refine rn_iload_n dX2_spill_19 rfl ?_
    refine rn_ishr dX2_spill_20 ?_
    refine rn_iconst (x := (1 : Int32)) dX2_spill_21 (by decide) ?_
    refine rn_iand dX2_spill_22 ?_
    refine rn_if_eq (tgt := 70) dX2_spill_23 (by decide) (fun hc_2 => ?_) (fun hc_2 => ?_)
    · replace hF := hF.1 hc_2
      refine rn_iinc (w := (1 : Int32)) dX2_spill_70 rfl (by decide) rfl (Nat.le_of_ble_eq_true rfl) (fun zx3_3 ezx3_3 => ?_)
      replace hF := hF zx3_3 ezx3_3
      show Rn _ _ _ _ _ _ _ _ [some (rf E 22), some (rf E zs1), some (.int zx2), some (.int zx3_3)] _ _ _
      refine rn_goto (tgt := 7) dX2_spill_73 (by decide) ?_
      exact rn_wk (L' := [some (rf E 22), some (rf E zs1), some (.int zx2), some (.int zx3_3)]) (⟨rfl, ⟨rfl, ⟨rfl, ⟨rfl, trivial⟩⟩⟩⟩) hF
    · replace hF := hF.2 hc_2
      refine rn_aload_n dX2_spill_26 rfl ?_
      refine rn_dup dX2_spill_27 rfl ?_
      refine rm_geti flRX2_72 hs1.2.1 hs1.1 (rT_row hs1.2.2 _) dX2_spill_28 ?_
      refine rn_iconst (x := (1 : Int32)) dX2_spill_31 (by decide) ?_
      refine rn_iconst (x := (4 : Int32)) dX2_spill_32 (by decide) ?_
      refine rn_iload_n dX2_spill_33 rfl ?_
      refine rn_imul dX2_spill_34 ?_
      refine rn_ishl dX2_spill_35 ?_
      refine rn_iadd dX2_spill_36 ?_
      refine rm_puti flRX2_72 hs1.2.1 hs1.1 (rT_row hs1.2.2 _) dX2_spill_37 (fun zH_4 ezH_4 => ?_)
      replace hF := hF zH_4 ezH_4
      refine rn_aload_n dX2_spill_40 rfl ?_
      refine rn_dup dX2_spill_41 rfl ?_
      refine rm_geti flRX2_104 hs1.2.1 hs1.1 (rT_row hs1.2.2 _) dX2_spill_42 ?_
      refine rn_iconst (x := (1 : Int32)) dX2_spill_45 (by decide) ?_
      refine rn_iload_n dX2_spill_46 rfl ?_
      refine rn_ishl dX2_spill_47 ?_
      refine rn_isub dX2_spill_48 ?_
      refine rm_puti flRX2_104 hs1.2.1 hs1.1 (rT_row hs1.2.2 _) dX2_spill_49 (fun zH_5 ezH_5 => ?_)
      replace hF := hF zH_5 ezH_5
      refine rn_aload_n dX2_spill_52 rfl ?_
      refine rn_dup dX2_spill_53 rfl ?_
      refine rm_geti flRX2_107 hs1.2.1 hs1.1 (rT_row hs1.2.2 _) dX2_spill_54 ?_
      refine rn_aload_n dX2_spill_57 rfl ?_
      refine rm_getr (r := 5) flRX2_28 rfl (by decide) rfl dX2_spill_58 ?_
      refine rm_getr (r := 6) flRX2_101 rfl (by decide) rfl dX2_spill_61 ?_
      refine rn_iload_n dX2_spill_64 rfl ?_
      obtain ⟨zj_6, hzj_6, hF⟩ := hF
      refine rj_iald (j := zj_6) hzj_6 rfl (by decide) rfl (by decide) dX2_spill_65 ?_
      refine rn_isub dX2_spill_66 ?_
      refine rm_puti flRX2_107 hs1.2.1 hs1.1 (rT_row hs1.2.2 _) dX2_spill_67 (fun zH_7 ezH_7 => ?_)
      replace hF := hF zH_7 ezH_7
      refine rn_iinc (w := (1 : Int32)) dX2_spill_70 rfl (by decide) rfl (Nat.le_of_ble_eq_true rfl) (fun zx3_8 ezx3_8 => ?_)
      replace hF := hF zx3_8 ezx3_8
      show Rn _ _ _ _ _ _ _ _ [some (rf E 22), some (rf E zs1), some (.int zx2), some (.int zx3_8)] _ _ _
      refine rn_goto (tgt := 7) dX2_spill_73 (by decide) ?_
      exact rn_wk (L' := [some (rf E 22), some (rf E zs1), some (.int zx2), some (.int zx3_8)]) (⟨rfl, ⟨rfl, ⟨rfl, ⟨rfl, trivial⟩⟩⟩⟩) hF
theorem sgX2_sendHome_0 {E : En} {Q : Option Value → Hi → Prop} {H : Hi} {zs1 : Nat} (hs1 : isSt zs1)
    (hF : Rm E mX2_sendHome Q 2 [some (rf E 22), some (rf E zs1), some (.int (0 : Int32))] [] H) :
    Rm E mX2_sendHome Q 0 [some (rf E 22), some (rf E zs1), none] [] H := by
  refine rn_iconst (x := (0 : Int32)) dX2_sendHome_0 (by decide) ?_
  refine ra_istore_n dX2_sendHome_1 rfl (Nat.le_of_ble_eq_true rfl) ?_
  show Rn _ _ _ _ _ _ _ _ [some (rf E 22), some (rf E zs1), some (.int (0 : Int32))] _ _ _
  exact rn_wk (L' := [some (rf E 22), some (rf E zs1), some (.int (0 : Int32))]) (⟨rfl, ⟨rfl, ⟨rfl, trivial⟩⟩⟩) hF
theorem cmX2_sendHome {E : En} {Q : Option Value → Hi → Prop} {H : Hi} {zs1 : Nat} (hs1 : isSt zs1)
    (hF : Rm E mX2_sendHome Q 2 [some (rf E 22), some (rf E zs1), some (.int (0 : Int32))] [] H) :
    Cm E mX2_sendHome [rf E 22, rf E zs1] H Q :=
  cm_of (by decide +kernel : plainName RX2 = true) (Nat.le_of_ble_eq_true rfl) rfl (sgX2_sendHome_0 hs1 hF)
theorem sgX2_sendHome_2 {E : En} {Q : Option Value → Hi → Prop} {H : Hi} {zs1 : Nat} {zx2 : Int32} (hs1 : isSt zs1)
    (hF : ((H 5 0) ≤ zx2 → (∀ zH_2 : Hi, zH_2 = up H zs1 1 (0 : Int32) → (∀ zH_3 : Hi, zH_3 = up zH_2 zs1 2 (0 : Int32) → (Q none zH_3)))) ∧ (¬ (H 5 0) ≤ zx2 → (((((H zs1 1) >>> (zx2 &&& 31)) &&& (1 : Int32)) = 0 → (∀ zx2_5 : Int32, zx2_5 = zx2 + (1 : Int32) → (Rm E mX2_sendHome Q 2 [some (rf E 22), some (rf E zs1), some (.int zx2_5)] [] H))) ∧ (¬ (((H zs1 1) >>> (zx2 &&& 31)) &&& (1 : Int32)) = 0 → (∃ zj_6 : Nat, (zj_6 < 8 ∧ zx2 = nI zj_6) ∧ (∀ zH_7 : Hi, zH_7 = up H zs1 0 ((H zs1 0) + (((H 7 zj_6) - (8 : Int32)) <<< (((4 : Int32) * zx2) &&& 31))) → (∀ zx2_8 : Int32, zx2_8 = zx2 + (1 : Int32) → (Rm E mX2_sendHome Q 2 [some (rf E 22), some (rf E zs1), some (.int zx2_8)] [] zH_7)))))))) :
    Rm E mX2_sendHome Q 2 [some (rf E 22), some (rf E zs1), some (.int zx2)] [] H := by
  refine rn_iload_n dX2_sendHome_2 rfl ?_
  refine rn_aload_n dX2_sendHome_3 rfl ?_
  refine rm_getr (r := 5) flRX2_28 rfl (by decide) rfl dX2_sendHome_4 ?_
  refine rm_geti flRX2_60 rfl (by decide) rfl dX2_sendHome_7 ?_
  refine rn_icmp_ge (tgt := 55) dX2_sendHome_10 (by decide) (fun hc_1 => ?_) (fun hc_1 => ?_)
  · replace hF := hF.1 hc_1
    refine rn_aload_n dX2_sendHome_55 rfl ?_
    refine rn_iconst (x := (0 : Int32)) dX2_sendHome_56 (by decide) ?_
    refine rm_puti flRX2_104 hs1.2.1 hs1.1 (rT_row hs1.2.2 _) dX2_sendHome_57 (fun zH_2 ezH_2 => ?_)
    replace hF := hF zH_2 ezH_2
    refine rn_aload_n dX2_sendHome_60 rfl ?_
    refine rn_iconst (x := (0 : Int32)) dX2_sendHome_61 (by decide) ?_
    refine rm_puti flRX2_107 hs1.2.1 hs1.1 (rT_row hs1.2.2 _) dX2_sendHome_62 (fun zH_3 ezH_3 => ?_)
    replace hF := hF zH_3 ezH_3
    exact rm_vret rfl dX2_sendHome_65 hF
  · replace hF := hF.2 hc_1
    refine rn_aload_n dX2_sendHome_13 rfl ?_
    refine rm_geti flRX2_104 hs1.2.1 hs1.1 (rT_row hs1.2.2 _) dX2_sendHome_14 ?_
    refine rn_iload_n dX2_sendHome_17 rfl ?_
    refine rn_ishr dX2_sendHome_18 ?_
    refine rn_iconst (x := (1 : Int32)) dX2_sendHome_19 (by decide) ?_
    refine rn_iand dX2_sendHome_20 ?_
    refine rn_if_eq (tgt := 49) dX2_sendHome_21 (by decide) (fun hc_4 => ?_) (fun hc_4 => ?_)
    · replace hF := hF.1 hc_4
      refine rn_iinc (w := (1 : Int32)) dX2_sendHome_49 rfl (by decide) rfl (Nat.le_of_ble_eq_true rfl) (fun zx2_5 ezx2_5 => ?_)
      replace hF := hF zx2_5 ezx2_5
      show Rn _ _ _ _ _ _ _ _ [some (rf E 22), some (rf E zs1), some (.int zx2_5)] _ _ _
      refine rn_goto (tgt := 2) dX2_sendHome_52 (by decide) ?_
      exact rn_wk (L' := [some (rf E 22), some (rf E zs1), some (.int zx2_5)]) (⟨rfl, ⟨rfl, ⟨rfl, trivial⟩⟩⟩) hF
    · replace hF := hF.2 hc_4
      refine rn_aload_n dX2_sendHome_24 rfl ?_
      refine rn_dup dX2_sendHome_25 rfl ?_
      refine rm_geti flRX2_72 hs1.2.1 hs1.1 (rT_row hs1.2.2 _) dX2_sendHome_26 ?_
      refine rn_aload_n dX2_sendHome_29 rfl ?_
      refine rm_getr (r := 5) flRX2_28 rfl (by decide) rfl dX2_sendHome_30 ?_
      refine rm_getr (r := 7) flRX2_65 rfl (by decide) rfl dX2_sendHome_33 ?_
      refine rn_iload_n dX2_sendHome_36 rfl ?_
      obtain ⟨zj_6, hzj_6, hF⟩ := hF
      refine rj_iald (j := zj_6) hzj_6 rfl (by decide) rfl (by decide) dX2_sendHome_37 ?_
      refine rn_bipush (x := (8 : Int32)) dX2_sendHome_38 (by decide) ?_
      refine rn_isub dX2_sendHome_40 ?_
      refine rn_iconst (x := (4 : Int32)) dX2_sendHome_41 (by decide) ?_
      refine rn_iload_n dX2_sendHome_42 rfl ?_
      refine rn_imul dX2_sendHome_43 ?_
      refine rn_ishl dX2_sendHome_44 ?_
      refine rn_iadd dX2_sendHome_45 ?_
      refine rm_puti flRX2_72 hs1.2.1 hs1.1 (rT_row hs1.2.2 _) dX2_sendHome_46 (fun zH_7 ezH_7 => ?_)
      replace hF := hF zH_7 ezH_7
      refine rn_iinc (w := (1 : Int32)) dX2_sendHome_49 rfl (by decide) rfl (Nat.le_of_ble_eq_true rfl) (fun zx2_8 ezx2_8 => ?_)
      replace hF := hF zx2_8 ezx2_8
      show Rn _ _ _ _ _ _ _ _ [some (rf E 22), some (rf E zs1), some (.int zx2_8)] _ _ _
      refine rn_goto (tgt := 2) dX2_sendHome_52 (by decide) ?_
      exact rn_wk (L' := [some (rf E 22), some (rf E zs1), some (.int zx2_8)]) (⟨rfl, ⟨rfl, ⟨rfl, trivial⟩⟩⟩) hF
theorem sgX2_goOn_0 {E : En} {Q : Option Value → Hi → Prop} {H : Hi} {zs1 : Nat} {zx2 : Int32} {zx3 : Int32} (hs1 : isSt zs1)
    (hF : Cm E mX2_close [rf E 22, rf E zs1, .int zx2, .int (H 11 1)] H (fun w zH_1 => w = none ∧ (∀ zx4_2 : Int32, zx4_2 = zx2 + (1 : Int32) → (Rm E mX2_goOn Q 18 [some (rf E 22), some (rf E zs1), none, some (.int zx3), some (.int zx4_2)] [] zH_1)))) :
    Rm E mX2_goOn Q 0 [some (rf E 22), some (rf E zs1), some (.int zx2), some (.int zx3), none] [] H := by
  refine rn_aload_n dX2_goOn_0 rfl ?_
  refine rn_aload_n dX2_goOn_1 rfl ?_
  refine rn_iload_n dX2_goOn_2 rfl ?_
  refine rn_aload_n dX2_goOn_3 rfl ?_
  refine rm_getr (r := 11) flRX2_32 rfl (by decide) rfl dX2_goOn_4 ?_
  refine rm_geti flRX2_51 rfl (by decide) rfl dX2_goOn_7 ?_
  refine rm_callV (c0 := 22) (As := [rf E zs1, .int zx2, .int (H 11 1)]) (st := []) mlRX2_56 mdX2_close (Nat.le_of_ble_eq_true rfl) rfl (by decide) (by decide) rfl rfl rfl (Nat.le_of_ble_eq_true rfl) ⟨Nat.le_refl _, Nat.le_refl _⟩ dX2_goOn_10 ?_
  refine cm_mono hF (fun w zH_1 hF => ?_)
  obtain ⟨rfl, hF⟩ := hF
  refine rn_iload_n dX2_goOn_13 rfl ?_
  refine rn_iconst (x := (1 : Int32)) dX2_goOn_14 (by decide) ?_
  refine rn_iadd dX2_goOn_15 ?_
  refine rn_istore dX2_goOn_16 rfl (Nat.le_of_ble_eq_true rfl) (fun zx4_2 ezx4_2 => ?_)
  replace hF := hF zx4_2 ezx4_2
  show Rn _ _ _ _ _ _ _ _ [some (rf E 22), some (rf E zs1), some (.int zx2), some (.int zx3), some (.int zx4_2)] _ _ _
  exact rn_wk (L' := [some (rf E 22), some (rf E zs1), none, some (.int zx3), some (.int zx4_2)]) (⟨rfl, ⟨rfl, ⟨rfl, ⟨rfl, trivial⟩⟩⟩⟩) hF
theorem cmX2_goOn {E : En} {Q : Option Value → Hi → Prop} {H : Hi} {zs1 : Nat} {zx2 : Int32} {zx3 : Int32} (hs1 : isSt zs1)
    (hF : Cm E mX2_close [rf E 22, rf E zs1, .int zx2, .int (H 11 1)] H (fun w zH_1 => w = none ∧ (∀ zx4_2 : Int32, zx4_2 = zx2 + (1 : Int32) → (Rm E mX2_goOn Q 18 [some (rf E 22), some (rf E zs1), none, some (.int zx3), some (.int zx4_2)] [] zH_1)))) :
    Cm E mX2_goOn [rf E 22, rf E zs1, .int zx2, .int zx3] H Q :=
  cm_of (by decide +kernel : plainName RX2 = true) (Nat.le_of_ble_eq_true rfl) rfl (sgX2_goOn_0 hs1 hF)
theorem sgX2_goOn_18 {E : En} {Q : Option Value → Hi → Prop} {H : Hi} {zs1 : Nat} {zx3 : Int32} {zx4 : Int32} (hs1 : isSt zs1)
    (hF : (zx3 < zx4 → (Q none H)) ∧ (¬ zx3 < zx4 → (Cm E mX2_open [rf E 22, rf E zs1, .int zx4] H (fun w zH_2 => ∃ zr_3 : Int32, w = some (.int zr_3) ∧ (Cm E mX2_close [rf E 22, rf E zs1, .int zx4, .int (zH_2 11 1)] zH_2 (fun w zH_4 => w = none ∧ (∀ zx4_5 : Int32, zx4_5 = zx4 + (1 : Int32) → (Rm E mX2_goOn Q 18 [some (rf E 22), some (rf E zs1), none, some (.int zx3), some (.int zx4_5)] [] zH_4)))))))) :
    Rm E mX2_goOn Q 18 [some (rf E 22), some (rf E zs1), none, some (.int zx3), some (.int zx4)] [] H := by
  refine rn_iload dX2_goOn_18 rfl ?_
  refine rn_iload_n dX2_goOn_20 rfl ?_
  refine rn_icmp_gt (tgt := 52) dX2_goOn_21 (by decide) (fun hc_1 => ?_) (fun hc_1 => ?_)
  · replace hF := hF.1 hc_1
    exact rm_vret rfl dX2_goOn_52 hF
  · replace hF := hF.2 hc_1
    refine rn_aload_n dX2_goOn_24 rfl ?_
    refine rn_aload_n dX2_goOn_25 rfl ?_
    refine rn_iload dX2_goOn_26 rfl ?_
    refine rm_callV (c0 := 22) (As := [rf E zs1, .int zx4]) (st := []) mlRX2_47 mdX2_open (Nat.le_of_ble_eq_true rfl) rfl (by decide) (by decide) rfl rfl rfl (Nat.le_of_ble_eq_true rfl) ⟨Nat.le_refl _, Nat.le_refl _⟩ dX2_goOn_28 ?_
    refine cm_mono hF (fun w zH_2 hF => ?_)
    obtain ⟨zr_3, rfl, hF⟩ := hF
    refine rn_pop dX2_goOn_31 rfl ?_
    refine rn_aload_n dX2_goOn_32 rfl ?_
    refine rn_aload_n dX2_goOn_33 rfl ?_
    refine rn_iload dX2_goOn_34 rfl ?_
    refine rn_aload_n dX2_goOn_36 rfl ?_
    refine rm_getr (r := 11) flRX2_32 rfl (by decide) rfl dX2_goOn_37 ?_
    refine rm_geti flRX2_51 rfl (by decide) rfl dX2_goOn_40 ?_
    refine rm_callV (c0 := 22) (As := [rf E zs1, .int zx4, .int (zH_2 11 1)]) (st := []) mlRX2_56 mdX2_close (Nat.le_of_ble_eq_true rfl) rfl (by decide) (by decide) rfl rfl rfl (Nat.le_of_ble_eq_true rfl) ⟨Nat.le_refl _, Nat.le_refl _⟩ dX2_goOn_43 ?_
    refine cm_mono hF (fun w zH_4 hF => ?_)
    obtain ⟨rfl, hF⟩ := hF
    refine rn_iinc (w := (1 : Int32)) dX2_goOn_46 rfl (by decide) rfl (Nat.le_of_ble_eq_true rfl) (fun zx4_5 ezx4_5 => ?_)
    replace hF := hF zx4_5 ezx4_5
    show Rn _ _ _ _ _ _ _ _ [some (rf E 22), some (rf E zs1), none, some (.int zx3), some (.int zx4_5)] _ _ _
    refine rn_goto (tgt := 18) dX2_goOn_49 (by decide) ?_
    exact rn_wk (L' := [some (rf E 22), some (rf E zs1), none, some (.int zx3), some (.int zx4_5)]) (⟨rfl, ⟨rfl, ⟨rfl, ⟨rfl, trivial⟩⟩⟩⟩) hF
theorem sgX2_heldBy_0 {E : En} {Q : Option Value → Hi → Prop} {H : Hi} {zx1 : Int32} {zx2 : Int32} 
    (hF : Rm E mX2_heldBy Q 5 [some (rf E 22), some (.int zx1), some (.int zx2), some (.int (0 : Int32)), some (.int (0 : Int32))] [] H) :
    Rm E mX2_heldBy Q 0 [some (rf E 22), some (.int zx1), some (.int zx2), none, none] [] H := by
  refine rn_iconst (x := (0 : Int32)) dX2_heldBy_0 (by decide) ?_
  refine ra_istore_n dX2_heldBy_1 rfl (Nat.le_of_ble_eq_true rfl) ?_
  show Rn _ _ _ _ _ _ _ _ [some (rf E 22), some (.int zx1), some (.int zx2), some (.int (0 : Int32)), none] _ _ _
  refine rn_iconst (x := (0 : Int32)) dX2_heldBy_2 (by decide) ?_
  refine ra_istore dX2_heldBy_3 rfl (Nat.le_of_ble_eq_true rfl) ?_
  show Rn _ _ _ _ _ _ _ _ [some (rf E 22), some (.int zx1), some (.int zx2), some (.int (0 : Int32)), some (.int (0 : Int32))] _ _ _
  exact rn_wk (L' := [some (rf E 22), some (.int zx1), some (.int zx2), some (.int (0 : Int32)), some (.int (0 : Int32))]) (⟨rfl, ⟨rfl, ⟨rfl, ⟨rfl, ⟨rfl, trivial⟩⟩⟩⟩⟩) hF
theorem cmX2_heldBy {E : En} {Q : Option Value → Hi → Prop} {H : Hi} {zx1 : Int32} {zx2 : Int32} 
    (hF : Rm E mX2_heldBy Q 5 [some (rf E 22), some (.int zx1), some (.int zx2), some (.int (0 : Int32)), some (.int (0 : Int32))] [] H) :
    Cm E mX2_heldBy [rf E 22, .int zx1, .int zx2] H Q :=
  cm_of (by decide +kernel : plainName RX2 = true) (Nat.le_of_ble_eq_true rfl) rfl (sgX2_heldBy_0  hF)
theorem sgX2_heldBy_5 {E : En} {Q : Option Value → Hi → Prop} {H : Hi} {zx1 : Int32} {zx2 : Int32} {zx3 : Int32} {zx4 : Int32} 
    (hF : ((H 5 0) ≤ zx4 → (Q (some (.int zx3)) H)) ∧ (¬ (H 5 0) ≤ zx4 → (∃ zj_2 : Nat, (zj_2 < 24 ∧ zx1 = nI zj_2) ∧ (Cm E mX6_placeOf [rf E (28 + 2 * zj_2), .int zx4] H (fun w zH_3 => ∃ zr_4 : Int32, w = some (.int zr_4) ∧ ((¬ zr_4 = zx2 → (∀ zx4_6 : Int32, zx4_6 = zx4 + (1 : Int32) → (Rm E mX2_heldBy Q 5 [some (rf E 22), some (.int zx1), some (.int zx2), some (.int zx3), some (.int zx4_6)] [] zH_3))) ∧ (zr_4 = zx2 → (∀ zx3_7 : Int32, zx3_7 = zx3 ||| ((1 : Int32) <<< (zx4 &&& 31)) → (∀ zx4_8 : Int32, zx4_8 = zx4 + (1 : Int32) → (Rm E mX2_heldBy Q 5 [some (rf E 22), some (.int zx1), some (.int zx2), some (.int zx3_7), some (.int zx4_8)] [] zH_3)))))))))) :
    Rm E mX2_heldBy Q 5 [some (rf E 22), some (.int zx1), some (.int zx2), some (.int zx3), some (.int zx4)] [] H := by
  refine rn_iload dX2_heldBy_5 rfl ?_
  refine rn_aload_n dX2_heldBy_7 rfl ?_
  refine rm_getr (r := 5) flRX2_28 rfl (by decide) rfl dX2_heldBy_8 ?_
  refine rm_geti flRX2_60 rfl (by decide) rfl dX2_heldBy_11 ?_
  refine rn_icmp_ge (tgt := 45) dX2_heldBy_14 (by decide) (fun hc_1 => ?_) (fun hc_1 => ?_)
  · replace hF := hF.1 hc_1
    refine rn_iload_n dX2_heldBy_45 rfl ?_
    exact rm_iret rfl dX2_heldBy_46 hF
  · replace hF := hF.2 hc_1
    refine rn_aload_n dX2_heldBy_17 rfl ?_
    refine rm_getr (r := 25) flRX2_22 rfl (by decide) rfl dX2_heldBy_18 ?_
    refine rn_iload_n dX2_heldBy_21 rfl ?_
    obtain ⟨zj_2, hzj_2, hF⟩ := hF
    refine rj_aald (j := zj_2) (Cn := RX6) (r := (28 + 2 * zj_2)) hzj_2 (st_beh _ hzj_2.1).2 rfl (by decide) (by decide) rfl (by decide) dX2_heldBy_22 ?_
    refine rn_iload dX2_heldBy_23 rfl ?_
    refine rm_callV (c0 := (28 + 2 * zj_2)) (As := [.int zx4]) (st := []) mlRX2_135 mdX6_placeOf (Nat.le_of_ble_eq_true rfl) (st_beh _ hzj_2.1).1.2.1 (st_beh _ hzj_2.1).1.1 (by decide) rfl rfl rfl (Nat.le_of_ble_eq_true rfl) ⟨Nat.le_refl _, Nat.le_refl _⟩ dX2_heldBy_25 ?_
    refine cm_mono hF (fun w zH_3 hF => ?_)
    obtain ⟨zr_4, rfl, hF⟩ := hF
    refine rn_iload_n dX2_heldBy_28 rfl ?_
    refine rn_icmp_ne (tgt := 39) dX2_heldBy_29 (by decide) (fun hc_5 => ?_) (fun hc_5 => ?_)
    · replace hF := hF.1 hc_5
      refine rn_iinc (w := (1 : Int32)) dX2_heldBy_39 rfl (by decide) rfl (Nat.le_of_ble_eq_true rfl) (fun zx4_6 ezx4_6 => ?_)
      replace hF := hF zx4_6 ezx4_6
      show Rn _ _ _ _ _ _ _ _ [some (rf E 22), some (.int zx1), some (.int zx2), some (.int zx3), some (.int zx4_6)] _ _ _
      refine rn_goto (tgt := 5) dX2_heldBy_42 (by decide) ?_
      exact rn_wk (L' := [some (rf E 22), some (.int zx1), some (.int zx2), some (.int zx3), some (.int zx4_6)]) (⟨rfl, ⟨rfl, ⟨rfl, ⟨rfl, ⟨rfl, trivial⟩⟩⟩⟩⟩) hF
    · replace hF := hF.2 hc_5
      refine rn_iload_n dX2_heldBy_32 rfl ?_
      refine rn_iconst (x := (1 : Int32)) dX2_heldBy_33 (by decide) ?_
      refine rn_iload dX2_heldBy_34 rfl ?_
      refine rn_ishl dX2_heldBy_36 ?_
      refine rn_ior dX2_heldBy_37 ?_
      refine rn_istore_n dX2_heldBy_38 rfl (Nat.le_of_ble_eq_true rfl) (fun zx3_7 ezx3_7 => ?_)
      replace hF := hF zx3_7 ezx3_7
      show Rn _ _ _ _ _ _ _ _ [some (rf E 22), some (.int zx1), some (.int zx2), some (.int zx3_7), some (.int zx4)] _ _ _
      refine rn_iinc (w := (1 : Int32)) dX2_heldBy_39 rfl (by decide) rfl (Nat.le_of_ble_eq_true rfl) (fun zx4_8 ezx4_8 => ?_)
      replace hF := hF zx4_8 ezx4_8
      show Rn _ _ _ _ _ _ _ _ [some (rf E 22), some (.int zx1), some (.int zx2), some (.int zx3_7), some (.int zx4_8)] _ _ _
      refine rn_goto (tgt := 5) dX2_heldBy_42 (by decide) ?_
      exact rn_wk (L' := [some (rf E 22), some (.int zx1), some (.int zx2), some (.int zx3_7), some (.int zx4_8)]) (⟨rfl, ⟨rfl, ⟨rfl, ⟨rfl, ⟨rfl, trivial⟩⟩⟩⟩⟩) hF
theorem sgX2_content_0 {E : En} {Q : Option Value → Hi → Prop} {H : Hi} {zx1 : Int32} 
    (hF : Rm E mX2_content Q 4 [some (rf E 22), some (.int zx1), some (.int (0 : Int32)), some (.int (0 : Int32)), none] [] H) :
    Rm E mX2_content Q 0 [some (rf E 22), some (.int zx1), none, none, none] [] H := by
  refine rn_iconst (x := (0 : Int32)) dX2_content_0 (by decide) ?_
  refine ra_istore_n dX2_content_1 rfl (Nat.le_of_ble_eq_true rfl) ?_
  show Rn _ _ _ _ _ _ _ _ [some (rf E 22), some (.int zx1), some (.int (0 : Int32)), none, none] _ _ _
  refine rn_iconst (x := (0 : Int32)) dX2_content_2 (by decide) ?_
  refine ra_istore_n dX2_content_3 rfl (Nat.le_of_ble_eq_true rfl) ?_
  show Rn _ _ _ _ _ _ _ _ [some (rf E 22), some (.int zx1), some (.int (0 : Int32)), some (.int (0 : Int32)), none] _ _ _
  exact rn_wk (L' := [some (rf E 22), some (.int zx1), some (.int (0 : Int32)), some (.int (0 : Int32)), none]) (⟨rfl, ⟨rfl, ⟨rfl, ⟨rfl, trivial⟩⟩⟩⟩) hF
theorem cmX2_content {E : En} {Q : Option Value → Hi → Prop} {H : Hi} {zx1 : Int32} 
    (hF : Rm E mX2_content Q 4 [some (rf E 22), some (.int zx1), some (.int (0 : Int32)), some (.int (0 : Int32)), none] [] H) :
    Cm E mX2_content [rf E 22, .int zx1] H Q :=
  cm_of (by decide +kernel : plainName RX2 = true) (Nat.le_of_ble_eq_true rfl) rfl (sgX2_content_0  hF)
theorem sgX2_content_4 {E : En} {Q : Option Value → Hi → Prop} {H : Hi} {zx1 : Int32} {zx2 : Int32} {zx3 : Int32} 
    (hF : ((H 5 1) ≤ zx3 → (Q (some (.int zx2)) H)) ∧ (¬ (H 5 1) ≤ zx3 → (∃ zj_2 : Nat, (zj_2 < 8 ∧ zx3 = nI zj_2) ∧ (∀ zx4_3 : Int32, zx4_3 = H 9 zj_2 → ((zx4_3 = (-1 : Int32) → (∀ zx3_5 : Int32, zx3_5 = zx3 + (1 : Int32) → (Rm E mX2_content Q 4 [some (rf E 22), some (.int zx1), some (.int zx2), some (.int zx3_5), none] [] H))) ∧ (¬ zx4_3 = (-1 : Int32) → (((H 5 0) ≤ zx4_3 → (∀ zx3_7 : Int32, zx3_7 = zx3 + (1 : Int32) → (Rm E mX2_content Q 4 [some (rf E 22), some (.int zx1), some (.int zx2), some (.int zx3_7), none] [] H))) ∧ (¬ (H 5 0) ≤ zx4_3 → (∃ zj_8 : Nat, (zj_8 < 24 ∧ zx1 = nI zj_8) ∧ (Cm E mX6_placeOf [rf E (28 + 2 * zj_8), .int zx4_3] H (fun w zH_9 => ∃ zr_10 : Int32, w = some (.int zr_10) ∧ ((¬ zr_10 = zx3 → (∀ zx3_12 : Int32, zx3_12 = zx3 + (1 : Int32) → (Rm E mX2_content Q 4 [some (rf E 22), some (.int zx1), some (.int zx2), some (.int zx3_12), none] [] zH_9))) ∧ (zr_10 = zx3 → (∀ zx2_13 : Int32, zx2_13 = zx2 ||| ((1 : Int32) <<< (zx3 &&& 31)) → (∀ zx3_14 : Int32, zx3_14 = zx3 + (1 : Int32) → (Rm E mX2_content Q 4 [some (rf E 22), some (.int zx1), some (.int zx2_13), some (.int zx3_14), none] [] zH_9)))))))))))))))) :
    Rm E mX2_content Q 4 [some (rf E 22), some (.int zx1), some (.int zx2), some (.int zx3), none] [] H := by
  refine rn_iload_n dX2_content_4 rfl ?_
  refine rn_aload_n dX2_content_5 rfl ?_
  refine rm_getr (r := 5) flRX2_28 rfl (by decide) rfl dX2_content_6 ?_
  refine rm_geti flRX2_69 rfl (by decide) rfl dX2_content_9 ?_
  refine rn_icmp_ge (tgt := 71) dX2_content_12 (by decide) (fun hc_1 => ?_) (fun hc_1 => ?_)
  · replace hF := hF.1 hc_1
    refine rn_iload_n dX2_content_71 rfl ?_
    exact rm_iret rfl dX2_content_72 hF
  · replace hF := hF.2 hc_1
    refine rn_aload_n dX2_content_15 rfl ?_
    refine rm_getr (r := 5) flRX2_28 rfl (by decide) rfl dX2_content_16 ?_
    refine rm_getr (r := 9) flRX2_139 rfl (by decide) rfl dX2_content_19 ?_
    refine rn_iload_n dX2_content_22 rfl ?_
    obtain ⟨zj_2, hzj_2, hF⟩ := hF
    refine rj_iald (j := zj_2) hzj_2 rfl (by decide) rfl (by decide) dX2_content_23 ?_
    refine rn_istore dX2_content_24 rfl (Nat.le_of_ble_eq_true rfl) (fun zx4_3 ezx4_3 => ?_)
    replace hF := hF zx4_3 ezx4_3
    show Rn _ _ _ _ _ _ _ _ [some (rf E 22), some (.int zx1), some (.int zx2), some (.int zx3), some (.int zx4_3)] _ _ _
    refine rn_iload dX2_content_26 rfl ?_
    refine rn_iconst (x := (-1 : Int32)) dX2_content_28 (by decide) ?_
    refine rn_icmp_eq (tgt := 65) dX2_content_29 (by decide) (fun hc_4 => ?_) (fun hc_4 => ?_)
    · replace hF := hF.1 hc_4
      refine rn_iinc (w := (1 : Int32)) dX2_content_65 rfl (by decide) rfl (Nat.le_of_ble_eq_true rfl) (fun zx3_5 ezx3_5 => ?_)
      replace hF := hF zx3_5 ezx3_5
      show Rn _ _ _ _ _ _ _ _ [some (rf E 22), some (.int zx1), some (.int zx2), some (.int zx3_5), some (.int zx4_3)] _ _ _
      refine rn_goto (tgt := 4) dX2_content_68 (by decide) ?_
      exact rn_wk (L' := [some (rf E 22), some (.int zx1), some (.int zx2), some (.int zx3_5), none]) (⟨rfl, ⟨rfl, ⟨rfl, ⟨rfl, trivial⟩⟩⟩⟩) hF
    · replace hF := hF.2 hc_4
      refine rn_iload dX2_content_32 rfl ?_
      refine rn_aload_n dX2_content_34 rfl ?_
      refine rm_getr (r := 5) flRX2_28 rfl (by decide) rfl dX2_content_35 ?_
      refine rm_geti flRX2_60 rfl (by decide) rfl dX2_content_38 ?_
      refine rn_icmp_ge (tgt := 65) dX2_content_41 (by decide) (fun hc_6 => ?_) (fun hc_6 => ?_)
      · replace hF := hF.1 hc_6
        refine rn_iinc (w := (1 : Int32)) dX2_content_65 rfl (by decide) rfl (Nat.le_of_ble_eq_true rfl) (fun zx3_7 ezx3_7 => ?_)
        replace hF := hF zx3_7 ezx3_7
        show Rn _ _ _ _ _ _ _ _ [some (rf E 22), some (.int zx1), some (.int zx2), some (.int zx3_7), some (.int zx4_3)] _ _ _
        refine rn_goto (tgt := 4) dX2_content_68 (by decide) ?_
        exact rn_wk (L' := [some (rf E 22), some (.int zx1), some (.int zx2), some (.int zx3_7), none]) (⟨rfl, ⟨rfl, ⟨rfl, ⟨rfl, trivial⟩⟩⟩⟩) hF
      · replace hF := hF.2 hc_6
        refine rn_aload_n dX2_content_44 rfl ?_
        refine rm_getr (r := 25) flRX2_22 rfl (by decide) rfl dX2_content_45 ?_
        refine rn_iload_n dX2_content_48 rfl ?_
        obtain ⟨zj_8, hzj_8, hF⟩ := hF
        refine rj_aald (j := zj_8) (Cn := RX6) (r := (28 + 2 * zj_8)) hzj_8 (st_beh _ hzj_8.1).2 rfl (by decide) (by decide) rfl (by decide) dX2_content_49 ?_
        refine rn_iload dX2_content_50 rfl ?_
        refine rm_callV (c0 := (28 + 2 * zj_8)) (As := [.int zx4_3]) (st := []) mlRX2_135 mdX6_placeOf (Nat.le_of_ble_eq_true rfl) (st_beh _ hzj_8.1).1.2.1 (st_beh _ hzj_8.1).1.1 (by decide) rfl rfl rfl (Nat.le_of_ble_eq_true rfl) ⟨Nat.le_refl _, Nat.le_refl _⟩ dX2_content_52 ?_
        refine cm_mono hF (fun w zH_9 hF => ?_)
        obtain ⟨zr_10, rfl, hF⟩ := hF
        refine rn_iload_n dX2_content_55 rfl ?_
        refine rn_icmp_ne (tgt := 65) dX2_content_56 (by decide) (fun hc_11 => ?_) (fun hc_11 => ?_)
        · replace hF := hF.1 hc_11
          refine rn_iinc (w := (1 : Int32)) dX2_content_65 rfl (by decide) rfl (Nat.le_of_ble_eq_true rfl) (fun zx3_12 ezx3_12 => ?_)
          replace hF := hF zx3_12 ezx3_12
          show Rn _ _ _ _ _ _ _ _ [some (rf E 22), some (.int zx1), some (.int zx2), some (.int zx3_12), some (.int zx4_3)] _ _ _
          refine rn_goto (tgt := 4) dX2_content_68 (by decide) ?_
          exact rn_wk (L' := [some (rf E 22), some (.int zx1), some (.int zx2), some (.int zx3_12), none]) (⟨rfl, ⟨rfl, ⟨rfl, ⟨rfl, trivial⟩⟩⟩⟩) hF
        · replace hF := hF.2 hc_11
          refine rn_iload_n dX2_content_59 rfl ?_
          refine rn_iconst (x := (1 : Int32)) dX2_content_60 (by decide) ?_
          refine rn_iload_n dX2_content_61 rfl ?_
          refine rn_ishl dX2_content_62 ?_
          refine rn_ior dX2_content_63 ?_
          refine rn_istore_n dX2_content_64 rfl (Nat.le_of_ble_eq_true rfl) (fun zx2_13 ezx2_13 => ?_)
          replace hF := hF zx2_13 ezx2_13
          show Rn _ _ _ _ _ _ _ _ [some (rf E 22), some (.int zx1), some (.int zx2_13), some (.int zx3), some (.int zx4_3)] _ _ _
          refine rn_iinc (w := (1 : Int32)) dX2_content_65 rfl (by decide) rfl (Nat.le_of_ble_eq_true rfl) (fun zx3_14 ezx3_14 => ?_)
          replace hF := hF zx3_14 ezx3_14
          show Rn _ _ _ _ _ _ _ _ [some (rf E 22), some (.int zx1), some (.int zx2_13), some (.int zx3_14), some (.int zx4_3)] _ _ _
          refine rn_goto (tgt := 4) dX2_content_68 (by decide) ?_
          exact rn_wk (L' := [some (rf E 22), some (.int zx1), some (.int zx2_13), some (.int zx3_14), none]) (⟨rfl, ⟨rfl, ⟨rfl, ⟨rfl, trivial⟩⟩⟩⟩) hF
theorem sgX2_firstIdle_0 {E : En} {Q : Option Value → Hi → Prop} {H : Hi}  
    (hF : Rm E mX2_firstIdle Q 2 [some (rf E 22), some (.int (0 : Int32)), none] [] H) :
    Rm E mX2_firstIdle Q 0 [some (rf E 22), none, none] [] H := by
  refine rn_iconst (x := (0 : Int32)) dX2_firstIdle_0 (by decide) ?_
  refine ra_istore_n dX2_firstIdle_1 rfl (Nat.le_of_ble_eq_true rfl) ?_
  show Rn _ _ _ _ _ _ _ _ [some (rf E 22), some (.int (0 : Int32)), none] _ _ _
  exact rn_wk (L' := [some (rf E 22), some (.int (0 : Int32)), none]) (⟨rfl, ⟨rfl, trivial⟩⟩) hF
theorem cmX2_firstIdle {E : En} {Q : Option Value → Hi → Prop} {H : Hi}  
    (hF : Rm E mX2_firstIdle Q 2 [some (rf E 22), some (.int (0 : Int32)), none] [] H) :
    Cm E mX2_firstIdle [rf E 22] H Q :=
  cm_of (by decide +kernel : plainName RX2 = true) (Nat.le_of_ble_eq_true rfl) rfl (sgX2_firstIdle_0  hF)
theorem sgX2_firstIdle_2 {E : En} {Q : Option Value → Hi → Prop} {H : Hi} {zx1 : Int32} 
    (hF : ((H 11 2) ≤ zx1 → (Q (some (.int (-1 : Int32))) H)) ∧ (¬ (H 11 2) ≤ zx1 → (∃ zj_2 : Nat, (zj_2 < 20 ∧ zx1 = nI zj_2) ∧ (∀ zx2_3 : Int32, zx2_3 = H 19 zj_2 → ((¬ (((H 22 5) >>> (zx2_3 &&& 31)) &&& (1 : Int32)) = 0 → (∀ zx1_5 : Int32, zx1_5 = zx1 + (1 : Int32) → (Rm E mX2_firstIdle Q 2 [some (rf E 22), some (.int zx1_5), none] [] H))) ∧ ((((H 22 5) >>> (zx2_3 &&& 31)) &&& (1 : Int32)) = 0 → (Q (some (.int zx2_3)) H))))))) :
    Rm E mX2_firstIdle Q 2 [some (rf E 22), some (.int zx1), none] [] H := by
  refine rn_iload_n dX2_firstIdle_2 rfl ?_
  refine rn_aload_n dX2_firstIdle_3 rfl ?_
  refine rm_getr (r := 11) flRX2_32 rfl (by decide) rfl dX2_firstIdle_4 ?_
  refine rm_geti flRX2_142 rfl (by decide) rfl dX2_firstIdle_7 ?_
  refine rn_icmp_ge (tgt := 42) dX2_firstIdle_10 (by decide) (fun hc_1 => ?_) (fun hc_1 => ?_)
  · replace hF := hF.1 hc_1
    refine rn_iconst (x := (-1 : Int32)) dX2_firstIdle_42 (by decide) ?_
    exact rm_iret rfl dX2_firstIdle_43 hF
  · replace hF := hF.2 hc_1
    refine rn_aload_n dX2_firstIdle_13 rfl ?_
    refine rm_getr (r := 11) flRX2_32 rfl (by decide) rfl dX2_firstIdle_14 ?_
    refine rm_getr (r := 19) flRX2_95 rfl (by decide) rfl dX2_firstIdle_17 ?_
    refine rn_iload_n dX2_firstIdle_20 rfl ?_
    obtain ⟨zj_2, hzj_2, hF⟩ := hF
    refine rj_iald (j := zj_2) hzj_2 rfl (by decide) rfl (by decide) dX2_firstIdle_21 ?_
    refine rn_istore_n dX2_firstIdle_22 rfl (Nat.le_of_ble_eq_true rfl) (fun zx2_3 ezx2_3 => ?_)
    replace hF := hF zx2_3 ezx2_3
    show Rn _ _ _ _ _ _ _ _ [some (rf E 22), some (.int zx1), some (.int zx2_3)] _ _ _
    refine rn_aload_n dX2_firstIdle_23 rfl ?_
    refine rm_geti flRX2_43 rfl (by decide) rfl dX2_firstIdle_24 ?_
    refine rn_iload_n dX2_firstIdle_27 rfl ?_
    refine rn_ishr dX2_firstIdle_28 ?_
    refine rn_iconst (x := (1 : Int32)) dX2_firstIdle_29 (by decide) ?_
    refine rn_iand dX2_firstIdle_30 ?_
    refine rn_if_ne (tgt := 36) dX2_firstIdle_31 (by decide) (fun hc_4 => ?_) (fun hc_4 => ?_)
    · replace hF := hF.1 hc_4
      refine rn_iinc (w := (1 : Int32)) dX2_firstIdle_36 rfl (by decide) rfl (Nat.le_of_ble_eq_true rfl) (fun zx1_5 ezx1_5 => ?_)
      replace hF := hF zx1_5 ezx1_5
      show Rn _ _ _ _ _ _ _ _ [some (rf E 22), some (.int zx1_5), some (.int zx2_3)] _ _ _
      refine rn_goto (tgt := 2) dX2_firstIdle_39 (by decide) ?_
      exact rn_wk (L' := [some (rf E 22), some (.int zx1_5), none]) (⟨rfl, ⟨rfl, trivial⟩⟩) hF
    · replace hF := hF.2 hc_4
      refine rn_iload_n dX2_firstIdle_34 rfl ?_
      exact rm_iret rfl dX2_firstIdle_35 hF
theorem sgX2_firstGone_0 {E : En} {Q : Option Value → Hi → Prop} {H : Hi} {zx1 : Int32} 
    (hF : Cm E mX6_placeOf [rf E 23, .int zx1] H (fun w zH_1 => ∃ zr_2 : Int32, w = some (.int zr_2) ∧ ((¬ zr_2 = (9 : Int32) → (Rm E mX2_firstGone Q 17 [some (rf E 22), some (.int zx1), some (.int (0 : Int32))] [] zH_1)) ∧ (zr_2 = (9 : Int32) → (Q (some (.int (-1 : Int32))) zH_1))))) :
    Rm E mX2_firstGone Q 0 [some (rf E 22), some (.int zx1), none] [] H := by
  refine rn_aload_n dX2_firstGone_0 rfl ?_
  refine rm_getr (r := 23) flRX2_12 rfl (by decide) rfl dX2_firstGone_1 ?_
  refine rn_iload_n dX2_firstGone_4 rfl ?_
  refine rm_callV (c0 := 23) (As := [.int zx1]) (st := []) mlRX2_135 mdX6_placeOf (Nat.le_of_ble_eq_true rfl) rfl (by decide) (by decide) rfl rfl rfl (Nat.le_of_ble_eq_true rfl) ⟨Nat.le_refl _, Nat.le_refl _⟩ dX2_firstGone_5 ?_
  refine cm_mono hF (fun w zH_1 hF => ?_)
  obtain ⟨zr_2, rfl, hF⟩ := hF
  refine rn_bipush (x := (9 : Int32)) dX2_firstGone_8 (by decide) ?_
  refine rn_icmp_ne (tgt := 15) dX2_firstGone_10 (by decide) (fun hc_3 => ?_) (fun hc_3 => ?_)
  · replace hF := hF.1 hc_3
    refine rn_iconst (x := (0 : Int32)) dX2_firstGone_15 (by decide) ?_
    refine ra_istore_n dX2_firstGone_16 rfl (Nat.le_of_ble_eq_true rfl) ?_
    show Rn _ _ _ _ _ _ _ _ [some (rf E 22), some (.int zx1), some (.int (0 : Int32))] _ _ _
    exact rn_wk (L' := [some (rf E 22), some (.int zx1), some (.int (0 : Int32))]) (⟨rfl, ⟨rfl, ⟨rfl, trivial⟩⟩⟩) hF
  · replace hF := hF.2 hc_3
    refine rn_iconst (x := (-1 : Int32)) dX2_firstGone_13 (by decide) ?_
    exact rm_iret rfl dX2_firstGone_14 hF
theorem cmX2_firstGone {E : En} {Q : Option Value → Hi → Prop} {H : Hi} {zx1 : Int32} 
    (hF : Cm E mX6_placeOf [rf E 23, .int zx1] H (fun w zH_1 => ∃ zr_2 : Int32, w = some (.int zr_2) ∧ ((¬ zr_2 = (9 : Int32) → (Rm E mX2_firstGone Q 17 [some (rf E 22), some (.int zx1), some (.int (0 : Int32))] [] zH_1)) ∧ (zr_2 = (9 : Int32) → (Q (some (.int (-1 : Int32))) zH_1))))) :
    Cm E mX2_firstGone [rf E 22, .int zx1] H Q :=
  cm_of (by decide +kernel : plainName RX2 = true) (Nat.le_of_ble_eq_true rfl) rfl (sgX2_firstGone_0  hF)
theorem sgX2_firstGone_17 {E : En} {Q : Option Value → Hi → Prop} {H : Hi} {zx1 : Int32} {zx2 : Int32} 
    (hF : ((24 : Int32) ≤ zx2 → (Q (some (.int (-1 : Int32))) H)) ∧ (¬ (24 : Int32) ≤ zx2 → (∃ zj_2 : Nat, (zj_2 < 24 ∧ zx2 = nI zj_2) ∧ (Cm E mX6_placeOf [rf E (28 + 2 * zj_2), .int zx1] H (fun w zH_3 => ∃ zr_4 : Int32, w = some (.int zr_4) ∧ ((¬ zr_4 = (9 : Int32) → (∀ zx2_6 : Int32, zx2_6 = zx2 + (1 : Int32) → (Rm E mX2_firstGone Q 17 [some (rf E 22), some (.int zx1), some (.int zx2_6)] [] zH_3))) ∧ (zr_4 = (9 : Int32) → (Q (some (.int zx2)) zH_3)))))))) :
    Rm E mX2_firstGone Q 17 [some (rf E 22), some (.int zx1), some (.int zx2)] [] H := by
  refine rn_iload_n dX2_firstGone_17 rfl ?_
  refine rn_bipush (x := (24 : Int32)) dX2_firstGone_18 (by decide) ?_
  refine rn_icmp_ge (tgt := 46) dX2_firstGone_20 (by decide) (fun hc_1 => ?_) (fun hc_1 => ?_)
  · replace hF := hF.1 hc_1
    refine rn_iconst (x := (-1 : Int32)) dX2_firstGone_46 (by decide) ?_
    exact rm_iret rfl dX2_firstGone_47 hF
  · replace hF := hF.2 hc_1
    refine rn_aload_n dX2_firstGone_23 rfl ?_
    refine rm_getr (r := 25) flRX2_22 rfl (by decide) rfl dX2_firstGone_24 ?_
    refine rn_iload_n dX2_firstGone_27 rfl ?_
    obtain ⟨zj_2, hzj_2, hF⟩ := hF
    refine rj_aald (j := zj_2) (Cn := RX6) (r := (28 + 2 * zj_2)) hzj_2 (st_beh _ hzj_2.1).2 rfl (by decide) (by decide) rfl (by decide) dX2_firstGone_28 ?_
    refine rn_iload_n dX2_firstGone_29 rfl ?_
    refine rm_callV (c0 := (28 + 2 * zj_2)) (As := [.int zx1]) (st := []) mlRX2_135 mdX6_placeOf (Nat.le_of_ble_eq_true rfl) (st_beh _ hzj_2.1).1.2.1 (st_beh _ hzj_2.1).1.1 (by decide) rfl rfl rfl (Nat.le_of_ble_eq_true rfl) ⟨Nat.le_refl _, Nat.le_refl _⟩ dX2_firstGone_30 ?_
    refine cm_mono hF (fun w zH_3 hF => ?_)
    obtain ⟨zr_4, rfl, hF⟩ := hF
    refine rn_bipush (x := (9 : Int32)) dX2_firstGone_33 (by decide) ?_
    refine rn_icmp_ne (tgt := 40) dX2_firstGone_35 (by decide) (fun hc_5 => ?_) (fun hc_5 => ?_)
    · replace hF := hF.1 hc_5
      refine rn_iinc (w := (1 : Int32)) dX2_firstGone_40 rfl (by decide) rfl (Nat.le_of_ble_eq_true rfl) (fun zx2_6 ezx2_6 => ?_)
      replace hF := hF zx2_6 ezx2_6
      show Rn _ _ _ _ _ _ _ _ [some (rf E 22), some (.int zx1), some (.int zx2_6)] _ _ _
      refine rn_goto (tgt := 17) dX2_firstGone_43 (by decide) ?_
      exact rn_wk (L' := [some (rf E 22), some (.int zx1), some (.int zx2_6)]) (⟨rfl, ⟨rfl, ⟨rfl, trivial⟩⟩⟩) hF
    · replace hF := hF.2 hc_5
      refine rn_iload_n dX2_firstGone_38 rfl ?_
      exact rm_iret rfl dX2_firstGone_39 hF
theorem sgX2_stayChance_0 {E : En} {Q : Option Value → Hi → Prop} {H : Hi} {zx1 : Int32} {zx2 : Int32} {zx3 : Int32} {zx4 : Int32} 
    (hF : ∀ zx5_1 : Int32, zx5_1 = (16 : Int32) - zx1 → (Rm E mX2_stayChance Q 13 [some (rf E 22), none, some (.int zx2), some (.int zx3), some (.int zx4), some (.int zx5_1), some (.int (16 : Int32)), some (.int (0 : Int32)), none, none, none, none] [] H)) :
    Rm E mX2_stayChance Q 0 [some (rf E 22), some (.int zx1), some (.int zx2), some (.int zx3), some (.int zx4), none, none, none, none, none, none, none] [] H := by
  refine rn_bipush (x := (16 : Int32)) dX2_stayChance_0 (by decide) ?_
  refine rn_iload_n dX2_stayChance_2 rfl ?_
  refine rn_isub dX2_stayChance_3 ?_
  refine rn_istore dX2_stayChance_4 rfl (Nat.le_of_ble_eq_true rfl) (fun zx5_1 ezx5_1 => ?_)
  replace hF := hF zx5_1 ezx5_1
  show Rn _ _ _ _ _ _ _ _ [some (rf E 22), some (.int zx1), some (.int zx2), some (.int zx3), some (.int zx4), some (.int zx5_1), none, none, none, none, none, none] _ _ _
  refine rn_bipush (x := (16 : Int32)) dX2_stayChance_6 (by decide) ?_
  refine ra_istore dX2_stayChance_8 rfl (Nat.le_of_ble_eq_true rfl) ?_
  show Rn _ _ _ _ _ _ _ _ [some (rf E 22), some (.int zx1), some (.int zx2), some (.int zx3), some (.int zx4), some (.int zx5_1), some (.int (16 : Int32)), none, none, none, none, none] _ _ _
  refine rn_iconst (x := (0 : Int32)) dX2_stayChance_10 (by decide) ?_
  refine ra_istore dX2_stayChance_11 rfl (Nat.le_of_ble_eq_true rfl) ?_
  show Rn _ _ _ _ _ _ _ _ [some (rf E 22), some (.int zx1), some (.int zx2), some (.int zx3), some (.int zx4), some (.int zx5_1), some (.int (16 : Int32)), some (.int (0 : Int32)), none, none, none, none] _ _ _
  exact rn_wk (L' := [some (rf E 22), none, some (.int zx2), some (.int zx3), some (.int zx4), some (.int zx5_1), some (.int (16 : Int32)), some (.int (0 : Int32)), none, none, none, none]) (⟨rfl, ⟨rfl, ⟨rfl, ⟨rfl, ⟨rfl, ⟨rfl, ⟨rfl, trivial⟩⟩⟩⟩⟩⟩⟩) hF
theorem cmX2_stayChance {E : En} {Q : Option Value → Hi → Prop} {H : Hi} {zx1 : Int32} {zx2 : Int32} {zx3 : Int32} {zx4 : Int32} 
    (hF : ∀ zx5_1 : Int32, zx5_1 = (16 : Int32) - zx1 → (Rm E mX2_stayChance Q 13 [some (rf E 22), none, some (.int zx2), some (.int zx3), some (.int zx4), some (.int zx5_1), some (.int (16 : Int32)), some (.int (0 : Int32)), none, none, none, none] [] H)) :
    Cm E mX2_stayChance [rf E 22, .int zx1, .int zx2, .int zx3, .int zx4] H Q :=
  cm_of (by decide +kernel : plainName RX2 = true) (Nat.le_of_ble_eq_true rfl) rfl (sgX2_stayChance_0  hF)
theorem sgX2_stayChance_13 {E : En} {Q : Option Value → Hi → Prop} {H : Hi} {zx2 : Int32} {zx3 : Int32} {zx4 : Int32} {zx5 : Int32} {zx6 : Int32} {zx7 : Int32} 
    (hF : ((4 : Int32) ≤ zx7 → ((¬ zx4 = 0 → (∃ zj_4 : Nat, (zj_4 < 8 ∧ zx2 = nI zj_4) ∧ ((¬ (H 8 zj_4) = (2 : Int32) → (Rm E mX2_stayChance Q 84 [some (rf E 22), none, some (.int zx2), some (.int zx3), none, none, none, some (.int zx6), some (.int (0 : Int32)), some (.long (1 : Int64)), none, some (.int (0 : Int32))] [] H)) ∧ ((H 8 zj_4) = (2 : Int32) → (Rm E mX2_stayChance Q 84 [some (rf E 22), none, some (.int zx2), some (.int zx3), none, none, none, some (.int zx6), some (.int (1 : Int32)), some (.long (1 : Int64)), none, some (.int (0 : Int32))] [] H))))) ∧ (zx4 = 0 → (∃ zj_13 : Nat, (zj_13 < 8 ∧ zx2 = nI zj_13) ∧ ((¬ (H 8 zj_13) = (2 : Int32) → (Rm E mX2_stayChance Q 84 [some (rf E 22), none, some (.int zx2), some (.int zx3), none, none, none, some (.int zx5), some (.int (0 : Int32)), some (.long (1 : Int64)), none, some (.int (0 : Int32))] [] H)) ∧ ((H 8 zj_13) = (2 : Int32) → (Rm E mX2_stayChance Q 84 [some (rf E 22), none, some (.int zx2), some (.int zx3), none, none, none, some (.int zx5), some (.int (1 : Int32)), some (.long (1 : Int64)), none, some (.int (0 : Int32))] [] H))))))) ∧ (¬ (4 : Int32) ≤ zx7 → ((¬ (zx5 - zx5 / (2 : Int32) * (2 : Int32)) = 0 → ((¬ zx4 = 0 → (∃ zj_24 : Nat, (zj_24 < 8 ∧ zx2 = nI zj_24) ∧ ((¬ (H 8 zj_24) = (2 : Int32) → (Rm E mX2_stayChance Q 84 [some (rf E 22), none, some (.int zx2), some (.int zx3), none, none, none, some (.int zx6), some (.int (0 : Int32)), some (.long (1 : Int64)), none, some (.int (0 : Int32))] [] H)) ∧ ((H 8 zj_24) = (2 : Int32) → (Rm E mX2_stayChance Q 84 [some (rf E 22), none, some (.int zx2), some (.int zx3), none, none, none, some (.int zx6), some (.int (1 : Int32)), some (.long (1 : Int64)), none, some (.int (0 : Int32))] [] H))))) ∧ (zx4 = 0 → (∃ zj_33 : Nat, (zj_33 < 8 ∧ zx2 = nI zj_33) ∧ ((¬ (H 8 zj_33) = (2 : Int32) → (Rm E mX2_stayChance Q 84 [some (rf E 22), none, some (.int zx2), some (.int zx3), none, none, none, some (.int zx5), some (.int (0 : Int32)), some (.long (1 : Int64)), none, some (.int (0 : Int32))] [] H)) ∧ ((H 8 zj_33) = (2 : Int32) → (Rm E mX2_stayChance Q 84 [some (rf E 22), none, some (.int zx2), some (.int zx3), none, none, none, some (.int zx5), some (.int (1 : Int32)), some (.long (1 : Int64)), none, some (.int (0 : Int32))] [] H))))))) ∧ ((zx5 - zx5 / (2 : Int32) * (2 : Int32)) = 0 → (∀ zx5_41 : Int32, zx5_41 = zx5 / (2 : Int32) → (∀ zx6_42 : Int32, zx6_42 = zx6 / (2 : Int32) → (∀ zx7_43 : Int32, zx7_43 = zx7 + (1 : Int32) → (Rm E mX2_stayChance Q 13 [some (rf E 22), none, some (.int zx2), some (.int zx3), some (.int zx4), some (.int zx5_41), some (.int zx6_42), some (.int zx7_43), none, none, none, none] [] H)))))))) :
    Rm E mX2_stayChance Q 13 [some (rf E 22), none, some (.int zx2), some (.int zx3), some (.int zx4), some (.int zx5), some (.int zx6), some (.int zx7), none, none, none, none] [] H := by
  refine rn_iload dX2_stayChance_13 rfl ?_
  refine rn_iconst (x := (4 : Int32)) dX2_stayChance_15 (by decide) ?_
  refine rn_icmp_ge (tgt := 44) dX2_stayChance_16 (by decide) (fun hc_1 => ?_) (fun hc_1 => ?_)
  · replace hF := hF.1 hc_1
    refine rn_iload dX2_stayChance_44 rfl ?_
    refine rn_if_ne (tgt := 54) dX2_stayChance_46 (by decide) (fun hc_2 => ?_) (fun hc_2 => ?_)
    · replace hF := hF.1 hc_2
      refine rn_iload dX2_stayChance_54 rfl ?_
      refine ra_istore dX2_stayChance_56 rfl (Nat.le_of_ble_eq_true rfl) ?_
      show Rn _ _ _ _ _ _ _ _ [some (rf E 22), none, some (.int zx2), some (.int zx3), some (.int zx4), some (.int zx5), some (.int zx6), some (.int zx6), none, none, none, none] _ _ _
      refine rn_aload_n dX2_stayChance_58 rfl ?_
      refine rm_getr (r := 5) flRX2_28 rfl (by decide) rfl dX2_stayChance_59 ?_
      refine rm_getr (r := 8) flRX2_145 rfl (by decide) rfl dX2_stayChance_62 ?_
      refine rn_iload_n dX2_stayChance_65 rfl ?_
      obtain ⟨zj_4, hzj_4, hF⟩ := hF
      refine rj_iald (j := zj_4) hzj_4 rfl (by decide) rfl (by decide) dX2_stayChance_66 ?_
      refine rn_iconst (x := (2 : Int32)) dX2_stayChance_67 (by decide) ?_
      refine rn_icmp_ne (tgt := 75) dX2_stayChance_68 (by decide) (fun hc_5 => ?_) (fun hc_5 => ?_)
      · replace hF := hF.1 hc_5
        refine rn_iconst (x := (0 : Int32)) dX2_stayChance_75 (by decide) ?_
        refine ra_istore dX2_stayChance_76 rfl (Nat.le_of_ble_eq_true rfl) ?_
        show Rn _ _ _ _ _ _ _ _ [some (rf E 22), none, some (.int zx2), some (.int zx3), some (.int zx4), some (.int zx5), some (.int zx6), some (.int zx6), some (.int (0 : Int32)), none, none, none] _ _ _
        refine rn_lconst (x := (1 : Int64)) dX2_stayChance_78 (by decide) ?_
        refine ra_lstore dX2_stayChance_79 rfl (Nat.le_of_ble_eq_true rfl) ?_
        show Rn _ _ _ _ _ _ _ _ [some (rf E 22), none, some (.int zx2), some (.int zx3), some (.int zx4), some (.int zx5), some (.int zx6), some (.int zx6), some (.int (0 : Int32)), some (.long (1 : Int64)), none, none] _ _ _
        refine rn_iconst (x := (0 : Int32)) dX2_stayChance_81 (by decide) ?_
        refine ra_istore dX2_stayChance_82 rfl (Nat.le_of_ble_eq_true rfl) ?_
        show Rn _ _ _ _ _ _ _ _ [some (rf E 22), none, some (.int zx2), some (.int zx3), some (.int zx4), some (.int zx5), some (.int zx6), some (.int zx6), some (.int (0 : Int32)), some (.long (1 : Int64)), none, some (.int (0 : Int32))] _ _ _
        exact rn_wk (L' := [some (rf E 22), none, some (.int zx2), some (.int zx3), none, none, none, some (.int zx6), some (.int (0 : Int32)), some (.long (1 : Int64)), none, some (.int (0 : Int32))]) (⟨rfl, ⟨rfl, ⟨rfl, ⟨rfl, ⟨rfl, ⟨rfl, ⟨rfl, trivial⟩⟩⟩⟩⟩⟩⟩) hF
      · replace hF := hF.2 hc_5
        refine rn_iconst (x := (1 : Int32)) dX2_stayChance_71 (by decide) ?_
        refine rn_goto (tgt := 76) dX2_stayChance_72 (by decide) ?_
        refine ra_istore dX2_stayChance_76 rfl (Nat.le_of_ble_eq_true rfl) ?_
        show Rn _ _ _ _ _ _ _ _ [some (rf E 22), none, some (.int zx2), some (.int zx3), some (.int zx4), some (.int zx5), some (.int zx6), some (.int zx6), some (.int (1 : Int32)), none, none, none] _ _ _
        refine rn_lconst (x := (1 : Int64)) dX2_stayChance_78 (by decide) ?_
        refine ra_lstore dX2_stayChance_79 rfl (Nat.le_of_ble_eq_true rfl) ?_
        show Rn _ _ _ _ _ _ _ _ [some (rf E 22), none, some (.int zx2), some (.int zx3), some (.int zx4), some (.int zx5), some (.int zx6), some (.int zx6), some (.int (1 : Int32)), some (.long (1 : Int64)), none, none] _ _ _
        refine rn_iconst (x := (0 : Int32)) dX2_stayChance_81 (by decide) ?_
        refine ra_istore dX2_stayChance_82 rfl (Nat.le_of_ble_eq_true rfl) ?_
        show Rn _ _ _ _ _ _ _ _ [some (rf E 22), none, some (.int zx2), some (.int zx3), some (.int zx4), some (.int zx5), some (.int zx6), some (.int zx6), some (.int (1 : Int32)), some (.long (1 : Int64)), none, some (.int (0 : Int32))] _ _ _
        exact rn_wk (L' := [some (rf E 22), none, some (.int zx2), some (.int zx3), none, none, none, some (.int zx6), some (.int (1 : Int32)), some (.long (1 : Int64)), none, some (.int (0 : Int32))]) (⟨rfl, ⟨rfl, ⟨rfl, ⟨rfl, ⟨rfl, ⟨rfl, ⟨rfl, trivial⟩⟩⟩⟩⟩⟩⟩) hF
    · replace hF := hF.2 hc_2
      refine rn_iload dX2_stayChance_49 rfl ?_
      refine rn_goto (tgt := 56) dX2_stayChance_51 (by decide) ?_
      refine ra_istore dX2_stayChance_56 rfl (Nat.le_of_ble_eq_true rfl) ?_
      show Rn _ _ _ _ _ _ _ _ [some (rf E 22), none, some (.int zx2), some (.int zx3), some (.int zx4), some (.int zx5), some (.int zx6), some (.int zx5), none, none, none, none] _ _ _
      refine rn_aload_n dX2_stayChance_58 rfl ?_
      refine rm_getr (r := 5) flRX2_28 rfl (by decide) rfl dX2_stayChance_59 ?_
      refine rm_getr (r := 8) flRX2_145 rfl (by decide) rfl dX2_stayChance_62 ?_
      refine rn_iload_n dX2_stayChance_65 rfl ?_
      obtain ⟨zj_13, hzj_13, hF⟩ := hF
      refine rj_iald (j := zj_13) hzj_13 rfl (by decide) rfl (by decide) dX2_stayChance_66 ?_
      refine rn_iconst (x := (2 : Int32)) dX2_stayChance_67 (by decide) ?_
      refine rn_icmp_ne (tgt := 75) dX2_stayChance_68 (by decide) (fun hc_14 => ?_) (fun hc_14 => ?_)
      · replace hF := hF.1 hc_14
        refine rn_iconst (x := (0 : Int32)) dX2_stayChance_75 (by decide) ?_
        refine ra_istore dX2_stayChance_76 rfl (Nat.le_of_ble_eq_true rfl) ?_
        show Rn _ _ _ _ _ _ _ _ [some (rf E 22), none, some (.int zx2), some (.int zx3), some (.int zx4), some (.int zx5), some (.int zx6), some (.int zx5), some (.int (0 : Int32)), none, none, none] _ _ _
        refine rn_lconst (x := (1 : Int64)) dX2_stayChance_78 (by decide) ?_
        refine ra_lstore dX2_stayChance_79 rfl (Nat.le_of_ble_eq_true rfl) ?_
        show Rn _ _ _ _ _ _ _ _ [some (rf E 22), none, some (.int zx2), some (.int zx3), some (.int zx4), some (.int zx5), some (.int zx6), some (.int zx5), some (.int (0 : Int32)), some (.long (1 : Int64)), none, none] _ _ _
        refine rn_iconst (x := (0 : Int32)) dX2_stayChance_81 (by decide) ?_
        refine ra_istore dX2_stayChance_82 rfl (Nat.le_of_ble_eq_true rfl) ?_
        show Rn _ _ _ _ _ _ _ _ [some (rf E 22), none, some (.int zx2), some (.int zx3), some (.int zx4), some (.int zx5), some (.int zx6), some (.int zx5), some (.int (0 : Int32)), some (.long (1 : Int64)), none, some (.int (0 : Int32))] _ _ _
        exact rn_wk (L' := [some (rf E 22), none, some (.int zx2), some (.int zx3), none, none, none, some (.int zx5), some (.int (0 : Int32)), some (.long (1 : Int64)), none, some (.int (0 : Int32))]) (⟨rfl, ⟨rfl, ⟨rfl, ⟨rfl, ⟨rfl, ⟨rfl, ⟨rfl, trivial⟩⟩⟩⟩⟩⟩⟩) hF
      · replace hF := hF.2 hc_14
        refine rn_iconst (x := (1 : Int32)) dX2_stayChance_71 (by decide) ?_
        refine rn_goto (tgt := 76) dX2_stayChance_72 (by decide) ?_
        refine ra_istore dX2_stayChance_76 rfl (Nat.le_of_ble_eq_true rfl) ?_
        show Rn _ _ _ _ _ _ _ _ [some (rf E 22), none, some (.int zx2), some (.int zx3), some (.int zx4), some (.int zx5), some (.int zx6), some (.int zx5), some (.int (1 : Int32)), none, none, none] _ _ _
        refine rn_lconst (x := (1 : Int64)) dX2_stayChance_78 (by decide) ?_
        refine ra_lstore dX2_stayChance_79 rfl (Nat.le_of_ble_eq_true rfl) ?_
        show Rn _ _ _ _ _ _ _ _ [some (rf E 22), none, some (.int zx2), some (.int zx3), some (.int zx4), some (.int zx5), some (.int zx6), some (.int zx5), some (.int (1 : Int32)), some (.long (1 : Int64)), none, none] _ _ _
        refine rn_iconst (x := (0 : Int32)) dX2_stayChance_81 (by decide) ?_
        refine ra_istore dX2_stayChance_82 rfl (Nat.le_of_ble_eq_true rfl) ?_
        show Rn _ _ _ _ _ _ _ _ [some (rf E 22), none, some (.int zx2), some (.int zx3), some (.int zx4), some (.int zx5), some (.int zx6), some (.int zx5), some (.int (1 : Int32)), some (.long (1 : Int64)), none, some (.int (0 : Int32))] _ _ _
        exact rn_wk (L' := [some (rf E 22), none, some (.int zx2), some (.int zx3), none, none, none, some (.int zx5), some (.int (1 : Int32)), some (.long (1 : Int64)), none, some (.int (0 : Int32))]) (⟨rfl, ⟨rfl, ⟨rfl, ⟨rfl, ⟨rfl, ⟨rfl, ⟨rfl, trivial⟩⟩⟩⟩⟩⟩⟩) hF
  · replace hF := hF.2 hc_1
    refine rn_iload dX2_stayChance_19 rfl ?_
    refine rn_iconst (x := (2 : Int32)) dX2_stayChance_21 (by decide) ?_
    refine rn_irem dX2_stayChance_22 (by decide) ?_
    refine rn_if_ne (tgt := 44) dX2_stayChance_23 (by decide) (fun hc_21 => ?_) (fun hc_21 => ?_)
    · replace hF := hF.1 hc_21
      refine rn_iload dX2_stayChance_44 rfl ?_
      refine rn_if_ne (tgt := 54) dX2_stayChance_46 (by decide) (fun hc_22 => ?_) (fun hc_22 => ?_)
      · replace hF := hF.1 hc_22
        refine rn_iload dX2_stayChance_54 rfl ?_
        refine ra_istore dX2_stayChance_56 rfl (Nat.le_of_ble_eq_true rfl) ?_
        show Rn _ _ _ _ _ _ _ _ [some (rf E 22), none, some (.int zx2), some (.int zx3), some (.int zx4), some (.int zx5), some (.int zx6), some (.int zx6), none, none, none, none] _ _ _
        refine rn_aload_n dX2_stayChance_58 rfl ?_
        refine rm_getr (r := 5) flRX2_28 rfl (by decide) rfl dX2_stayChance_59 ?_
        refine rm_getr (r := 8) flRX2_145 rfl (by decide) rfl dX2_stayChance_62 ?_
        refine rn_iload_n dX2_stayChance_65 rfl ?_
        obtain ⟨zj_24, hzj_24, hF⟩ := hF
        refine rj_iald (j := zj_24) hzj_24 rfl (by decide) rfl (by decide) dX2_stayChance_66 ?_
        refine rn_iconst (x := (2 : Int32)) dX2_stayChance_67 (by decide) ?_
        refine rn_icmp_ne (tgt := 75) dX2_stayChance_68 (by decide) (fun hc_25 => ?_) (fun hc_25 => ?_)
        · replace hF := hF.1 hc_25
          refine rn_iconst (x := (0 : Int32)) dX2_stayChance_75 (by decide) ?_
          refine ra_istore dX2_stayChance_76 rfl (Nat.le_of_ble_eq_true rfl) ?_
          show Rn _ _ _ _ _ _ _ _ [some (rf E 22), none, some (.int zx2), some (.int zx3), some (.int zx4), some (.int zx5), some (.int zx6), some (.int zx6), some (.int (0 : Int32)), none, none, none] _ _ _
          refine rn_lconst (x := (1 : Int64)) dX2_stayChance_78 (by decide) ?_
          refine ra_lstore dX2_stayChance_79 rfl (Nat.le_of_ble_eq_true rfl) ?_
          show Rn _ _ _ _ _ _ _ _ [some (rf E 22), none, some (.int zx2), some (.int zx3), some (.int zx4), some (.int zx5), some (.int zx6), some (.int zx6), some (.int (0 : Int32)), some (.long (1 : Int64)), none, none] _ _ _
          refine rn_iconst (x := (0 : Int32)) dX2_stayChance_81 (by decide) ?_
          refine ra_istore dX2_stayChance_82 rfl (Nat.le_of_ble_eq_true rfl) ?_
          show Rn _ _ _ _ _ _ _ _ [some (rf E 22), none, some (.int zx2), some (.int zx3), some (.int zx4), some (.int zx5), some (.int zx6), some (.int zx6), some (.int (0 : Int32)), some (.long (1 : Int64)), none, some (.int (0 : Int32))] _ _ _
          exact rn_wk (L' := [some (rf E 22), none, some (.int zx2), some (.int zx3), none, none, none, some (.int zx6), some (.int (0 : Int32)), some (.long (1 : Int64)), none, some (.int (0 : Int32))]) (⟨rfl, ⟨rfl, ⟨rfl, ⟨rfl, ⟨rfl, ⟨rfl, ⟨rfl, trivial⟩⟩⟩⟩⟩⟩⟩) hF
        · replace hF := hF.2 hc_25
          refine rn_iconst (x := (1 : Int32)) dX2_stayChance_71 (by decide) ?_
          refine rn_goto (tgt := 76) dX2_stayChance_72 (by decide) ?_
          refine ra_istore dX2_stayChance_76 rfl (Nat.le_of_ble_eq_true rfl) ?_
          show Rn _ _ _ _ _ _ _ _ [some (rf E 22), none, some (.int zx2), some (.int zx3), some (.int zx4), some (.int zx5), some (.int zx6), some (.int zx6), some (.int (1 : Int32)), none, none, none] _ _ _
          refine rn_lconst (x := (1 : Int64)) dX2_stayChance_78 (by decide) ?_
          refine ra_lstore dX2_stayChance_79 rfl (Nat.le_of_ble_eq_true rfl) ?_
          show Rn _ _ _ _ _ _ _ _ [some (rf E 22), none, some (.int zx2), some (.int zx3), some (.int zx4), some (.int zx5), some (.int zx6), some (.int zx6), some (.int (1 : Int32)), some (.long (1 : Int64)), none, none] _ _ _
          refine rn_iconst (x := (0 : Int32)) dX2_stayChance_81 (by decide) ?_
          refine ra_istore dX2_stayChance_82 rfl (Nat.le_of_ble_eq_true rfl) ?_
          show Rn _ _ _ _ _ _ _ _ [some (rf E 22), none, some (.int zx2), some (.int zx3), some (.int zx4), some (.int zx5), some (.int zx6), some (.int zx6), some (.int (1 : Int32)), some (.long (1 : Int64)), none, some (.int (0 : Int32))] _ _ _
          exact rn_wk (L' := [some (rf E 22), none, some (.int zx2), some (.int zx3), none, none, none, some (.int zx6), some (.int (1 : Int32)), some (.long (1 : Int64)), none, some (.int (0 : Int32))]) (⟨rfl, ⟨rfl, ⟨rfl, ⟨rfl, ⟨rfl, ⟨rfl, ⟨rfl, trivial⟩⟩⟩⟩⟩⟩⟩) hF
      · replace hF := hF.2 hc_22
        refine rn_iload dX2_stayChance_49 rfl ?_
        refine rn_goto (tgt := 56) dX2_stayChance_51 (by decide) ?_
        refine ra_istore dX2_stayChance_56 rfl (Nat.le_of_ble_eq_true rfl) ?_
        show Rn _ _ _ _ _ _ _ _ [some (rf E 22), none, some (.int zx2), some (.int zx3), some (.int zx4), some (.int zx5), some (.int zx6), some (.int zx5), none, none, none, none] _ _ _
        refine rn_aload_n dX2_stayChance_58 rfl ?_
        refine rm_getr (r := 5) flRX2_28 rfl (by decide) rfl dX2_stayChance_59 ?_
        refine rm_getr (r := 8) flRX2_145 rfl (by decide) rfl dX2_stayChance_62 ?_
        refine rn_iload_n dX2_stayChance_65 rfl ?_
        obtain ⟨zj_33, hzj_33, hF⟩ := hF
        refine rj_iald (j := zj_33) hzj_33 rfl (by decide) rfl (by decide) dX2_stayChance_66 ?_
        refine rn_iconst (x := (2 : Int32)) dX2_stayChance_67 (by decide) ?_
        refine rn_icmp_ne (tgt := 75) dX2_stayChance_68 (by decide) (fun hc_34 => ?_) (fun hc_34 => ?_)
        · replace hF := hF.1 hc_34
          refine rn_iconst (x := (0 : Int32)) dX2_stayChance_75 (by decide) ?_
          refine ra_istore dX2_stayChance_76 rfl (Nat.le_of_ble_eq_true rfl) ?_
          show Rn _ _ _ _ _ _ _ _ [some (rf E 22), none, some (.int zx2), some (.int zx3), some (.int zx4), some (.int zx5), some (.int zx6), some (.int zx5), some (.int (0 : Int32)), none, none, none] _ _ _
          refine rn_lconst (x := (1 : Int64)) dX2_stayChance_78 (by decide) ?_
          refine ra_lstore dX2_stayChance_79 rfl (Nat.le_of_ble_eq_true rfl) ?_
          show Rn _ _ _ _ _ _ _ _ [some (rf E 22), none, some (.int zx2), some (.int zx3), some (.int zx4), some (.int zx5), some (.int zx6), some (.int zx5), some (.int (0 : Int32)), some (.long (1 : Int64)), none, none] _ _ _
          refine rn_iconst (x := (0 : Int32)) dX2_stayChance_81 (by decide) ?_
          refine ra_istore dX2_stayChance_82 rfl (Nat.le_of_ble_eq_true rfl) ?_
          show Rn _ _ _ _ _ _ _ _ [some (rf E 22), none, some (.int zx2), some (.int zx3), some (.int zx4), some (.int zx5), some (.int zx6), some (.int zx5), some (.int (0 : Int32)), some (.long (1 : Int64)), none, some (.int (0 : Int32))] _ _ _
          exact rn_wk (L' := [some (rf E 22), none, some (.int zx2), some (.int zx3), none, none, none, some (.int zx5), some (.int (0 : Int32)), some (.long (1 : Int64)), none, some (.int (0 : Int32))]) (⟨rfl, ⟨rfl, ⟨rfl, ⟨rfl, ⟨rfl, ⟨rfl, ⟨rfl, trivial⟩⟩⟩⟩⟩⟩⟩) hF
        · replace hF := hF.2 hc_34
          refine rn_iconst (x := (1 : Int32)) dX2_stayChance_71 (by decide) ?_
          refine rn_goto (tgt := 76) dX2_stayChance_72 (by decide) ?_
          refine ra_istore dX2_stayChance_76 rfl (Nat.le_of_ble_eq_true rfl) ?_
          show Rn _ _ _ _ _ _ _ _ [some (rf E 22), none, some (.int zx2), some (.int zx3), some (.int zx4), some (.int zx5), some (.int zx6), some (.int zx5), some (.int (1 : Int32)), none, none, none] _ _ _
          refine rn_lconst (x := (1 : Int64)) dX2_stayChance_78 (by decide) ?_
          refine ra_lstore dX2_stayChance_79 rfl (Nat.le_of_ble_eq_true rfl) ?_
          show Rn _ _ _ _ _ _ _ _ [some (rf E 22), none, some (.int zx2), some (.int zx3), some (.int zx4), some (.int zx5), some (.int zx6), some (.int zx5), some (.int (1 : Int32)), some (.long (1 : Int64)), none, none] _ _ _
          refine rn_iconst (x := (0 : Int32)) dX2_stayChance_81 (by decide) ?_
          refine ra_istore dX2_stayChance_82 rfl (Nat.le_of_ble_eq_true rfl) ?_
          show Rn _ _ _ _ _ _ _ _ [some (rf E 22), none, some (.int zx2), some (.int zx3), some (.int zx4), some (.int zx5), some (.int zx6), some (.int zx5), some (.int (1 : Int32)), some (.long (1 : Int64)), none, some (.int (0 : Int32))] _ _ _
          exact rn_wk (L' := [some (rf E 22), none, some (.int zx2), some (.int zx3), none, none, none, some (.int zx5), some (.int (1 : Int32)), some (.long (1 : Int64)), none, some (.int (0 : Int32))]) (⟨rfl, ⟨rfl, ⟨rfl, ⟨rfl, ⟨rfl, ⟨rfl, ⟨rfl, trivial⟩⟩⟩⟩⟩⟩⟩) hF
    · replace hF := hF.2 hc_21
      refine rn_iload dX2_stayChance_26 rfl ?_
      refine rn_iconst (x := (2 : Int32)) dX2_stayChance_28 (by decide) ?_
      refine rn_idiv dX2_stayChance_29 (by decide) ?_
      refine rn_istore dX2_stayChance_30 rfl (Nat.le_of_ble_eq_true rfl) (fun zx5_41 ezx5_41 => ?_)
      replace hF := hF zx5_41 ezx5_41
      show Rn _ _ _ _ _ _ _ _ [some (rf E 22), none, some (.int zx2), some (.int zx3), some (.int zx4), some (.int zx5_41), some (.int zx6), some (.int zx7), none, none, none, none] _ _ _
      refine rn_iload dX2_stayChance_32 rfl ?_
      refine rn_iconst (x := (2 : Int32)) dX2_stayChance_34 (by decide) ?_
      refine rn_idiv dX2_stayChance_35 (by decide) ?_
      refine rn_istore dX2_stayChance_36 rfl (Nat.le_of_ble_eq_true rfl) (fun zx6_42 ezx6_42 => ?_)
      replace hF := hF zx6_42 ezx6_42
      show Rn _ _ _ _ _ _ _ _ [some (rf E 22), none, some (.int zx2), some (.int zx3), some (.int zx4), some (.int zx5_41), some (.int zx6_42), some (.int zx7), none, none, none, none] _ _ _
      refine rn_iinc (w := (1 : Int32)) dX2_stayChance_38 rfl (by decide) rfl (Nat.le_of_ble_eq_true rfl) (fun zx7_43 ezx7_43 => ?_)
      replace hF := hF zx7_43 ezx7_43
      show Rn _ _ _ _ _ _ _ _ [some (rf E 22), none, some (.int zx2), some (.int zx3), some (.int zx4), some (.int zx5_41), some (.int zx6_42), some (.int zx7_43), none, none, none, none] _ _ _
      refine rn_goto (tgt := 13) dX2_stayChance_41 (by decide) ?_
      exact rn_wk (L' := [some (rf E 22), none, some (.int zx2), some (.int zx3), some (.int zx4), some (.int zx5_41), some (.int zx6_42), some (.int zx7_43), none, none, none, none]) (⟨rfl, ⟨rfl, ⟨rfl, ⟨rfl, ⟨rfl, ⟨rfl, ⟨rfl, trivial⟩⟩⟩⟩⟩⟩⟩) hF
theorem sgX2_stayChance_84 {E : En} {Q : Option Value → Hi → Prop} {H : Hi} {zx2 : Int32} {zx3 : Int32} {zx7 : Int32} {zx8 : Int32} {zy9 : Int64} {zx11 : Int32} 
    (hF : (zx3 < zx11 → (Q (some (.long zy9)) H)) ∧ (¬ zx3 < zx11 → ((zx8 = 0 → (∀ zx11_3 : Int32, zx11_3 = zx11 + (1 : Int32) → (Rm E mX2_stayChance Q 84 [some (rf E 22), none, some (.int zx2), some (.int zx3), none, none, none, some (.int zx7), some (.int zx8), some (.long zy9), none, some (.int zx11_3)] [] H))) ∧ (¬ zx8 = 0 → (∃ zj_4 : Nat, (zj_4 < 24 ∧ zx11 = nI zj_4) ∧ (((((H (28 + 2 * zj_4) 1) >>> (zx2 &&& 31)) &&& (1 : Int32)) = 0 → (∀ zx11_6 : Int32, zx11_6 = zx11 + (1 : Int32) → (Rm E mX2_stayChance Q 84 [some (rf E 22), none, some (.int zx2), some (.int zx3), none, none, none, some (.int zx7), some (.int zx8), some (.long zy9), none, some (.int zx11_6)] [] H))) ∧ (¬ (((H (28 + 2 * zj_4) 1) >>> (zx2 &&& 31)) &&& (1 : Int32)) = 0 → (∀ zx9_7 : Int64, zx9_7 = zy9 * (zx7.toInt64) → (∀ zx11_8 : Int32, zx11_8 = zx11 + (1 : Int32) → (Rm E mX2_stayChance Q 84 [some (rf E 22), none, some (.int zx2), some (.int zx3), none, none, none, some (.int zx7), some (.int zx8), some (.long zx9_7), none, some (.int zx11_8)] [] H)))))))))) :
    Rm E mX2_stayChance Q 84 [some (rf E 22), none, some (.int zx2), some (.int zx3), none, none, none, some (.int zx7), some (.int zx8), some (.long zy9), none, some (.int zx11)] [] H := by
  refine rn_iload dX2_stayChance_84 rfl ?_
  refine rn_iload_n dX2_stayChance_86 rfl ?_
  refine rn_icmp_gt (tgt := 126) dX2_stayChance_87 (by decide) (fun hc_1 => ?_) (fun hc_1 => ?_)
  · replace hF := hF.1 hc_1
    refine rn_lload dX2_stayChance_126 rfl ?_
    exact rm_lret rfl dX2_stayChance_128 hF
  · replace hF := hF.2 hc_1
    refine rn_iload dX2_stayChance_90 rfl ?_
    refine rn_if_eq (tgt := 120) dX2_stayChance_92 (by decide) (fun hc_2 => ?_) (fun hc_2 => ?_)
    · replace hF := hF.1 hc_2
      refine rn_iinc (w := (1 : Int32)) dX2_stayChance_120 rfl (by decide) rfl (Nat.le_of_ble_eq_true rfl) (fun zx11_3 ezx11_3 => ?_)
      replace hF := hF zx11_3 ezx11_3
      show Rn _ _ _ _ _ _ _ _ [some (rf E 22), none, some (.int zx2), some (.int zx3), none, none, none, some (.int zx7), some (.int zx8), some (.long zy9), none, some (.int zx11_3)] _ _ _
      refine rn_goto (tgt := 84) dX2_stayChance_123 (by decide) ?_
      exact rn_wk (L' := [some (rf E 22), none, some (.int zx2), some (.int zx3), none, none, none, some (.int zx7), some (.int zx8), some (.long zy9), none, some (.int zx11_3)]) (⟨rfl, ⟨rfl, ⟨rfl, ⟨rfl, ⟨rfl, ⟨rfl, ⟨rfl, trivial⟩⟩⟩⟩⟩⟩⟩) hF
    · replace hF := hF.2 hc_2
      refine rn_aload_n dX2_stayChance_95 rfl ?_
      refine rm_getr (r := 25) flRX2_22 rfl (by decide) rfl dX2_stayChance_96 ?_
      refine rn_iload dX2_stayChance_99 rfl ?_
      obtain ⟨zj_4, hzj_4, hF⟩ := hF
      refine rj_aald (j := zj_4) (Cn := RX6) (r := (28 + 2 * zj_4)) hzj_4 (st_beh _ hzj_4.1).2 rfl (by decide) (by decide) rfl (by decide) dX2_stayChance_101 ?_
      refine rm_geti flRX2_104 (st_beh _ hzj_4.1).1.2.1 (st_beh _ hzj_4.1).1.1 (rT_row (st_beh _ hzj_4.1).1.2.2 _) dX2_stayChance_102 ?_
      refine rn_iload_n dX2_stayChance_105 rfl ?_
      refine rn_ishr dX2_stayChance_106 ?_
      refine rn_iconst (x := (1 : Int32)) dX2_stayChance_107 (by decide) ?_
      refine rn_iand dX2_stayChance_108 ?_
      refine rn_if_eq (tgt := 120) dX2_stayChance_109 (by decide) (fun hc_5 => ?_) (fun hc_5 => ?_)
      · replace hF := hF.1 hc_5
        refine rn_iinc (w := (1 : Int32)) dX2_stayChance_120 rfl (by decide) rfl (Nat.le_of_ble_eq_true rfl) (fun zx11_6 ezx11_6 => ?_)
        replace hF := hF zx11_6 ezx11_6
        show Rn _ _ _ _ _ _ _ _ [some (rf E 22), none, some (.int zx2), some (.int zx3), none, none, none, some (.int zx7), some (.int zx8), some (.long zy9), none, some (.int zx11_6)] _ _ _
        refine rn_goto (tgt := 84) dX2_stayChance_123 (by decide) ?_
        exact rn_wk (L' := [some (rf E 22), none, some (.int zx2), some (.int zx3), none, none, none, some (.int zx7), some (.int zx8), some (.long zy9), none, some (.int zx11_6)]) (⟨rfl, ⟨rfl, ⟨rfl, ⟨rfl, ⟨rfl, ⟨rfl, ⟨rfl, trivial⟩⟩⟩⟩⟩⟩⟩) hF
      · replace hF := hF.2 hc_5
        refine rn_lload dX2_stayChance_112 rfl ?_
        refine rn_iload dX2_stayChance_114 rfl ?_
        refine rn_i2l dX2_stayChance_116 ?_
        refine rn_lmul dX2_stayChance_117 ?_
        refine rn_lstore dX2_stayChance_118 rfl (Nat.le_of_ble_eq_true rfl) (fun zx9_7 ezx9_7 => ?_)
        replace hF := hF zx9_7 ezx9_7
        show Rn _ _ _ _ _ _ _ _ [some (rf E 22), none, some (.int zx2), some (.int zx3), none, none, none, some (.int zx7), some (.int zx8), some (.long zx9_7), none, some (.int zx11)] _ _ _
        refine rn_iinc (w := (1 : Int32)) dX2_stayChance_120 rfl (by decide) rfl (Nat.le_of_ble_eq_true rfl) (fun zx11_8 ezx11_8 => ?_)
        replace hF := hF zx11_8 ezx11_8
        show Rn _ _ _ _ _ _ _ _ [some (rf E 22), none, some (.int zx2), some (.int zx3), none, none, none, some (.int zx7), some (.int zx8), some (.long zx9_7), none, some (.int zx11_8)] _ _ _
        refine rn_goto (tgt := 84) dX2_stayChance_123 (by decide) ?_
        exact rn_wk (L' := [some (rf E 22), none, some (.int zx2), some (.int zx3), none, none, none, some (.int zx7), some (.int zx8), some (.long zx9_7), none, some (.int zx11_8)]) (⟨rfl, ⟨rfl, ⟨rfl, ⟨rfl, ⟨rfl, ⟨rfl, ⟨rfl, trivial⟩⟩⟩⟩⟩⟩⟩) hF
theorem sgX2_dayBySeed_0 {E : En} {Q : Option Value → Hi → Prop} {H : Hi} {zx1 : Int32} {zx2 : Int32} {zx3 : Int32} 
    (hF : ((H 5 0) ≤ 0 → (Cm E mX6_become [rf E 26, rf E 23] H (fun w zH_5 => w = none ∧ (Rm E mX2_dayBySeed Q 47 [some (rf E 22), none, some (.int zx2), some (.int zx3), some (.int (0 : Int32)), some (.int zx1), some (.int (0 : Int32)), some (.int (0 : Int32)), none, none] [] zH_5)))) ∧ (¬ (H 5 0) ≤ 0 → (((H 5 1) ≤ 0 → (Cm E mX6_become [rf E 26, rf E 23] H (fun w zH_11 => w = none ∧ (Rm E mX2_dayBySeed Q 47 [some (rf E 22), none, some (.int zx2), some (.int zx3), some (.int (0 : Int32)), some (.int zx1), some (.int (0 : Int32)), some (.int (0 : Int32)), none, none] [] zH_11)))) ∧ (¬ (H 5 1) ≤ 0 → (Cm E mX6_become [rf E 26, rf E 23] H (fun w zH_16 => w = none ∧ (Rm E mX2_dayBySeed Q 47 [some (rf E 22), none, some (.int zx2), some (.int zx3), some (.int (1 : Int32)), some (.int zx1), some (.int (0 : Int32)), some (.int (0 : Int32)), none, none] [] zH_16))))))) :
    Rm E mX2_dayBySeed Q 0 [some (rf E 22), some (.int zx1), some (.int zx2), some (.int zx3), none, none, none, none, none, none] [] H := by
  refine rn_aload_n dX2_dayBySeed_0 rfl ?_
  refine rm_getr (r := 5) flRX2_28 rfl (by decide) rfl dX2_dayBySeed_1 ?_
  refine rm_geti flRX2_60 rfl (by decide) rfl dX2_dayBySeed_4 ?_
  refine rn_if_le (tgt := 24) dX2_dayBySeed_7 (by decide) (fun hc_1 => ?_) (fun hc_1 => ?_)
  · replace hF := hF.1 hc_1
    refine rn_iconst (x := (0 : Int32)) dX2_dayBySeed_24 (by decide) ?_
    refine ra_istore dX2_dayBySeed_25 rfl (Nat.le_of_ble_eq_true rfl) ?_
    show Rn _ _ _ _ _ _ _ _ [some (rf E 22), some (.int zx1), some (.int zx2), some (.int zx3), some (.int (0 : Int32)), none, none, none, none, none] _ _ _
    refine rn_iload_n dX2_dayBySeed_27 rfl ?_
    refine ra_istore dX2_dayBySeed_28 rfl (Nat.le_of_ble_eq_true rfl) ?_
    show Rn _ _ _ _ _ _ _ _ [some (rf E 22), some (.int zx1), some (.int zx2), some (.int zx3), some (.int (0 : Int32)), some (.int zx1), none, none, none, none] _ _ _
    refine rn_iconst (x := (0 : Int32)) dX2_dayBySeed_30 (by decide) ?_
    refine ra_istore dX2_dayBySeed_31 rfl (Nat.le_of_ble_eq_true rfl) ?_
    show Rn _ _ _ _ _ _ _ _ [some (rf E 22), some (.int zx1), some (.int zx2), some (.int zx3), some (.int (0 : Int32)), some (.int zx1), some (.int (0 : Int32)), none, none, none] _ _ _
    refine rn_aload_n dX2_dayBySeed_33 rfl ?_
    refine rm_getr (r := 26) flRX2_25 rfl (by decide) rfl dX2_dayBySeed_34 ?_
    refine rn_aload_n dX2_dayBySeed_37 rfl ?_
    refine rm_getr (r := 23) flRX2_12 rfl (by decide) rfl dX2_dayBySeed_38 ?_
    refine rm_callV (c0 := 26) (As := [rf E 23]) (st := []) mlRX2_39 mdX6_become (Nat.le_of_ble_eq_true rfl) rfl (by decide) (by decide) rfl rfl rfl (Nat.le_of_ble_eq_true rfl) ⟨Nat.le_refl _, Nat.le_refl _⟩ dX2_dayBySeed_41 ?_
    refine cm_mono hF (fun w zH_5 hF => ?_)
    obtain ⟨rfl, hF⟩ := hF
    refine rn_iconst (x := (0 : Int32)) dX2_dayBySeed_44 (by decide) ?_
    refine ra_istore dX2_dayBySeed_45 rfl (Nat.le_of_ble_eq_true rfl) ?_
    show Rn _ _ _ _ _ _ _ _ [some (rf E 22), some (.int zx1), some (.int zx2), some (.int zx3), some (.int (0 : Int32)), some (.int zx1), some (.int (0 : Int32)), some (.int (0 : Int32)), none, none] _ _ _
    exact rn_wk (L' := [some (rf E 22), none, some (.int zx2), some (.int zx3), some (.int (0 : Int32)), some (.int zx1), some (.int (0 : Int32)), some (.int (0 : Int32)), none, none]) (⟨rfl, ⟨rfl, ⟨rfl, ⟨rfl, ⟨rfl, ⟨rfl, ⟨rfl, trivial⟩⟩⟩⟩⟩⟩⟩) hF
  · replace hF := hF.2 hc_1
    refine rn_aload_n dX2_dayBySeed_10 rfl ?_
    refine rm_getr (r := 5) flRX2_28 rfl (by decide) rfl dX2_dayBySeed_11 ?_
    refine rm_geti flRX2_69 rfl (by decide) rfl dX2_dayBySeed_14 ?_
    refine rn_if_le (tgt := 24) dX2_dayBySeed_17 (by decide) (fun hc_7 => ?_) (fun hc_7 => ?_)
    · replace hF := hF.1 hc_7
      refine rn_iconst (x := (0 : Int32)) dX2_dayBySeed_24 (by decide) ?_
      refine ra_istore dX2_dayBySeed_25 rfl (Nat.le_of_ble_eq_true rfl) ?_
      show Rn _ _ _ _ _ _ _ _ [some (rf E 22), some (.int zx1), some (.int zx2), some (.int zx3), some (.int (0 : Int32)), none, none, none, none, none] _ _ _
      refine rn_iload_n dX2_dayBySeed_27 rfl ?_
      refine ra_istore dX2_dayBySeed_28 rfl (Nat.le_of_ble_eq_true rfl) ?_
      show Rn _ _ _ _ _ _ _ _ [some (rf E 22), some (.int zx1), some (.int zx2), some (.int zx3), some (.int (0 : Int32)), some (.int zx1), none, none, none, none] _ _ _
      refine rn_iconst (x := (0 : Int32)) dX2_dayBySeed_30 (by decide) ?_
      refine ra_istore dX2_dayBySeed_31 rfl (Nat.le_of_ble_eq_true rfl) ?_
      show Rn _ _ _ _ _ _ _ _ [some (rf E 22), some (.int zx1), some (.int zx2), some (.int zx3), some (.int (0 : Int32)), some (.int zx1), some (.int (0 : Int32)), none, none, none] _ _ _
      refine rn_aload_n dX2_dayBySeed_33 rfl ?_
      refine rm_getr (r := 26) flRX2_25 rfl (by decide) rfl dX2_dayBySeed_34 ?_
      refine rn_aload_n dX2_dayBySeed_37 rfl ?_
      refine rm_getr (r := 23) flRX2_12 rfl (by decide) rfl dX2_dayBySeed_38 ?_
      refine rm_callV (c0 := 26) (As := [rf E 23]) (st := []) mlRX2_39 mdX6_become (Nat.le_of_ble_eq_true rfl) rfl (by decide) (by decide) rfl rfl rfl (Nat.le_of_ble_eq_true rfl) ⟨Nat.le_refl _, Nat.le_refl _⟩ dX2_dayBySeed_41 ?_
      refine cm_mono hF (fun w zH_11 hF => ?_)
      obtain ⟨rfl, hF⟩ := hF
      refine rn_iconst (x := (0 : Int32)) dX2_dayBySeed_44 (by decide) ?_
      refine ra_istore dX2_dayBySeed_45 rfl (Nat.le_of_ble_eq_true rfl) ?_
      show Rn _ _ _ _ _ _ _ _ [some (rf E 22), some (.int zx1), some (.int zx2), some (.int zx3), some (.int (0 : Int32)), some (.int zx1), some (.int (0 : Int32)), some (.int (0 : Int32)), none, none] _ _ _
      exact rn_wk (L' := [some (rf E 22), none, some (.int zx2), some (.int zx3), some (.int (0 : Int32)), some (.int zx1), some (.int (0 : Int32)), some (.int (0 : Int32)), none, none]) (⟨rfl, ⟨rfl, ⟨rfl, ⟨rfl, ⟨rfl, ⟨rfl, ⟨rfl, trivial⟩⟩⟩⟩⟩⟩⟩) hF
    · replace hF := hF.2 hc_7
      refine rn_iconst (x := (1 : Int32)) dX2_dayBySeed_20 (by decide) ?_
      refine rn_goto (tgt := 25) dX2_dayBySeed_21 (by decide) ?_
      refine ra_istore dX2_dayBySeed_25 rfl (Nat.le_of_ble_eq_true rfl) ?_
      show Rn _ _ _ _ _ _ _ _ [some (rf E 22), some (.int zx1), some (.int zx2), some (.int zx3), some (.int (1 : Int32)), none, none, none, none, none] _ _ _
      refine rn_iload_n dX2_dayBySeed_27 rfl ?_
      refine ra_istore dX2_dayBySeed_28 rfl (Nat.le_of_ble_eq_true rfl) ?_
      show Rn _ _ _ _ _ _ _ _ [some (rf E 22), some (.int zx1), some (.int zx2), some (.int zx3), some (.int (1 : Int32)), some (.int zx1), none, none, none, none] _ _ _
      refine rn_iconst (x := (0 : Int32)) dX2_dayBySeed_30 (by decide) ?_
      refine ra_istore dX2_dayBySeed_31 rfl (Nat.le_of_ble_eq_true rfl) ?_
      show Rn _ _ _ _ _ _ _ _ [some (rf E 22), some (.int zx1), some (.int zx2), some (.int zx3), some (.int (1 : Int32)), some (.int zx1), some (.int (0 : Int32)), none, none, none] _ _ _
      refine rn_aload_n dX2_dayBySeed_33 rfl ?_
      refine rm_getr (r := 26) flRX2_25 rfl (by decide) rfl dX2_dayBySeed_34 ?_
      refine rn_aload_n dX2_dayBySeed_37 rfl ?_
      refine rm_getr (r := 23) flRX2_12 rfl (by decide) rfl dX2_dayBySeed_38 ?_
      refine rm_callV (c0 := 26) (As := [rf E 23]) (st := []) mlRX2_39 mdX6_become (Nat.le_of_ble_eq_true rfl) rfl (by decide) (by decide) rfl rfl rfl (Nat.le_of_ble_eq_true rfl) ⟨Nat.le_refl _, Nat.le_refl _⟩ dX2_dayBySeed_41 ?_
      refine cm_mono hF (fun w zH_16 hF => ?_)
      obtain ⟨rfl, hF⟩ := hF
      refine rn_iconst (x := (0 : Int32)) dX2_dayBySeed_44 (by decide) ?_
      refine ra_istore dX2_dayBySeed_45 rfl (Nat.le_of_ble_eq_true rfl) ?_
      show Rn _ _ _ _ _ _ _ _ [some (rf E 22), some (.int zx1), some (.int zx2), some (.int zx3), some (.int (1 : Int32)), some (.int zx1), some (.int (0 : Int32)), some (.int (0 : Int32)), none, none] _ _ _
      exact rn_wk (L' := [some (rf E 22), none, some (.int zx2), some (.int zx3), some (.int (1 : Int32)), some (.int zx1), some (.int (0 : Int32)), some (.int (0 : Int32)), none, none]) (⟨rfl, ⟨rfl, ⟨rfl, ⟨rfl, ⟨rfl, ⟨rfl, ⟨rfl, trivial⟩⟩⟩⟩⟩⟩⟩) hF
theorem cmX2_dayBySeed {E : En} {Q : Option Value → Hi → Prop} {H : Hi} {zx1 : Int32} {zx2 : Int32} {zx3 : Int32} 
    (hF : ((H 5 0) ≤ 0 → (Cm E mX6_become [rf E 26, rf E 23] H (fun w zH_5 => w = none ∧ (Rm E mX2_dayBySeed Q 47 [some (rf E 22), none, some (.int zx2), some (.int zx3), some (.int (0 : Int32)), some (.int zx1), some (.int (0 : Int32)), some (.int (0 : Int32)), none, none] [] zH_5)))) ∧ (¬ (H 5 0) ≤ 0 → (((H 5 1) ≤ 0 → (Cm E mX6_become [rf E 26, rf E 23] H (fun w zH_11 => w = none ∧ (Rm E mX2_dayBySeed Q 47 [some (rf E 22), none, some (.int zx2), some (.int zx3), some (.int (0 : Int32)), some (.int zx1), some (.int (0 : Int32)), some (.int (0 : Int32)), none, none] [] zH_11)))) ∧ (¬ (H 5 1) ≤ 0 → (Cm E mX6_become [rf E 26, rf E 23] H (fun w zH_16 => w = none ∧ (Rm E mX2_dayBySeed Q 47 [some (rf E 22), none, some (.int zx2), some (.int zx3), some (.int (1 : Int32)), some (.int zx1), some (.int (0 : Int32)), some (.int (0 : Int32)), none, none] [] zH_16))))))) :
    Cm E mX2_dayBySeed [rf E 22, .int zx1, .int zx2, .int zx3] H Q :=
  cm_of (by decide +kernel : plainName RX2 = true) (Nat.le_of_ble_eq_true rfl) rfl (sgX2_dayBySeed_0  hF)
theorem sgX2_dayBySeed_47 {E : En} {Q : Option Value → Hi → Prop} {H : Hi} {zx2 : Int32} {zx3 : Int32} {zx4 : Int32} {zx5 : Int32} {zx6 : Int32} {zx7 : Int32} 
    (hF : (zx2 < zx7 → ((¬ zx3 = (-1 : Int32) → (Cm E mX6_placeOf [rf E 26, .int zx3] H (fun w zH_3 => ∃ zr_4 : Int32, w = some (.int zr_4) ∧ (Q (some (.int zr_4)) zH_3)))) ∧ (zx3 = (-1 : Int32) → (Q (some (.int zx6)) H)))) ∧ (¬ zx2 < zx7 → (Cm E mX2_open [rf E 22, rf E 26, .int zx7] H (fun w zH_5 => ∃ zr_6 : Int32, w = some (.int zr_6) ∧ ((zx4 = 0 → (Cm E mX2_close [rf E 22, rf E 26, .int zx7, .int (zH_5 11 1)] zH_5 (fun w zH_8 => w = none ∧ (∀ zx7_9 : Int32, zx7_9 = zx7 + (1 : Int32) → (Rm E mX2_dayBySeed Q 47 [some (rf E 22), none, some (.int zx2), some (.int zx3), some (.int zx4), some (.int zx5), some (.int zx6), some (.int zx7_9), none, none] [] zH_8))))) ∧ (¬ zx4 = 0 → (Cm E mX2_nextLot [.int zx5] zH_5 (fun w zH_10 => ∃ zr_11 : Int32, w = some (.int zr_11) ∧ (Cm E mX2_drawn [.int zr_11, .int (zH_10 5 1)] zH_10 (fun w zH_13 => ∃ zr_14 : Int32, w = some (.int zr_14) ∧ (Cm E mX2_nextLot [.int zr_11] zH_13 (fun w zH_16 => ∃ zr_17 : Int32, w = some (.int zr_17) ∧ (Cm E mX2_drawn [.int zr_17, .int (zH_16 5 0)] zH_16 (fun w zH_19 => ∃ zr_20 : Int32, w = some (.int zr_20) ∧ (Cm E mX2_nextLot [.int zr_17] zH_19 (fun w zH_22 => ∃ zr_23 : Int32, w = some (.int zr_23) ∧ (Cm E mX2_drawn [.int zr_23, .int (2 : Int32)] zH_22 (fun w zH_25 => ∃ zr_26 : Int32, w = some (.int zr_26) ∧ (Cm E mX2_reach [rf E 22, rf E 26, .int ((((64 : Int32) * zr_26) + ((8 : Int32) * zr_14)) + zr_20)] zH_25 (fun w zH_27 => ∃ zr_28 : Int32, w = some (.int zr_28) ∧ ((zr_28 = 0 → (∀ zx6_30 : Int32, zx6_30 = zx6 + (0 : Int32) → (Cm E mX2_close [rf E 22, rf E 26, .int zx7, .int (zH_27 11 1)] zH_27 (fun w zH_31 => w = none ∧ (∀ zx7_32 : Int32, zx7_32 = zx7 + (1 : Int32) → (Rm E mX2_dayBySeed Q 47 [some (rf E 22), none, some (.int zx2), some (.int zx3), some (.int zx4), some (.int zr_23), some (.int zx6_30), some (.int zx7_32), none, none] [] zH_31)))))) ∧ (¬ zr_28 = 0 → (∀ zx6_33 : Int32, zx6_33 = zx6 + (1 : Int32) → (Cm E mX2_close [rf E 22, rf E 26, .int zx7, .int (zH_27 11 1)] zH_27 (fun w zH_34 => w = none ∧ (∀ zx7_35 : Int32, zx7_35 = zx7 + (1 : Int32) → (Rm E mX2_dayBySeed Q 47 [some (rf E 22), none, some (.int zx2), some (.int zx3), some (.int zx4), some (.int zr_23), some (.int zx6_33), some (.int zx7_35), none, none] [] zH_34))))))))))))))))))))))))))) :
    Rm E mX2_dayBySeed Q 47 [some (rf E 22), none, some (.int zx2), some (.int zx3), some (.int zx4), some (.int zx5), some (.int zx6), some (.int zx7), none, none] [] H := by
  refine rn_iload dX2_dayBySeed_47 rfl ?_
  refine rn_iload_n dX2_dayBySeed_49 rfl ?_
  refine rn_icmp_gt (tgt := 180) dX2_dayBySeed_50 (by decide) (fun hc_1 => ?_) (fun hc_1 => ?_)
  · replace hF := hF.1 hc_1
    refine rn_iload_n dX2_dayBySeed_180 rfl ?_
    refine rn_iconst (x := (-1 : Int32)) dX2_dayBySeed_181 (by decide) ?_
    refine rn_icmp_ne (tgt := 190) dX2_dayBySeed_182 (by decide) (fun hc_2 => ?_) (fun hc_2 => ?_)
    · replace hF := hF.1 hc_2
      refine rn_aload_n dX2_dayBySeed_190 rfl ?_
      refine rm_getr (r := 26) flRX2_25 rfl (by decide) rfl dX2_dayBySeed_191 ?_
      refine rn_iload_n dX2_dayBySeed_194 rfl ?_
      refine rm_callV (c0 := 26) (As := [.int zx3]) (st := []) mlRX2_135 mdX6_placeOf (Nat.le_of_ble_eq_true rfl) rfl (by decide) (by decide) rfl rfl rfl (Nat.le_of_ble_eq_true rfl) ⟨Nat.le_refl _, Nat.le_refl _⟩ dX2_dayBySeed_195 ?_
      refine cm_mono hF (fun w zH_3 hF => ?_)
      obtain ⟨zr_4, rfl, hF⟩ := hF
      exact rm_iret rfl dX2_dayBySeed_198 hF
    · replace hF := hF.2 hc_2
      refine rn_iload dX2_dayBySeed_185 rfl ?_
      refine rn_goto (tgt := 198) dX2_dayBySeed_187 (by decide) ?_
      exact rm_iret rfl dX2_dayBySeed_198 hF
  · replace hF := hF.2 hc_1
    refine rn_aload_n dX2_dayBySeed_53 rfl ?_
    refine rn_aload_n dX2_dayBySeed_54 rfl ?_
    refine rm_getr (r := 26) flRX2_25 rfl (by decide) rfl dX2_dayBySeed_55 ?_
    refine rn_iload dX2_dayBySeed_58 rfl ?_
    refine rm_callV (c0 := 22) (As := [rf E 26, .int zx7]) (st := []) mlRX2_47 mdX2_open (Nat.le_of_ble_eq_true rfl) rfl (by decide) (by decide) rfl rfl rfl (Nat.le_of_ble_eq_true rfl) ⟨Nat.le_refl _, Nat.le_refl _⟩ dX2_dayBySeed_60 ?_
    refine cm_mono hF (fun w zH_5 hF => ?_)
    obtain ⟨zr_6, rfl, hF⟩ := hF
    refine rn_pop dX2_dayBySeed_63 rfl ?_
    refine rn_iload dX2_dayBySeed_64 rfl ?_
    refine rn_if_eq (tgt := 157) dX2_dayBySeed_66 (by decide) (fun hc_7 => ?_) (fun hc_7 => ?_)
    · replace hF := hF.1 hc_7
      refine rn_aload_n dX2_dayBySeed_157 rfl ?_
      refine rn_aload_n dX2_dayBySeed_158 rfl ?_
      refine rm_getr (r := 26) flRX2_25 rfl (by decide) rfl dX2_dayBySeed_159 ?_
      refine rn_iload dX2_dayBySeed_162 rfl ?_
      refine rn_aload_n dX2_dayBySeed_164 rfl ?_
      refine rm_getr (r := 11) flRX2_32 rfl (by decide) rfl dX2_dayBySeed_165 ?_
      refine rm_geti flRX2_51 rfl (by decide) rfl dX2_dayBySeed_168 ?_
      refine rm_callV (c0 := 22) (As := [rf E 26, .int zx7, .int (zH_5 11 1)]) (st := []) mlRX2_56 mdX2_close (Nat.le_of_ble_eq_true rfl) rfl (by decide) (by decide) rfl rfl rfl (Nat.le_of_ble_eq_true rfl) ⟨Nat.le_refl _, Nat.le_refl _⟩ dX2_dayBySeed_171 ?_
      refine cm_mono hF (fun w zH_8 hF => ?_)
      obtain ⟨rfl, hF⟩ := hF
      refine rn_iinc (w := (1 : Int32)) dX2_dayBySeed_174 rfl (by decide) rfl (Nat.le_of_ble_eq_true rfl) (fun zx7_9 ezx7_9 => ?_)
      replace hF := hF zx7_9 ezx7_9
      show Rn _ _ _ _ _ _ _ _ [some (rf E 22), none, some (.int zx2), some (.int zx3), some (.int zx4), some (.int zx5), some (.int zx6), some (.int zx7_9), none, none] _ _ _
      refine rn_goto (tgt := 47) dX2_dayBySeed_177 (by decide) ?_
      exact rn_wk (L' := [some (rf E 22), none, some (.int zx2), some (.int zx3), some (.int zx4), some (.int zx5), some (.int zx6), some (.int zx7_9), none, none]) (⟨rfl, ⟨rfl, ⟨rfl, ⟨rfl, ⟨rfl, ⟨rfl, ⟨rfl, trivial⟩⟩⟩⟩⟩⟩⟩) hF
    · replace hF := hF.2 hc_7
      refine rn_iload dX2_dayBySeed_69 rfl ?_
      refine rm_callS (As := [.int zx5]) (st := []) mlRX2_148 mdX2_nextLot (Nat.le_of_ble_eq_true rfl) rfl rfl (Nat.le_of_ble_eq_true rfl) ⟨Nat.le_refl _, Nat.le_refl _⟩ dX2_dayBySeed_71 ?_
      refine cm_mono hF (fun w zH_10 hF => ?_)
      obtain ⟨zr_11, rfl, hF⟩ := hF
      refine ra_istore dX2_dayBySeed_74 rfl (Nat.le_of_ble_eq_true rfl) ?_
      show Rn _ _ _ _ _ _ _ _ [some (rf E 22), none, some (.int zx2), some (.int zx3), some (.int zx4), some (.int zr_11), some (.int zx6), some (.int zx7), none, none] _ _ _
      refine rn_iload dX2_dayBySeed_76 rfl ?_
      refine rn_aload_n dX2_dayBySeed_78 rfl ?_
      refine rm_getr (r := 5) flRX2_28 rfl (by decide) rfl dX2_dayBySeed_79 ?_
      refine rm_geti flRX2_69 rfl (by decide) rfl dX2_dayBySeed_82 ?_
      refine rm_callS (As := [.int zr_11, .int (zH_10 5 1)]) (st := []) mlRX2_151 mdX2_drawn (Nat.le_of_ble_eq_true rfl) rfl rfl (Nat.le_of_ble_eq_true rfl) ⟨Nat.le_refl _, Nat.le_refl _⟩ dX2_dayBySeed_85 ?_
      refine cm_mono hF (fun w zH_13 hF => ?_)
      obtain ⟨zr_14, rfl, hF⟩ := hF
      refine ra_istore dX2_dayBySeed_88 rfl (Nat.le_of_ble_eq_true rfl) ?_
      show Rn _ _ _ _ _ _ _ _ [some (rf E 22), none, some (.int zx2), some (.int zx3), some (.int zx4), some (.int zr_11), some (.int zx6), some (.int zx7), some (.int zr_14), none] _ _ _
      refine rn_iload dX2_dayBySeed_90 rfl ?_
      refine rm_callS (As := [.int zr_11]) (st := []) mlRX2_148 mdX2_nextLot (Nat.le_of_ble_eq_true rfl) rfl rfl (Nat.le_of_ble_eq_true rfl) ⟨Nat.le_refl _, Nat.le_refl _⟩ dX2_dayBySeed_92 ?_
      refine cm_mono hF (fun w zH_16 hF => ?_)
      obtain ⟨zr_17, rfl, hF⟩ := hF
      refine ra_istore dX2_dayBySeed_95 rfl (Nat.le_of_ble_eq_true rfl) ?_
      show Rn _ _ _ _ _ _ _ _ [some (rf E 22), none, some (.int zx2), some (.int zx3), some (.int zx4), some (.int zr_17), some (.int zx6), some (.int zx7), some (.int zr_14), none] _ _ _
      refine rn_iload dX2_dayBySeed_97 rfl ?_
      refine rn_aload_n dX2_dayBySeed_99 rfl ?_
      refine rm_getr (r := 5) flRX2_28 rfl (by decide) rfl dX2_dayBySeed_100 ?_
      refine rm_geti flRX2_60 rfl (by decide) rfl dX2_dayBySeed_103 ?_
      refine rm_callS (As := [.int zr_17, .int (zH_16 5 0)]) (st := []) mlRX2_151 mdX2_drawn (Nat.le_of_ble_eq_true rfl) rfl rfl (Nat.le_of_ble_eq_true rfl) ⟨Nat.le_refl _, Nat.le_refl _⟩ dX2_dayBySeed_106 ?_
      refine cm_mono hF (fun w zH_19 hF => ?_)
      obtain ⟨zr_20, rfl, hF⟩ := hF
      refine ra_istore dX2_dayBySeed_109 rfl (Nat.le_of_ble_eq_true rfl) ?_
      show Rn _ _ _ _ _ _ _ _ [some (rf E 22), none, some (.int zx2), some (.int zx3), some (.int zx4), some (.int zr_17), some (.int zx6), some (.int zx7), some (.int zr_14), some (.int zr_20)] _ _ _
      refine rn_iload dX2_dayBySeed_111 rfl ?_
      refine rm_callS (As := [.int zr_17]) (st := []) mlRX2_148 mdX2_nextLot (Nat.le_of_ble_eq_true rfl) rfl rfl (Nat.le_of_ble_eq_true rfl) ⟨Nat.le_refl _, Nat.le_refl _⟩ dX2_dayBySeed_113 ?_
      refine cm_mono hF (fun w zH_22 hF => ?_)
      obtain ⟨zr_23, rfl, hF⟩ := hF
      refine ra_istore dX2_dayBySeed_116 rfl (Nat.le_of_ble_eq_true rfl) ?_
      show Rn _ _ _ _ _ _ _ _ [some (rf E 22), none, some (.int zx2), some (.int zx3), some (.int zx4), some (.int zr_23), some (.int zx6), some (.int zx7), some (.int zr_14), some (.int zr_20)] _ _ _
      refine rn_iload dX2_dayBySeed_118 rfl ?_
      refine rn_aload_n dX2_dayBySeed_120 rfl ?_
      refine rn_aload_n dX2_dayBySeed_121 rfl ?_
      refine rm_getr (r := 26) flRX2_25 rfl (by decide) rfl dX2_dayBySeed_122 ?_
      refine rn_bipush (x := (64 : Int32)) dX2_dayBySeed_125 (by decide) ?_
      refine rn_iload dX2_dayBySeed_127 rfl ?_
      refine rn_iconst (x := (2 : Int32)) dX2_dayBySeed_129 (by decide) ?_
      refine rm_callS (As := [.int zr_23, .int (2 : Int32)]) (st := [.int (64 : Int32), rf E 26, rf E 22, .int zx6]) mlRX2_151 mdX2_drawn (Nat.le_of_ble_eq_true rfl) rfl rfl (Nat.le_of_ble_eq_true rfl) ⟨Nat.le_refl _, Nat.le_refl _⟩ dX2_dayBySeed_130 ?_
      refine cm_mono hF (fun w zH_25 hF => ?_)
      obtain ⟨zr_26, rfl, hF⟩ := hF
      refine rn_imul dX2_dayBySeed_133 ?_
      refine rn_bipush (x := (8 : Int32)) dX2_dayBySeed_134 (by decide) ?_
      refine rn_iload dX2_dayBySeed_136 rfl ?_
      refine rn_imul dX2_dayBySeed_138 ?_
      refine rn_iadd dX2_dayBySeed_139 ?_
      refine rn_iload dX2_dayBySeed_140 rfl ?_
      refine rn_iadd dX2_dayBySeed_142 ?_
      refine rm_callV (c0 := 22) (As := [rf E 26, .int ((((64 : Int32) * zr_26) + ((8 : Int32) * zr_14)) + zr_20)]) (st := [.int zx6]) mlRX2_91 mdX2_reach (Nat.le_of_ble_eq_true rfl) rfl (by decide) (by decide) rfl rfl rfl (Nat.le_of_ble_eq_true rfl) ⟨Nat.le_refl _, Nat.le_refl _⟩ dX2_dayBySeed_143 ?_
      refine cm_mono hF (fun w zH_27 hF => ?_)
      obtain ⟨zr_28, rfl, hF⟩ := hF
      refine rn_if_eq (tgt := 153) dX2_dayBySeed_146 (by decide) (fun hc_29 => ?_) (fun hc_29 => ?_)
      · replace hF := hF.1 hc_29
        refine rn_iconst (x := (0 : Int32)) dX2_dayBySeed_153 (by decide) ?_
        refine rn_iadd dX2_dayBySeed_154 ?_
        refine rn_istore dX2_dayBySeed_155 rfl (Nat.le_of_ble_eq_true rfl) (fun zx6_30 ezx6_30 => ?_)
        replace hF := hF zx6_30 ezx6_30
        show Rn _ _ _ _ _ _ _ _ [some (rf E 22), none, some (.int zx2), some (.int zx3), some (.int zx4), some (.int zr_23), some (.int zx6_30), some (.int zx7), some (.int zr_14), some (.int zr_20)] _ _ _
        refine rn_aload_n dX2_dayBySeed_157 rfl ?_
        refine rn_aload_n dX2_dayBySeed_158 rfl ?_
        refine rm_getr (r := 26) flRX2_25 rfl (by decide) rfl dX2_dayBySeed_159 ?_
        refine rn_iload dX2_dayBySeed_162 rfl ?_
        refine rn_aload_n dX2_dayBySeed_164 rfl ?_
        refine rm_getr (r := 11) flRX2_32 rfl (by decide) rfl dX2_dayBySeed_165 ?_
        refine rm_geti flRX2_51 rfl (by decide) rfl dX2_dayBySeed_168 ?_
        refine rm_callV (c0 := 22) (As := [rf E 26, .int zx7, .int (zH_27 11 1)]) (st := []) mlRX2_56 mdX2_close (Nat.le_of_ble_eq_true rfl) rfl (by decide) (by decide) rfl rfl rfl (Nat.le_of_ble_eq_true rfl) ⟨Nat.le_refl _, Nat.le_refl _⟩ dX2_dayBySeed_171 ?_
        refine cm_mono hF (fun w zH_31 hF => ?_)
        obtain ⟨rfl, hF⟩ := hF
        refine rn_iinc (w := (1 : Int32)) dX2_dayBySeed_174 rfl (by decide) rfl (Nat.le_of_ble_eq_true rfl) (fun zx7_32 ezx7_32 => ?_)
        replace hF := hF zx7_32 ezx7_32
        show Rn _ _ _ _ _ _ _ _ [some (rf E 22), none, some (.int zx2), some (.int zx3), some (.int zx4), some (.int zr_23), some (.int zx6_30), some (.int zx7_32), some (.int zr_14), some (.int zr_20)] _ _ _
        refine rn_goto (tgt := 47) dX2_dayBySeed_177 (by decide) ?_
        exact rn_wk (L' := [some (rf E 22), none, some (.int zx2), some (.int zx3), some (.int zx4), some (.int zr_23), some (.int zx6_30), some (.int zx7_32), none, none]) (⟨rfl, ⟨rfl, ⟨rfl, ⟨rfl, ⟨rfl, ⟨rfl, ⟨rfl, trivial⟩⟩⟩⟩⟩⟩⟩) hF
      · replace hF := hF.2 hc_29
        refine rn_iconst (x := (1 : Int32)) dX2_dayBySeed_149 (by decide) ?_
        refine rn_goto (tgt := 154) dX2_dayBySeed_150 (by decide) ?_
        refine rn_iadd dX2_dayBySeed_154 ?_
        refine rn_istore dX2_dayBySeed_155 rfl (Nat.le_of_ble_eq_true rfl) (fun zx6_33 ezx6_33 => ?_)
        replace hF := hF zx6_33 ezx6_33
        show Rn _ _ _ _ _ _ _ _ [some (rf E 22), none, some (.int zx2), some (.int zx3), some (.int zx4), some (.int zr_23), some (.int zx6_33), some (.int zx7), some (.int zr_14), some (.int zr_20)] _ _ _
        refine rn_aload_n dX2_dayBySeed_157 rfl ?_
        refine rn_aload_n dX2_dayBySeed_158 rfl ?_
        refine rm_getr (r := 26) flRX2_25 rfl (by decide) rfl dX2_dayBySeed_159 ?_
        refine rn_iload dX2_dayBySeed_162 rfl ?_
        refine rn_aload_n dX2_dayBySeed_164 rfl ?_
        refine rm_getr (r := 11) flRX2_32 rfl (by decide) rfl dX2_dayBySeed_165 ?_
        refine rm_geti flRX2_51 rfl (by decide) rfl dX2_dayBySeed_168 ?_
        refine rm_callV (c0 := 22) (As := [rf E 26, .int zx7, .int (zH_27 11 1)]) (st := []) mlRX2_56 mdX2_close (Nat.le_of_ble_eq_true rfl) rfl (by decide) (by decide) rfl rfl rfl (Nat.le_of_ble_eq_true rfl) ⟨Nat.le_refl _, Nat.le_refl _⟩ dX2_dayBySeed_171 ?_
        refine cm_mono hF (fun w zH_34 hF => ?_)
        obtain ⟨rfl, hF⟩ := hF
        refine rn_iinc (w := (1 : Int32)) dX2_dayBySeed_174 rfl (by decide) rfl (Nat.le_of_ble_eq_true rfl) (fun zx7_35 ezx7_35 => ?_)
        replace hF := hF zx7_35 ezx7_35
        show Rn _ _ _ _ _ _ _ _ [some (rf E 22), none, some (.int zx2), some (.int zx3), some (.int zx4), some (.int zr_23), some (.int zx6_33), some (.int zx7_35), some (.int zr_14), some (.int zr_20)] _ _ _
        refine rn_goto (tgt := 47) dX2_dayBySeed_177 (by decide) ?_
        exact rn_wk (L' := [some (rf E 22), none, some (.int zx2), some (.int zx3), some (.int zx4), some (.int zr_23), some (.int zx6_33), some (.int zx7_35), none, none]) (⟨rfl, ⟨rfl, ⟨rfl, ⟨rfl, ⟨rfl, ⟨rfl, ⟨rfl, trivial⟩⟩⟩⟩⟩⟩⟩) hF
theorem sgX2_nextLot_0 {E : En} {Q : Option Value → Hi → Prop} {H : Hi} {zx0 : Int32} 
    (hF : Q (some (.int (((1103515245 : Int32) * zx0) + (12345 : Int32)))) H) :
    Rm E mX2_nextLot Q 0 [some (.int zx0)] [] H := by
  refine rn_ldc coRX2_155 dX2_nextLot_0 ?_
  refine rn_iload_n dX2_nextLot_2 rfl ?_
  refine rn_imul dX2_nextLot_3 ?_
  refine rn_sipush (x := (12345 : Int32)) dX2_nextLot_4 (by decide) ?_
  refine rn_iadd dX2_nextLot_7 ?_
  exact rm_iret rfl dX2_nextLot_8 hF
theorem cmX2_nextLot {E : En} {Q : Option Value → Hi → Prop} {H : Hi} {zx0 : Int32} 
    (hF : Q (some (.int (((1103515245 : Int32) * zx0) + (12345 : Int32)))) H) :
    Cm E mX2_nextLot [.int zx0] H Q :=
  cm_of (by decide +kernel : plainName RX2 = true) (Nat.le_of_ble_eq_true rfl) rfl (sgX2_nextLot_0  hF)
theorem sgX2_drawn_0 {E : En} {Q : Option Value → Hi → Prop} {H : Hi} {zx0 : Int32} {zx1 : Int32} 
    (hF : (zx1 ≤ 0 → (Q (some (.int (0 : Int32))) H)) ∧ (¬ zx1 ≤ 0 → ((¬ zx1 = 0) ∧ (Q (some (.int ((ushr zx0 (16 : Int32)) - (ushr zx0 (16 : Int32)) / zx1 * zx1))) H)))) :
    Rm E mX2_drawn Q 0 [some (.int zx0), some (.int zx1)] [] H := by
  refine rn_iload_n dX2_drawn_0 rfl ?_
  refine rn_if_le (tgt := 13) dX2_drawn_1 (by decide) (fun hc_1 => ?_) (fun hc_1 => ?_)
  · replace hF := hF.1 hc_1
    refine rn_iconst (x := (0 : Int32)) dX2_drawn_13 (by decide) ?_
    exact rm_iret rfl dX2_drawn_14 hF
  · replace hF := hF.2 hc_1
    refine rn_iload_n dX2_drawn_4 rfl ?_
    refine rn_bipush (x := (16 : Int32)) dX2_drawn_5 (by decide) ?_
    refine rn_iushr dX2_drawn_7 ?_
    refine rn_iload_n dX2_drawn_8 rfl ?_
    obtain ⟨hz_2, hF⟩ := hF
    refine rn_irem dX2_drawn_9 hz_2 ?_
    refine rn_goto (tgt := 14) dX2_drawn_10 (by decide) ?_
    exact rm_iret rfl dX2_drawn_14 hF
theorem cmX2_drawn {E : En} {Q : Option Value → Hi → Prop} {H : Hi} {zx0 : Int32} {zx1 : Int32} 
    (hF : (zx1 ≤ 0 → (Q (some (.int (0 : Int32))) H)) ∧ (¬ zx1 ≤ 0 → ((¬ zx1 = 0) ∧ (Q (some (.int ((ushr zx0 (16 : Int32)) - (ushr zx0 (16 : Int32)) / zx1 * zx1))) H)))) :
    Cm E mX2_drawn [.int zx0, .int zx1] H Q :=
  cm_of (by decide +kernel : plainName RX2 = true) (Nat.le_of_ble_eq_true rfl) rfl (sgX2_drawn_0  hF)
