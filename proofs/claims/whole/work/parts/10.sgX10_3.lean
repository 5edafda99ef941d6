theorem sgX10_thiefOf_0 {E : En} {Q : Option Value → Hi → Prop} {H : Hi} {zx1 : Int32} 
    (hF : Cm E mX10_reads [rf E 99] H (fun w zH_1 => w = none ∧ (Rm E mX10_thiefOf Q 8 [some (rf E 99), some (.int zx1), some (.int (0 : Int32)), some (.int (0 : Int32))] [] zH_1))) :
    Rm E mX10_thiefOf Q 0 [some (rf E 99), some (.int zx1), none, none] [] H := by
  refine rn_aload_n dX10_thiefOf_0 rfl ?_
  refine rm_callV (c0 := 99) (As := []) (st := []) mlRX10_144 mdX10_reads (Nat.le_of_ble_eq_true rfl) rfl (by decide) (by decide) rfl rfl rfl (Nat.le_of_ble_eq_true rfl) ⟨Nat.le_refl _, Nat.le_refl _⟩ dX10_thiefOf_1 ?_
  refine cm_mono hF (fun w zH_1 hF => ?_)
  obtain ⟨rfl, hF⟩ := hF
  refine rn_iconst (x := (0 : Int32)) dX10_thiefOf_4 (by decide) ?_
  refine ra_istore_n dX10_thiefOf_5 rfl (Nat.le_of_ble_eq_true rfl) ?_
  show Rn _ _ _ _ _ _ _ _ [some (rf E 99), some (.int zx1), some (.int (0 : Int32)), none] _ _ _
  refine rn_iconst (x := (0 : Int32)) dX10_thiefOf_6 (by decide) ?_
  refine ra_istore_n dX10_thiefOf_7 rfl (Nat.le_of_ble_eq_true rfl) ?_
  show Rn _ _ _ _ _ _ _ _ [some (rf E 99), some (.int zx1), some (.int (0 : Int32)), some (.int (0 : Int32))] _ _ _
  exact rn_wk (L' := [some (rf E 99), some (.int zx1), some (.int (0 : Int32)), some (.int (0 : Int32))]) (⟨rfl, ⟨rfl, ⟨rfl, ⟨rfl, trivial⟩⟩⟩⟩) hF
theorem cmX10_thiefOf {E : En} {Q : Option Value → Hi → Prop} {H : Hi} {zx1 : Int32} 
    (hF : Cm E mX10_reads [rf E 99] H (fun w zH_1 => w = none ∧ (Rm E mX10_thiefOf Q 8 [some (rf E 99), some (.int zx1), some (.int (0 : Int32)), some (.int (0 : Int32))] [] zH_1))) :
    Cm E mX10_thiefOf [rf E 99, .int zx1] H Q :=
  cm_of (by decide +kernel : plainName RX10 = true) (Nat.le_of_ble_eq_true rfl) rfl (sgX10_thiefOf_0  hF)
theorem sgX10_thiefOf_8 {E : En} {Q : Option Value → Hi → Prop} {H : Hi} {zx1 : Int32} {zx2 : Int32} {zx3 : Int32} 
    (hF : ((H 99 6) ≤ zx3 → (Q (some (.int zx2)) H)) ∧ (¬ (H 99 6) ≤ zx3 → (Cm E mX10_whenOf [rf E 99, .int zx3, .int zx1] H (fun w zH_2 => ∃ zr_3 : Int32, w = some (.int zr_3) ∧ ((zr_3 = 0 → (∀ zx2_5 : Int32, zx2_5 = zx2 ||| (0 : Int32) → (∀ zx3_6 : Int32, zx3_6 = zx3 + (1 : Int32) → (Rm E mX10_thiefOf Q 8 [some (rf E 99), some (.int zx1), some (.int zx2_5), some (.int zx3_6)] [] zH_2)))) ∧ (¬ zr_3 = 0 → (∀ zx2_7 : Int32, zx2_7 = zx2 ||| ((1 : Int32) <<< (zx3 &&& 31)) → (∀ zx3_8 : Int32, zx3_8 = zx3 + (1 : Int32) → (Rm E mX10_thiefOf Q 8 [some (rf E 99), some (.int zx1), some (.int zx2_7), some (.int zx3_8)] [] zH_2))))))))) :
    Rm E mX10_thiefOf Q 8 [some (rf E 99), some (.int zx1), some (.int zx2), some (.int zx3)] [] H := by
  refine rn_iload_n dX10_thiefOf_8 rfl ?_
  refine rn_aload_n dX10_thiefOf_9 rfl ?_
  refine rm_geti flRX10_128 rfl (by decide) rfl dX10_thiefOf_10 ?_
  refine rn_icmp_ge (tgt := 41) dX10_thiefOf_13 (by decide) (fun hc_1 => ?_) (fun hc_1 => ?_)
  · replace hF := hF.1 hc_1
    refine rn_iload_n dX10_thiefOf_41 rfl ?_
    exact rm_iret rfl dX10_thiefOf_42 hF
  · replace hF := hF.2 hc_1
    refine rn_iload_n dX10_thiefOf_16 rfl ?_
    refine rn_aload_n dX10_thiefOf_17 rfl ?_
    refine rn_iload_n dX10_thiefOf_18 rfl ?_
    refine rn_iload_n dX10_thiefOf_19 rfl ?_
    refine rm_callV (c0 := 99) (As := [.int zx3, .int zx1]) (st := [.int zx2]) mlRX10_286 mdX10_whenOf (Nat.le_of_ble_eq_true rfl) rfl (by decide) (by decide) rfl rfl rfl (Nat.le_of_ble_eq_true rfl) ⟨Nat.le_refl _, Nat.le_refl _⟩ dX10_thiefOf_20 ?_
    refine cm_mono hF (fun w zH_2 hF => ?_)
    obtain ⟨zr_3, rfl, hF⟩ := hF
    refine rn_if_eq (tgt := 32) dX10_thiefOf_23 (by decide) (fun hc_4 => ?_) (fun hc_4 => ?_)
    · replace hF := hF.1 hc_4
      refine rn_iconst (x := (0 : Int32)) dX10_thiefOf_32 (by decide) ?_
      refine rn_ior dX10_thiefOf_33 ?_
      refine rn_istore_n dX10_thiefOf_34 rfl (Nat.le_of_ble_eq_true rfl) (fun zx2_5 ezx2_5 => ?_)
      replace hF := hF zx2_5 ezx2_5
      show Rn _ _ _ _ _ _ _ _ [some (rf E 99), some (.int zx1), some (.int zx2_5), some (.int zx3)] _ _ _
      refine rn_iinc (w := (1 : Int32)) dX10_thiefOf_35 rfl (by decide) rfl (Nat.le_of_ble_eq_true rfl) (fun zx3_6 ezx3_6 => ?_)
      replace hF := hF zx3_6 ezx3_6
      show Rn _ _ _ _ _ _ _ _ [some (rf E 99), some (.int zx1), some (.int zx2_5), some (.int zx3_6)] _ _ _
      refine rn_goto (tgt := 8) dX10_thiefOf_38 (by decide) ?_
      exact rn_wk (L' := [some (rf E 99), some (.int zx1), some (.int zx2_5), some (.int zx3_6)]) (⟨rfl, ⟨rfl, ⟨rfl, ⟨rfl, trivial⟩⟩⟩⟩) hF
    · replace hF := hF.2 hc_4
      refine rn_iconst (x := (1 : Int32)) dX10_thiefOf_26 (by decide) ?_
      refine rn_iload_n dX10_thiefOf_27 rfl ?_
      refine rn_ishl dX10_thiefOf_28 ?_
      refine rn_goto (tgt := 33) dX10_thiefOf_29 (by decide) ?_
      refine rn_ior dX10_thiefOf_33 ?_
      refine rn_istore_n dX10_thiefOf_34 rfl (Nat.le_of_ble_eq_true rfl) (fun zx2_7 ezx2_7 => ?_)
      replace hF := hF zx2_7 ezx2_7
      show Rn _ _ _ _ _ _ _ _ [some (rf E 99), some (.int zx1), some (.int zx2_7), some (.int zx3)] _ _ _
      refine rn_iinc (w := (1 : Int32)) dX10_thiefOf_35 rfl (by decide) rfl (Nat.le_of_ble_eq_true rfl) (fun zx3_8 ezx3_8 => ?_)
      replace hF := hF zx3_8 ezx3_8
      show Rn _ _ _ _ _ _ _ _ [some (rf E 99), some (.int zx1), some (.int zx2_7), some (.int zx3_8)] _ _ _
      refine rn_goto (tgt := 8) dX10_thiefOf_38 (by decide) ?_
      exact rn_wk (L' := [some (rf E 99), some (.int zx1), some (.int zx2_7), some (.int zx3_8)]) (⟨rfl, ⟨rfl, ⟨rfl, ⟨rfl, trivial⟩⟩⟩⟩) hF
theorem sgX10_thief_0 {E : En} {Q : Option Value → Hi → Prop} {H : Hi} {zx1 : Int32} 
    (hF : Cm E mX10_isThing [rf E 99, .int zx1] H (fun w zH_1 => ∃ zr_2 : Int32, w = some (.int zr_2) ∧ ((zr_2 = 0 → (Q (some (.int (-2 : Int32))) zH_1)) ∧ (¬ zr_2 = 0 → (Cm E mX10_thiefOf [rf E 99, .int zx1] zH_1 (fun w zH_4 => ∃ zr_5 : Int32, w = some (.int zr_5) ∧ (Q (some (.int zr_5)) zH_4))))))) :
    Rm E mX10_thief Q 0 [some (rf E 99), some (.int zx1)] [] H := by
  refine rn_aload_n dX10_thief_0 rfl ?_
  refine rn_iload_n dX10_thief_1 rfl ?_
  refine rm_callV (c0 := 99) (As := [.int zx1]) (st := []) mlRX10_147 mdX10_isThing (Nat.le_of_ble_eq_true rfl) rfl (by decide) (by decide) rfl rfl rfl (Nat.le_of_ble_eq_true rfl) ⟨Nat.le_refl _, Nat.le_refl _⟩ dX10_thief_2 ?_
  refine cm_mono hF (fun w zH_1 hF => ?_)
  obtain ⟨zr_2, rfl, hF⟩ := hF
  refine rn_if_eq (tgt := 16) dX10_thief_5 (by decide) (fun hc_3 => ?_) (fun hc_3 => ?_)
  · replace hF := hF.1 hc_3
    refine rn_bipush (x := (-2 : Int32)) dX10_thief_16 (by decide) ?_
    exact rm_iret rfl dX10_thief_18 hF
  · replace hF := hF.2 hc_3
    refine rn_aload_n dX10_thief_8 rfl ?_
    refine rn_iload_n dX10_thief_9 rfl ?_
    refine rm_callV (c0 := 99) (As := [.int zx1]) (st := []) mlRX10_289 mdX10_thiefOf (Nat.le_of_ble_eq_true rfl) rfl (by decide) (by decide) rfl rfl rfl (Nat.le_of_ble_eq_true rfl) ⟨Nat.le_refl _, Nat.le_refl _⟩ dX10_thief_10 ?_
    refine cm_mono hF (fun w zH_4 hF => ?_)
    obtain ⟨zr_5, rfl, hF⟩ := hF
    refine rn_goto (tgt := 18) dX10_thief_13 (by decide) ?_
    exact rm_iret rfl dX10_thief_18 hF
theorem cmX10_thief {E : En} {Q : Option Value → Hi → Prop} {H : Hi} {zx1 : Int32} 
    (hF : Cm E mX10_isThing [rf E 99, .int zx1] H (fun w zH_1 => ∃ zr_2 : Int32, w = some (.int zr_2) ∧ ((zr_2 = 0 → (Q (some (.int (-2 : Int32))) zH_1)) ∧ (¬ zr_2 = 0 → (Cm E mX10_thiefOf [rf E 99, .int zx1] zH_1 (fun w zH_4 => ∃ zr_5 : Int32, w = some (.int zr_5) ∧ (Q (some (.int zr_5)) zH_4))))))) :
    Cm E mX10_thief [rf E 99, .int zx1] H Q :=
  cm_of (by decide +kernel : plainName RX10 = true) (Nat.le_of_ble_eq_true rfl) rfl (sgX10_thief_0  hF)
theorem sgX10_feelOf_0 {E : En} {Q : Option Value → Hi → Prop} {H : Hi} {zx1 : Int32} {zx2 : Int32} 
    (hF : Cm E mX10_reads [rf E 99] H (fun w zH_2 => w = none ∧ (Cm E mX10_asTold [rf E 99] zH_2 (fun w zH_3 => w = none ∧ (∀ zH_4 : Hi, zH_4 = up zH_3 99 22 ((zH_3 99 22) + (1 : Int32)) → (∃ zj_5 : Nat, (zj_5 < 44 ∧ zH_4 99 11 = nI zj_5) ∧ (∀ zH_6 : Hi, zH_6 = up zH_4 108 zj_5 (((64 : Int32) + ((8 : Int32) * zx1)) + zx2) → (Rm E mX10_feelOf Q 41 [some (rf E 99), none, some (.int zx2), some (.int (0 : Int32)), some (.int (0 : Int32)), none, none, none] [] zH_6)))))))) :
    Rm E mX10_feelOf Q 0 [some (rf E 99), some (.int zx1), some (.int zx2), none, none, none, none, none] [] H := by
  refine rn_iconst (x := (0 : Int32)) dX10_feelOf_0 (by decide) ?_
  refine ra_istore_n dX10_feelOf_1 rfl (Nat.le_of_ble_eq_true rfl) ?_
  show Rn _ _ _ _ _ _ _ _ [some (rf E 99), some (.int zx1), some (.int zx2), some (.int (0 : Int32)), none, none, none, none] _ _ _
  refine rn_aload_n dX10_feelOf_2 rfl ?_
  refine rm_callV (c0 := 99) (As := []) (st := []) mlRX10_144 mdX10_reads (Nat.le_of_ble_eq_true rfl) rfl (by decide) (by decide) rfl rfl rfl (Nat.le_of_ble_eq_true rfl) ⟨Nat.le_refl _, Nat.le_refl _⟩ dX10_feelOf_3 ?_
  refine cm_mono hF (fun w zH_2 hF => ?_)
  obtain ⟨rfl, hF⟩ := hF
  refine rn_aload_n dX10_feelOf_6 rfl ?_
  refine rm_callV (c0 := 99) (As := []) (st := []) mlRX10_215 mdX10_asTold (Nat.le_of_ble_eq_true rfl) rfl (by decide) (by decide) rfl rfl rfl (Nat.le_of_ble_eq_true rfl) ⟨Nat.le_refl _, Nat.le_refl _⟩ dX10_feelOf_7 ?_
  refine cm_mono hF (fun w zH_3 hF => ?_)
  obtain ⟨rfl, hF⟩ := hF
  refine rn_aload_n dX10_feelOf_10 rfl ?_
  refine rn_dup dX10_feelOf_11 rfl ?_
  refine rm_geti flRX10_179 rfl (by decide) rfl dX10_feelOf_12 ?_
  refine rn_iconst (x := (1 : Int32)) dX10_feelOf_15 (by decide) ?_
  refine rn_iadd dX10_feelOf_16 ?_
  refine rm_puti flRX10_179 rfl (by decide) rfl dX10_feelOf_17 (fun zH_4 ezH_4 => ?_)
  replace hF := hF zH_4 ezH_4
  refine rn_aload_n dX10_feelOf_20 rfl ?_
  refine rm_getr (r := 108) flRX10_34 rfl (by decide) rfl dX10_feelOf_21 ?_
  refine rn_aload_n dX10_feelOf_24 rfl ?_
  refine rm_geti flRX10_163 rfl (by decide) rfl dX10_feelOf_25 ?_
  refine rn_bipush (x := (64 : Int32)) dX10_feelOf_28 (by decide) ?_
  refine rn_bipush (x := (8 : Int32)) dX10_feelOf_30 (by decide) ?_
  refine rn_iload_n dX10_feelOf_32 rfl ?_
  refine rn_imul dX10_feelOf_33 ?_
  refine rn_iadd dX10_feelOf_34 ?_
  refine rn_iload_n dX10_feelOf_35 rfl ?_
  refine rn_iadd dX10_feelOf_36 ?_
  obtain ⟨zj_5, hzj_5, hF⟩ := hF
  refine rj_iast (j := zj_5) hzj_5 rfl (by decide) rfl (by decide) dX10_feelOf_37 (fun zH_6 ezH_6 => ?_)
  replace hF := hF zH_6 ezH_6
  refine rn_iconst (x := (0 : Int32)) dX10_feelOf_38 (by decide) ?_
  refine ra_istore dX10_feelOf_39 rfl (Nat.le_of_ble_eq_true rfl) ?_
  show Rn _ _ _ _ _ _ _ _ [some (rf E 99), some (.int zx1), some (.int zx2), some (.int (0 : Int32)), some (.int (0 : Int32)), none, none, none] _ _ _
  exact rn_wk (L' := [some (rf E 99), none, some (.int zx2), some (.int (0 : Int32)), some (.int (0 : Int32)), none, none, none]) (⟨rfl, ⟨rfl, ⟨rfl, ⟨rfl, trivial⟩⟩⟩⟩) hF
theorem cmX10_feelOf {E : En} {Q : Option Value → Hi → Prop} {H : Hi} {zx1 : Int32} {zx2 : Int32} 
    (hF : Cm E mX10_reads [rf E 99] H (fun w zH_2 => w = none ∧ (Cm E mX10_asTold [rf E 99] zH_2 (fun w zH_3 => w = none ∧ (∀ zH_4 : Hi, zH_4 = up zH_3 99 22 ((zH_3 99 22) + (1 : Int32)) → (∃ zj_5 : Nat, (zj_5 < 44 ∧ zH_4 99 11 = nI zj_5) ∧ (∀ zH_6 : Hi, zH_6 = up zH_4 108 zj_5 (((64 : Int32) + ((8 : Int32) * zx1)) + zx2) → (Rm E mX10_feelOf Q 41 [some (rf E 99), none, some (.int zx2), some (.int (0 : Int32)), some (.int (0 : Int32)), none, none, none] [] zH_6)))))))) :
    Cm E mX10_feelOf [rf E 99, .int zx1, .int zx2] H Q :=
  cm_of (by decide +kernel : plainName RX10 = true) (Nat.le_of_ble_eq_true rfl) rfl (sgX10_feelOf_0  hF)
theorem sgX10_feelOf_41 {E : En} {Q : Option Value → Hi → Prop} {H : Hi} {zx2 : Int32} {zx3 : Int32} {zx4 : Int32} 
    (hF : ((24 : Int32) ≤ zx4 → (Rm E mX10_feelOf Q 65 [some (rf E 99), none, some (.int zx2), some (.int zx3), some (.int (0 : Int32)), none, none, none] [] H)) ∧ (¬ (24 : Int32) ≤ zx4 → (∃ zj_3 : Nat, (zj_3 < 24 ∧ zx4 = nI zj_3) ∧ (∀ zH_4 : Hi, zH_4 = up H 125 zj_3 (0 : Int32) → (∀ zx4_5 : Int32, zx4_5 = zx4 + (1 : Int32) → (Rm E mX10_feelOf Q 41 [some (rf E 99), none, some (.int zx2), some (.int zx3), some (.int zx4_5), none, none, none] [] zH_4)))))) :
    Rm E mX10_feelOf Q 41 [some (rf E 99), none, some (.int zx2), some (.int zx3), some (.int zx4), none, none, none] [] H := by
  refine rn_iload dX10_feelOf_41 rfl ?_
  refine rn_bipush (x := (24 : Int32)) dX10_feelOf_43 (by decide) ?_
  refine rn_icmp_ge (tgt := 62) dX10_feelOf_45 (by decide) (fun hc_1 => ?_) (fun hc_1 => ?_)
  · replace hF := hF.1 hc_1
    refine rn_iconst (x := (0 : Int32)) dX10_feelOf_62 (by decide) ?_
    refine ra_istore dX10_feelOf_63 rfl (Nat.le_of_ble_eq_true rfl) ?_
    show Rn _ _ _ _ _ _ _ _ [some (rf E 99), none, some (.int zx2), some (.int zx3), some (.int (0 : Int32)), none, none, none] _ _ _
    exact rn_wk (L' := [some (rf E 99), none, some (.int zx2), some (.int zx3), some (.int (0 : Int32)), none, none, none]) (⟨rfl, ⟨rfl, ⟨rfl, ⟨rfl, trivial⟩⟩⟩⟩) hF
  · replace hF := hF.2 hc_1
    refine rn_aload_n dX10_feelOf_48 rfl ?_
    refine rm_getr (r := 125) flRX10_86 rfl (by decide) rfl dX10_feelOf_49 ?_
    refine rn_iload dX10_feelOf_52 rfl ?_
    refine rn_iconst (x := (0 : Int32)) dX10_feelOf_54 (by decide) ?_
    obtain ⟨zj_3, hzj_3, hF⟩ := hF
    refine rj_iast (j := zj_3) hzj_3 rfl (by decide) rfl (by decide) dX10_feelOf_55 (fun zH_4 ezH_4 => ?_)
    replace hF := hF zH_4 ezH_4
    refine rn_iinc (w := (1 : Int32)) dX10_feelOf_56 rfl (by decide) rfl (Nat.le_of_ble_eq_true rfl) (fun zx4_5 ezx4_5 => ?_)
    replace hF := hF zx4_5 ezx4_5
    show Rn _ _ _ _ _ _ _ _ [some (rf E 99), none, some (.int zx2), some (.int zx3), some (.int zx4_5), none, none, none] _ _ _
    refine rn_goto (tgt := 41) dX10_feelOf_59 (by decide) ?_
    exact rn_wk (L' := [some (rf E 99), none, some (.int zx2), some (.int zx3), some (.int zx4_5), none, none, none]) (⟨rfl, ⟨rfl, ⟨rfl, ⟨rfl, trivial⟩⟩⟩⟩) hF
theorem sgX10_feelOf_65 {E : En} {Q : Option Value → Hi → Prop} {H : Hi} {zx2 : Int32} {zx3 : Int32} {zx4 : Int32} 
    (hF : ((24 : Int32) ≤ zx4 → (Rm E mX10_feelOf Q 144 [some (rf E 99), none, none, some (.int zx3), some (.int (0 : Int32)), some (.int zx3), some (.int (0 : Int32)), none] [] H)) ∧ (¬ (24 : Int32) ≤ zx4 → (∃ zj_5 : Nat, (zj_5 < 44 ∧ H 99 11 = nI zj_5) ∧ (∀ zH_6 : Hi, zH_6 = up H 107 zj_5 zx4 → (Cm E mX10_isFelt [rf E 99, .int zx2] zH_6 (fun w zH_7 => ∃ zr_8 : Int32, w = some (.int zr_8) ∧ ((zr_8 = 0 → (∀ zx4_10 : Int32, zx4_10 = zx4 + (1 : Int32) → (Rm E mX10_feelOf Q 65 [some (rf E 99), none, some (.int zx2), some (.int zx3), some (.int zx4_10), none, none, none] [] zH_7))) ∧ (¬ zr_8 = 0 → (∀ zx3_11 : Int32, zx3_11 = zx3 + (1 : Int32) → (Rm E mX10_feelOf Q 97 [some (rf E 99), none, some (.int zx2), some (.int zx3_11), some (.int zx4), some (.int (0 : Int32)), none, none] [] zH_7)))))))))) :
    Rm E mX10_feelOf Q 65 [some (rf E 99), none, some (.int zx2), some (.int zx3), some (.int zx4), none, none, none] [] H := by
  refine rn_iload dX10_feelOf_65 rfl ?_
  refine rn_bipush (x := (24 : Int32)) dX10_feelOf_67 (by decide) ?_
  refine rn_icmp_ge (tgt := 135) dX10_feelOf_69 (by decide) (fun hc_1 => ?_) (fun hc_1 => ?_)
  · replace hF := hF.1 hc_1
    refine rn_iconst (x := (0 : Int32)) dX10_feelOf_135 (by decide) ?_
    refine ra_istore dX10_feelOf_136 rfl (Nat.le_of_ble_eq_true rfl) ?_
    show Rn _ _ _ _ _ _ _ _ [some (rf E 99), none, some (.int zx2), some (.int zx3), some (.int (0 : Int32)), none, none, none] _ _ _
    refine rn_iload_n dX10_feelOf_138 rfl ?_
    refine ra_istore dX10_feelOf_139 rfl (Nat.le_of_ble_eq_true rfl) ?_
    show Rn _ _ _ _ _ _ _ _ [some (rf E 99), none, some (.int zx2), some (.int zx3), some (.int (0 : Int32)), some (.int zx3), none, none] _ _ _
    refine rn_iconst (x := (0 : Int32)) dX10_feelOf_141 (by decide) ?_
    refine ra_istore dX10_feelOf_142 rfl (Nat.le_of_ble_eq_true rfl) ?_
    show Rn _ _ _ _ _ _ _ _ [some (rf E 99), none, some (.int zx2), some (.int zx3), some (.int (0 : Int32)), some (.int zx3), some (.int (0 : Int32)), none] _ _ _
    exact rn_wk (L' := [some (rf E 99), none, none, some (.int zx3), some (.int (0 : Int32)), some (.int zx3), some (.int (0 : Int32)), none]) (⟨rfl, ⟨rfl, ⟨rfl, ⟨rfl, ⟨rfl, trivial⟩⟩⟩⟩⟩) hF
  · replace hF := hF.2 hc_1
    refine rn_aload_n dX10_feelOf_72 rfl ?_
    refine rm_getr (r := 107) flRX10_31 rfl (by decide) rfl dX10_feelOf_73 ?_
    refine rn_aload_n dX10_feelOf_76 rfl ?_
    refine rm_geti flRX10_163 rfl (by decide) rfl dX10_feelOf_77 ?_
    refine rn_iload dX10_feelOf_80 rfl ?_
    obtain ⟨zj_5, hzj_5, hF⟩ := hF
    refine rj_iast (j := zj_5) hzj_5 rfl (by decide) rfl (by decide) dX10_feelOf_82 (fun zH_6 ezH_6 => ?_)
    replace hF := hF zH_6 ezH_6
    refine rn_aload_n dX10_feelOf_83 rfl ?_
    refine rn_iload_n dX10_feelOf_84 rfl ?_
    refine rm_callV (c0 := 99) (As := [.int zx2]) (st := []) mlRX10_283 mdX10_isFelt (Nat.le_of_ble_eq_true rfl) rfl (by decide) (by decide) rfl rfl rfl (Nat.le_of_ble_eq_true rfl) ⟨Nat.le_refl _, Nat.le_refl _⟩ dX10_feelOf_85 ?_
    refine cm_mono hF (fun w zH_7 hF => ?_)
    obtain ⟨zr_8, rfl, hF⟩ := hF
    refine rn_if_eq (tgt := 129) dX10_feelOf_88 (by decide) (fun hc_9 => ?_) (fun hc_9 => ?_)
    · replace hF := hF.1 hc_9
      refine rn_iinc (w := (1 : Int32)) dX10_feelOf_129 rfl (by decide) rfl (Nat.le_of_ble_eq_true rfl) (fun zx4_10 ezx4_10 => ?_)
      replace hF := hF zx4_10 ezx4_10
      show Rn _ _ _ _ _ _ _ _ [some (rf E 99), none, some (.int zx2), some (.int zx3), some (.int zx4_10), none, none, none] _ _ _
      refine rn_goto (tgt := 65) dX10_feelOf_132 (by decide) ?_
      exact rn_wk (L' := [some (rf E 99), none, some (.int zx2), some (.int zx3), some (.int zx4_10), none, none, none]) (⟨rfl, ⟨rfl, ⟨rfl, ⟨rfl, trivial⟩⟩⟩⟩) hF
    · replace hF := hF.2 hc_9
      refine rn_iinc (w := (1 : Int32)) dX10_feelOf_91 rfl (by decide) rfl (Nat.le_of_ble_eq_true rfl) (fun zx3_11 ezx3_11 => ?_)
      replace hF := hF zx3_11 ezx3_11
      show Rn _ _ _ _ _ _ _ _ [some (rf E 99), none, some (.int zx2), some (.int zx3_11), some (.int zx4), none, none, none] _ _ _
      refine rn_iconst (x := (0 : Int32)) dX10_feelOf_94 (by decide) ?_
      refine ra_istore dX10_feelOf_95 rfl (Nat.le_of_ble_eq_true rfl) ?_
      show Rn _ _ _ _ _ _ _ _ [some (rf E 99), none, some (.int zx2), some (.int zx3_11), some (.int zx4), some (.int (0 : Int32)), none, none] _ _ _
      exact rn_wk (L' := [some (rf E 99), none, some (.int zx2), some (.int zx3_11), some (.int zx4), some (.int (0 : Int32)), none, none]) (⟨rfl, ⟨rfl, ⟨rfl, ⟨rfl, ⟨rfl, trivial⟩⟩⟩⟩⟩) hF
theorem sgX10_feelOf_144 {E : En} {Q : Option Value → Hi → Prop} {H : Hi} {zx3 : Int32} {zx4 : Int32} {zx5 : Int32} {zx6 : Int32} 
    (hF : ((24 : Int32) ≤ zx6 → (Q (some (.int zx4)) H)) ∧ (¬ (24 : Int32) ≤ zx6 → (∃ zj_2 : Nat, (zj_2 < 24 ∧ zx6 = nI zj_2) ∧ (∃ zj_3 : Nat, (zj_3 < 24 ∧ zx6 = nI zj_3) ∧ (((H 125 zj_2) ≤ (zx3 - (H 125 zj_3)) → (∃ zj_5 : Nat, (zj_5 < 24 ∧ zx6 = nI zj_5) ∧ (∀ zx7_6 : Int32, zx7_6 = zx3 - (H 125 zj_5) → ((zx5 ≤ zx7_6 → ((zx5 ≤ zx7_6 → (∀ zx6_11 : Int32, zx6_11 = zx6 + (1 : Int32) → (Rm E mX10_feelOf Q 144 [some (rf E 99), none, none, some (.int zx3), some (.int zx4), some (.int zx5), some (.int zx6_11), none] [] H))) ∧ (¬ zx5 ≤ zx7_6 → (∀ zx6_13 : Int32, zx6_13 = zx6 + (1 : Int32) → (Rm E mX10_feelOf Q 144 [some (rf E 99), none, none, some (.int zx3), some (.int zx4), some (.int zx7_6), some (.int zx6_13), none] [] H))))) ∧ (¬ zx5 ≤ zx7_6 → ((zx5 ≤ zx7_6 → (∀ zx6_17 : Int32, zx6_17 = zx6 + (1 : Int32) → (Rm E mX10_feelOf Q 144 [some (rf E 99), none, none, some (.int zx3), some (.int zx6), some (.int zx5), some (.int zx6_17), none] [] H))) ∧ (¬ zx5 ≤ zx7_6 → (∀ zx6_19 : Int32, zx6_19 = zx6 + (1 : Int32) → (Rm E mX10_feelOf Q 144 [some (rf E 99), none, none, some (.int zx3), some (.int zx6), some (.int zx7_6), some (.int zx6_19), none] [] H))))))))) ∧ (¬ (H 125 zj_2) ≤ (zx3 - (H 125 zj_3)) → (∃ zj_20 : Nat, (zj_20 < 24 ∧ zx6 = nI zj_20) ∧ (∀ zx7_21 : Int32, zx7_21 = H 125 zj_20 → ((zx5 ≤ zx7_21 → ((zx5 ≤ zx7_21 → (∀ zx6_26 : Int32, zx6_26 = zx6 + (1 : Int32) → (Rm E mX10_feelOf Q 144 [some (rf E 99), none, none, some (.int zx3), some (.int zx4), some (.int zx5), some (.int zx6_26), none] [] H))) ∧ (¬ zx5 ≤ zx7_21 → (∀ zx6_28 : Int32, zx6_28 = zx6 + (1 : Int32) → (Rm E mX10_feelOf Q 144 [some (rf E 99), none, none, some (.int zx3), some (.int zx4), some (.int zx7_21), some (.int zx6_28), none] [] H))))) ∧ (¬ zx5 ≤ zx7_21 → ((zx5 ≤ zx7_21 → (∀ zx6_32 : Int32, zx6_32 = zx6 + (1 : Int32) → (Rm E mX10_feelOf Q 144 [some (rf E 99), none, none, some (.int zx3), some (.int zx6), some (.int zx5), some (.int zx6_32), none] [] H))) ∧ (¬ zx5 ≤ zx7_21 → (∀ zx6_34 : Int32, zx6_34 = zx6 + (1 : Int32) → (Rm E mX10_feelOf Q 144 [some (rf E 99), none, none, some (.int zx3), some (.int zx6), some (.int zx7_21), some (.int zx6_34), none] [] H)))))))))))))) :
    Rm E mX10_feelOf Q 144 [some (rf E 99), none, none, some (.int zx3), some (.int zx4), some (.int zx5), some (.int zx6), none] [] H := by
  refine rn_iload dX10_feelOf_144 rfl ?_
  refine rn_bipush (x := (24 : Int32)) dX10_feelOf_146 (by decide) ?_
  refine rn_icmp_ge (tgt := 229) dX10_feelOf_148 (by decide) (fun hc_1 => ?_) (fun hc_1 => ?_)
  · replace hF := hF.1 hc_1
    refine rn_iload dX10_feelOf_229 rfl ?_
    exact rm_iret rfl dX10_feelOf_231 hF
  · replace hF := hF.2 hc_1
    refine rn_aload_n dX10_feelOf_151 rfl ?_
    refine rm_getr (r := 125) flRX10_86 rfl (by decide) rfl dX10_feelOf_152 ?_
    refine rn_iload dX10_feelOf_155 rfl ?_
    obtain ⟨zj_2, hzj_2, hF⟩ := hF
    refine rj_iald (j := zj_2) hzj_2 rfl (by decide) rfl (by decide) dX10_feelOf_157 ?_
    refine rn_iload_n dX10_feelOf_158 rfl ?_
    refine rn_aload_n dX10_feelOf_159 rfl ?_
    refine rm_getr (r := 125) flRX10_86 rfl (by decide) rfl dX10_feelOf_160 ?_
    refine rn_iload dX10_feelOf_163 rfl ?_
    obtain ⟨zj_3, hzj_3, hF⟩ := hF
    refine rj_iald (j := zj_3) hzj_3 rfl (by decide) rfl (by decide) dX10_feelOf_165 ?_
    refine rn_isub dX10_feelOf_166 ?_
    refine rn_icmp_le (tgt := 180) dX10_feelOf_167 (by decide) (fun hc_4 => ?_) (fun hc_4 => ?_)
    · replace hF := hF.1 hc_4
      refine rn_iload_n dX10_feelOf_180 rfl ?_
      refine rn_aload_n dX10_feelOf_181 rfl ?_
      refine rm_getr (r := 125) flRX10_86 rfl (by decide) rfl dX10_feelOf_182 ?_
      refine rn_iload dX10_feelOf_185 rfl ?_
      obtain ⟨zj_5, hzj_5, hF⟩ := hF
      refine rj_iald (j := zj_5) hzj_5 rfl (by decide) rfl (by decide) dX10_feelOf_187 ?_
      refine rn_isub dX10_feelOf_188 ?_
      refine rn_istore dX10_feelOf_189 rfl (Nat.le_of_ble_eq_true rfl) (fun zx7_6 ezx7_6 => ?_)
      replace hF := hF zx7_6 ezx7_6
      show Rn _ _ _ _ _ _ _ _ [some (rf E 99), none, none, some (.int zx3), some (.int zx4), some (.int zx5), some (.int zx6), some (.int zx7_6)] _ _ _
      refine rn_iload dX10_feelOf_191 rfl ?_
      refine rn_iload dX10_feelOf_193 rfl ?_
      refine rn_icmp_ge (tgt := 203) dX10_feelOf_195 (by decide) (fun hc_7 => ?_) (fun hc_7 => ?_)
      · replace hF := hF.1 hc_7
        refine rn_iload dX10_feelOf_203 rfl ?_
        refine ra_istore dX10_feelOf_205 rfl (Nat.le_of_ble_eq_true rfl) ?_
        show Rn _ _ _ _ _ _ _ _ [some (rf E 99), none, none, some (.int zx3), some (.int zx4), some (.int zx5), some (.int zx6), some (.int zx7_6)] _ _ _
        refine rn_iload dX10_feelOf_207 rfl ?_
        refine rn_iload dX10_feelOf_209 rfl ?_
        refine rn_icmp_ge (tgt := 219) dX10_feelOf_211 (by decide) (fun hc_9 => ?_) (fun hc_9 => ?_)
        · replace hF := hF.1 hc_9
          refine rn_iload dX10_feelOf_219 rfl ?_
          refine ra_istore dX10_feelOf_221 rfl (Nat.le_of_ble_eq_true rfl) ?_
          show Rn _ _ _ _ _ _ _ _ [some (rf E 99), none, none, some (.int zx3), some (.int zx4), some (.int zx5), some (.int zx6), some (.int zx7_6)] _ _ _
          refine rn_iinc (w := (1 : Int32)) dX10_feelOf_223 rfl (by decide) rfl (Nat.le_of_ble_eq_true rfl) (fun zx6_11 ezx6_11 => ?_)
          replace hF := hF zx6_11 ezx6_11
          show Rn _ _ _ _ _ _ _ _ [some (rf E 99), none, none, some (.int zx3), some (.int zx4), some (.int zx5), some (.int zx6_11), some (.int zx7_6)] _ _ _
          refine rn_goto (tgt := 144) dX10_feelOf_226 (by decide) ?_
          exact rn_wk (L' := [some (rf E 99), none, none, some (.int zx3), some (.int zx4), some (.int zx5), some (.int zx6_11), none]) (⟨rfl, ⟨rfl, ⟨rfl, ⟨rfl, ⟨rfl, trivial⟩⟩⟩⟩⟩) hF
        · replace hF := hF.2 hc_9
          refine rn_iload dX10_feelOf_214 rfl ?_
          refine rn_goto (tgt := 221) dX10_feelOf_216 (by decide) ?_
          refine ra_istore dX10_feelOf_221 rfl (Nat.le_of_ble_eq_true rfl) ?_
          show Rn _ _ _ _ _ _ _ _ [some (rf E 99), none, none, some (.int zx3), some (.int zx4), some (.int zx7_6), some (.int zx6), some (.int zx7_6)] _ _ _
          refine rn_iinc (w := (1 : Int32)) dX10_feelOf_223 rfl (by decide) rfl (Nat.le_of_ble_eq_true rfl) (fun zx6_13 ezx6_13 => ?_)
          replace hF := hF zx6_13 ezx6_13
          show Rn _ _ _ _ _ _ _ _ [some (rf E 99), none, none, some (.int zx3), some (.int zx4), some (.int zx7_6), some (.int zx6_13), some (.int zx7_6)] _ _ _
          refine rn_goto (tgt := 144) dX10_feelOf_226 (by decide) ?_
          exact rn_wk (L' := [some (rf E 99), none, none, some (.int zx3), some (.int zx4), some (.int zx7_6), some (.int zx6_13), none]) (⟨rfl, ⟨rfl, ⟨rfl, ⟨rfl, ⟨rfl, trivial⟩⟩⟩⟩⟩) hF
      · replace hF := hF.2 hc_7
        refine rn_iload dX10_feelOf_198 rfl ?_
        refine rn_goto (tgt := 205) dX10_feelOf_200 (by decide) ?_
        refine ra_istore dX10_feelOf_205 rfl (Nat.le_of_ble_eq_true rfl) ?_
        show Rn _ _ _ _ _ _ _ _ [some (rf E 99), none, none, some (.int zx3), some (.int zx6), some (.int zx5), some (.int zx6), some (.int zx7_6)] _ _ _
        refine rn_iload dX10_feelOf_207 rfl ?_
        refine rn_iload dX10_feelOf_209 rfl ?_
        refine rn_icmp_ge (tgt := 219) dX10_feelOf_211 (by decide) (fun hc_15 => ?_) (fun hc_15 => ?_)
        · replace hF := hF.1 hc_15
          refine rn_iload dX10_feelOf_219 rfl ?_
          refine ra_istore dX10_feelOf_221 rfl (Nat.le_of_ble_eq_true rfl) ?_
          show Rn _ _ _ _ _ _ _ _ [some (rf E 99), none, none, some (.int zx3), some (.int zx6), some (.int zx5), some (.int zx6), some (.int zx7_6)] _ _ _
          refine rn_iinc (w := (1 : Int32)) dX10_feelOf_223 rfl (by decide) rfl (Nat.le_of_ble_eq_true rfl) (fun zx6_17 ezx6_17 => ?_)
          replace hF := hF zx6_17 ezx6_17
          show Rn _ _ _ _ _ _ _ _ [some (rf E 99), none, none, some (.int zx3), some (.int zx6), some (.int zx5), some (.int zx6_17), some (.int zx7_6)] _ _ _
          refine rn_goto (tgt := 144) dX10_feelOf_226 (by decide) ?_
          exact rn_wk (L' := [some (rf E 99), none, none, some (.int zx3), some (.int zx6), some (.int zx5), some (.int zx6_17), none]) (⟨rfl, ⟨rfl, ⟨rfl, ⟨rfl, ⟨rfl, trivial⟩⟩⟩⟩⟩) hF
        · replace hF := hF.2 hc_15
          refine rn_iload dX10_feelOf_214 rfl ?_
          refine rn_goto (tgt := 221) dX10_feelOf_216 (by decide) ?_
          refine ra_istore dX10_feelOf_221 rfl (Nat.le_of_ble_eq_true rfl) ?_
          show Rn _ _ _ _ _ _ _ _ [some (rf E 99), none, none, some (.int zx3), some (.int zx6), some (.int zx7_6), some (.int zx6), some (.int zx7_6)] _ _ _
          refine rn_iinc (w := (1 : Int32)) dX10_feelOf_223 rfl (by decide) rfl (Nat.le_of_ble_eq_true rfl) (fun zx6_19 ezx6_19 => ?_)
          replace hF := hF zx6_19 ezx6_19
          show Rn _ _ _ _ _ _ _ _ [some (rf E 99), none, none, some (.int zx3), some (.int zx6), some (.int zx7_6), some (.int zx6_19), some (.int zx7_6)] _ _ _
          refine rn_goto (tgt := 144) dX10_feelOf_226 (by decide) ?_
          exact rn_wk (L' := [some (rf E 99), none, none, some (.int zx3), some (.int zx6), some (.int zx7_6), some (.int zx6_19), none]) (⟨rfl, ⟨rfl, ⟨rfl, ⟨rfl, ⟨rfl, trivial⟩⟩⟩⟩⟩) hF
    · replace hF := hF.2 hc_4
      refine rn_aload_n dX10_feelOf_170 rfl ?_
      refine rm_getr (r := 125) flRX10_86 rfl (by decide) rfl dX10_feelOf_171 ?_
      refine rn_iload dX10_feelOf_174 rfl ?_
      obtain ⟨zj_20, hzj_20, hF⟩ := hF
      refine rj_iald (j := zj_20) hzj_20 rfl (by decide) rfl (by decide) dX10_feelOf_176 ?_
      refine rn_goto (tgt := 189) dX10_feelOf_177 (by decide) ?_
      refine rn_istore dX10_feelOf_189 rfl (Nat.le_of_ble_eq_true rfl) (fun zx7_21 ezx7_21 => ?_)
      replace hF := hF zx7_21 ezx7_21
      show Rn _ _ _ _ _ _ _ _ [some (rf E 99), none, none, some (.int zx3), some (.int zx4), some (.int zx5), some (.int zx6), some (.int zx7_21)] _ _ _
      refine rn_iload dX10_feelOf_191 rfl ?_
      refine rn_iload dX10_feelOf_193 rfl ?_
      refine rn_icmp_ge (tgt := 203) dX10_feelOf_195 (by decide) (fun hc_22 => ?_) (fun hc_22 => ?_)
      · replace hF := hF.1 hc_22
        refine rn_iload dX10_feelOf_203 rfl ?_
        refine ra_istore dX10_feelOf_205 rfl (Nat.le_of_ble_eq_true rfl) ?_
        show Rn _ _ _ _ _ _ _ _ [some (rf E 99), none, none, some (.int zx3), some (.int zx4), some (.int zx5), some (.int zx6), some (.int zx7_21)] _ _ _
        refine rn_iload dX10_feelOf_207 rfl ?_
        refine rn_iload dX10_feelOf_209 rfl ?_
        refine rn_icmp_ge (tgt := 219) dX10_feelOf_211 (by decide) (fun hc_24 => ?_) (fun hc_24 => ?_)
        · replace hF := hF.1 hc_24
          refine rn_iload dX10_feelOf_219 rfl ?_
          refine ra_istore dX10_feelOf_221 rfl (Nat.le_of_ble_eq_true rfl) ?_
          show Rn _ _ _ _ _ _ _ _ [some (rf E 99), none, none, some (.int zx3), some (.int zx4), some (.int zx5), some (.int zx6), some (.int zx7_21)] _ _ _
          refine rn_iinc (w := (1 : Int32)) dX10_feelOf_223 rfl (by decide) rfl (Nat.le_of_ble_eq_true rfl) (fun zx6_26 ezx6_26 => ?_)
          replace hF := hF zx6_26 ezx6_26
          show Rn _ _ _ _ _ _ _ _ [some (rf E 99), none, none, some (.int zx3), some (.int zx4), some (.int zx5), some (.int zx6_26), some (.int zx7_21)] _ _ _
          refine rn_goto (tgt := 144) dX10_feelOf_226 (by decide) ?_
          exact rn_wk (L' := [some (rf E 99), none, none, some (.int zx3), some (.int zx4), some (.int zx5), some (.int zx6_26), none]) (⟨rfl, ⟨rfl, ⟨rfl, ⟨rfl, ⟨rfl, trivial⟩⟩⟩⟩⟩) hF
        · replace hF := hF.2 hc_24
          refine rn_iload dX10_feelOf_214 rfl ?_
          refine rn_goto (tgt := 221) dX10_feelOf_216 (by decide) ?_
          refine ra_istore dX10_feelOf_221 rfl (Nat.le_of_ble_eq_true rfl) ?_
          show Rn _ _ _ _ _ _ _ _ [some (rf E 99), none, none, some (.int zx3), some (.int zx4), some (.int zx7_21), some (.int zx6), some (.int zx7_21)] _ _ _
          refine rn_iinc (w := (1 : Int32)) dX10_feelOf_223 rfl (by decide) rfl (Nat.le_of_ble_eq_true rfl) (fun zx6_28 ezx6_28 => ?_)
          replace hF := hF zx6_28 ezx6_28
          show Rn _ _ _ _ _ _ _ _ [some (rf E 99), none, none, some (.int zx3), some (.int zx4), some (.int zx7_21), some (.int zx6_28), some (.int zx7_21)] _ _ _
          refine rn_goto (tgt := 144) dX10_feelOf_226 (by decide) ?_
          exact rn_wk (L' := [some (rf E 99), none, none, some (.int zx3), some (.int zx4), some (.int zx7_21), some (.int zx6_28), none]) (⟨rfl, ⟨rfl, ⟨rfl, ⟨rfl, ⟨rfl, trivial⟩⟩⟩⟩⟩) hF
      · replace hF := hF.2 hc_22
        refine rn_iload dX10_feelOf_198 rfl ?_
        refine rn_goto (tgt := 205) dX10_feelOf_200 (by decide) ?_
        refine ra_istore dX10_feelOf_205 rfl (Nat.le_of_ble_eq_true rfl) ?_
        show Rn _ _ _ _ _ _ _ _ [some (rf E 99), none, none, some (.int zx3), some (.int zx6), some (.int zx5), some (.int zx6), some (.int zx7_21)] _ _ _
        refine rn_iload dX10_feelOf_207 rfl ?_
        refine rn_iload dX10_feelOf_209 rfl ?_
        refine rn_icmp_ge (tgt := 219) dX10_feelOf_211 (by decide) (fun hc_30 => ?_) (fun hc_30 => ?_)
        · replace hF := hF.1 hc_30
          refine rn_iload dX10_feelOf_219 rfl ?_
          refine ra_istore dX10_feelOf_221 rfl (Nat.le_of_ble_eq_true rfl) ?_
          show Rn _ _ _ _ _ _ _ _ [some (rf E 99), none, none, some (.int zx3), some (.int zx6), some (.int zx5), some (.int zx6), some (.int zx7_21)] _ _ _
          refine rn_iinc (w := (1 : Int32)) dX10_feelOf_223 rfl (by decide) rfl (Nat.le_of_ble_eq_true rfl) (fun zx6_32 ezx6_32 => ?_)
          replace hF := hF zx6_32 ezx6_32
          show Rn _ _ _ _ _ _ _ _ [some (rf E 99), none, none, some (.int zx3), some (.int zx6), some (.int zx5), some (.int zx6_32), some (.int zx7_21)] _ _ _
          refine rn_goto (tgt := 144) dX10_feelOf_226 (by decide) ?_
          exact rn_wk (L' := [some (rf E 99), none, none, some (.int zx3), some (.int zx6), some (.int zx5), some (.int zx6_32), none]) (⟨rfl, ⟨rfl, ⟨rfl, ⟨rfl, ⟨rfl, trivial⟩⟩⟩⟩⟩) hF
        · replace hF := hF.2 hc_30
          refine rn_iload dX10_feelOf_214 rfl ?_
          refine rn_goto (tgt := 221) dX10_feelOf_216 (by decide) ?_
          refine ra_istore dX10_feelOf_221 rfl (Nat.le_of_ble_eq_true rfl) ?_
          show Rn _ _ _ _ _ _ _ _ [some (rf E 99), none, none, some (.int zx3), some (.int zx6), some (.int zx7_21), some (.int zx6), some (.int zx7_21)] _ _ _
          refine rn_iinc (w := (1 : Int32)) dX10_feelOf_223 rfl (by decide) rfl (Nat.le_of_ble_eq_true rfl) (fun zx6_34 ezx6_34 => ?_)
          replace hF := hF zx6_34 ezx6_34
          show Rn _ _ _ _ _ _ _ _ [some (rf E 99), none, none, some (.int zx3), some (.int zx6), some (.int zx7_21), some (.int zx6_34), some (.int zx7_21)] _ _ _
          refine rn_goto (tgt := 144) dX10_feelOf_226 (by decide) ?_
          exact rn_wk (L' := [some (rf E 99), none, none, some (.int zx3), some (.int zx6), some (.int zx7_21), some (.int zx6_34), none]) (⟨rfl, ⟨rfl, ⟨rfl, ⟨rfl, ⟨rfl, trivial⟩⟩⟩⟩⟩) hF
theorem sgX10_feelOf_97 {E : En} {Q : Option Value → Hi → Prop} {H : Hi} {zx2 : Int32} {zx3 : Int32} {zx4 : Int32} {zx5 : Int32} 
    (hF : ((24 : Int32) ≤ zx5 → (∀ zx4_2 : Int32, zx4_2 = zx4 + (1 : Int32) → (Rm E mX10_feelOf Q 65 [some (rf E 99), none, some (.int zx2), some (.int zx3), some (.int zx4_2), none, none, none] [] H))) ∧ (¬ (24 : Int32) ≤ zx5 → (∃ zj_3 : Nat, (zj_3 < 24 ∧ zx5 = nI zj_3) ∧ (∃ zj_4 : Nat, (zj_4 < 24 ∧ zx5 = nI zj_4) ∧ (∀ zH_5 : Hi, zH_5 = up H 125 zj_4 ((H 125 zj_3) + (((H 99 34) >>> (zx5 &&& 31)) &&& (1 : Int32))) → (∀ zx5_6 : Int32, zx5_6 = zx5 + (1 : Int32) → (Rm E mX10_feelOf Q 97 [some (rf E 99), none, some (.int zx2), some (.int zx3), some (.int zx4), some (.int zx5_6), none, none] [] zH_5))))))) :
    Rm E mX10_feelOf Q 97 [some (rf E 99), none, some (.int zx2), some (.int zx3), some (.int zx4), some (.int zx5), none, none] [] H := by
  refine rn_iload dX10_feelOf_97 rfl ?_
  refine rn_bipush (x := (24 : Int32)) dX10_feelOf_99 (by decide) ?_
  refine rn_icmp_ge (tgt := 129) dX10_feelOf_101 (by decide) (fun hc_1 => ?_) (fun hc_1 => ?_)
  · replace hF := hF.1 hc_1
    refine rn_iinc (w := (1 : Int32)) dX10_feelOf_129 rfl (by decide) rfl (Nat.le_of_ble_eq_true rfl) (fun zx4_2 ezx4_2 => ?_)
    replace hF := hF zx4_2 ezx4_2
    show Rn _ _ _ _ _ _ _ _ [some (rf E 99), none, some (.int zx2), some (.int zx3), some (.int zx4_2), some (.int zx5), none, none] _ _ _
    refine rn_goto (tgt := 65) dX10_feelOf_132 (by decide) ?_
    exact rn_wk (L' := [some (rf E 99), none, some (.int zx2), some (.int zx3), some (.int zx4_2), none, none, none]) (⟨rfl, ⟨rfl, ⟨rfl, ⟨rfl, trivial⟩⟩⟩⟩) hF
  · replace hF := hF.2 hc_1
    refine rn_aload_n dX10_feelOf_104 rfl ?_
    refine rm_getr (r := 125) flRX10_86 rfl (by decide) rfl dX10_feelOf_105 ?_
    refine rn_iload dX10_feelOf_108 rfl ?_
    refine rn_dup2 dX10_feelOf_110 rfl rfl ?_
    obtain ⟨zj_3, hzj_3, hF⟩ := hF
    refine rj_iald (j := zj_3) hzj_3 rfl (by decide) rfl (by decide) dX10_feelOf_111 ?_
    refine rn_aload_n dX10_feelOf_112 rfl ?_
    refine rm_geti flRX10_280 rfl (by decide) rfl dX10_feelOf_113 ?_
    refine rn_iload dX10_feelOf_116 rfl ?_
    refine rn_ishr dX10_feelOf_118 ?_
    refine rn_iconst (x := (1 : Int32)) dX10_feelOf_119 (by decide) ?_
    refine rn_iand dX10_feelOf_120 ?_
    refine rn_iadd dX10_feelOf_121 ?_
    obtain ⟨zj_4, hzj_4, hF⟩ := hF
    refine rj_iast (j := zj_4) hzj_4 rfl (by decide) rfl (by decide) dX10_feelOf_122 (fun zH_5 ezH_5 => ?_)
    replace hF := hF zH_5 ezH_5
    refine rn_iinc (w := (1 : Int32)) dX10_feelOf_123 rfl (by decide) rfl (Nat.le_of_ble_eq_true rfl) (fun zx5_6 ezx5_6 => ?_)
    replace hF := hF zx5_6 ezx5_6
    show Rn _ _ _ _ _ _ _ _ [some (rf E 99), none, some (.int zx2), some (.int zx3), some (.int zx4), some (.int zx5_6), none, none] _ _ _
    refine rn_goto (tgt := 97) dX10_feelOf_126 (by decide) ?_
    exact rn_wk (L' := [some (rf E 99), none, some (.int zx2), some (.int zx3), some (.int zx4), some (.int zx5_6), none, none]) (⟨rfl, ⟨rfl, ⟨rfl, ⟨rfl, ⟨rfl, trivial⟩⟩⟩⟩⟩) hF
theorem sgX10_feel_0 {E : En} {Q : Option Value → Hi → Prop} {H : Hi} {zx1 : Int32} {zx2 : Int32} 
    (hF : Cm E mX10_isCousin [rf E 99, .int zx1] H (fun w zH_1 => ∃ zr_2 : Int32, w = some (.int zr_2) ∧ ((zr_2 = 0 → (Q (some (.int (-2 : Int32))) zH_1)) ∧ (¬ zr_2 = 0 → (Cm E mX10_isThing [rf E 99, .int zx2] zH_1 (fun w zH_4 => ∃ zr_5 : Int32, w = some (.int zr_5) ∧ ((zr_5 = 0 → (Q (some (.int (-2 : Int32))) zH_4)) ∧ (¬ zr_5 = 0 → (Cm E mX10_feelOf [rf E 99, .int zx1, .int zx2] zH_4 (fun w zH_7 => ∃ zr_8 : Int32, w = some (.int zr_8) ∧ (Q (some (.int zr_8)) zH_7))))))))))) :
    Rm E mX10_feel Q 0 [some (rf E 99), some (.int zx1), some (.int zx2)] [] H := by
  refine rn_aload_n dX10_feel_0 rfl ?_
  refine rn_iload_n dX10_feel_1 rfl ?_
  refine rm_callV (c0 := 99) (As := [.int zx1]) (st := []) mlRX10_153 mdX10_isCousin (Nat.le_of_ble_eq_true rfl) rfl (by decide) (by decide) rfl rfl rfl (Nat.le_of_ble_eq_true rfl) ⟨Nat.le_refl _, Nat.le_refl _⟩ dX10_feel_2 ?_
  refine cm_mono hF (fun w zH_1 hF => ?_)
  obtain ⟨zr_2, rfl, hF⟩ := hF
  refine rn_if_eq (tgt := 25) dX10_feel_5 (by decide) (fun hc_3 => ?_) (fun hc_3 => ?_)
  · replace hF := hF.1 hc_3
    refine rn_bipush (x := (-2 : Int32)) dX10_feel_25 (by decide) ?_
    exact rm_iret rfl dX10_feel_27 hF
  · replace hF := hF.2 hc_3
    refine rn_aload_n dX10_feel_8 rfl ?_
    refine rn_iload_n dX10_feel_9 rfl ?_
    refine rm_callV (c0 := 99) (As := [.int zx2]) (st := []) mlRX10_147 mdX10_isThing (Nat.le_of_ble_eq_true rfl) rfl (by decide) (by decide) rfl rfl rfl (Nat.le_of_ble_eq_true rfl) ⟨Nat.le_refl _, Nat.le_refl _⟩ dX10_feel_10 ?_
    refine cm_mono hF (fun w zH_4 hF => ?_)
    obtain ⟨zr_5, rfl, hF⟩ := hF
    refine rn_if_eq (tgt := 25) dX10_feel_13 (by decide) (fun hc_6 => ?_) (fun hc_6 => ?_)
    · replace hF := hF.1 hc_6
      refine rn_bipush (x := (-2 : Int32)) dX10_feel_25 (by decide) ?_
      exact rm_iret rfl dX10_feel_27 hF
    · replace hF := hF.2 hc_6
      refine rn_aload_n dX10_feel_16 rfl ?_
      refine rn_iload_n dX10_feel_17 rfl ?_
      refine rn_iload_n dX10_feel_18 rfl ?_
      refine rm_callV (c0 := 99) (As := [.int zx1, .int zx2]) (st := []) mlRX10_292 mdX10_feelOf (Nat.le_of_ble_eq_true rfl) rfl (by decide) (by decide) rfl rfl rfl (Nat.le_of_ble_eq_true rfl) ⟨Nat.le_refl _, Nat.le_refl _⟩ dX10_feel_19 ?_
      refine cm_mono hF (fun w zH_7 hF => ?_)
      obtain ⟨zr_8, rfl, hF⟩ := hF
      refine rn_goto (tgt := 27) dX10_feel_22 (by decide) ?_
      exact rm_iret rfl dX10_feel_27 hF
theorem cmX10_feel {E : En} {Q : Option Value → Hi → Prop} {H : Hi} {zx1 : Int32} {zx2 : Int32} 
    (hF : Cm E mX10_isCousin [rf E 99, .int zx1] H (fun w zH_1 => ∃ zr_2 : Int32, w = some (.int zr_2) ∧ ((zr_2 = 0 → (Q (some (.int (-2 : Int32))) zH_1)) ∧ (¬ zr_2 = 0 → (Cm E mX10_isThing [rf E 99, .int zx2] zH_1 (fun w zH_4 => ∃ zr_5 : Int32, w = some (.int zr_5) ∧ ((zr_5 = 0 → (Q (some (.int (-2 : Int32))) zH_4)) ∧ (¬ zr_5 = 0 → (Cm E mX10_feelOf [rf E 99, .int zx1, .int zx2] zH_4 (fun w zH_7 => ∃ zr_8 : Int32, w = some (.int zr_8) ∧ (Q (some (.int zr_8)) zH_7))))))))))) :
    Cm E mX10_feel [rf E 99, .int zx1, .int zx2] H Q :=
  cm_of (by decide +kernel : plainName RX10 = true) (Nat.le_of_ble_eq_true rfl) rfl (sgX10_feel_0  hF)
theorem sgX10_jumpsOf_0 {E : En} {Q : Option Value → Hi → Prop} {H : Hi} {zx1 : Int32} {zx2 : Int32} {zx3 : Int32} {zx4 : Int32} 
    (hF : Cm E mX10_reads [rf E 99] H (fun w zH_1 => w = none ∧ (Cm E mX10_asTold [rf E 99] zH_1 (fun w zH_2 => w = none ∧ (Cm E mX10_begins [rf E 99] zH_2 (fun w zH_3 => w = none ∧ (Rm E mX10_jumpsOf Q 21 [some (rf E 99), some (.int zx1), some (.int zx2), some (.int zx3), some (.int zx4), some (.long (1 : Int64)), none, some (.long (1 : Int64)), none, some (.int (0 : Int32))] [] zH_3))))))) :
    Rm E mX10_jumpsOf Q 0 [some (rf E 99), some (.int zx1), some (.int zx2), some (.int zx3), some (.int zx4), none, none, none, none, none] [] H := by
  refine rn_aload_n dX10_jumpsOf_0 rfl ?_
  refine rm_callV (c0 := 99) (As := []) (st := []) mlRX10_144 mdX10_reads (Nat.le_of_ble_eq_true rfl) rfl (by decide) (by decide) rfl rfl rfl (Nat.le_of_ble_eq_true rfl) ⟨Nat.le_refl _, Nat.le_refl _⟩ dX10_jumpsOf_1 ?_
  refine cm_mono hF (fun w zH_1 hF => ?_)
  obtain ⟨rfl, hF⟩ := hF
  refine rn_aload_n dX10_jumpsOf_4 rfl ?_
  refine rm_callV (c0 := 99) (As := []) (st := []) mlRX10_215 mdX10_asTold (Nat.le_of_ble_eq_true rfl) rfl (by decide) (by decide) rfl rfl rfl (Nat.le_of_ble_eq_true rfl) ⟨Nat.le_refl _, Nat.le_refl _⟩ dX10_jumpsOf_5 ?_
  refine cm_mono hF (fun w zH_2 hF => ?_)
  obtain ⟨rfl, hF⟩ := hF
  refine rn_aload_n dX10_jumpsOf_8 rfl ?_
  refine rm_callV (c0 := 99) (As := []) (st := []) mlRX10_209 mdX10_begins (Nat.le_of_ble_eq_true rfl) rfl (by decide) (by decide) rfl rfl rfl (Nat.le_of_ble_eq_true rfl) ⟨Nat.le_refl _, Nat.le_refl _⟩ dX10_jumpsOf_9 ?_
  refine cm_mono hF (fun w zH_3 hF => ?_)
  obtain ⟨rfl, hF⟩ := hF
  refine rn_lconst (x := (1 : Int64)) dX10_jumpsOf_12 (by decide) ?_
  refine ra_lstore dX10_jumpsOf_13 rfl (Nat.le_of_ble_eq_true rfl) ?_
  show Rn _ _ _ _ _ _ _ _ [some (rf E 99), some (.int zx1), some (.int zx2), some (.int zx3), some (.int zx4), some (.long (1 : Int64)), none, none, none, none] _ _ _
  refine rn_lconst (x := (1 : Int64)) dX10_jumpsOf_15 (by decide) ?_
  refine ra_lstore dX10_jumpsOf_16 rfl (Nat.le_of_ble_eq_true rfl) ?_
  show Rn _ _ _ _ _ _ _ _ [some (rf E 99), some (.int zx1), some (.int zx2), some (.int zx3), some (.int zx4), some (.long (1 : Int64)), none, some (.long (1 : Int64)), none, none] _ _ _
  refine rn_iconst (x := (0 : Int32)) dX10_jumpsOf_18 (by decide) ?_
  refine ra_istore dX10_jumpsOf_19 rfl (Nat.le_of_ble_eq_true rfl) ?_
  show Rn _ _ _ _ _ _ _ _ [some (rf E 99), some (.int zx1), some (.int zx2), some (.int zx3), some (.int zx4), some (.long (1 : Int64)), none, some (.long (1 : Int64)), none, some (.int (0 : Int32))] _ _ _
  exact rn_wk (L' := [some (rf E 99), some (.int zx1), some (.int zx2), some (.int zx3), some (.int zx4), some (.long (1 : Int64)), none, some (.long (1 : Int64)), none, some (.int (0 : Int32))]) (⟨rfl, ⟨rfl, ⟨rfl, ⟨rfl, ⟨rfl, ⟨rfl, ⟨rfl, ⟨rfl, trivial⟩⟩⟩⟩⟩⟩⟩⟩) hF
theorem cmX10_jumpsOf {E : En} {Q : Option Value → Hi → Prop} {H : Hi} {zx1 : Int32} {zx2 : Int32} {zx3 : Int32} {zx4 : Int32} 
    (hF : Cm E mX10_reads [rf E 99] H (fun w zH_1 => w = none ∧ (Cm E mX10_asTold [rf E 99] zH_1 (fun w zH_2 => w = none ∧ (Cm E mX10_begins [rf E 99] zH_2 (fun w zH_3 => w = none ∧ (Rm E mX10_jumpsOf Q 21 [some (rf E 99), some (.int zx1), some (.int zx2), some (.int zx3), some (.int zx4), some (.long (1 : Int64)), none, some (.long (1 : Int64)), none, some (.int (0 : Int32))] [] zH_3))))))) :
    Cm E mX10_jumpsOf [rf E 99, .int zx1, .int zx2, .int zx3, .int zx4] H Q :=
  cm_of (by decide +kernel : plainName RX10 = true) (Nat.le_of_ble_eq_true rfl) rfl (sgX10_jumpsOf_0  hF)
theorem sgX10_jumpsOf_21 {E : En} {Q : Option Value → Hi → Prop} {H : Hi} {zx1 : Int32} {zx2 : Int32} {zx3 : Int32} {zx4 : Int32} {zy5 : Int64} {zy7 : Int64} {zx9 : Int32} 
    (hF : (zx3 < zx9 → (Cm E mX10_lowest [.long zy5, .long zy7, .int zx4] H (fun w zH_2 => ∃ zr_3 : Int64, w = some (.long zr_3) ∧ (Q (some (.long zr_3)) zH_2)))) ∧ (¬ zx3 < zx9 → (Cm E mX10_goesBy [rf E 99, .int zx9] H (fun w zH_4 => w = none ∧ (∃ zj_5 : Nat, (zj_5 < 9 ∧ zx2 = nI zj_5) ∧ ((¬ (zH_4 104 zj_5) = (2 : Int32) → (∀ zx9_7 : Int32, zx9_7 = zx9 + (1 : Int32) → (Rm E mX10_jumpsOf Q 21 [some (rf E 99), some (.int zx1), some (.int zx2), some (.int zx3), some (.int zx4), some (.long zy5), none, some (.long zy7), none, some (.int zx9_7)] [] zH_4))) ∧ ((zH_4 104 zj_5) = (2 : Int32) → (∃ zj_8 : Nat, (zj_8 < 8 ∧ zx2 = nI zj_8) ∧ ((¬ (zH_4 111 zj_8) = (8 : Int32) → (∀ zx9_10 : Int32, zx9_10 = zx9 + (1 : Int32) → (Rm E mX10_jumpsOf Q 21 [some (rf E 99), some (.int zx1), some (.int zx2), some (.int zx3), some (.int zx4), some (.long zy5), none, some (.long zy7), none, some (.int zx9_10)] [] zH_4))) ∧ ((zH_4 111 zj_8) = (8 : Int32) → (∀ zx5_11 : Int64, zx5_11 = zy5 * (((16 : Int32) - zx1).toInt64) → (∀ zx7_12 : Int64, zx7_12 = zy7 * (16 : Int64) → (∀ zx9_13 : Int32, zx9_13 = zx9 + (1 : Int32) → (Rm E mX10_jumpsOf Q 21 [some (rf E 99), some (.int zx1), some (.int zx2), some (.int zx3), some (.int zx4), some (.long zx5_11), none, some (.long zx7_12), none, some (.int zx9_13)] [] zH_4)))))))))))))) :
    Rm E mX10_jumpsOf Q 21 [some (rf E 99), some (.int zx1), some (.int zx2), some (.int zx3), some (.int zx4), some (.long zy5), none, some (.long zy7), none, some (.int zx9)] [] H := by
  refine rn_iload dX10_jumpsOf_21 rfl ?_
  refine rn_iload_n dX10_jumpsOf_23 rfl ?_
  refine rn_icmp_gt (tgt := 78) dX10_jumpsOf_24 (by decide) (fun hc_1 => ?_) (fun hc_1 => ?_)
  · replace hF := hF.1 hc_1
    refine rn_lload dX10_jumpsOf_78 rfl ?_
    refine rn_lload dX10_jumpsOf_80 rfl ?_
    refine rn_iload dX10_jumpsOf_82 rfl ?_
    refine rm_callS (As := [.long zy5, .long zy7, .int zx4]) (st := []) mlRX10_297 mdX10_lowest (Nat.le_of_ble_eq_true rfl) rfl rfl (Nat.le_of_ble_eq_true rfl) ⟨Nat.le_refl _, Nat.le_refl _⟩ dX10_jumpsOf_84 ?_
    refine cm_mono hF (fun w zH_2 hF => ?_)
    obtain ⟨zr_3, rfl, hF⟩ := hF
    exact rm_lret rfl dX10_jumpsOf_87 hF
  · replace hF := hF.2 hc_1
    refine rn_aload_n dX10_jumpsOf_27 rfl ?_
    refine rn_iload dX10_jumpsOf_28 rfl ?_
    refine rm_callV (c0 := 99) (As := [.int zx9]) (st := []) mlRX10_212 mdX10_goesBy (Nat.le_of_ble_eq_true rfl) rfl (by decide) (by decide) rfl rfl rfl (Nat.le_of_ble_eq_true rfl) ⟨Nat.le_refl _, Nat.le_refl _⟩ dX10_jumpsOf_30 ?_
    refine cm_mono hF (fun w zH_4 hF => ?_)
    obtain ⟨rfl, hF⟩ := hF
    refine rn_aload_n dX10_jumpsOf_33 rfl ?_
    refine rm_getr (r := 104) flRX10_22 rfl (by decide) rfl dX10_jumpsOf_34 ?_
    refine rn_iload_n dX10_jumpsOf_37 rfl ?_
    obtain ⟨zj_5, hzj_5, hF⟩ := hF
    refine rj_iald (j := zj_5) hzj_5 rfl (by decide) rfl (by decide) dX10_jumpsOf_38 ?_
    refine rn_iconst (x := (2 : Int32)) dX10_jumpsOf_39 (by decide) ?_
    refine rn_icmp_ne (tgt := 72) dX10_jumpsOf_40 (by decide) (fun hc_6 => ?_) (fun hc_6 => ?_)
    · replace hF := hF.1 hc_6
      refine rn_iinc (w := (1 : Int32)) dX10_jumpsOf_72 rfl (by decide) rfl (Nat.le_of_ble_eq_true rfl) (fun zx9_7 ezx9_7 => ?_)
      replace hF := hF zx9_7 ezx9_7
      show Rn _ _ _ _ _ _ _ _ [some (rf E 99), some (.int zx1), some (.int zx2), some (.int zx3), some (.int zx4), some (.long zy5), none, some (.long zy7), none, some (.int zx9_7)] _ _ _
      refine rn_goto (tgt := 21) dX10_jumpsOf_75 (by decide) ?_
      exact rn_wk (L' := [some (rf E 99), some (.int zx1), some (.int zx2), some (.int zx3), some (.int zx4), some (.long zy5), none, some (.long zy7), none, some (.int zx9_7)]) (⟨rfl, ⟨rfl, ⟨rfl, ⟨rfl, ⟨rfl, ⟨rfl, ⟨rfl, ⟨rfl, trivial⟩⟩⟩⟩⟩⟩⟩⟩) hF
    · replace hF := hF.2 hc_6
      refine rn_aload_n dX10_jumpsOf_43 rfl ?_
      refine rm_getr (r := 111) flRX10_43 rfl (by decide) rfl dX10_jumpsOf_44 ?_
      refine rn_iload_n dX10_jumpsOf_47 rfl ?_
      obtain ⟨zj_8, hzj_8, hF⟩ := hF
      refine rj_iald (j := zj_8) hzj_8 rfl (by decide) rfl (by decide) dX10_jumpsOf_48 ?_
      refine rn_bipush (x := (8 : Int32)) dX10_jumpsOf_49 (by decide) ?_
      refine rn_icmp_ne (tgt := 72) dX10_jumpsOf_51 (by decide) (fun hc_9 => ?_) (fun hc_9 => ?_)
      · replace hF := hF.1 hc_9
        refine rn_iinc (w := (1 : Int32)) dX10_jumpsOf_72 rfl (by decide) rfl (Nat.le_of_ble_eq_true rfl) (fun zx9_10 ezx9_10 => ?_)
        replace hF := hF zx9_10 ezx9_10
        show Rn _ _ _ _ _ _ _ _ [some (rf E 99), some (.int zx1), some (.int zx2), some (.int zx3), some (.int zx4), some (.long zy5), none, some (.long zy7), none, some (.int zx9_10)] _ _ _
        refine rn_goto (tgt := 21) dX10_jumpsOf_75 (by decide) ?_
        exact rn_wk (L' := [some (rf E 99), some (.int zx1), some (.int zx2), some (.int zx3), some (.int zx4), some (.long zy5), none, some (.long zy7), none, some (.int zx9_10)]) (⟨rfl, ⟨rfl, ⟨rfl, ⟨rfl, ⟨rfl, ⟨rfl, ⟨rfl, ⟨rfl, trivial⟩⟩⟩⟩⟩⟩⟩⟩) hF
      · replace hF := hF.2 hc_9
        refine rn_lload dX10_jumpsOf_54 rfl ?_
        refine rn_bipush (x := (16 : Int32)) dX10_jumpsOf_56 (by decide) ?_
        refine rn_iload_n dX10_jumpsOf_58 rfl ?_
        refine rn_isub dX10_jumpsOf_59 ?_
        refine rn_i2l dX10_jumpsOf_60 ?_
        refine rn_lmul dX10_jumpsOf_61 ?_
        refine rn_lstore dX10_jumpsOf_62 rfl (Nat.le_of_ble_eq_true rfl) (fun zx5_11 ezx5_11 => ?_)
        replace hF := hF zx5_11 ezx5_11
        show Rn _ _ _ _ _ _ _ _ [some (rf E 99), some (.int zx1), some (.int zx2), some (.int zx3), some (.int zx4), some (.long zx5_11), none, some (.long zy7), none, some (.int zx9)] _ _ _
        refine rn_lload dX10_jumpsOf_64 rfl ?_
        refine rn_ldc2 coRX10_295 dX10_jumpsOf_66 ?_
        refine rn_lmul dX10_jumpsOf_69 ?_
        refine rn_lstore dX10_jumpsOf_70 rfl (Nat.le_of_ble_eq_true rfl) (fun zx7_12 ezx7_12 => ?_)
        replace hF := hF zx7_12 ezx7_12
        show Rn _ _ _ _ _ _ _ _ [some (rf E 99), some (.int zx1), some (.int zx2), some (.int zx3), some (.int zx4), some (.long zx5_11), none, some (.long zx7_12), none, some (.int zx9)] _ _ _
        refine rn_iinc (w := (1 : Int32)) dX10_jumpsOf_72 rfl (by decide) rfl (Nat.le_of_ble_eq_true rfl) (fun zx9_13 ezx9_13 => ?_)
        replace hF := hF zx9_13 ezx9_13
        show Rn _ _ _ _ _ _ _ _ [some (rf E 99), some (.int zx1), some (.int zx2), some (.int zx3), some (.int zx4), some (.long zx5_11), none, some (.long zx7_12), none, some (.int zx9_13)] _ _ _
        refine rn_goto (tgt := 21) dX10_jumpsOf_75 (by decide) ?_
        exact rn_wk (L' := [some (rf E 99), some (.int zx1), some (.int zx2), some (.int zx3), some (.int zx4), some (.long zx5_11), none, some (.long zx7_12), none, some (.int zx9_13)]) (⟨rfl, ⟨rfl, ⟨rfl, ⟨rfl, ⟨rfl, ⟨rfl, ⟨rfl, ⟨rfl, trivial⟩⟩⟩⟩⟩⟩⟩⟩) hF
theorem sgX10_jumps_0 {E : En} {Q : Option Value → Hi → Prop} {H : Hi} {zx1 : Int32} {zx2 : Int32} {zx3 : Int32} {zx4 : Int32} 
    (hF : Cm E mX10_in [.int zx1, .int (0 : Int32), .int (16 : Int32)] H (fun w zH_1 => ∃ zr_2 : Int32, w = some (.int zr_2) ∧ ((zr_2 = 0 → (Cm E mX10_no [.int (-2 : Int32)] zH_1 (fun w zH_4 => ∃ zr_5 : Int64, w = some (.long zr_5) ∧ (Q (some (.long zr_5)) zH_4)))) ∧ (¬ zr_2 = 0 → (Cm E mX10_isThing [rf E 99, .int zx2] zH_1 (fun w zH_6 => ∃ zr_7 : Int32, w = some (.int zr_7) ∧ ((zr_7 = 0 → (Cm E mX10_no [.int (-2 : Int32)] zH_6 (fun w zH_9 => ∃ zr_10 : Int64, w = some (.long zr_10) ∧ (Q (some (.long zr_10)) zH_9)))) ∧ (¬ zr_7 = 0 → (Cm E mX10_in [.int zx3, .int (0 : Int32), .int (12 : Int32)] zH_6 (fun w zH_11 => ∃ zr_12 : Int32, w = some (.int zr_12) ∧ ((zr_12 = 0 → (Cm E mX10_no [.int (-2 : Int32)] zH_11 (fun w zH_14 => ∃ zr_15 : Int64, w = some (.long zr_15) ∧ (Q (some (.long zr_15)) zH_14)))) ∧ (¬ zr_12 = 0 → (Cm E mX10_in [.int zx4, .int (0 : Int32), .int (1 : Int32)] zH_11 (fun w zH_16 => ∃ zr_17 : Int32, w = some (.int zr_17) ∧ ((zr_17 = 0 → (Cm E mX10_no [.int (-2 : Int32)] zH_16 (fun w zH_19 => ∃ zr_20 : Int64, w = some (.long zr_20) ∧ (Q (some (.long zr_20)) zH_19)))) ∧ (¬ zr_17 = 0 → (Cm E mX10_jumpsOf [rf E 99, .int zx1, .int zx2, .int zx3, .int zx4] zH_16 (fun w zH_21 => ∃ zr_22 : Int64, w = some (.long zr_22) ∧ (Q (some (.long zr_22)) zH_21))))))))))))))))))) :
    Rm E mX10_jumps Q 0 [some (rf E 99), some (.int zx1), some (.int zx2), some (.int zx3), some (.int zx4)] [] H := by
  refine rn_iload_n dX10_jumps_0 rfl ?_
  refine rn_iconst (x := (0 : Int32)) dX10_jumps_1 (by decide) ?_
  refine rn_bipush (x := (16 : Int32)) dX10_jumps_2 (by decide) ?_
  refine rm_callS (As := [.int zx1, .int (0 : Int32), .int (16 : Int32)]) (st := []) mlRX10_110 mdX10_in (Nat.le_of_ble_eq_true rfl) rfl rfl (Nat.le_of_ble_eq_true rfl) ⟨Nat.le_refl _, Nat.le_refl _⟩ dX10_jumps_4 ?_
  refine cm_mono hF (fun w zH_1 hF => ?_)
  obtain ⟨zr_2, rfl, hF⟩ := hF
  refine rn_if_eq (tgt := 50) dX10_jumps_7 (by decide) (fun hc_3 => ?_) (fun hc_3 => ?_)
  · replace hF := hF.1 hc_3
    refine rn_bipush (x := (-2 : Int32)) dX10_jumps_50 (by decide) ?_
    refine rm_callS (As := [.int (-2 : Int32)]) (st := []) mlRX10_305 mdX10_no (Nat.le_of_ble_eq_true rfl) rfl rfl (Nat.le_of_ble_eq_true rfl) ⟨Nat.le_refl _, Nat.le_refl _⟩ dX10_jumps_52 ?_
    refine cm_mono hF (fun w zH_4 hF => ?_)
    obtain ⟨zr_5, rfl, hF⟩ := hF
    exact rm_lret rfl dX10_jumps_55 hF
  · replace hF := hF.2 hc_3
    refine rn_aload_n dX10_jumps_10 rfl ?_
    refine rn_iload_n dX10_jumps_11 rfl ?_
    refine rm_callV (c0 := 99) (As := [.int zx2]) (st := []) mlRX10_147 mdX10_isThing (Nat.le_of_ble_eq_true rfl) rfl (by decide) (by decide) rfl rfl rfl (Nat.le_of_ble_eq_true rfl) ⟨Nat.le_refl _, Nat.le_refl _⟩ dX10_jumps_12 ?_
    refine cm_mono hF (fun w zH_6 hF => ?_)
    obtain ⟨zr_7, rfl, hF⟩ := hF
    refine rn_if_eq (tgt := 50) dX10_jumps_15 (by decide) (fun hc_8 => ?_) (fun hc_8 => ?_)
    · replace hF := hF.1 hc_8
      refine rn_bipush (x := (-2 : Int32)) dX10_jumps_50 (by decide) ?_
      refine rm_callS (As := [.int (-2 : Int32)]) (st := []) mlRX10_305 mdX10_no (Nat.le_of_ble_eq_true rfl) rfl rfl (Nat.le_of_ble_eq_true rfl) ⟨Nat.le_refl _, Nat.le_refl _⟩ dX10_jumps_52 ?_
      refine cm_mono hF (fun w zH_9 hF => ?_)
      obtain ⟨zr_10, rfl, hF⟩ := hF
      exact rm_lret rfl dX10_jumps_55 hF
    · replace hF := hF.2 hc_8
      refine rn_iload_n dX10_jumps_18 rfl ?_
      refine rn_iconst (x := (0 : Int32)) dX10_jumps_19 (by decide) ?_
      refine rn_bipush (x := (12 : Int32)) dX10_jumps_20 (by decide) ?_
      refine rm_callS (As := [.int zx3, .int (0 : Int32), .int (12 : Int32)]) (st := []) mlRX10_110 mdX10_in (Nat.le_of_ble_eq_true rfl) rfl rfl (Nat.le_of_ble_eq_true rfl) ⟨Nat.le_refl _, Nat.le_refl _⟩ dX10_jumps_22 ?_
      refine cm_mono hF (fun w zH_11 hF => ?_)
      obtain ⟨zr_12, rfl, hF⟩ := hF
      refine rn_if_eq (tgt := 50) dX10_jumps_25 (by decide) (fun hc_13 => ?_) (fun hc_13 => ?_)
      · replace hF := hF.1 hc_13
        refine rn_bipush (x := (-2 : Int32)) dX10_jumps_50 (by decide) ?_
        refine rm_callS (As := [.int (-2 : Int32)]) (st := []) mlRX10_305 mdX10_no (Nat.le_of_ble_eq_true rfl) rfl rfl (Nat.le_of_ble_eq_true rfl) ⟨Nat.le_refl _, Nat.le_refl _⟩ dX10_jumps_52 ?_
        refine cm_mono hF (fun w zH_14 hF => ?_)
        obtain ⟨zr_15, rfl, hF⟩ := hF
        exact rm_lret rfl dX10_jumps_55 hF
      · replace hF := hF.2 hc_13
        refine rn_iload dX10_jumps_28 rfl ?_
        refine rn_iconst (x := (0 : Int32)) dX10_jumps_30 (by decide) ?_
        refine rn_iconst (x := (1 : Int32)) dX10_jumps_31 (by decide) ?_
        refine rm_callS (As := [.int zx4, .int (0 : Int32), .int (1 : Int32)]) (st := []) mlRX10_110 mdX10_in (Nat.le_of_ble_eq_true rfl) rfl rfl (Nat.le_of_ble_eq_true rfl) ⟨Nat.le_refl _, Nat.le_refl _⟩ dX10_jumps_32 ?_
        refine cm_mono hF (fun w zH_16 hF => ?_)
        obtain ⟨zr_17, rfl, hF⟩ := hF
        refine rn_if_eq (tgt := 50) dX10_jumps_35 (by decide) (fun hc_18 => ?_) (fun hc_18 => ?_)
        · replace hF := hF.1 hc_18
          refine rn_bipush (x := (-2 : Int32)) dX10_jumps_50 (by decide) ?_
          refine rm_callS (As := [.int (-2 : Int32)]) (st := []) mlRX10_305 mdX10_no (Nat.le_of_ble_eq_true rfl) rfl rfl (Nat.le_of_ble_eq_true rfl) ⟨Nat.le_refl _, Nat.le_refl _⟩ dX10_jumps_52 ?_
          refine cm_mono hF (fun w zH_19 hF => ?_)
          obtain ⟨zr_20, rfl, hF⟩ := hF
          exact rm_lret rfl dX10_jumps_55 hF
        · replace hF := hF.2 hc_18
          refine rn_aload_n dX10_jumps_38 rfl ?_
          refine rn_iload_n dX10_jumps_39 rfl ?_
          refine rn_iload_n dX10_jumps_40 rfl ?_
          refine rn_iload_n dX10_jumps_41 rfl ?_
          refine rn_iload dX10_jumps_42 rfl ?_
          refine rm_callV (c0 := 99) (As := [.int zx1, .int zx2, .int zx3, .int zx4]) (st := []) mlRX10_301 mdX10_jumpsOf (Nat.le_of_ble_eq_true rfl) rfl (by decide) (by decide) rfl rfl rfl (Nat.le_of_ble_eq_true rfl) ⟨Nat.le_refl _, Nat.le_refl _⟩ dX10_jumps_44 ?_
          refine cm_mono hF (fun w zH_21 hF => ?_)
          obtain ⟨zr_22, rfl, hF⟩ := hF
          refine rn_goto (tgt := 55) dX10_jumps_47 (by decide) ?_
          exact rm_lret rfl dX10_jumps_55 hF
theorem cmX10_jumps {E : En} {Q : Option Value → Hi → Prop} {H : Hi} {zx1 : Int32} {zx2 : Int32} {zx3 : Int32} {zx4 : Int32} 
    (hF : Cm E mX10_in [.int zx1, .int (0 : Int32), .int (16 : Int32)] H (fun w zH_1 => ∃ zr_2 : Int32, w = some (.int zr_2) ∧ ((zr_2 = 0 → (Cm E mX10_no [.int (-2 : Int32)] zH_1 (fun w zH_4 => ∃ zr_5 : Int64, w = some (.long zr_5) ∧ (Q (some (.long zr_5)) zH_4)))) ∧ (¬ zr_2 = 0 → (Cm E mX10_isThing [rf E 99, .int zx2] zH_1 (fun w zH_6 => ∃ zr_7 : Int32, w = some (.int zr_7) ∧ ((zr_7 = 0 → (Cm E mX10_no [.int (-2 : Int32)] zH_6 (fun w zH_9 => ∃ zr_10 : Int64, w = some (.long zr_10) ∧ (Q (some (.long zr_10)) zH_9)))) ∧ (¬ zr_7 = 0 → (Cm E mX10_in [.int zx3, .int (0 : Int32), .int (12 : Int32)] zH_6 (fun w zH_11 => ∃ zr_12 : Int32, w = some (.int zr_12) ∧ ((zr_12 = 0 → (Cm E mX10_no [.int (-2 : Int32)] zH_11 (fun w zH_14 => ∃ zr_15 : Int64, w = some (.long zr_15) ∧ (Q (some (.long zr_15)) zH_14)))) ∧ (¬ zr_12 = 0 → (Cm E mX10_in [.int zx4, .int (0 : Int32), .int (1 : Int32)] zH_11 (fun w zH_16 => ∃ zr_17 : Int32, w = some (.int zr_17) ∧ ((zr_17 = 0 → (Cm E mX10_no [.int (-2 : Int32)] zH_16 (fun w zH_19 => ∃ zr_20 : Int64, w = some (.long zr_20) ∧ (Q (some (.long zr_20)) zH_19)))) ∧ (¬ zr_17 = 0 → (Cm E mX10_jumpsOf [rf E 99, .int zx1, .int zx2, .int zx3, .int zx4] zH_16 (fun w zH_21 => ∃ zr_22 : Int64, w = some (.long zr_22) ∧ (Q (some (.long zr_22)) zH_21))))))))))))))))))) :
    Cm E mX10_jumps [rf E 99, .int zx1, .int zx2, .int zx3, .int zx4] H Q :=
  cm_of (by decide +kernel : plainName RX10 = true) (Nat.le_of_ble_eq_true rfl) rfl (sgX10_jumps_0  hF)
theorem sgX10_dayOf_0 {E : En} {Q : Option Value → Hi → Prop} {H : Hi} {zx1 : Int32} {zx2 : Int32} {zx3 : Int32} 
    (hF : Cm E mX10_reads [rf E 99] H (fun w zH_1 => w = none ∧ (Cm E mX10_asTold [rf E 99] zH_1 (fun w zH_2 => w = none ∧ (Rm E mX10_dayOf Q 14 [some (rf E 99), none, some (.int zx2), some (.int zx3), some (.int zx1), some (.int (0 : Int32)), none, none] [] zH_2))))) :
    Rm E mX10_dayOf Q 0 [some (rf E 99), some (.int zx1), some (.int zx2), some (.int zx3), none, none, none, none] [] H := by
  refine rn_aload_n dX10_dayOf_0 rfl ?_
  refine rm_callV (c0 := 99) (As := []) (st := []) mlRX10_144 mdX10_reads (Nat.le_of_ble_eq_true rfl) rfl (by decide) (by decide) rfl rfl rfl (Nat.le_of_ble_eq_true rfl) ⟨Nat.le_refl _, Nat.le_refl _⟩ dX10_dayOf_1 ?_
  refine cm_mono hF (fun w zH_1 hF => ?_)
  obtain ⟨rfl, hF⟩ := hF
  refine rn_aload_n dX10_dayOf_4 rfl ?_
  refine rm_callV (c0 := 99) (As := []) (st := []) mlRX10_215 mdX10_asTold (Nat.le_of_ble_eq_true rfl) rfl (by decide) (by decide) rfl rfl rfl (Nat.le_of_ble_eq_true rfl) ⟨Nat.le_refl _, Nat.le_refl _⟩ dX10_dayOf_5 ?_
  refine cm_mono hF (fun w zH_2 hF => ?_)
  obtain ⟨rfl, hF⟩ := hF
  refine rn_iload_n dX10_dayOf_8 rfl ?_
  refine ra_istore dX10_dayOf_9 rfl (Nat.le_of_ble_eq_true rfl) ?_
  show Rn _ _ _ _ _ _ _ _ [some (rf E 99), some (.int zx1), some (.int zx2), some (.int zx3), some (.int zx1), none, none, none] _ _ _
  refine rn_iconst (x := (0 : Int32)) dX10_dayOf_11 (by decide) ?_
  refine ra_istore dX10_dayOf_12 rfl (Nat.le_of_ble_eq_true rfl) ?_
  show Rn _ _ _ _ _ _ _ _ [some (rf E 99), some (.int zx1), some (.int zx2), some (.int zx3), some (.int zx1), some (.int (0 : Int32)), none, none] _ _ _
  exact rn_wk (L' := [some (rf E 99), none, some (.int zx2), some (.int zx3), some (.int zx1), some (.int (0 : Int32)), none, none]) (⟨rfl, ⟨rfl, ⟨rfl, ⟨rfl, ⟨rfl, trivial⟩⟩⟩⟩⟩) hF
theorem cmX10_dayOf {E : En} {Q : Option Value → Hi → Prop} {H : Hi} {zx1 : Int32} {zx2 : Int32} {zx3 : Int32} 
    (hF : Cm E mX10_reads [rf E 99] H (fun w zH_1 => w = none ∧ (Cm E mX10_asTold [rf E 99] zH_1 (fun w zH_2 => w = none ∧ (Rm E mX10_dayOf Q 14 [some (rf E 99), none, some (.int zx2), some (.int zx3), some (.int zx1), some (.int (0 : Int32)), none, none] [] zH_2))))) :
    Cm E mX10_dayOf [rf E 99, .int zx1, .int zx2, .int zx3] H Q :=
  cm_of (by decide +kernel : plainName RX10 = true) (Nat.le_of_ble_eq_true rfl) rfl (sgX10_dayOf_0  hF)
theorem sgX10_dayOf_14 {E : En} {Q : Option Value → Hi → Prop} {H : Hi} {zx2 : Int32} {zx3 : Int32} {zx4 : Int32} {zx5 : Int32} 
    (hF : (zx2 < zx5 → (Cm E mX10_runs [rf E 99, .int zx2] H (fun w zH_2 => w = none ∧ (∀ zx6_4 : Int32, zx6_4 = zH_2 99 11 → (Rm E mX10_dayOf Q 163 [some (rf E 99), none, none, some (.int zx3), none, some (.int (0 : Int32)), some (.int zx6_4), none] [] zH_2))))) ∧ (¬ zx2 < zx5 → (((H 99 6) ≤ 0 → (Cm E mX10_runs [rf E 99, .int zx2] H (fun w zH_6 => w = none ∧ (∀ zx6_8 : Int32, zx6_8 = zH_6 99 11 → (Rm E mX10_dayOf Q 163 [some (rf E 99), none, none, some (.int zx3), none, some (.int (0 : Int32)), some (.int zx6_8), none] [] zH_6))))) ∧ (¬ (H 99 6) ≤ 0 → (((H 99 2) ≤ 0 → (Cm E mX10_runs [rf E 99, .int zx2] H (fun w zH_10 => w = none ∧ (∀ zx6_12 : Int32, zx6_12 = zH_10 99 11 → (Rm E mX10_dayOf Q 163 [some (rf E 99), none, none, some (.int zx3), none, some (.int (0 : Int32)), some (.int zx6_12), none] [] zH_10))))) ∧ (¬ (H 99 2) ≤ 0 → (∀ zx4_13 : Int32, zx4_13 = ((1103515245 : Int32) * zx4) + (12345 : Int32) → ((¬ (H 99 6) = 0) ∧ (∀ zx6_15 : Int32, zx6_15 = (ushr zx4_13 (16 : Int32)) - (ushr zx4_13 (16 : Int32)) / (H 99 6) * (H 99 6) → (∀ zx4_16 : Int32, zx4_16 = ((1103515245 : Int32) * zx4_13) + (12345 : Int32) → ((¬ (H 99 2) = 0) ∧ (∀ zx7_18 : Int32, zx7_18 = (ushr zx4_16 (16 : Int32)) - (ushr zx4_16 (16 : Int32)) / (H 99 2) * (H 99 2) → (∀ zx4_19 : Int32, zx4_19 = ((1103515245 : Int32) * zx4_16) + (12345 : Int32) → (∃ zj_20 : Nat, (zj_20 < 44 ∧ H 99 22 = nI zj_20) ∧ (∀ zH_21 : Hi, zH_21 = up H 107 zj_20 zx5 → (∃ zj_22 : Nat, (zj_22 < 44 ∧ zH_21 99 22 = nI zj_22) ∧ (∀ zH_23 : Hi, zH_23 = up zH_21 108 zj_22 ((((64 : Int32) * ((ushr zx4_19 (16 : Int32)) - (ushr zx4_19 (16 : Int32)) / (2 : Int32) * (2 : Int32))) + ((8 : Int32) * zx6_15)) + zx7_18) → (∀ zH_24 : Hi, zH_24 = up zH_23 99 22 ((zH_23 99 22) + (1 : Int32)) → (∀ zx5_25 : Int32, zx5_25 = zx5 + (1 : Int32) → (Rm E mX10_dayOf Q 14 [some (rf E 99), none, some (.int zx2), some (.int zx3), some (.int zx4_19), some (.int zx5_25), none, none] [] zH_24)))))))))))))))))))) :
    Rm E mX10_dayOf Q 14 [some (rf E 99), none, some (.int zx2), some (.int zx3), some (.int zx4), some (.int zx5), none, none] [] H := by
  refine rn_iload dX10_dayOf_14 rfl ?_
  refine rn_iload_n dX10_dayOf_16 rfl ?_
  refine rn_icmp_gt (tgt := 149) dX10_dayOf_17 (by decide) (fun hc_1 => ?_) (fun hc_1 => ?_)
  · replace hF := hF.1 hc_1
    refine rn_aload_n dX10_dayOf_149 rfl ?_
    refine rn_iload_n dX10_dayOf_150 rfl ?_
    refine rm_callV (c0 := 99) (As := [.int zx2]) (st := []) mlRX10_218 mdX10_runs (Nat.le_of_ble_eq_true rfl) rfl (by decide) (by decide) rfl rfl rfl (Nat.le_of_ble_eq_true rfl) ⟨Nat.le_refl _, Nat.le_refl _⟩ dX10_dayOf_151 ?_
    refine cm_mono hF (fun w zH_2 hF => ?_)
    obtain ⟨rfl, hF⟩ := hF
    refine rn_iconst (x := (0 : Int32)) dX10_dayOf_154 (by decide) ?_
    refine ra_istore dX10_dayOf_155 rfl (Nat.le_of_ble_eq_true rfl) ?_
    show Rn _ _ _ _ _ _ _ _ [some (rf E 99), none, some (.int zx2), some (.int zx3), some (.int zx4), some (.int (0 : Int32)), none, none] _ _ _
    refine rn_aload_n dX10_dayOf_157 rfl ?_
    refine rm_geti flRX10_163 rfl (by decide) rfl dX10_dayOf_158 ?_
    refine rn_istore dX10_dayOf_161 rfl (Nat.le_of_ble_eq_true rfl) (fun zx6_4 ezx6_4 => ?_)
    replace hF := hF zx6_4 ezx6_4
    show Rn _ _ _ _ _ _ _ _ [some (rf E 99), none, some (.int zx2), some (.int zx3), some (.int zx4), some (.int (0 : Int32)), some (.int zx6_4), none] _ _ _
    exact rn_wk (L' := [some (rf E 99), none, none, some (.int zx3), none, some (.int (0 : Int32)), some (.int zx6_4), none]) (⟨rfl, ⟨rfl, ⟨rfl, ⟨rfl, trivial⟩⟩⟩⟩) hF
  · replace hF := hF.2 hc_1
    refine rn_aload_n dX10_dayOf_20 rfl ?_
    refine rm_geti flRX10_128 rfl (by decide) rfl dX10_dayOf_21 ?_
    refine rn_if_le (tgt := 149) dX10_dayOf_24 (by decide) (fun hc_5 => ?_) (fun hc_5 => ?_)
    · replace hF := hF.1 hc_5
      refine rn_aload_n dX10_dayOf_149 rfl ?_
      refine rn_iload_n dX10_dayOf_150 rfl ?_
      refine rm_callV (c0 := 99) (As := [.int zx2]) (st := []) mlRX10_218 mdX10_runs (Nat.le_of_ble_eq_true rfl) rfl (by decide) (by decide) rfl rfl rfl (Nat.le_of_ble_eq_true rfl) ⟨Nat.le_refl _, Nat.le_refl _⟩ dX10_dayOf_151 ?_
      refine cm_mono hF (fun w zH_6 hF => ?_)
      obtain ⟨rfl, hF⟩ := hF
      refine rn_iconst (x := (0 : Int32)) dX10_dayOf_154 (by decide) ?_
      refine ra_istore dX10_dayOf_155 rfl (Nat.le_of_ble_eq_true rfl) ?_
      show Rn _ _ _ _ _ _ _ _ [some (rf E 99), none, some (.int zx2), some (.int zx3), some (.int zx4), some (.int (0 : Int32)), none, none] _ _ _
      refine rn_aload_n dX10_dayOf_157 rfl ?_
      refine rm_geti flRX10_163 rfl (by decide) rfl dX10_dayOf_158 ?_
      refine rn_istore dX10_dayOf_161 rfl (Nat.le_of_ble_eq_true rfl) (fun zx6_8 ezx6_8 => ?_)
      replace hF := hF zx6_8 ezx6_8
      show Rn _ _ _ _ _ _ _ _ [some (rf E 99), none, some (.int zx2), some (.int zx3), some (.int zx4), some (.int (0 : Int32)), some (.int zx6_8), none] _ _ _
      exact rn_wk (L' := [some (rf E 99), none, none, some (.int zx3), none, some (.int (0 : Int32)), some (.int zx6_8), none]) (⟨rfl, ⟨rfl, ⟨rfl, ⟨rfl, trivial⟩⟩⟩⟩) hF
    · replace hF := hF.2 hc_5
      refine rn_aload_n dX10_dayOf_27 rfl ?_
      refine rm_geti flRX10_125 rfl (by decide) rfl dX10_dayOf_28 ?_
      refine rn_if_le (tgt := 149) dX10_dayOf_31 (by decide) (fun hc_9 => ?_) (fun hc_9 => ?_)
      · replace hF := hF.1 hc_9
        refine rn_aload_n dX10_dayOf_149 rfl ?_
        refine rn_iload_n dX10_dayOf_150 rfl ?_
        refine rm_callV (c0 := 99) (As := [.int zx2]) (st := []) mlRX10_218 mdX10_runs (Nat.le_of_ble_eq_true rfl) rfl (by decide) (by decide) rfl rfl rfl (Nat.le_of_ble_eq_true rfl) ⟨Nat.le_refl _, Nat.le_refl _⟩ dX10_dayOf_151 ?_
        refine cm_mono hF (fun w zH_10 hF => ?_)
        obtain ⟨rfl, hF⟩ := hF
        refine rn_iconst (x := (0 : Int32)) dX10_dayOf_154 (by decide) ?_
        refine ra_istore dX10_dayOf_155 rfl (Nat.le_of_ble_eq_true rfl) ?_
        show Rn _ _ _ _ _ _ _ _ [some (rf E 99), none, some (.int zx2), some (.int zx3), some (.int zx4), some (.int (0 : Int32)), none, none] _ _ _
        refine rn_aload_n dX10_dayOf_157 rfl ?_
        refine rm_geti flRX10_163 rfl (by decide) rfl dX10_dayOf_158 ?_
        refine rn_istore dX10_dayOf_161 rfl (Nat.le_of_ble_eq_true rfl) (fun zx6_12 ezx6_12 => ?_)
        replace hF := hF zx6_12 ezx6_12
        show Rn _ _ _ _ _ _ _ _ [some (rf E 99), none, some (.int zx2), some (.int zx3), some (.int zx4), some (.int (0 : Int32)), some (.int zx6_12), none] _ _ _
        exact rn_wk (L' := [some (rf E 99), none, none, some (.int zx3), none, some (.int (0 : Int32)), some (.int zx6_12), none]) (⟨rfl, ⟨rfl, ⟨rfl, ⟨rfl, trivial⟩⟩⟩⟩) hF
      · replace hF := hF.2 hc_9
        refine rn_ldcw coRX10_309 dX10_dayOf_34 ?_
        refine rn_iload dX10_dayOf_37 rfl ?_
        refine rn_imul dX10_dayOf_39 ?_
        refine rn_sipush (x := (12345 : Int32)) dX10_dayOf_40 (by decide) ?_
        refine rn_iadd dX10_dayOf_43 ?_
        refine rn_istore dX10_dayOf_44 rfl (Nat.le_of_ble_eq_true rfl) (fun zx4_13 ezx4_13 => ?_)
        replace hF := hF zx4_13 ezx4_13
        show Rn _ _ _ _ _ _ _ _ [some (rf E 99), none, some (.int zx2), some (.int zx3), some (.int zx4_13), some (.int zx5), none, none] _ _ _
        refine rn_iload dX10_dayOf_46 rfl ?_
        refine rn_bipush (x := (16 : Int32)) dX10_dayOf_48 (by decide) ?_
        refine rn_iushr dX10_dayOf_50 ?_
        refine rn_aload_n dX10_dayOf_51 rfl ?_
        refine rm_geti flRX10_128 rfl (by decide) rfl dX10_dayOf_52 ?_
        obtain ⟨hz_14, hF⟩ := hF
        refine rn_irem dX10_dayOf_55 hz_14 ?_
        refine rn_istore dX10_dayOf_56 rfl (Nat.le_of_ble_eq_true rfl) (fun zx6_15 ezx6_15 => ?_)
        replace hF := hF zx6_15 ezx6_15
        show Rn _ _ _ _ _ _ _ _ [some (rf E 99), none, some (.int zx2), some (.int zx3), some (.int zx4_13), some (.int zx5), some (.int zx6_15), none] _ _ _
        refine rn_ldcw coRX10_309 dX10_dayOf_58 ?_
        refine rn_iload dX10_dayOf_61 rfl ?_
        refine rn_imul dX10_dayOf_63 ?_
        refine rn_sipush (x := (12345 : Int32)) dX10_dayOf_64 (by decide) ?_
        refine rn_iadd dX10_dayOf_67 ?_
        refine rn_istore dX10_dayOf_68 rfl (Nat.le_of_ble_eq_true rfl) (fun zx4_16 ezx4_16 => ?_)
        replace hF := hF zx4_16 ezx4_16
        show Rn _ _ _ _ _ _ _ _ [some (rf E 99), none, some (.int zx2), some (.int zx3), some (.int zx4_16), some (.int zx5), some (.int zx6_15), none] _ _ _
        refine rn_iload dX10_dayOf_70 rfl ?_
        refine rn_bipush (x := (16 : Int32)) dX10_dayOf_72 (by decide) ?_
        refine rn_iushr dX10_dayOf_74 ?_
        refine rn_aload_n dX10_dayOf_75 rfl ?_
        refine rm_geti flRX10_125 rfl (by decide) rfl dX10_dayOf_76 ?_
        obtain ⟨hz_17, hF⟩ := hF
        refine rn_irem dX10_dayOf_79 hz_17 ?_
        refine rn_istore dX10_dayOf_80 rfl (Nat.le_of_ble_eq_true rfl) (fun zx7_18 ezx7_18 => ?_)
        replace hF := hF zx7_18 ezx7_18
        show Rn _ _ _ _ _ _ _ _ [some (rf E 99), none, some (.int zx2), some (.int zx3), some (.int zx4_16), some (.int zx5), some (.int zx6_15), some (.int zx7_18)] _ _ _
        refine rn_ldcw coRX10_309 dX10_dayOf_82 ?_
        refine rn_iload dX10_dayOf_85 rfl ?_
        refine rn_imul dX10_dayOf_87 ?_
        refine rn_sipush (x := (12345 : Int32)) dX10_dayOf_88 (by decide) ?_
        refine rn_iadd dX10_dayOf_91 ?_
        refine rn_istore dX10_dayOf_92 rfl (Nat.le_of_ble_eq_true rfl) (fun zx4_19 ezx4_19 => ?_)
        replace hF := hF zx4_19 ezx4_19
        show Rn _ _ _ _ _ _ _ _ [some (rf E 99), none, some (.int zx2), some (.int zx3), some (.int zx4_19), some (.int zx5), some (.int zx6_15), some (.int zx7_18)] _ _ _
        refine rn_aload_n dX10_dayOf_94 rfl ?_
        refine rm_getr (r := 107) flRX10_31 rfl (by decide) rfl dX10_dayOf_95 ?_
        refine rn_aload_n dX10_dayOf_98 rfl ?_
        refine rm_geti flRX10_179 rfl (by decide) rfl dX10_dayOf_99 ?_
        refine rn_iload dX10_dayOf_102 rfl ?_
        obtain ⟨zj_20, hzj_20, hF⟩ := hF
        refine rj_iast (j := zj_20) hzj_20 rfl (by decide) rfl (by decide) dX10_dayOf_104 (fun zH_21 ezH_21 => ?_)
        replace hF := hF zH_21 ezH_21
        refine rn_aload_n dX10_dayOf_105 rfl ?_
        refine rm_getr (r := 108) flRX10_34 rfl (by decide) rfl dX10_dayOf_106 ?_
        refine rn_aload_n dX10_dayOf_109 rfl ?_
        refine rm_geti flRX10_179 rfl (by decide) rfl dX10_dayOf_110 ?_
        refine rn_bipush (x := (64 : Int32)) dX10_dayOf_113 (by decide) ?_
        refine rn_iload dX10_dayOf_115 rfl ?_
        refine rn_bipush (x := (16 : Int32)) dX10_dayOf_117 (by decide) ?_
        refine rn_iushr dX10_dayOf_119 ?_
        refine rn_iconst (x := (2 : Int32)) dX10_dayOf_120 (by decide) ?_
        refine rn_irem dX10_dayOf_121 (by decide) ?_
        refine rn_imul dX10_dayOf_122 ?_
        refine rn_bipush (x := (8 : Int32)) dX10_dayOf_123 (by decide) ?_
        refine rn_iload dX10_dayOf_125 rfl ?_
        refine rn_imul dX10_dayOf_127 ?_
        refine rn_iadd dX10_dayOf_128 ?_
        refine rn_iload dX10_dayOf_129 rfl ?_
        refine rn_iadd dX10_dayOf_131 ?_
        obtain ⟨zj_22, hzj_22, hF⟩ := hF
        refine rj_iast (j := zj_22) hzj_22 rfl (by decide) rfl (by decide) dX10_dayOf_132 (fun zH_23 ezH_23 => ?_)
        replace hF := hF zH_23 ezH_23
        refine rn_aload_n dX10_dayOf_133 rfl ?_
        refine rn_dup dX10_dayOf_134 rfl ?_
        refine rm_geti flRX10_179 rfl (by decide) rfl dX10_dayOf_135 ?_
        refine rn_iconst (x := (1 : Int32)) dX10_dayOf_138 (by decide) ?_
        refine rn_iadd dX10_dayOf_139 ?_
        refine rm_puti flRX10_179 rfl (by decide) rfl dX10_dayOf_140 (fun zH_24 ezH_24 => ?_)
        replace hF := hF zH_24 ezH_24
        refine rn_iinc (w := (1 : Int32)) dX10_dayOf_143 rfl (by decide) rfl (Nat.le_of_ble_eq_true rfl) (fun zx5_25 ezx5_25 => ?_)
        replace hF := hF zx5_25 ezx5_25
        show Rn _ _ _ _ _ _ _ _ [some (rf E 99), none, some (.int zx2), some (.int zx3), some (.int zx4_19), some (.int zx5_25), some (.int zx6_15), some (.int zx7_18)] _ _ _
        refine rn_goto (tgt := 14) dX10_dayOf_146 (by decide) ?_
        exact rn_wk (L' := [some (rf E 99), none, some (.int zx2), some (.int zx3), some (.int zx4_19), some (.int zx5_25), none, none]) (⟨rfl, ⟨rfl, ⟨rfl, ⟨rfl, ⟨rfl, trivial⟩⟩⟩⟩⟩) hF
theorem sgX10_dayOf_163 {E : En} {Q : Option Value → Hi → Prop} {H : Hi} {zx3 : Int32} {zx5 : Int32} {zx6 : Int32} 
    (hF : ((H 99 22) ≤ zx6 → ((¬ zx3 = (-1 : Int32) → (∃ zj_3 : Nat, (zj_3 < 8 ∧ zx3 = nI zj_3) ∧ (Q (some (.int (H 111 zj_3))) H))) ∧ (zx3 = (-1 : Int32) → (Q (some (.int zx5)) H)))) ∧ (¬ (H 99 22) ≤ zx6 → (∃ zj_4 : Nat, (zj_4 < 44 ∧ zx6 = nI zj_4) ∧ (((H 115 zj_4) = 0 → (∀ zx5_6 : Int32, zx5_6 = zx5 + (0 : Int32) → (∀ zx6_7 : Int32, zx6_7 = zx6 + (1 : Int32) → (Rm E mX10_dayOf Q 163 [some (rf E 99), none, none, some (.int zx3), none, some (.int zx5_6), some (.int zx6_7), none] [] H)))) ∧ (¬ (H 115 zj_4) = 0 → (∀ zx5_8 : Int32, zx5_8 = zx5 + (1 : Int32) → (∀ zx6_9 : Int32, zx6_9 = zx6 + (1 : Int32) → (Rm E mX10_dayOf Q 163 [some (rf E 99), none, none, some (.int zx3), none, some (.int zx5_8), some (.int zx6_9), none] [] H)))))))) :
    Rm E mX10_dayOf Q 163 [some (rf E 99), none, none, some (.int zx3), none, some (.int zx5), some (.int zx6), none] [] H := by
  refine rn_iload dX10_dayOf_163 rfl ?_
  refine rn_aload_n dX10_dayOf_165 rfl ?_
  refine rm_geti flRX10_179 rfl (by decide) rfl dX10_dayOf_166 ?_
  refine rn_icmp_ge (tgt := 198) dX10_dayOf_169 (by decide) (fun hc_1 => ?_) (fun hc_1 => ?_)
  · replace hF := hF.1 hc_1
    refine rn_iload_n dX10_dayOf_198 rfl ?_
    refine rn_iconst (x := (-1 : Int32)) dX10_dayOf_199 (by decide) ?_
    refine rn_icmp_ne (tgt := 208) dX10_dayOf_200 (by decide) (fun hc_2 => ?_) (fun hc_2 => ?_)
    · replace hF := hF.1 hc_2
      refine rn_aload_n dX10_dayOf_208 rfl ?_
      refine rm_getr (r := 111) flRX10_43 rfl (by decide) rfl dX10_dayOf_209 ?_
      refine rn_iload_n dX10_dayOf_212 rfl ?_
      obtain ⟨zj_3, hzj_3, hF⟩ := hF
      refine rj_iald (j := zj_3) hzj_3 rfl (by decide) rfl (by decide) dX10_dayOf_213 ?_
      exact rm_iret rfl dX10_dayOf_214 hF
    · replace hF := hF.2 hc_2
      refine rn_iload dX10_dayOf_203 rfl ?_
      refine rn_goto (tgt := 214) dX10_dayOf_205 (by decide) ?_
      exact rm_iret rfl dX10_dayOf_214 hF
  · replace hF := hF.2 hc_1
    refine rn_iload dX10_dayOf_172 rfl ?_
    refine rn_aload_n dX10_dayOf_174 rfl ?_
    refine rm_getr (r := 115) flRX10_55 rfl (by decide) rfl dX10_dayOf_175 ?_
    refine rn_iload dX10_dayOf_178 rfl ?_
    obtain ⟨zj_4, hzj_4, hF⟩ := hF
    refine rj_zald (j := zj_4) hzj_4 rfl (by decide) rfl (by decide) dX10_dayOf_180 ?_
    refine rn_if_eq (tgt := 188) dX10_dayOf_181 (by decide) (fun hc_5 => ?_) (fun hc_5 => ?_)
    · replace hF := hF.1 hc_5
      refine rn_iconst (x := (0 : Int32)) dX10_dayOf_188 (by decide) ?_
      refine rn_iadd dX10_dayOf_189 ?_
      refine rn_istore dX10_dayOf_190 rfl (Nat.le_of_ble_eq_true rfl) (fun zx5_6 ezx5_6 => ?_)
      replace hF := hF zx5_6 ezx5_6
      show Rn _ _ _ _ _ _ _ _ [some (rf E 99), none, none, some (.int zx3), none, some (.int zx5_6), some (.int zx6), none] _ _ _
      refine rn_iinc (w := (1 : Int32)) dX10_dayOf_192 rfl (by decide) rfl (Nat.le_of_ble_eq_true rfl) (fun zx6_7 ezx6_7 => ?_)
      replace hF := hF zx6_7 ezx6_7
      show Rn _ _ _ _ _ _ _ _ [some (rf E 99), none, none, some (.int zx3), none, some (.int zx5_6), some (.int zx6_7), none] _ _ _
      refine rn_goto (tgt := 163) dX10_dayOf_195 (by decide) ?_
      exact rn_wk (L' := [some (rf E 99), none, none, some (.int zx3), none, some (.int zx5_6), some (.int zx6_7), none]) (⟨rfl, ⟨rfl, ⟨rfl, ⟨rfl, trivial⟩⟩⟩⟩) hF
    · replace hF := hF.2 hc_5
      refine rn_iconst (x := (1 : Int32)) dX10_dayOf_184 (by decide) ?_
      refine rn_goto (tgt := 189) dX10_dayOf_185 (by decide) ?_
      refine rn_iadd dX10_dayOf_189 ?_
      refine rn_istore dX10_dayOf_190 rfl (Nat.le_of_ble_eq_true rfl) (fun zx5_8 ezx5_8 => ?_)
      replace hF := hF zx5_8 ezx5_8
      show Rn _ _ _ _ _ _ _ _ [some (rf E 99), none, none, some (.int zx3), none, some (.int zx5_8), some (.int zx6), none] _ _ _
      refine rn_iinc (w := (1 : Int32)) dX10_dayOf_192 rfl (by decide) rfl (Nat.le_of_ble_eq_true rfl) (fun zx6_9 ezx6_9 => ?_)
      replace hF := hF zx6_9 ezx6_9
      show Rn _ _ _ _ _ _ _ _ [some (rf E 99), none, none, some (.int zx3), none, some (.int zx5_8), some (.int zx6_9), none] _ _ _
      refine rn_goto (tgt := 163) dX10_dayOf_195 (by decide) ?_
      exact rn_wk (L' := [some (rf E 99), none, none, some (.int zx3), none, some (.int zx5_8), some (.int zx6_9), none]) (⟨rfl, ⟨rfl, ⟨rfl, ⟨rfl, trivial⟩⟩⟩⟩) hF
theorem sgX10_day_0 {E : En} {Q : Option Value → Hi → Prop} {H : Hi} {zx1 : Int32} {zx2 : Int32} {zx3 : Int32} 
    (hF : Cm E mX10_isHour [.int zx2] H (fun w zH_1 => ∃ zr_2 : Int32, w = some (.int zr_2) ∧ ((zr_2 = 0 → (Q (some (.int (-2 : Int32))) zH_1)) ∧ (¬ zr_2 = 0 → ((zx3 = (-1 : Int32) → (Cm E mX10_dayOf [rf E 99, .int zx1, .int zx2, .int zx3] zH_1 (fun w zH_5 => ∃ zr_6 : Int32, w = some (.int zr_6) ∧ (Q (some (.int zr_6)) zH_5)))) ∧ (¬ zx3 = (-1 : Int32) → (Cm E mX10_isThing [rf E 99, .int zx3] zH_1 (fun w zH_7 => ∃ zr_8 : Int32, w = some (.int zr_8) ∧ ((zr_8 = 0 → (Q (some (.int (-2 : Int32))) zH_7)) ∧ (¬ zr_8 = 0 → (Cm E mX10_dayOf [rf E 99, .int zx1, .int zx2, .int zx3] zH_7 (fun w zH_10 => ∃ zr_11 : Int32, w = some (.int zr_11) ∧ (Q (some (.int zr_11)) zH_10))))))))))))) :
    Rm E mX10_day Q 0 [some (rf E 99), some (.int zx1), some (.int zx2), some (.int zx3)] [] H := by
  refine rn_iload_n dX10_day_0 rfl ?_
  refine rm_callS (As := [.int zx2]) (st := []) mlRX10_160 mdX10_isHour (Nat.le_of_ble_eq_true rfl) rfl rfl (Nat.le_of_ble_eq_true rfl) ⟨Nat.le_refl _, Nat.le_refl _⟩ dX10_day_1 ?_
  refine cm_mono hF (fun w zH_1 hF => ?_)
  obtain ⟨zr_2, rfl, hF⟩ := hF
  refine rn_if_eq (tgt := 30) dX10_day_4 (by decide) (fun hc_3 => ?_) (fun hc_3 => ?_)
  · replace hF := hF.1 hc_3
    refine rn_bipush (x := (-2 : Int32)) dX10_day_30 (by decide) ?_
    exact rm_iret rfl dX10_day_32 hF
  · replace hF := hF.2 hc_3
    refine rn_iload_n dX10_day_7 rfl ?_
    refine rn_iconst (x := (-1 : Int32)) dX10_day_8 (by decide) ?_
    refine rn_icmp_eq (tgt := 20) dX10_day_9 (by decide) (fun hc_4 => ?_) (fun hc_4 => ?_)
    · replace hF := hF.1 hc_4
      refine rn_aload_n dX10_day_20 rfl ?_
      refine rn_iload_n dX10_day_21 rfl ?_
      refine rn_iload_n dX10_day_22 rfl ?_
      refine rn_iload_n dX10_day_23 rfl ?_
      refine rm_callV (c0 := 99) (As := [.int zx1, .int zx2, .int zx3]) (st := []) mlRX10_310 mdX10_dayOf (Nat.le_of_ble_eq_true rfl) rfl (by decide) (by decide) rfl rfl rfl (Nat.le_of_ble_eq_true rfl) ⟨Nat.le_refl _, Nat.le_refl _⟩ dX10_day_24 ?_
      refine cm_mono hF (fun w zH_5 hF => ?_)
      obtain ⟨zr_6, rfl, hF⟩ := hF
      refine rn_goto (tgt := 32) dX10_day_27 (by decide) ?_
      exact rm_iret rfl dX10_day_32 hF
    · replace hF := hF.2 hc_4
      refine rn_aload_n dX10_day_12 rfl ?_
      refine rn_iload_n dX10_day_13 rfl ?_
      refine rm_callV (c0 := 99) (As := [.int zx3]) (st := []) mlRX10_147 mdX10_isThing (Nat.le_of_ble_eq_true rfl) rfl (by decide) (by decide) rfl rfl rfl (Nat.le_of_ble_eq_true rfl) ⟨Nat.le_refl _, Nat.le_refl _⟩ dX10_day_14 ?_
      refine cm_mono hF (fun w zH_7 hF => ?_)
      obtain ⟨zr_8, rfl, hF⟩ := hF
      refine rn_if_eq (tgt := 30) dX10_day_17 (by decide) (fun hc_9 => ?_) (fun hc_9 => ?_)
      · replace hF := hF.1 hc_9
        refine rn_bipush (x := (-2 : Int32)) dX10_day_30 (by decide) ?_
        exact rm_iret rfl dX10_day_32 hF
      · replace hF := hF.2 hc_9
        refine rn_aload_n dX10_day_20 rfl ?_
        refine rn_iload_n dX10_day_21 rfl ?_
        refine rn_iload_n dX10_day_22 rfl ?_
        refine rn_iload_n dX10_day_23 rfl ?_
        refine rm_callV (c0 := 99) (As := [.int zx1, .int zx2, .int zx3]) (st := []) mlRX10_310 mdX10_dayOf (Nat.le_of_ble_eq_true rfl) rfl (by decide) (by decide) rfl rfl rfl (Nat.le_of_ble_eq_true rfl) ⟨Nat.le_refl _, Nat.le_refl _⟩ dX10_day_24 ?_
        refine cm_mono hF (fun w zH_10 hF => ?_)
        obtain ⟨zr_11, rfl, hF⟩ := hF
        refine rn_goto (tgt := 32) dX10_day_27 (by decide) ?_
        exact rm_iret rfl dX10_day_32 hF
theorem cmX10_day {E : En} {Q : Option Value → Hi → Prop} {H : Hi} {zx1 : Int32} {zx2 : Int32} {zx3 : Int32} 
    (hF : Cm E mX10_isHour [.int zx2] H (fun w zH_1 => ∃ zr_2 : Int32, w = some (.int zr_2) ∧ ((zr_2 = 0 → (Q (some (.int (-2 : Int32))) zH_1)) ∧ (¬ zr_2 = 0 → ((zx3 = (-1 : Int32) → (Cm E mX10_dayOf [rf E 99, .int zx1, .int zx2, .int zx3] zH_1 (fun w zH_5 => ∃ zr_6 : Int32, w = some (.int zr_6) ∧ (Q (some (.int zr_6)) zH_5)))) ∧ (¬ zx3 = (-1 : Int32) → (Cm E mX10_isThing [rf E 99, .int zx3] zH_1 (fun w zH_7 => ∃ zr_8 : Int32, w = some (.int zr_8) ∧ ((zr_8 = 0 → (Q (some (.int (-2 : Int32))) zH_7)) ∧ (¬ zr_8 = 0 → (Cm E mX10_dayOf [rf E 99, .int zx1, .int zx2, .int zx3] zH_7 (fun w zH_10 => ∃ zr_11 : Int32, w = some (.int zr_11) ∧ (Q (some (.int zr_11)) zH_10))))))))))))) :
    Cm E mX10_day [rf E 99, .int zx1, .int zx2, .int zx3] H Q :=
  cm_of (by decide +kernel : plainName RX10 = true) (Nat.le_of_ble_eq_true rfl) rfl (sgX10_day_0  hF)
theorem sgX10_meets_0 {E : En} {Q : Option Value → Hi → Prop} {H : Hi} {zx1 : Int32} 
    (hF : ∀ zH_1 : Hi, zH_1 = up H 99 41 zx1 → (Q (some (.int ((-10 : Int32) - zx1))) zH_1)) :
    Rm E mX10_meets Q 0 [some (rf E 99), some (.int zx1)] [] H := by
  refine rn_aload_n dX10_meets_0 rfl ?_
  refine rn_iload_n dX10_meets_1 rfl ?_
  refine rm_puti flRX10_314 rfl (by decide) rfl dX10_meets_2 (fun zH_1 ezH_1 => ?_)
  replace hF := hF zH_1 ezH_1
  refine rn_bipush (x := (-10 : Int32)) dX10_meets_5 (by decide) ?_
  refine rn_iload_n dX10_meets_7 rfl ?_
  refine rn_isub dX10_meets_8 ?_
  exact rm_iret rfl dX10_meets_9 hF
theorem cmX10_meets {E : En} {Q : Option Value → Hi → Prop} {H : Hi} {zx1 : Int32} 
    (hF : ∀ zH_1 : Hi, zH_1 = up H 99 41 zx1 → (Q (some (.int ((-10 : Int32) - zx1))) zH_1)) :
    Cm E mX10_meets [rf E 99, .int zx1] H Q :=
  cm_of (by decide +kernel : plainName RX10 = true) (Nat.le_of_ble_eq_true rfl) rfl (sgX10_meets_0  hF)
theorem sgX10_isSheet_0 {E : En} {Q : Option Value → Hi → Prop} {H : Hi} {zx0 : Int32} 
    (hF : Cm E mX10_in [.int zx0, .int (0 : Int32), .int (3 : Int32)] H (fun w zH_1 => ∃ zr_2 : Int32, w = some (.int zr_2) ∧ (narrow .boolean (.int zr_2) = .int zr_2 ∧ Q (some (.int zr_2)) zH_1))) :
    Rm E mX10_isSheet Q 0 [some (.int zx0)] [] H := by
  refine rn_iload_n dX10_isSheet_0 rfl ?_
  refine rn_iconst (x := (0 : Int32)) dX10_isSheet_1 (by decide) ?_
  refine rn_iconst (x := (3 : Int32)) dX10_isSheet_2 (by decide) ?_
  refine rm_callS (As := [.int zx0, .int (0 : Int32), .int (3 : Int32)]) (st := []) mlRX10_110 mdX10_in (Nat.le_of_ble_eq_true rfl) rfl rfl (Nat.le_of_ble_eq_true rfl) ⟨Nat.le_refl _, Nat.le_refl _⟩ dX10_isSheet_3 ?_
  refine cm_mono hF (fun w zH_1 hF => ?_)
  obtain ⟨zr_2, rfl, hF⟩ := hF
  exact rm_zret rfl hF.1 dX10_isSheet_6 hF.2
theorem cmX10_isSheet {E : En} {Q : Option Value → Hi → Prop} {H : Hi} {zx0 : Int32} 
    (hF : Cm E mX10_in [.int zx0, .int (0 : Int32), .int (3 : Int32)] H (fun w zH_1 => ∃ zr_2 : Int32, w = some (.int zr_2) ∧ (narrow .boolean (.int zr_2) = .int zr_2 ∧ Q (some (.int zr_2)) zH_1))) :
    Cm E mX10_isSheet [.int zx0] H Q :=
  cm_of (by decide +kernel : plainName RX10 = true) (Nat.le_of_ble_eq_true rfl) rfl (sgX10_isSheet_0  hF)
theorem sgX10_sheet_0 {E : En} {Q : Option Value → Hi → Prop} {H : Hi} {zx1 : Int32} {zx2 : Int32} {zx3 : Int32} 
    (hF : Cm E mX10_isSheet [.int zx1] H (fun w zH_1 => ∃ zr_2 : Int32, w = some (.int zr_2) ∧ ((zr_2 = 0 → (Q (some (.int (-2 : Int32))) zH_1)) ∧ (¬ zr_2 = 0 → (Cm E mX10_in [.int zx2, .int (0 : Int32), .int (2 : Int32)] zH_1 (fun w zH_4 => ∃ zr_5 : Int32, w = some (.int zr_5) ∧ ((zr_5 = 0 → (Q (some (.int (-2 : Int32))) zH_4)) ∧ (¬ zr_5 = 0 → ((zx3 ≤ (60 : Int32) → ((0 ≤ zx3 → (∃ zj_9 : Nat, (zj_9 < 4 ∧ zx1 = nI zj_9) ∧ (∀ zH_10 : Hi, zH_10 = up zH_4 126 zj_9 (vp_nar .boolean (1 : Int32)) → (∃ zj_11 : Nat, (zj_11 < 4 ∧ zx1 = nI zj_11) ∧ (∀ zH_12 : Hi, zH_12 = up zH_10 127 zj_11 zx2 → (∃ zj_13 : Nat, (zj_13 < 4 ∧ zx1 = nI zj_13) ∧ (∀ zH_14 : Hi, zH_14 = up zH_12 128 zj_13 zx3 → (Rm E mX10_sheet Q 59 [some (rf E 99), some (.int zx1), none, some (.int zx3), some (.int (0 : Int32))] [] zH_14)))))))) ∧ (¬ 0 ≤ zx3 → (Cm E mX10_meets [rf E 99, .int (5 : Int32)] zH_4 (fun w zH_16 => ∃ zr_17 : Int32, w = some (.int zr_17) ∧ (Q (some (.int zr_17)) zH_16)))))) ∧ (¬ zx3 ≤ (60 : Int32) → (Q (some (.int (-2 : Int32))) zH_4))))))))))) :
    Rm E mX10_sheet Q 0 [some (rf E 99), some (.int zx1), some (.int zx2), some (.int zx3), none] [] H := by
  refine rn_iload_n dX10_sheet_0 rfl ?_
  refine rm_callS (As := [.int zx1]) (st := []) mlRX10_169 mdX10_isSheet (Nat.le_of_ble_eq_true rfl) rfl rfl (Nat.le_of_ble_eq_true rfl) ⟨Nat.le_refl _, Nat.le_refl _⟩ dX10_sheet_1 ?_
  refine cm_mono hF (fun w zH_1 hF => ?_)
  obtain ⟨zr_2, rfl, hF⟩ := hF
  refine rn_if_eq (tgt := 22) dX10_sheet_4 (by decide) (fun hc_3 => ?_) (fun hc_3 => ?_)
  · replace hF := hF.1 hc_3
    refine rn_bipush (x := (-2 : Int32)) dX10_sheet_22 (by decide) ?_
    exact rm_iret rfl dX10_sheet_24 hF
  · replace hF := hF.2 hc_3
    refine rn_iload_n dX10_sheet_7 rfl ?_
    refine rn_iconst (x := (0 : Int32)) dX10_sheet_8 (by decide) ?_
    refine rn_iconst (x := (2 : Int32)) dX10_sheet_9 (by decide) ?_
    refine rm_callS (As := [.int zx2, .int (0 : Int32), .int (2 : Int32)]) (st := []) mlRX10_110 mdX10_in (Nat.le_of_ble_eq_true rfl) rfl rfl (Nat.le_of_ble_eq_true rfl) ⟨Nat.le_refl _, Nat.le_refl _⟩ dX10_sheet_10 ?_
    refine cm_mono hF (fun w zH_4 hF => ?_)
    obtain ⟨zr_5, rfl, hF⟩ := hF
    refine rn_if_eq (tgt := 22) dX10_sheet_13 (by decide) (fun hc_6 => ?_) (fun hc_6 => ?_)
    · replace hF := hF.1 hc_6
      refine rn_bipush (x := (-2 : Int32)) dX10_sheet_22 (by decide) ?_
      exact rm_iret rfl dX10_sheet_24 hF
    · replace hF := hF.2 hc_6
      refine rn_iload_n dX10_sheet_16 rfl ?_
      refine rn_bipush (x := (60 : Int32)) dX10_sheet_17 (by decide) ?_
      refine rn_icmp_le (tgt := 25) dX10_sheet_19 (by decide) (fun hc_7 => ?_) (fun hc_7 => ?_)
      · replace hF := hF.1 hc_7
        refine rn_iload_n dX10_sheet_25 rfl ?_
        refine rn_if_ge (tgt := 35) dX10_sheet_26 (by decide) (fun hc_8 => ?_) (fun hc_8 => ?_)
        · replace hF := hF.1 hc_8
          refine rn_aload_n dX10_sheet_35 rfl ?_
          refine rm_getr (r := 126) flRX10_89 rfl (by decide) rfl dX10_sheet_36 ?_
          refine rn_iload_n dX10_sheet_39 rfl ?_
          refine rn_iconst (x := (1 : Int32)) dX10_sheet_40 (by decide) ?_
          obtain ⟨zj_9, hzj_9, hF⟩ := hF
          refine rj_zast (j := zj_9) hzj_9 rfl (by decide) rfl (by decide) dX10_sheet_41 (fun zH_10 ezH_10 => ?_)
          replace hF := hF zH_10 ezH_10
          refine rn_aload_n dX10_sheet_42 rfl ?_
          refine rm_getr (r := 127) flRX10_92 rfl (by decide) rfl dX10_sheet_43 ?_
          refine rn_iload_n dX10_sheet_46 rfl ?_
          refine rn_iload_n dX10_sheet_47 rfl ?_
          obtain ⟨zj_11, hzj_11, hF⟩ := hF
          refine rj_iast (j := zj_11) hzj_11 rfl (by decide) rfl (by decide) dX10_sheet_48 (fun zH_12 ezH_12 => ?_)
          replace hF := hF zH_12 ezH_12
          refine rn_aload_n dX10_sheet_49 rfl ?_
          refine rm_getr (r := 128) flRX10_95 rfl (by decide) rfl dX10_sheet_50 ?_
          refine rn_iload_n dX10_sheet_53 rfl ?_
          refine rn_iload_n dX10_sheet_54 rfl ?_
          obtain ⟨zj_13, hzj_13, hF⟩ := hF
          refine rj_iast (j := zj_13) hzj_13 rfl (by decide) rfl (by decide) dX10_sheet_55 (fun zH_14 ezH_14 => ?_)
          replace hF := hF zH_14 ezH_14
          refine rn_iconst (x := (0 : Int32)) dX10_sheet_56 (by decide) ?_
          refine ra_istore dX10_sheet_57 rfl (Nat.le_of_ble_eq_true rfl) ?_
          show Rn _ _ _ _ _ _ _ _ [some (rf E 99), some (.int zx1), some (.int zx2), some (.int zx3), some (.int (0 : Int32))] _ _ _
          exact rn_wk (L' := [some (rf E 99), some (.int zx1), none, some (.int zx3), some (.int (0 : Int32))]) (⟨rfl, ⟨rfl, ⟨rfl, ⟨rfl, trivial⟩⟩⟩⟩) hF
        · replace hF := hF.2 hc_8
          refine rn_aload_n dX10_sheet_29 rfl ?_
          refine rn_iconst (x := (5 : Int32)) dX10_sheet_30 (by decide) ?_
          refine rm_callV (c0 := 99) (As := [.int (5 : Int32)]) (st := []) mlRX10_172 mdX10_meets (Nat.le_of_ble_eq_true rfl) rfl (by decide) (by decide) rfl rfl rfl (Nat.le_of_ble_eq_true rfl) ⟨Nat.le_refl _, Nat.le_refl _⟩ dX10_sheet_31 ?_
          refine cm_mono hF (fun w zH_16 hF => ?_)
          obtain ⟨zr_17, rfl, hF⟩ := hF
          exact rm_iret rfl dX10_sheet_34 hF
      · replace hF := hF.2 hc_7
        refine rn_bipush (x := (-2 : Int32)) dX10_sheet_22 (by decide) ?_
        exact rm_iret rfl dX10_sheet_24 hF
theorem cmX10_sheet {E : En} {Q : Option Value → Hi → Prop} {H : Hi} {zx1 : Int32} {zx2 : Int32} {zx3 : Int32} 
    (hF : Cm E mX10_isSheet [.int zx1] H (fun w zH_1 => ∃ zr_2 : Int32, w = some (.int zr_2) ∧ ((zr_2 = 0 → (Q (some (.int (-2 : Int32))) zH_1)) ∧ (¬ zr_2 = 0 → (Cm E mX10_in [.int zx2, .int (0 : Int32), .int (2 : Int32)] zH_1 (fun w zH_4 => ∃ zr_5 : Int32, w = some (.int zr_5) ∧ ((zr_5 = 0 → (Q (some (.int (-2 : Int32))) zH_4)) ∧ (¬ zr_5 = 0 → ((zx3 ≤ (60 : Int32) → ((0 ≤ zx3 → (∃ zj_9 : Nat, (zj_9 < 4 ∧ zx1 = nI zj_9) ∧ (∀ zH_10 : Hi, zH_10 = up zH_4 126 zj_9 (vp_nar .boolean (1 : Int32)) → (∃ zj_11 : Nat, (zj_11 < 4 ∧ zx1 = nI zj_11) ∧ (∀ zH_12 : Hi, zH_12 = up zH_10 127 zj_11 zx2 → (∃ zj_13 : Nat, (zj_13 < 4 ∧ zx1 = nI zj_13) ∧ (∀ zH_14 : Hi, zH_14 = up zH_12 128 zj_13 zx3 → (Rm E mX10_sheet Q 59 [some (rf E 99), some (.int zx1), none, some (.int zx3), some (.int (0 : Int32))] [] zH_14)))))))) ∧ (¬ 0 ≤ zx3 → (Cm E mX10_meets [rf E 99, .int (5 : Int32)] zH_4 (fun w zH_16 => ∃ zr_17 : Int32, w = some (.int zr_17) ∧ (Q (some (.int zr_17)) zH_16)))))) ∧ (¬ zx3 ≤ (60 : Int32) → (Q (some (.int (-2 : Int32))) zH_4))))))))))) :
    Cm E mX10_sheet [rf E 99, .int zx1, .int zx2, .int zx3] H Q :=
  cm_of (by decide +kernel : plainName RX10 = true) (Nat.le_of_ble_eq_true rfl) rfl (sgX10_sheet_0  hF)
theorem sgX10_sheet_59 {E : En} {Q : Option Value → Hi → Prop} {H : Hi} {zx1 : Int32} {zx3 : Int32} {zx4 : Int32} 
    (hF : ((60 : Int32) ≤ zx4 → (Q (some (.int zx3)) H)) ∧ (¬ (60 : Int32) ≤ zx4 → (∃ zj_2 : Nat, (zj_2 < 240 ∧ ((60 : Int32) * zx1) + zx4 = nI zj_2) ∧ (∀ zH_3 : Hi, zH_3 = up H 129 zj_2 (0 : Int32) → (∀ zx4_4 : Int32, zx4_4 = zx4 + (1 : Int32) → (Rm E mX10_sheet Q 59 [some (rf E 99), some (.int zx1), none, some (.int zx3), some (.int zx4_4)] [] zH_3)))))) :
    Rm E mX10_sheet Q 59 [some (rf E 99), some (.int zx1), none, some (.int zx3), some (.int zx4)] [] H := by
  refine rn_iload dX10_sheet_59 rfl ?_
  refine rn_bipush (x := (60 : Int32)) dX10_sheet_61 (by decide) ?_
  refine rn_icmp_ge (tgt := 85) dX10_sheet_63 (by decide) (fun hc_1 => ?_) (fun hc_1 => ?_)
  · replace hF := hF.1 hc_1
    refine rn_iload_n dX10_sheet_85 rfl ?_
    exact rm_iret rfl dX10_sheet_86 hF
  · replace hF := hF.2 hc_1
    refine rn_aload_n dX10_sheet_66 rfl ?_
    refine rm_getr (r := 129) flRX10_98 rfl (by decide) rfl dX10_sheet_67 ?_
    refine rn_bipush (x := (60 : Int32)) dX10_sheet_70 (by decide) ?_
    refine rn_iload_n dX10_sheet_72 rfl ?_
    refine rn_imul dX10_sheet_73 ?_
    refine rn_iload dX10_sheet_74 rfl ?_
    refine rn_iadd dX10_sheet_76 ?_
    refine rn_iconst (x := (0 : Int32)) dX10_sheet_77 (by decide) ?_
    obtain ⟨zj_2, hzj_2, hF⟩ := hF
    refine rj_iast (j := zj_2) hzj_2 rfl (by decide) rfl (by decide) dX10_sheet_78 (fun zH_3 ezH_3 => ?_)
    replace hF := hF zH_3 ezH_3
    refine rn_iinc (w := (1 : Int32)) dX10_sheet_79 rfl (by decide) rfl (Nat.le_of_ble_eq_true rfl) (fun zx4_4 ezx4_4 => ?_)
    replace hF := hF zx4_4 ezx4_4
    show Rn _ _ _ _ _ _ _ _ [some (rf E 99), some (.int zx1), none, some (.int zx3), some (.int zx4_4)] _ _ _
    refine rn_goto (tgt := 59) dX10_sheet_82 (by decide) ?_
    exact rn_wk (L' := [some (rf E 99), some (.int zx1), none, some (.int zx3), some (.int zx4_4)]) (⟨rfl, ⟨rfl, ⟨rfl, ⟨rfl, trivial⟩⟩⟩⟩) hF
theorem sgX10_lose_0 {E : En} {Q : Option Value → Hi → Prop} {H : Hi} {zx1 : Int32} 
    (hF : Cm E mX10_isSheet [.int zx1] H (fun w zH_1 => ∃ zr_2 : Int32, w = some (.int zr_2) ∧ ((¬ zr_2 = 0 → (∃ zj_4 : Nat, (zj_4 < 4 ∧ zx1 = nI zj_4) ∧ ((¬ (zH_1 126 zj_4) = 0 → (∃ zj_6 : Nat, (zj_6 < 4 ∧ zx1 = nI zj_6) ∧ (∀ zH_7 : Hi, zH_7 = up zH_1 126 zj_6 (vp_nar .boolean (0 : Int32)) → (∃ zj_8 : Nat, (zj_8 < 4 ∧ zx1 = nI zj_8) ∧ (Q (some (.int (zH_7 128 zj_8))) zH_7))))) ∧ ((zH_1 126 zj_4) = 0 → (Cm E mX10_meets [rf E 99, .int (1 : Int32)] zH_1 (fun w zH_9 => ∃ zr_10 : Int32, w = some (.int zr_10) ∧ (Q (some (.int zr_10)) zH_9))))))) ∧ (zr_2 = 0 → (Q (some (.int (-2 : Int32))) zH_1))))) :
    Rm E mX10_lose Q 0 [some (rf E 99), some (.int zx1)] [] H := by
  refine rn_iload_n dX10_lose_0 rfl ?_
  refine rm_callS (As := [.int zx1]) (st := []) mlRX10_169 mdX10_isSheet (Nat.le_of_ble_eq_true rfl) rfl rfl (Nat.le_of_ble_eq_true rfl) ⟨Nat.le_refl _, Nat.le_refl _⟩ dX10_lose_1 ?_
  refine cm_mono hF (fun w zH_1 hF => ?_)
  obtain ⟨zr_2, rfl, hF⟩ := hF
  refine rn_if_ne (tgt := 10) dX10_lose_4 (by decide) (fun hc_3 => ?_) (fun hc_3 => ?_)
  · replace hF := hF.1 hc_3
    refine rn_aload_n dX10_lose_10 rfl ?_
    refine rm_getr (r := 126) flRX10_89 rfl (by decide) rfl dX10_lose_11 ?_
    refine rn_iload_n dX10_lose_14 rfl ?_
    obtain ⟨zj_4, hzj_4, hF⟩ := hF
    refine rj_zald (j := zj_4) hzj_4 rfl (by decide) rfl (by decide) dX10_lose_15 ?_
    refine rn_if_ne (tgt := 25) dX10_lose_16 (by decide) (fun hc_5 => ?_) (fun hc_5 => ?_)
    · replace hF := hF.1 hc_5
      refine rn_aload_n dX10_lose_25 rfl ?_
      refine rm_getr (r := 126) flRX10_89 rfl (by decide) rfl dX10_lose_26 ?_
      refine rn_iload_n dX10_lose_29 rfl ?_
      refine rn_iconst (x := (0 : Int32)) dX10_lose_30 (by decide) ?_
      obtain ⟨zj_6, hzj_6, hF⟩ := hF
      refine rj_zast (j := zj_6) hzj_6 rfl (by decide) rfl (by decide) dX10_lose_31 (fun zH_7 ezH_7 => ?_)
      replace hF := hF zH_7 ezH_7
      refine rn_aload_n dX10_lose_32 rfl ?_
      refine rm_getr (r := 128) flRX10_95 rfl (by decide) rfl dX10_lose_33 ?_
      refine rn_iload_n dX10_lose_36 rfl ?_
      obtain ⟨zj_8, hzj_8, hF⟩ := hF
      refine rj_iald (j := zj_8) hzj_8 rfl (by decide) rfl (by decide) dX10_lose_37 ?_
      exact rm_iret rfl dX10_lose_38 hF
    · replace hF := hF.2 hc_5
      refine rn_aload_n dX10_lose_19 rfl ?_
      refine rn_iconst (x := (1 : Int32)) dX10_lose_20 (by decide) ?_
      refine rm_callV (c0 := 99) (As := [.int (1 : Int32)]) (st := []) mlRX10_172 mdX10_meets (Nat.le_of_ble_eq_true rfl) rfl (by decide) (by decide) rfl rfl rfl (Nat.le_of_ble_eq_true rfl) ⟨Nat.le_refl _, Nat.le_refl _⟩ dX10_lose_21 ?_
      refine cm_mono hF (fun w zH_9 hF => ?_)
      obtain ⟨zr_10, rfl, hF⟩ := hF
      exact rm_iret rfl dX10_lose_24 hF
  · replace hF := hF.2 hc_3
    refine rn_bipush (x := (-2 : Int32)) dX10_lose_7 (by decide) ?_
    exact rm_iret rfl dX10_lose_9 hF
theorem cmX10_lose {E : En} {Q : Option Value → Hi → Prop} {H : Hi} {zx1 : Int32} 
    (hF : Cm E mX10_isSheet [.int zx1] H (fun w zH_1 => ∃ zr_2 : Int32, w = some (.int zr_2) ∧ ((¬ zr_2 = 0 → (∃ zj_4 : Nat, (zj_4 < 4 ∧ zx1 = nI zj_4) ∧ ((¬ (zH_1 126 zj_4) = 0 → (∃ zj_6 : Nat, (zj_6 < 4 ∧ zx1 = nI zj_6) ∧ (∀ zH_7 : Hi, zH_7 = up zH_1 126 zj_6 (vp_nar .boolean (0 : Int32)) → (∃ zj_8 : Nat, (zj_8 < 4 ∧ zx1 = nI zj_8) ∧ (Q (some (.int (zH_7 128 zj_8))) zH_7))))) ∧ ((zH_1 126 zj_4) = 0 → (Cm E mX10_meets [rf E 99, .int (1 : Int32)] zH_1 (fun w zH_9 => ∃ zr_10 : Int32, w = some (.int zr_10) ∧ (Q (some (.int zr_10)) zH_9))))))) ∧ (zr_2 = 0 → (Q (some (.int (-2 : Int32))) zH_1))))) :
    Cm E mX10_lose [rf E 99, .int zx1] H Q :=
  cm_of (by decide +kernel : plainName RX10 = true) (Nat.le_of_ble_eq_true rfl) rfl (sgX10_lose_0  hF)
theorem sgX10_lacks_0 {E : En} {Q : Option Value → Hi → Prop} {H : Hi} {zx1 : Int32} {zx2 : Int32} {zx3 : Int32} 
    (hF : ∃ zj_1 : Nat, (zj_1 < 4 ∧ zx1 = nI zj_1) ∧ ((¬ (H 126 zj_1) = 0 → (∃ zj_3 : Nat, (zj_3 < 4 ∧ zx1 = nI zj_3) ∧ (((H 127 zj_3) = zx2 → (∃ zj_5 : Nat, (zj_5 < 4 ∧ zx1 = nI zj_5) ∧ (Cm E mX10_in [.int zx3, .int (0 : Int32), .int ((H 128 zj_5) - (1 : Int32))] H (fun w zH_6 => ∃ zr_7 : Int32, w = some (.int zr_7) ∧ ((zr_7 = 0 → (Q (some (.int (2 : Int32))) zH_6)) ∧ (¬ zr_7 = 0 → (Q (some (.int (0 : Int32))) zH_6))))))) ∧ (¬ (H 127 zj_3) = zx2 → (Q (some (.int (3 : Int32))) H))))) ∧ ((H 126 zj_1) = 0 → (Q (some (.int (1 : Int32))) H)))) :
    Rm E mX10_lacks Q 0 [some (rf E 99), some (.int zx1), some (.int zx2), some (.int zx3)] [] H := by
  refine rn_aload_n dX10_lacks_0 rfl ?_
  refine rm_getr (r := 126) flRX10_89 rfl (by decide) rfl dX10_lacks_1 ?_
  refine rn_iload_n dX10_lacks_4 rfl ?_
  obtain ⟨zj_1, hzj_1, hF⟩ := hF
  refine rj_zald (j := zj_1) hzj_1 rfl (by decide) rfl (by decide) dX10_lacks_5 ?_
  refine rn_if_ne (tgt := 13) dX10_lacks_6 (by decide) (fun hc_2 => ?_) (fun hc_2 => ?_)
  · replace hF := hF.1 hc_2
    refine rn_aload_n dX10_lacks_13 rfl ?_
    refine rm_getr (r := 127) flRX10_92 rfl (by decide) rfl dX10_lacks_14 ?_
    refine rn_iload_n dX10_lacks_17 rfl ?_
    obtain ⟨zj_3, hzj_3, hF⟩ := hF
    refine rj_iald (j := zj_3) hzj_3 rfl (by decide) rfl (by decide) dX10_lacks_18 ?_
    refine rn_iload_n dX10_lacks_19 rfl ?_
    refine rn_icmp_eq (tgt := 27) dX10_lacks_20 (by decide) (fun hc_4 => ?_) (fun hc_4 => ?_)
    · replace hF := hF.1 hc_4
      refine rn_iload_n dX10_lacks_27 rfl ?_
      refine rn_iconst (x := (0 : Int32)) dX10_lacks_28 (by decide) ?_
      refine rn_aload_n dX10_lacks_29 rfl ?_
      refine rm_getr (r := 128) flRX10_95 rfl (by decide) rfl dX10_lacks_30 ?_
      refine rn_iload_n dX10_lacks_33 rfl ?_
      obtain ⟨zj_5, hzj_5, hF⟩ := hF
      refine rj_iald (j := zj_5) hzj_5 rfl (by decide) rfl (by decide) dX10_lacks_34 ?_
      refine rn_iconst (x := (1 : Int32)) dX10_lacks_35 (by decide) ?_
      refine rn_isub dX10_lacks_36 ?_
      refine rm_callS (As := [.int zx3, .int (0 : Int32), .int ((H 128 zj_5) - (1 : Int32))]) (st := []) mlRX10_110 mdX10_in (Nat.le_of_ble_eq_true rfl) rfl rfl (Nat.le_of_ble_eq_true rfl) ⟨Nat.le_refl _, Nat.le_refl _⟩ dX10_lacks_37 ?_
      refine cm_mono hF (fun w zH_6 hF => ?_)
      obtain ⟨zr_7, rfl, hF⟩ := hF
      refine rn_if_eq (tgt := 47) dX10_lacks_40 (by decide) (fun hc_8 => ?_) (fun hc_8 => ?_)
      · replace hF := hF.1 hc_8
        refine rn_iconst (x := (2 : Int32)) dX10_lacks_47 (by decide) ?_
        exact rm_iret rfl dX10_lacks_48 hF
      · replace hF := hF.2 hc_8
        refine rn_iconst (x := (0 : Int32)) dX10_lacks_43 (by decide) ?_
        refine rn_goto (tgt := 48) dX10_lacks_44 (by decide) ?_
        exact rm_iret rfl dX10_lacks_48 hF
    · replace hF := hF.2 hc_4
      refine rn_iconst (x := (3 : Int32)) dX10_lacks_23 (by decide) ?_
      refine rn_goto (tgt := 48) dX10_lacks_24 (by decide) ?_
      exact rm_iret rfl dX10_lacks_48 hF
  · replace hF := hF.2 hc_2
    refine rn_iconst (x := (1 : Int32)) dX10_lacks_9 (by decide) ?_
    refine rn_goto (tgt := 48) dX10_lacks_10 (by decide) ?_
    exact rm_iret rfl dX10_lacks_48 hF
theorem cmX10_lacks {E : En} {Q : Option Value → Hi → Prop} {H : Hi} {zx1 : Int32} {zx2 : Int32} {zx3 : Int32} 
    (hF : ∃ zj_1 : Nat, (zj_1 < 4 ∧ zx1 = nI zj_1) ∧ ((¬ (H 126 zj_1) = 0 → (∃ zj_3 : Nat, (zj_3 < 4 ∧ zx1 = nI zj_3) ∧ (((H 127 zj_3) = zx2 → (∃ zj_5 : Nat, (zj_5 < 4 ∧ zx1 = nI zj_5) ∧ (Cm E mX10_in [.int zx3, .int (0 : Int32), .int ((H 128 zj_5) - (1 : Int32))] H (fun w zH_6 => ∃ zr_7 : Int32, w = some (.int zr_7) ∧ ((zr_7 = 0 → (Q (some (.int (2 : Int32))) zH_6)) ∧ (¬ zr_7 = 0 → (Q (some (.int (0 : Int32))) zH_6))))))) ∧ (¬ (H 127 zj_3) = zx2 → (Q (some (.int (3 : Int32))) H))))) ∧ ((H 126 zj_1) = 0 → (Q (some (.int (1 : Int32))) H)))) :
    Cm E mX10_lacks [rf E 99, .int zx1, .int zx2, .int zx3] H Q :=
  cm_of (by decide +kernel : plainName RX10 = true) (Nat.le_of_ble_eq_true rfl) rfl (sgX10_lacks_0  hF)
theorem sgX10_keep_0 {E : En} {Q : Option Value → Hi → Prop} {H : Hi} {zx1 : Int32} {zx2 : Int32} {zx3 : Int32} 
    (hF : ∃ zj_1 : Nat, (zj_1 < 4 ∧ zx1 = nI zj_1) ∧ ((¬ (H 127 zj_1) = 0 → (∃ zj_3 : Nat, (zj_3 < 4 ∧ zx1 = nI zj_3) ∧ ((¬ (H 127 zj_3) = (1 : Int32) → (∃ zj_5 : Nat, (zj_5 < 240 ∧ ((60 : Int32) * zx1) + zx2 = nI zj_5) ∧ (∀ zH_6 : Hi, zH_6 = up H 129 zj_5 zx3 → (Q none zH_6)))) ∧ ((H 127 zj_3) = (1 : Int32) → (∃ zj_7 : Nat, (zj_7 < 240 ∧ ((60 : Int32) * zx1) + zx2 = nI zj_7) ∧ (∀ zH_8 : Hi, zH_8 = up H 129 zj_7 (zx3.toInt16.toInt32) → (Q none zH_8))))))) ∧ ((H 127 zj_1) = 0 → (∃ zj_9 : Nat, (zj_9 < 240 ∧ ((60 : Int32) * zx1) + zx2 = nI zj_9) ∧ (∀ zH_10 : Hi, zH_10 = up H 129 zj_9 (zx3.toInt8.toInt32) → (Q none zH_10)))))) :
    Rm E mX10_keep Q 0 [some (rf E 99), some (.int zx1), some (.int zx2), some (.int zx3)] [] H := by
  refine rn_aload_n dX10_keep_0 rfl ?_
  refine rm_getr (r := 129) flRX10_98 rfl (by decide) rfl dX10_keep_1 ?_
  refine rn_bipush (x := (60 : Int32)) dX10_keep_4 (by decide) ?_
  refine rn_iload_n dX10_keep_6 rfl ?_
  refine rn_imul dX10_keep_7 ?_
  refine rn_iload_n dX10_keep_8 rfl ?_
  refine rn_iadd dX10_keep_9 ?_
  refine rn_aload_n dX10_keep_10 rfl ?_
  refine rm_getr (r := 127) flRX10_92 rfl (by decide) rfl dX10_keep_11 ?_
  refine rn_iload_n dX10_keep_14 rfl ?_
  obtain ⟨zj_1, hzj_1, hF⟩ := hF
  refine rj_iald (j := zj_1) hzj_1 rfl (by decide) rfl (by decide) dX10_keep_15 ?_
  refine rn_if_ne (tgt := 24) dX10_keep_16 (by decide) (fun hc_2 => ?_) (fun hc_2 => ?_)
  · replace hF := hF.1 hc_2
    refine rn_aload_n dX10_keep_24 rfl ?_
    refine rm_getr (r := 127) flRX10_92 rfl (by decide) rfl dX10_keep_25 ?_
    refine rn_iload_n dX10_keep_28 rfl ?_
    obtain ⟨zj_3, hzj_3, hF⟩ := hF
    refine rj_iald (j := zj_3) hzj_3 rfl (by decide) rfl (by decide) dX10_keep_29 ?_
    refine rn_iconst (x := (1 : Int32)) dX10_keep_30 (by decide) ?_
    refine rn_icmp_ne (tgt := 39) dX10_keep_31 (by decide) (fun hc_4 => ?_) (fun hc_4 => ?_)
    · replace hF := hF.1 hc_4
      refine rn_iload_n dX10_keep_39 rfl ?_
      obtain ⟨zj_5, hzj_5, hF⟩ := hF
      refine rj_iast (j := zj_5) hzj_5 rfl (by decide) rfl (by decide) dX10_keep_40 (fun zH_6 ezH_6 => ?_)
      replace hF := hF zH_6 ezH_6
      exact rm_vret rfl dX10_keep_41 hF
    · replace hF := hF.2 hc_4
      refine rn_iload_n dX10_keep_34 rfl ?_
      refine rn_i2s dX10_keep_35 ?_
      refine rn_goto (tgt := 40) dX10_keep_36 (by decide) ?_
      obtain ⟨zj_7, hzj_7, hF⟩ := hF
      refine rj_iast (j := zj_7) hzj_7 rfl (by decide) rfl (by decide) dX10_keep_40 (fun zH_8 ezH_8 => ?_)
      replace hF := hF zH_8 ezH_8
      exact rm_vret rfl dX10_keep_41 hF
  · replace hF := hF.2 hc_2
    refine rn_iload_n dX10_keep_19 rfl ?_
    refine rn_i2b dX10_keep_20 ?_
    refine rn_goto (tgt := 40) dX10_keep_21 (by decide) ?_
    obtain ⟨zj_9, hzj_9, hF⟩ := hF
    refine rj_iast (j := zj_9) hzj_9 rfl (by decide) rfl (by decide) dX10_keep_40 (fun zH_10 ezH_10 => ?_)
    replace hF := hF zH_10 ezH_10
    exact rm_vret rfl dX10_keep_41 hF
theorem cmX10_keep {E : En} {Q : Option Value → Hi → Prop} {H : Hi} {zx1 : Int32} {zx2 : Int32} {zx3 : Int32} 
    (hF : ∃ zj_1 : Nat, (zj_1 < 4 ∧ zx1 = nI zj_1) ∧ ((¬ (H 127 zj_1) = 0 → (∃ zj_3 : Nat, (zj_3 < 4 ∧ zx1 = nI zj_3) ∧ ((¬ (H 127 zj_3) = (1 : Int32) → (∃ zj_5 : Nat, (zj_5 < 240 ∧ ((60 : Int32) * zx1) + zx2 = nI zj_5) ∧ (∀ zH_6 : Hi, zH_6 = up H 129 zj_5 zx3 → (Q none zH_6)))) ∧ ((H 127 zj_3) = (1 : Int32) → (∃ zj_7 : Nat, (zj_7 < 240 ∧ ((60 : Int32) * zx1) + zx2 = nI zj_7) ∧ (∀ zH_8 : Hi, zH_8 = up H 129 zj_7 (zx3.toInt16.toInt32) → (Q none zH_8))))))) ∧ ((H 127 zj_1) = 0 → (∃ zj_9 : Nat, (zj_9 < 240 ∧ ((60 : Int32) * zx1) + zx2 = nI zj_9) ∧ (∀ zH_10 : Hi, zH_10 = up H 129 zj_9 (zx3.toInt8.toInt32) → (Q none zH_10)))))) :
    Cm E mX10_keep [rf E 99, .int zx1, .int zx2, .int zx3] H Q :=
  cm_of (by decide +kernel : plainName RX10 = true) (Nat.le_of_ble_eq_true rfl) rfl (sgX10_keep_0  hF)
theorem sgX10_put_0 {E : En} {Q : Option Value → Hi → Prop} {H : Hi} {zx1 : Int32} {zx2 : Int32} {zx3 : Int32} {zx4 : Int32} 
    (hF : Cm E mX10_isSheet [.int zx1] H (fun w zH_1 => ∃ zr_2 : Int32, w = some (.int zr_2) ∧ ((zr_2 = 0 → (Q (some (.int (-2 : Int32))) zH_1)) ∧ (¬ zr_2 = 0 → (Cm E mX10_in [.int zx2, .int (0 : Int32), .int (2 : Int32)] zH_1 (fun w zH_4 => ∃ zr_5 : Int32, w = some (.int zr_5) ∧ ((¬ zr_5 = 0 → (Cm E mX10_lacks [rf E 99, .int zx1, .int zx2, .int zx3] zH_4 (fun w zH_7 => ∃ zr_8 : Int32, w = some (.int zr_8) ∧ ((zr_8 ≤ 0 → (Cm E mX10_keep [rf E 99, .int zx1, .int zx3, .int zx4] zH_7 (fun w zH_11 => w = none ∧ (Q (some (.int (1 : Int32))) zH_11)))) ∧ (¬ zr_8 ≤ 0 → (Cm E mX10_meets [rf E 99, .int zr_8] zH_7 (fun w zH_12 => ∃ zr_13 : Int32, w = some (.int zr_13) ∧ (Q (some (.int zr_13)) zH_12)))))))) ∧ (zr_5 = 0 → (Q (some (.int (-2 : Int32))) zH_4))))))))) :
    Rm E mX10_put Q 0 [some (rf E 99), some (.int zx1), some (.int zx2), some (.int zx3), some (.int zx4), none] [] H := by
  refine rn_iload_n dX10_put_0 rfl ?_
  refine rm_callS (As := [.int zx1]) (st := []) mlRX10_169 mdX10_isSheet (Nat.le_of_ble_eq_true rfl) rfl rfl (Nat.le_of_ble_eq_true rfl) ⟨Nat.le_refl _, Nat.le_refl _⟩ dX10_put_1 ?_
  refine cm_mono hF (fun w zH_1 hF => ?_)
  obtain ⟨zr_2, rfl, hF⟩ := hF
  refine rn_if_eq (tgt := 16) dX10_put_4 (by decide) (fun hc_3 => ?_) (fun hc_3 => ?_)
  · replace hF := hF.1 hc_3
    refine rn_bipush (x := (-2 : Int32)) dX10_put_16 (by decide) ?_
    exact rm_iret rfl dX10_put_18 hF
  · replace hF := hF.2 hc_3
    refine rn_iload_n dX10_put_7 rfl ?_
    refine rn_iconst (x := (0 : Int32)) dX10_put_8 (by decide) ?_
    refine rn_iconst (x := (2 : Int32)) dX10_put_9 (by decide) ?_
    refine rm_callS (As := [.int zx2, .int (0 : Int32), .int (2 : Int32)]) (st := []) mlRX10_110 mdX10_in (Nat.le_of_ble_eq_true rfl) rfl rfl (Nat.le_of_ble_eq_true rfl) ⟨Nat.le_refl _, Nat.le_refl _⟩ dX10_put_10 ?_
    refine cm_mono hF (fun w zH_4 hF => ?_)
    obtain ⟨zr_5, rfl, hF⟩ := hF
    refine rn_if_ne (tgt := 19) dX10_put_13 (by decide) (fun hc_6 => ?_) (fun hc_6 => ?_)
    · replace hF := hF.1 hc_6
      refine rn_aload_n dX10_put_19 rfl ?_
      refine rn_iload_n dX10_put_20 rfl ?_
      refine rn_iload_n dX10_put_21 rfl ?_
      refine rn_iload_n dX10_put_22 rfl ?_
      refine rm_callV (c0 := 99) (As := [.int zx1, .int zx2, .int zx3]) (st := []) mlRX10_317 mdX10_lacks (Nat.le_of_ble_eq_true rfl) rfl (by decide) (by decide) rfl rfl rfl (Nat.le_of_ble_eq_true rfl) ⟨Nat.le_refl _, Nat.le_refl _⟩ dX10_put_23 ?_
      refine cm_mono hF (fun w zH_7 hF => ?_)
      obtain ⟨zr_8, rfl, hF⟩ := hF
      refine ra_istore dX10_put_26 rfl (Nat.le_of_ble_eq_true rfl) ?_
      show Rn _ _ _ _ _ _ _ _ [some (rf E 99), some (.int zx1), some (.int zx2), some (.int zx3), some (.int zx4), some (.int zr_8)] _ _ _
      refine rn_iload dX10_put_28 rfl ?_
      refine rn_if_le (tgt := 40) dX10_put_30 (by decide) (fun hc_10 => ?_) (fun hc_10 => ?_)
      · replace hF := hF.1 hc_10
        refine rn_aload_n dX10_put_40 rfl ?_
        refine rn_iload_n dX10_put_41 rfl ?_
        refine rn_iload_n dX10_put_42 rfl ?_
        refine rn_iload dX10_put_43 rfl ?_
        refine rm_callV (c0 := 99) (As := [.int zx1, .int zx3, .int zx4]) (st := []) mlRX10_320 mdX10_keep (Nat.le_of_ble_eq_true rfl) rfl (by decide) (by decide) rfl rfl rfl (Nat.le_of_ble_eq_true rfl) ⟨Nat.le_refl _, Nat.le_refl _⟩ dX10_put_45 ?_
        refine cm_mono hF (fun w zH_11 hF => ?_)
        obtain ⟨rfl, hF⟩ := hF
        refine rn_iconst (x := (1 : Int32)) dX10_put_48 (by decide) ?_
        exact rm_iret rfl dX10_put_49 hF
      · replace hF := hF.2 hc_10
        refine rn_aload_n dX10_put_33 rfl ?_
        refine rn_iload dX10_put_34 rfl ?_
        refine rm_callV (c0 := 99) (As := [.int zr_8]) (st := []) mlRX10_172 mdX10_meets (Nat.le_of_ble_eq_true rfl) rfl (by decide) (by decide) rfl rfl rfl (Nat.le_of_ble_eq_true rfl) ⟨Nat.le_refl _, Nat.le_refl _⟩ dX10_put_36 ?_
        refine cm_mono hF (fun w zH_12 hF => ?_)
        obtain ⟨zr_13, rfl, hF⟩ := hF
        exact rm_iret rfl dX10_put_39 hF
    · replace hF := hF.2 hc_6
      refine rn_bipush (x := (-2 : Int32)) dX10_put_16 (by decide) ?_
      exact rm_iret rfl dX10_put_18 hF
theorem cmX10_put {E : En} {Q : Option Value → Hi → Prop} {H : Hi} {zx1 : Int32} {zx2 : Int32} {zx3 : Int32} {zx4 : Int32} 
    (hF : Cm E mX10_isSheet [.int zx1] H (fun w zH_1 => ∃ zr_2 : Int32, w = some (.int zr_2) ∧ ((zr_2 = 0 → (Q (some (.int (-2 : Int32))) zH_1)) ∧ (¬ zr_2 = 0 → (Cm E mX10_in [.int zx2, .int (0 : Int32), .int (2 : Int32)] zH_1 (fun w zH_4 => ∃ zr_5 : Int32, w = some (.int zr_5) ∧ ((¬ zr_5 = 0 → (Cm E mX10_lacks [rf E 99, .int zx1, .int zx2, .int zx3] zH_4 (fun w zH_7 => ∃ zr_8 : Int32, w = some (.int zr_8) ∧ ((zr_8 ≤ 0 → (Cm E mX10_keep [rf E 99, .int zx1, .int zx3, .int zx4] zH_7 (fun w zH_11 => w = none ∧ (Q (some (.int (1 : Int32))) zH_11)))) ∧ (¬ zr_8 ≤ 0 → (Cm E mX10_meets [rf E 99, .int zr_8] zH_7 (fun w zH_12 => ∃ zr_13 : Int32, w = some (.int zr_13) ∧ (Q (some (.int zr_13)) zH_12)))))))) ∧ (zr_5 = 0 → (Q (some (.int (-2 : Int32))) zH_4))))))))) :
    Cm E mX10_put [rf E 99, .int zx1, .int zx2, .int zx3, .int zx4] H Q :=
  cm_of (by decide +kernel : plainName RX10 = true) (Nat.le_of_ble_eq_true rfl) rfl (sgX10_put_0  hF)
theorem sgX10_get_0 {E : En} {Q : Option Value → Hi → Prop} {H : Hi} {zx1 : Int32} {zx2 : Int32} {zx3 : Int32} 
    (hF : Cm E mX10_isSheet [.int zx1] H (fun w zH_1 => ∃ zr_2 : Int32, w = some (.int zr_2) ∧ ((zr_2 = 0 → (Q (some (.int (-2147483648 : Int32))) zH_1)) ∧ (¬ zr_2 = 0 → (Cm E mX10_in [.int zx2, .int (0 : Int32), .int (2 : Int32)] zH_1 (fun w zH_4 => ∃ zr_5 : Int32, w = some (.int zr_5) ∧ ((¬ zr_5 = 0 → (Cm E mX10_lacks [rf E 99, .int zx1, .int zx2, .int zx3] zH_4 (fun w zH_7 => ∃ zr_8 : Int32, w = some (.int zr_8) ∧ ((zr_8 ≤ 0 → (∃ zj_11 : Nat, (zj_11 < 240 ∧ ((60 : Int32) * zx1) + zx3 = nI zj_11) ∧ (Q (some (.int (zH_7 129 zj_11))) zH_7))) ∧ (¬ zr_8 ≤ 0 → (∀ zH_12 : Hi, zH_12 = up zH_7 99 41 zr_8 → (Q (some (.int (-2147483648 : Int32))) zH_12))))))) ∧ (zr_5 = 0 → (Q (some (.int (-2147483648 : Int32))) zH_4))))))))) :
    Rm E mX10_get Q 0 [some (rf E 99), some (.int zx1), some (.int zx2), some (.int zx3), none] [] H := by
  refine rn_iload_n dX10_get_0 rfl ?_
  refine rm_callS (As := [.int zx1]) (st := []) mlRX10_169 mdX10_isSheet (Nat.le_of_ble_eq_true rfl) rfl rfl (Nat.le_of_ble_eq_true rfl) ⟨Nat.le_refl _, Nat.le_refl _⟩ dX10_get_1 ?_
  refine cm_mono hF (fun w zH_1 hF => ?_)
  obtain ⟨zr_2, rfl, hF⟩ := hF
  refine rn_if_eq (tgt := 16) dX10_get_4 (by decide) (fun hc_3 => ?_) (fun hc_3 => ?_)
  · replace hF := hF.1 hc_3
    refine rn_ldcw coRX10_324 dX10_get_16 ?_
    exact rm_iret rfl dX10_get_19 hF
  · replace hF := hF.2 hc_3
    refine rn_iload_n dX10_get_7 rfl ?_
    refine rn_iconst (x := (0 : Int32)) dX10_get_8 (by decide) ?_
    refine rn_iconst (x := (2 : Int32)) dX10_get_9 (by decide) ?_
    refine rm_callS (As := [.int zx2, .int (0 : Int32), .int (2 : Int32)]) (st := []) mlRX10_110 mdX10_in (Nat.le_of_ble_eq_true rfl) rfl rfl (Nat.le_of_ble_eq_true rfl) ⟨Nat.le_refl _, Nat.le_refl _⟩ dX10_get_10 ?_
    refine cm_mono hF (fun w zH_4 hF => ?_)
    obtain ⟨zr_5, rfl, hF⟩ := hF
    refine rn_if_ne (tgt := 20) dX10_get_13 (by decide) (fun hc_6 => ?_) (fun hc_6 => ?_)
    · replace hF := hF.1 hc_6
      refine rn_aload_n dX10_get_20 rfl ?_
      refine rn_iload_n dX10_get_21 rfl ?_
      refine rn_iload_n dX10_get_22 rfl ?_
      refine rn_iload_n dX10_get_23 rfl ?_
      refine rm_callV (c0 := 99) (As := [.int zx1, .int zx2, .int zx3]) (st := []) mlRX10_317 mdX10_lacks (Nat.le_of_ble_eq_true rfl) rfl (by decide) (by decide) rfl rfl rfl (Nat.le_of_ble_eq_true rfl) ⟨Nat.le_refl _, Nat.le_refl _⟩ dX10_get_24 ?_
      refine cm_mono hF (fun w zH_7 hF => ?_)
      obtain ⟨zr_8, rfl, hF⟩ := hF
      refine ra_istore dX10_get_27 rfl (Nat.le_of_ble_eq_true rfl) ?_
      show Rn _ _ _ _ _ _ _ _ [some (rf E 99), some (.int zx1), some (.int zx2), some (.int zx3), some (.int zr_8)] _ _ _
      refine rn_iload dX10_get_29 rfl ?_
      refine rn_if_le (tgt := 44) dX10_get_31 (by decide) (fun hc_10 => ?_) (fun hc_10 => ?_)
      · replace hF := hF.1 hc_10
        refine rn_aload_n dX10_get_44 rfl ?_
        refine rm_getr (r := 129) flRX10_98 rfl (by decide) rfl dX10_get_45 ?_
        refine rn_bipush (x := (60 : Int32)) dX10_get_48 (by decide) ?_
        refine rn_iload_n dX10_get_50 rfl ?_
        refine rn_imul dX10_get_51 ?_
        refine rn_iload_n dX10_get_52 rfl ?_
        refine rn_iadd dX10_get_53 ?_
        obtain ⟨zj_11, hzj_11, hF⟩ := hF
        refine rj_iald (j := zj_11) hzj_11 rfl (by decide) rfl (by decide) dX10_get_54 ?_
        exact rm_iret rfl dX10_get_55 hF
      · replace hF := hF.2 hc_10
        refine rn_aload_n dX10_get_34 rfl ?_
        refine rn_iload dX10_get_35 rfl ?_
        refine rm_puti flRX10_314 rfl (by decide) rfl dX10_get_37 (fun zH_12 ezH_12 => ?_)
        replace hF := hF zH_12 ezH_12
        refine rn_ldcw coRX10_324 dX10_get_40 ?_
        exact rm_iret rfl dX10_get_43 hF
    · replace hF := hF.2 hc_6
      refine rn_ldcw coRX10_324 dX10_get_16 ?_
      exact rm_iret rfl dX10_get_19 hF
theorem cmX10_get {E : En} {Q : Option Value → Hi → Prop} {H : Hi} {zx1 : Int32} {zx2 : Int32} {zx3 : Int32} 
    (hF : Cm E mX10_isSheet [.int zx1] H (fun w zH_1 => ∃ zr_2 : Int32, w = some (.int zr_2) ∧ ((zr_2 = 0 → (Q (some (.int (-2147483648 : Int32))) zH_1)) ∧ (¬ zr_2 = 0 → (Cm E mX10_in [.int zx2, .int (0 : Int32), .int (2 : Int32)] zH_1 (fun w zH_4 => ∃ zr_5 : Int32, w = some (.int zr_5) ∧ ((¬ zr_5 = 0 → (Cm E mX10_lacks [rf E 99, .int zx1, .int zx2, .int zx3] zH_4 (fun w zH_7 => ∃ zr_8 : Int32, w = some (.int zr_8) ∧ ((zr_8 ≤ 0 → (∃ zj_11 : Nat, (zj_11 < 240 ∧ ((60 : Int32) * zx1) + zx3 = nI zj_11) ∧ (Q (some (.int (zH_7 129 zj_11))) zH_7))) ∧ (¬ zr_8 ≤ 0 → (∀ zH_12 : Hi, zH_12 = up zH_7 99 41 zr_8 → (Q (some (.int (-2147483648 : Int32))) zH_12))))))) ∧ (zr_5 = 0 → (Q (some (.int (-2147483648 : Int32))) zH_4))))))))) :
    Cm E mX10_get [rf E 99, .int zx1, .int zx2, .int zx3] H Q :=
  cm_of (by decide +kernel : plainName RX10 = true) (Nat.le_of_ble_eq_true rfl) rfl (sgX10_get_0  hF)
theorem sgX10_copy_0 {E : En} {Q : Option Value → Hi → Prop} {H : Hi} {zx1 : Int32} {zx2 : Int32} {zx3 : Int32} {zx4 : Int32} {zx5 : Int32} 
    (hF : Cm E mX10_isSheet [.int zx1] H (fun w zH_1 => ∃ zr_2 : Int32, w = some (.int zr_2) ∧ ((zr_2 = 0 → (Q (some (.int (-2 : Int32))) zH_1)) ∧ (¬ zr_2 = 0 → (Cm E mX10_isSheet [.int zx3] zH_1 (fun w zH_4 => ∃ zr_5 : Int32, w = some (.int zr_5) ∧ ((¬ zr_5 = 0 → (∃ zj_7 : Nat, (zj_7 < 4 ∧ zx1 = nI zj_7) ∧ (((zH_4 126 zj_7) = 0 → (Cm E mX10_meets [rf E 99, .int (1 : Int32)] zH_4 (fun w zH_9 => ∃ zr_10 : Int32, w = some (.int zr_10) ∧ (Q (some (.int zr_10)) zH_9)))) ∧ (¬ (zH_4 126 zj_7) = 0 → (∃ zj_11 : Nat, (zj_11 < 4 ∧ zx3 = nI zj_11) ∧ ((¬ (zH_4 126 zj_11) = 0 → (∃ zj_13 : Nat, (zj_13 < 4 ∧ zx1 = nI zj_13) ∧ (∃ zj_14 : Nat, (zj_14 < 4 ∧ zx3 = nI zj_14) ∧ (((zH_4 127 zj_13) = (zH_4 127 zj_14) → ((zx2 < 0 → (Cm E mX10_meets [rf E 99, .int (2 : Int32)] zH_4 (fun w zH_17 => ∃ zr_18 : Int32, w = some (.int zr_18) ∧ (Q (some (.int zr_18)) zH_17)))) ∧ (¬ zx2 < 0 → ((zx4 < 0 → (Cm E mX10_meets [rf E 99, .int (2 : Int32)] zH_4 (fun w zH_20 => ∃ zr_21 : Int32, w = some (.int zr_21) ∧ (Q (some (.int zr_21)) zH_20)))) ∧ (¬ zx4 < 0 → ((zx5 < 0 → (Cm E mX10_meets [rf E 99, .int (2 : Int32)] zH_4 (fun w zH_23 => ∃ zr_24 : Int32, w = some (.int zr_24) ∧ (Q (some (.int zr_24)) zH_23)))) ∧ (¬ zx5 < 0 → (∃ zj_25 : Nat, (zj_25 < 4 ∧ zx1 = nI zj_25) ∧ ((0 < (lg_cmp ((zx2.toInt64) + (zx5.toInt64)) ((zH_4 128 zj_25).toInt64)) → (Cm E mX10_meets [rf E 99, .int (2 : Int32)] zH_4 (fun w zH_27 => ∃ zr_28 : Int32, w = some (.int zr_28) ∧ (Q (some (.int zr_28)) zH_27)))) ∧ (¬ 0 < (lg_cmp ((zx2.toInt64) + (zx5.toInt64)) ((zH_4 128 zj_25).toInt64)) → (∃ zj_29 : Nat, (zj_29 < 4 ∧ zx3 = nI zj_29) ∧ (((lg_cmp ((zx4.toInt64) + (zx5.toInt64)) ((zH_4 128 zj_29).toInt64)) ≤ 0 → (Rm E mX10_copy Q 120 [some (rf E 99), some (.int zx1), some (.int zx2), some (.int zx3), some (.int zx4), some (.int zx5), some (.int (0 : Int32))] [] zH_4)) ∧ (¬ (lg_cmp ((zx4.toInt64) + (zx5.toInt64)) ((zH_4 128 zj_29).toInt64)) ≤ 0 → (Cm E mX10_meets [rf E 99, .int (2 : Int32)] zH_4 (fun w zH_32 => ∃ zr_33 : Int32, w = some (.int zr_33) ∧ (Q (some (.int zr_33)) zH_32)))))))))))))))) ∧ (¬ (zH_4 127 zj_13) = (zH_4 127 zj_14) → (Cm E mX10_meets [rf E 99, .int (4 : Int32)] zH_4 (fun w zH_34 => ∃ zr_35 : Int32, w = some (.int zr_35) ∧ (Q (some (.int zr_35)) zH_34)))))))) ∧ ((zH_4 126 zj_11) = 0 → (Cm E mX10_meets [rf E 99, .int (1 : Int32)] zH_4 (fun w zH_36 => ∃ zr_37 : Int32, w = some (.int zr_37) ∧ (Q (some (.int zr_37)) zH_36)))))))))) ∧ (zr_5 = 0 → (Q (some (.int (-2 : Int32))) zH_4))))))))) :
    Rm E mX10_copy Q 0 [some (rf E 99), some (.int zx1), some (.int zx2), some (.int zx3), some (.int zx4), some (.int zx5), none] [] H := by
  refine rn_iload_n dX10_copy_0 rfl ?_
  refine rm_callS (As := [.int zx1]) (st := []) mlRX10_169 mdX10_isSheet (Nat.le_of_ble_eq_true rfl) rfl rfl (Nat.le_of_ble_eq_true rfl) ⟨Nat.le_refl _, Nat.le_refl _⟩ dX10_copy_1 ?_
  refine cm_mono hF (fun w zH_1 hF => ?_)
  obtain ⟨zr_2, rfl, hF⟩ := hF
  refine rn_if_eq (tgt := 14) dX10_copy_4 (by decide) (fun hc_3 => ?_) (fun hc_3 => ?_)
  · replace hF := hF.1 hc_3
    refine rn_bipush (x := (-2 : Int32)) dX10_copy_14 (by decide) ?_
    exact rm_iret rfl dX10_copy_16 hF
  · replace hF := hF.2 hc_3
    refine rn_iload_n dX10_copy_7 rfl ?_
    refine rm_callS (As := [.int zx3]) (st := []) mlRX10_169 mdX10_isSheet (Nat.le_of_ble_eq_true rfl) rfl rfl (Nat.le_of_ble_eq_true rfl) ⟨Nat.le_refl _, Nat.le_refl _⟩ dX10_copy_8 ?_
    refine cm_mono hF (fun w zH_4 hF => ?_)
    obtain ⟨zr_5, rfl, hF⟩ := hF
    refine rn_if_ne (tgt := 17) dX10_copy_11 (by decide) (fun hc_6 => ?_) (fun hc_6 => ?_)
    · replace hF := hF.1 hc_6
      refine rn_aload_n dX10_copy_17 rfl ?_
      refine rm_getr (r := 126) flRX10_89 rfl (by decide) rfl dX10_copy_18 ?_
      refine rn_iload_n dX10_copy_21 rfl ?_
      obtain ⟨zj_7, hzj_7, hF⟩ := hF
      refine rj_zald (j := zj_7) hzj_7 rfl (by decide) rfl (by decide) dX10_copy_22 ?_
      refine rn_if_eq (tgt := 35) dX10_copy_23 (by decide) (fun hc_8 => ?_) (fun hc_8 => ?_)
      · replace hF := hF.1 hc_8
        refine rn_aload_n dX10_copy_35 rfl ?_
        refine rn_iconst (x := (1 : Int32)) dX10_copy_36 (by decide) ?_
        refine rm_callV (c0 := 99) (As := [.int (1 : Int32)]) (st := []) mlRX10_172 mdX10_meets (Nat.le_of_ble_eq_true rfl) rfl (by decide) (by decide) rfl rfl rfl (Nat.le_of_ble_eq_true rfl) ⟨Nat.le_refl _, Nat.le_refl _⟩ dX10_copy_37 ?_
        refine cm_mono hF (fun w zH_9 hF => ?_)
        obtain ⟨zr_10, rfl, hF⟩ := hF
        exact rm_iret rfl dX10_copy_40 hF
      · replace hF := hF.2 hc_8
        refine rn_aload_n dX10_copy_26 rfl ?_
        refine rm_getr (r := 126) flRX10_89 rfl (by decide) rfl dX10_copy_27 ?_
        refine rn_iload_n dX10_copy_30 rfl ?_
        obtain ⟨zj_11, hzj_11, hF⟩ := hF
        refine rj_zald (j := zj_11) hzj_11 rfl (by decide) rfl (by decide) dX10_copy_31 ?_
        refine rn_if_ne (tgt := 41) dX10_copy_32 (by decide) (fun hc_12 => ?_) (fun hc_12 => ?_)
        · replace hF := hF.1 hc_12
          refine rn_aload_n dX10_copy_41 rfl ?_
          refine rm_getr (r := 127) flRX10_92 rfl (by decide) rfl dX10_copy_42 ?_
          refine rn_iload_n dX10_copy_45 rfl ?_
          obtain ⟨zj_13, hzj_13, hF⟩ := hF
          refine rj_iald (j := zj_13) hzj_13 rfl (by decide) rfl (by decide) dX10_copy_46 ?_
          refine rn_aload_n dX10_copy_47 rfl ?_
          refine rm_getr (r := 127) flRX10_92 rfl (by decide) rfl dX10_copy_48 ?_
          refine rn_iload_n dX10_copy_51 rfl ?_
          obtain ⟨zj_14, hzj_14, hF⟩ := hF
          refine rj_iald (j := zj_14) hzj_14 rfl (by decide) rfl (by decide) dX10_copy_52 ?_
          refine rn_icmp_eq (tgt := 62) dX10_copy_53 (by decide) (fun hc_15 => ?_) (fun hc_15 => ?_)
          · replace hF := hF.1 hc_15
            refine rn_iload_n dX10_copy_62 rfl ?_
            refine rn_if_lt (tgt := 111) dX10_copy_63 (by decide) (fun hc_16 => ?_) (fun hc_16 => ?_)
            · replace hF := hF.1 hc_16
              refine rn_aload_n dX10_copy_111 rfl ?_
              refine rn_iconst (x := (2 : Int32)) dX10_copy_112 (by decide) ?_
              refine rm_callV (c0 := 99) (As := [.int (2 : Int32)]) (st := []) mlRX10_172 mdX10_meets (Nat.le_of_ble_eq_true rfl) rfl (by decide) (by decide) rfl rfl rfl (Nat.le_of_ble_eq_true rfl) ⟨Nat.le_refl _, Nat.le_refl _⟩ dX10_copy_113 ?_
              refine cm_mono hF (fun w zH_17 hF => ?_)
              obtain ⟨zr_18, rfl, hF⟩ := hF
              exact rm_iret rfl dX10_copy_116 hF
            · replace hF := hF.2 hc_16
              refine rn_iload dX10_copy_66 rfl ?_
              refine rn_if_lt (tgt := 111) dX10_copy_68 (by decide) (fun hc_19 => ?_) (fun hc_19 => ?_)
              · replace hF := hF.1 hc_19
                refine rn_aload_n dX10_copy_111 rfl ?_
                refine rn_iconst (x := (2 : Int32)) dX10_copy_112 (by decide) ?_
                refine rm_callV (c0 := 99) (As := [.int (2 : Int32)]) (st := []) mlRX10_172 mdX10_meets (Nat.le_of_ble_eq_true rfl) rfl (by decide) (by decide) rfl rfl rfl (Nat.le_of_ble_eq_true rfl) ⟨Nat.le_refl _, Nat.le_refl _⟩ dX10_copy_113 ?_
                refine cm_mono hF (fun w zH_20 hF => ?_)
                obtain ⟨zr_21, rfl, hF⟩ := hF
                exact rm_iret rfl dX10_copy_116 hF
              · replace hF := hF.2 hc_19
                refine rn_iload dX10_copy_71 rfl ?_
                refine rn_if_lt (tgt := 111) dX10_copy_73 (by decide) (fun hc_22 => ?_) (fun hc_22 => ?_)
                · replace hF := hF.1 hc_22
                  refine rn_aload_n dX10_copy_111 rfl ?_
                  refine rn_iconst (x := (2 : Int32)) dX10_copy_112 (by decide) ?_
                  refine rm_callV (c0 := 99) (As := [.int (2 : Int32)]) (st := []) mlRX10_172 mdX10_meets (Nat.le_of_ble_eq_true rfl) rfl (by decide) (by decide) rfl rfl rfl (Nat.le_of_ble_eq_true rfl) ⟨Nat.le_refl _, Nat.le_refl _⟩ dX10_copy_113 ?_
                  refine cm_mono hF (fun w zH_23 hF => ?_)
                  obtain ⟨zr_24, rfl, hF⟩ := hF
                  exact rm_iret rfl dX10_copy_116 hF
                · replace hF := hF.2 hc_22
                  refine rn_iload_n dX10_copy_76 rfl ?_
                  refine rn_i2l dX10_copy_77 ?_
                  refine rn_iload dX10_copy_78 rfl ?_
                  refine rn_i2l dX10_copy_80 ?_
                  refine rn_ladd dX10_copy_81 ?_
                  refine rn_aload_n dX10_copy_82 rfl ?_
                  refine rm_getr (r := 128) flRX10_95 rfl (by decide) rfl dX10_copy_83 ?_
                  refine rn_iload_n dX10_copy_86 rfl ?_
                  obtain ⟨zj_25, hzj_25, hF⟩ := hF
                  refine rj_iald (j := zj_25) hzj_25 rfl (by decide) rfl (by decide) dX10_copy_87 ?_
                  refine rn_i2l dX10_copy_88 ?_
                  refine rn_lcmp dX10_copy_89 ?_
                  refine rn_if_gt (tgt := 111) dX10_copy_90 (by decide) (fun hc_26 => ?_) (fun hc_26 => ?_)
                  · replace hF := hF.1 hc_26
                    refine rn_aload_n dX10_copy_111 rfl ?_
                    refine rn_iconst (x := (2 : Int32)) dX10_copy_112 (by decide) ?_
                    refine rm_callV (c0 := 99) (As := [.int (2 : Int32)]) (st := []) mlRX10_172 mdX10_meets (Nat.le_of_ble_eq_true rfl) rfl (by decide) (by decide) rfl rfl rfl (Nat.le_of_ble_eq_true rfl) ⟨Nat.le_refl _, Nat.le_refl _⟩ dX10_copy_113 ?_
                    refine cm_mono hF (fun w zH_27 hF => ?_)
                    obtain ⟨zr_28, rfl, hF⟩ := hF
                    exact rm_iret rfl dX10_copy_116 hF
                  · replace hF := hF.2 hc_26
                    refine rn_iload dX10_copy_93 rfl ?_
                    refine rn_i2l dX10_copy_95 ?_
                    refine rn_iload dX10_copy_96 rfl ?_
                    refine rn_i2l dX10_copy_98 ?_
                    refine rn_ladd dX10_copy_99 ?_
                    refine rn_aload_n dX10_copy_100 rfl ?_
                    refine rm_getr (r := 128) flRX10_95 rfl (by decide) rfl dX10_copy_101 ?_
                    refine rn_iload_n dX10_copy_104 rfl ?_
                    obtain ⟨zj_29, hzj_29, hF⟩ := hF
                    refine rj_iald (j := zj_29) hzj_29 rfl (by decide) rfl (by decide) dX10_copy_105 ?_
                    refine rn_i2l dX10_copy_106 ?_
                    refine rn_lcmp dX10_copy_107 ?_
                    refine rn_if_le (tgt := 117) dX10_copy_108 (by decide) (fun hc_30 => ?_) (fun hc_30 => ?_)
                    · replace hF := hF.1 hc_30
                      refine rn_iconst (x := (0 : Int32)) dX10_copy_117 (by decide) ?_
                      refine ra_istore dX10_copy_118 rfl (Nat.le_of_ble_eq_true rfl) ?_
                      show Rn _ _ _ _ _ _ _ _ [some (rf E 99), some (.int zx1), some (.int zx2), some (.int zx3), some (.int zx4), some (.int zx5), some (.int (0 : Int32))] _ _ _
                      exact rn_wk (L' := [some (rf E 99), some (.int zx1), some (.int zx2), some (.int zx3), some (.int zx4), some (.int zx5), some (.int (0 : Int32))]) (⟨rfl, ⟨rfl, ⟨rfl, ⟨rfl, ⟨rfl, ⟨rfl, ⟨rfl, trivial⟩⟩⟩⟩⟩⟩⟩) hF
                    · replace hF := hF.2 hc_30
                      refine rn_aload_n dX10_copy_111 rfl ?_
                      refine rn_iconst (x := (2 : Int32)) dX10_copy_112 (by decide) ?_
                      refine rm_callV (c0 := 99) (As := [.int (2 : Int32)]) (st := []) mlRX10_172 mdX10_meets (Nat.le_of_ble_eq_true rfl) rfl (by decide) (by decide) rfl rfl rfl (Nat.le_of_ble_eq_true rfl) ⟨Nat.le_refl _, Nat.le_refl _⟩ dX10_copy_113 ?_
                      refine cm_mono hF (fun w zH_32 hF => ?_)
                      obtain ⟨zr_33, rfl, hF⟩ := hF
                      exact rm_iret rfl dX10_copy_116 hF
          · replace hF := hF.2 hc_15
            refine rn_aload_n dX10_copy_56 rfl ?_
            refine rn_iconst (x := (4 : Int32)) dX10_copy_57 (by decide) ?_
            refine rm_callV (c0 := 99) (As := [.int (4 : Int32)]) (st := []) mlRX10_172 mdX10_meets (Nat.le_of_ble_eq_true rfl) rfl (by decide) (by decide) rfl rfl rfl (Nat.le_of_ble_eq_true rfl) ⟨Nat.le_refl _, Nat.le_refl _⟩ dX10_copy_58 ?_
            refine cm_mono hF (fun w zH_34 hF => ?_)
            obtain ⟨zr_35, rfl, hF⟩ := hF
            exact rm_iret rfl dX10_copy_61 hF
        · replace hF := hF.2 hc_12
          refine rn_aload_n dX10_copy_35 rfl ?_
          refine rn_iconst (x := (1 : Int32)) dX10_copy_36 (by decide) ?_
          refine rm_callV (c0 := 99) (As := [.int (1 : Int32)]) (st := []) mlRX10_172 mdX10_meets (Nat.le_of_ble_eq_true rfl) rfl (by decide) (by decide) rfl rfl rfl (Nat.le_of_ble_eq_true rfl) ⟨Nat.le_refl _, Nat.le_refl _⟩ dX10_copy_37 ?_
          refine cm_mono hF (fun w zH_36 hF => ?_)
          obtain ⟨zr_37, rfl, hF⟩ := hF
          exact rm_iret rfl dX10_copy_40 hF
    · replace hF := hF.2 hc_6
      refine rn_bipush (x := (-2 : Int32)) dX10_copy_14 (by decide) ?_
      exact rm_iret rfl dX10_copy_16 hF
theorem cmX10_copy {E : En} {Q : Option Value → Hi → Prop} {H : Hi} {zx1 : Int32} {zx2 : Int32} {zx3 : Int32} {zx4 : Int32} {zx5 : Int32} 
    (hF : Cm E mX10_isSheet [.int zx1] H (fun w zH_1 => ∃ zr_2 : Int32, w = some (.int zr_2) ∧ ((zr_2 = 0 → (Q (some (.int (-2 : Int32))) zH_1)) ∧ (¬ zr_2 = 0 → (Cm E mX10_isSheet [.int zx3] zH_1 (fun w zH_4 => ∃ zr_5 : Int32, w = some (.int zr_5) ∧ ((¬ zr_5 = 0 → (∃ zj_7 : Nat, (zj_7 < 4 ∧ zx1 = nI zj_7) ∧ (((zH_4 126 zj_7) = 0 → (Cm E mX10_meets [rf E 99, .int (1 : Int32)] zH_4 (fun w zH_9 => ∃ zr_10 : Int32, w = some (.int zr_10) ∧ (Q (some (.int zr_10)) zH_9)))) ∧ (¬ (zH_4 126 zj_7) = 0 → (∃ zj_11 : Nat, (zj_11 < 4 ∧ zx3 = nI zj_11) ∧ ((¬ (zH_4 126 zj_11) = 0 → (∃ zj_13 : Nat, (zj_13 < 4 ∧ zx1 = nI zj_13) ∧ (∃ zj_14 : Nat, (zj_14 < 4 ∧ zx3 = nI zj_14) ∧ (((zH_4 127 zj_13) = (zH_4 127 zj_14) → ((zx2 < 0 → (Cm E mX10_meets [rf E 99, .int (2 : Int32)] zH_4 (fun w zH_17 => ∃ zr_18 : Int32, w = some (.int zr_18) ∧ (Q (some (.int zr_18)) zH_17)))) ∧ (¬ zx2 < 0 → ((zx4 < 0 → (Cm E mX10_meets [rf E 99, .int (2 : Int32)] zH_4 (fun w zH_20 => ∃ zr_21 : Int32, w = some (.int zr_21) ∧ (Q (some (.int zr_21)) zH_20)))) ∧ (¬ zx4 < 0 → ((zx5 < 0 → (Cm E mX10_meets [rf E 99, .int (2 : Int32)] zH_4 (fun w zH_23 => ∃ zr_24 : Int32, w = some (.int zr_24) ∧ (Q (some (.int zr_24)) zH_23)))) ∧ (¬ zx5 < 0 → (∃ zj_25 : Nat, (zj_25 < 4 ∧ zx1 = nI zj_25) ∧ ((0 < (lg_cmp ((zx2.toInt64) + (zx5.toInt64)) ((zH_4 128 zj_25).toInt64)) → (Cm E mX10_meets [rf E 99, .int (2 : Int32)] zH_4 (fun w zH_27 => ∃ zr_28 : Int32, w = some (.int zr_28) ∧ (Q (some (.int zr_28)) zH_27)))) ∧ (¬ 0 < (lg_cmp ((zx2.toInt64) + (zx5.toInt64)) ((zH_4 128 zj_25).toInt64)) → (∃ zj_29 : Nat, (zj_29 < 4 ∧ zx3 = nI zj_29) ∧ (((lg_cmp ((zx4.toInt64) + (zx5.toInt64)) ((zH_4 128 zj_29).toInt64)) ≤ 0 → (Rm E mX10_copy Q 120 [some (rf E 99), some (.int zx1), some (.int zx2), some (.int zx3), some (.int zx4), some (.int zx5), some (.int (0 : Int32))] [] zH_4)) ∧ (¬ (lg_cmp ((zx4.toInt64) + (zx5.toInt64)) ((zH_4 128 zj_29).toInt64)) ≤ 0 → (Cm E mX10_meets [rf E 99, .int (2 : Int32)] zH_4 (fun w zH_32 => ∃ zr_33 : Int32, w = some (.int zr_33) ∧ (Q (some (.int zr_33)) zH_32)))))))))))))))) ∧ (¬ (zH_4 127 zj_13) = (zH_4 127 zj_14) → (Cm E mX10_meets [rf E 99, .int (4 : Int32)] zH_4 (fun w zH_34 => ∃ zr_35 : Int32, w = some (.int zr_35) ∧ (Q (some (.int zr_35)) zH_34)))))))) ∧ ((zH_4 126 zj_11) = 0 → (Cm E mX10_meets [rf E 99, .int (1 : Int32)] zH_4 (fun w zH_36 => ∃ zr_37 : Int32, w = some (.int zr_37) ∧ (Q (some (.int zr_37)) zH_36)))))))))) ∧ (zr_5 = 0 → (Q (some (.int (-2 : Int32))) zH_4))))))))) :
    Cm E mX10_copy [rf E 99, .int zx1, .int zx2, .int zx3, .int zx4, .int zx5] H Q :=
  cm_of (by decide +kernel : plainName RX10 = true) (Nat.le_of_ble_eq_true rfl) rfl (sgX10_copy_0  hF)
theorem sgX10_copy_120 {E : En} {Q : Option Value → Hi → Prop} {H : Hi} {zx1 : Int32} {zx2 : Int32} {zx3 : Int32} {zx4 : Int32} {zx5 : Int32} {zx6 : Int32} 
    (hF : (zx5 ≤ zx6 → (Rm E mX10_copy Q 157 [some (rf E 99), none, none, some (.int zx3), some (.int zx4), some (.int zx5), some (.int (0 : Int32))] [] H)) ∧ (¬ zx5 ≤ zx6 → (∃ zj_3 : Nat, (zj_3 < 240 ∧ (((60 : Int32) * zx1) + zx2) + zx6 = nI zj_3) ∧ (∃ zj_4 : Nat, (zj_4 < 60 ∧ zx6 = nI zj_4) ∧ (∀ zH_5 : Hi, zH_5 = up H 130 zj_4 (H 129 zj_3) → (∀ zx6_6 : Int32, zx6_6 = zx6 + (1 : Int32) → (Rm E mX10_copy Q 120 [some (rf E 99), some (.int zx1), some (.int zx2), some (.int zx3), some (.int zx4), some (.int zx5), some (.int zx6_6)] [] zH_5))))))) :
    Rm E mX10_copy Q 120 [some (rf E 99), some (.int zx1), some (.int zx2), some (.int zx3), some (.int zx4), some (.int zx5), some (.int zx6)] [] H := by
  refine rn_iload dX10_copy_120 rfl ?_
  refine rn_iload dX10_copy_122 rfl ?_
  refine rn_icmp_ge (tgt := 154) dX10_copy_124 (by decide) (fun hc_1 => ?_) (fun hc_1 => ?_)
  · replace hF := hF.1 hc_1
    refine rn_iconst (x := (0 : Int32)) dX10_copy_154 (by decide) ?_
    refine ra_istore dX10_copy_155 rfl (Nat.le_of_ble_eq_true rfl) ?_
    show Rn _ _ _ _ _ _ _ _ [some (rf E 99), some (.int zx1), some (.int zx2), some (.int zx3), some (.int zx4), some (.int zx5), some (.int (0 : Int32))] _ _ _
    exact rn_wk (L' := [some (rf E 99), none, none, some (.int zx3), some (.int zx4), some (.int zx5), some (.int (0 : Int32))]) (⟨rfl, ⟨rfl, ⟨rfl, ⟨rfl, ⟨rfl, trivial⟩⟩⟩⟩⟩) hF
  · replace hF := hF.2 hc_1
    refine rn_aload_n dX10_copy_127 rfl ?_
    refine rm_getr (r := 130) flRX10_101 rfl (by decide) rfl dX10_copy_128 ?_
    refine rn_iload dX10_copy_131 rfl ?_
    refine rn_aload_n dX10_copy_133 rfl ?_
    refine rm_getr (r := 129) flRX10_98 rfl (by decide) rfl dX10_copy_134 ?_
    refine rn_bipush (x := (60 : Int32)) dX10_copy_137 (by decide) ?_
    refine rn_iload_n dX10_copy_139 rfl ?_
    refine rn_imul dX10_copy_140 ?_
    refine rn_iload_n dX10_copy_141 rfl ?_
    refine rn_iadd dX10_copy_142 ?_
    refine rn_iload dX10_copy_143 rfl ?_
    refine rn_iadd dX10_copy_145 ?_
    obtain ⟨zj_3, hzj_3, hF⟩ := hF
    refine rj_iald (j := zj_3) hzj_3 rfl (by decide) rfl (by decide) dX10_copy_146 ?_
    obtain ⟨zj_4, hzj_4, hF⟩ := hF
    refine rj_iast (j := zj_4) hzj_4 rfl (by decide) rfl (by decide) dX10_copy_147 (fun zH_5 ezH_5 => ?_)
    replace hF := hF zH_5 ezH_5
    refine rn_iinc (w := (1 : Int32)) dX10_copy_148 rfl (by decide) rfl (Nat.le_of_ble_eq_true rfl) (fun zx6_6 ezx6_6 => ?_)
    replace hF := hF zx6_6 ezx6_6
    show Rn _ _ _ _ _ _ _ _ [some (rf E 99), some (.int zx1), some (.int zx2), some (.int zx3), some (.int zx4), some (.int zx5), some (.int zx6_6)] _ _ _
    refine rn_goto (tgt := 120) dX10_copy_151 (by decide) ?_
    exact rn_wk (L' := [some (rf E 99), some (.int zx1), some (.int zx2), some (.int zx3), some (.int zx4), some (.int zx5), some (.int zx6_6)]) (⟨rfl, ⟨rfl, ⟨rfl, ⟨rfl, ⟨rfl, ⟨rfl, ⟨rfl, trivial⟩⟩⟩⟩⟩⟩⟩) hF
theorem sgX10_copy_157 {E : En} {Q : Option Value → Hi → Prop} {H : Hi} {zx3 : Int32} {zx4 : Int32} {zx5 : Int32} {zx6 : Int32} 
    (hF : (zx5 ≤ zx6 → (Q (some (.int (1 : Int32))) H)) ∧ (¬ zx5 ≤ zx6 → (∃ zj_2 : Nat, (zj_2 < 60 ∧ zx6 = nI zj_2) ∧ (∃ zj_3 : Nat, (zj_3 < 240 ∧ (((60 : Int32) * zx3) + zx4) + zx6 = nI zj_3) ∧ (∀ zH_4 : Hi, zH_4 = up H 129 zj_3 (H 130 zj_2) → (∀ zx6_5 : Int32, zx6_5 = zx6 + (1 : Int32) → (Rm E mX10_copy Q 157 [some (rf E 99), none, none, some (.int zx3), some (.int zx4), some (.int zx5), some (.int zx6_5)] [] zH_4))))))) :
    Rm E mX10_copy Q 157 [some (rf E 99), none, none, some (.int zx3), some (.int zx4), some (.int zx5), some (.int zx6)] [] H := by
  refine rn_iload dX10_copy_157 rfl ?_
  refine rn_iload dX10_copy_159 rfl ?_
  refine rn_icmp_ge (tgt := 192) dX10_copy_161 (by decide) (fun hc_1 => ?_) (fun hc_1 => ?_)
  · replace hF := hF.1 hc_1
    refine rn_iconst (x := (1 : Int32)) dX10_copy_192 (by decide) ?_
    exact rm_iret rfl dX10_copy_193 hF
  · replace hF := hF.2 hc_1
    refine rn_aload_n dX10_copy_164 rfl ?_
    refine rm_getr (r := 129) flRX10_98 rfl (by decide) rfl dX10_copy_165 ?_
    refine rn_bipush (x := (60 : Int32)) dX10_copy_168 (by decide) ?_
    refine rn_iload_n dX10_copy_170 rfl ?_
    refine rn_imul dX10_copy_171 ?_
    refine rn_iload dX10_copy_172 rfl ?_
    refine rn_iadd dX10_copy_174 ?_
    refine rn_iload dX10_copy_175 rfl ?_
    refine rn_iadd dX10_copy_177 ?_
    refine rn_aload_n dX10_copy_178 rfl ?_
    refine rm_getr (r := 130) flRX10_101 rfl (by decide) rfl dX10_copy_179 ?_
    refine rn_iload dX10_copy_182 rfl ?_
    obtain ⟨zj_2, hzj_2, hF⟩ := hF
    refine rj_iald (j := zj_2) hzj_2 rfl (by decide) rfl (by decide) dX10_copy_184 ?_
    obtain ⟨zj_3, hzj_3, hF⟩ := hF
    refine rj_iast (j := zj_3) hzj_3 rfl (by decide) rfl (by decide) dX10_copy_185 (fun zH_4 ezH_4 => ?_)
    replace hF := hF zH_4 ezH_4
    refine rn_iinc (w := (1 : Int32)) dX10_copy_186 rfl (by decide) rfl (Nat.le_of_ble_eq_true rfl) (fun zx6_5 ezx6_5 => ?_)
    replace hF := hF zx6_5 ezx6_5
    show Rn _ _ _ _ _ _ _ _ [some (rf E 99), none, none, some (.int zx3), some (.int zx4), some (.int zx5), some (.int zx6_5)] _ _ _
    refine rn_goto (tgt := 157) dX10_copy_189 (by decide) ?_
    exact rn_wk (L' := [some (rf E 99), none, none, some (.int zx3), some (.int zx4), some (.int zx5), some (.int zx6_5)]) (⟨rfl, ⟨rfl, ⟨rfl, ⟨rfl, ⟨rfl, trivial⟩⟩⟩⟩⟩) hF
theorem sgX10_write_0 {E : En} {Q : Option Value → Hi → Prop} {H : Hi} {zx1 : Int32} {zx2 : Int32} 
    (hF : Cm E mX10_in [.int zx1, .int (0 : Int32), .int (1 : Int32)] H (fun w zH_1 => ∃ zr_2 : Int32, w = some (.int zr_2) ∧ ((zr_2 = 0 → (Q (some (.int (-2 : Int32))) zH_1)) ∧ (¬ zr_2 = 0 → (Cm E mX10_isSheet [.int zx2] zH_1 (fun w zH_4 => ∃ zr_5 : Int32, w = some (.int zr_5) ∧ ((¬ zr_5 = 0 → (∃ zj_7 : Nat, (zj_7 < 4 ∧ zx2 = nI zj_7) ∧ ((¬ (zH_4 126 zj_7) = 0 → (Rm E mX10_write Q 36 [some (rf E 99), some (.int zx1), some (.int zx2), some (.int (0 : Int32))] [] zH_4)) ∧ ((zH_4 126 zj_7) = 0 → (Cm E mX10_meets [rf E 99, .int (1 : Int32)] zH_4 (fun w zH_10 => ∃ zr_11 : Int32, w = some (.int zr_11) ∧ (Q (some (.int zr_11)) zH_10))))))) ∧ (zr_5 = 0 → (Q (some (.int (-2 : Int32))) zH_4))))))))) :
    Rm E mX10_write Q 0 [some (rf E 99), some (.int zx1), some (.int zx2), none] [] H := by
  refine rn_iload_n dX10_write_0 rfl ?_
  refine rn_iconst (x := (0 : Int32)) dX10_write_1 (by decide) ?_
  refine rn_iconst (x := (1 : Int32)) dX10_write_2 (by decide) ?_
  refine rm_callS (As := [.int zx1, .int (0 : Int32), .int (1 : Int32)]) (st := []) mlRX10_110 mdX10_in (Nat.le_of_ble_eq_true rfl) rfl rfl (Nat.le_of_ble_eq_true rfl) ⟨Nat.le_refl _, Nat.le_refl _⟩ dX10_write_3 ?_
  refine cm_mono hF (fun w zH_1 hF => ?_)
  obtain ⟨zr_2, rfl, hF⟩ := hF
  refine rn_if_eq (tgt := 16) dX10_write_6 (by decide) (fun hc_3 => ?_) (fun hc_3 => ?_)
  · replace hF := hF.1 hc_3
    refine rn_bipush (x := (-2 : Int32)) dX10_write_16 (by decide) ?_
    exact rm_iret rfl dX10_write_18 hF
  · replace hF := hF.2 hc_3
    refine rn_iload_n dX10_write_9 rfl ?_
    refine rm_callS (As := [.int zx2]) (st := []) mlRX10_169 mdX10_isSheet (Nat.le_of_ble_eq_true rfl) rfl rfl (Nat.le_of_ble_eq_true rfl) ⟨Nat.le_refl _, Nat.le_refl _⟩ dX10_write_10 ?_
    refine cm_mono hF (fun w zH_4 hF => ?_)
    obtain ⟨zr_5, rfl, hF⟩ := hF
    refine rn_if_ne (tgt := 19) dX10_write_13 (by decide) (fun hc_6 => ?_) (fun hc_6 => ?_)
    · replace hF := hF.1 hc_6
      refine rn_aload_n dX10_write_19 rfl ?_
      refine rm_getr (r := 126) flRX10_89 rfl (by decide) rfl dX10_write_20 ?_
      refine rn_iload_n dX10_write_23 rfl ?_
      obtain ⟨zj_7, hzj_7, hF⟩ := hF
      refine rj_zald (j := zj_7) hzj_7 rfl (by decide) rfl (by decide) dX10_write_24 ?_
      refine rn_if_ne (tgt := 34) dX10_write_25 (by decide) (fun hc_8 => ?_) (fun hc_8 => ?_)
      · replace hF := hF.1 hc_8
        refine rn_iconst (x := (0 : Int32)) dX10_write_34 (by decide) ?_
        refine ra_istore_n dX10_write_35 rfl (Nat.le_of_ble_eq_true rfl) ?_
        show Rn _ _ _ _ _ _ _ _ [some (rf E 99), some (.int zx1), some (.int zx2), some (.int (0 : Int32))] _ _ _
        exact rn_wk (L' := [some (rf E 99), some (.int zx1), some (.int zx2), some (.int (0 : Int32))]) (⟨rfl, ⟨rfl, ⟨rfl, ⟨rfl, trivial⟩⟩⟩⟩) hF
      · replace hF := hF.2 hc_8
        refine rn_aload_n dX10_write_28 rfl ?_
        refine rn_iconst (x := (1 : Int32)) dX10_write_29 (by decide) ?_
        refine rm_callV (c0 := 99) (As := [.int (1 : Int32)]) (st := []) mlRX10_172 mdX10_meets (Nat.le_of_ble_eq_true rfl) rfl (by decide) (by decide) rfl rfl rfl (Nat.le_of_ble_eq_true rfl) ⟨Nat.le_refl _, Nat.le_refl _⟩ dX10_write_30 ?_
        refine cm_mono hF (fun w zH_10 hF => ?_)
        obtain ⟨zr_11, rfl, hF⟩ := hF
        exact rm_iret rfl dX10_write_33 hF
    · replace hF := hF.2 hc_6
      refine rn_bipush (x := (-2 : Int32)) dX10_write_16 (by decide) ?_
      exact rm_iret rfl dX10_write_18 hF
theorem cmX10_write {E : En} {Q : Option Value → Hi → Prop} {H : Hi} {zx1 : Int32} {zx2 : Int32} 
    (hF : Cm E mX10_in [.int zx1, .int (0 : Int32), .int (1 : Int32)] H (fun w zH_1 => ∃ zr_2 : Int32, w = some (.int zr_2) ∧ ((zr_2 = 0 → (Q (some (.int (-2 : Int32))) zH_1)) ∧ (¬ zr_2 = 0 → (Cm E mX10_isSheet [.int zx2] zH_1 (fun w zH_4 => ∃ zr_5 : Int32, w = some (.int zr_5) ∧ ((¬ zr_5 = 0 → (∃ zj_7 : Nat, (zj_7 < 4 ∧ zx2 = nI zj_7) ∧ ((¬ (zH_4 126 zj_7) = 0 → (Rm E mX10_write Q 36 [some (rf E 99), some (.int zx1), some (.int zx2), some (.int (0 : Int32))] [] zH_4)) ∧ ((zH_4 126 zj_7) = 0 → (Cm E mX10_meets [rf E 99, .int (1 : Int32)] zH_4 (fun w zH_10 => ∃ zr_11 : Int32, w = some (.int zr_11) ∧ (Q (some (.int zr_11)) zH_10))))))) ∧ (zr_5 = 0 → (Q (some (.int (-2 : Int32))) zH_4))))))))) :
    Cm E mX10_write [rf E 99, .int zx1, .int zx2] H Q :=
  cm_of (by decide +kernel : plainName RX10 = true) (Nat.le_of_ble_eq_true rfl) rfl (sgX10_write_0  hF)
theorem sgX10_write_36 {E : En} {Q : Option Value → Hi → Prop} {H : Hi} {zx1 : Int32} {zx2 : Int32} {zx3 : Int32} 
    (hF : ∃ zj_1 : Nat, (zj_1 < 4 ∧ zx2 = nI zj_1) ∧ (((H 128 zj_1) ≤ zx3 → (Q (some (.int zx3)) H)) ∧ (¬ (H 128 zj_1) ≤ zx3 → (((24 : Int32) ≤ zx3 → (Q (some (.int zx3)) H)) ∧ (¬ (24 : Int32) ≤ zx3 → ((¬ zx1 = 0 → (Cm E mX10_happyOf [rf E 99, .int zx3] H (fun w zH_5 => ∃ zr_6 : Int32, w = some (.int zr_6) ∧ (Cm E mX10_keep [rf E 99, .int zx2, .int zx3, .int zr_6] zH_5 (fun w zH_7 => w = none ∧ (∀ zx3_8 : Int32, zx3_8 = zx3 + (1 : Int32) → (Rm E mX10_write Q 36 [some (rf E 99), some (.int zx1), some (.int zx2), some (.int zx3_8)] [] zH_7))))))) ∧ (zx1 = 0 → (Cm E mX10_loadOf [rf E 99, .int zx3] H (fun w zH_9 => ∃ zr_10 : Int32, w = some (.int zr_10) ∧ (Cm E mX10_keep [rf E 99, .int zx2, .int zx3, .int zr_10] zH_9 (fun w zH_11 => w = none ∧ (∀ zx3_12 : Int32, zx3_12 = zx3 + (1 : Int32) → (Rm E mX10_write Q 36 [some (rf E 99), some (.int zx1), some (.int zx2), some (.int zx3_12)] [] zH_11))))))))))))) :
    Rm E mX10_write Q 36 [some (rf E 99), some (.int zx1), some (.int zx2), some (.int zx3)] [] H := by
  refine rn_iload_n dX10_write_36 rfl ?_
  refine rn_aload_n dX10_write_37 rfl ?_
  refine rm_getr (r := 128) flRX10_95 rfl (by decide) rfl dX10_write_38 ?_
  refine rn_iload_n dX10_write_41 rfl ?_
  obtain ⟨zj_1, hzj_1, hF⟩ := hF
  refine rj_iald (j := zj_1) hzj_1 rfl (by decide) rfl (by decide) dX10_write_42 ?_
  refine rn_icmp_ge (tgt := 81) dX10_write_43 (by decide) (fun hc_2 => ?_) (fun hc_2 => ?_)
  · replace hF := hF.1 hc_2
    refine rn_iload_n dX10_write_81 rfl ?_
    exact rm_iret rfl dX10_write_82 hF
  · replace hF := hF.2 hc_2
    refine rn_iload_n dX10_write_46 rfl ?_
    refine rn_bipush (x := (24 : Int32)) dX10_write_47 (by decide) ?_
    refine rn_icmp_ge (tgt := 81) dX10_write_49 (by decide) (fun hc_3 => ?_) (fun hc_3 => ?_)
    · replace hF := hF.1 hc_3
      refine rn_iload_n dX10_write_81 rfl ?_
      exact rm_iret rfl dX10_write_82 hF
    · replace hF := hF.2 hc_3
      refine rn_aload_n dX10_write_52 rfl ?_
      refine rn_iload_n dX10_write_53 rfl ?_
      refine rn_iload_n dX10_write_54 rfl ?_
      refine rn_iload_n dX10_write_55 rfl ?_
      refine rn_if_ne (tgt := 67) dX10_write_56 (by decide) (fun hc_4 => ?_) (fun hc_4 => ?_)
      · replace hF := hF.1 hc_4
        refine rn_aload_n dX10_write_67 rfl ?_
        refine rn_iload_n dX10_write_68 rfl ?_
        refine rm_callV (c0 := 99) (As := [.int zx3]) (st := [.int zx3, .int zx2, rf E 99]) mlRX10_233 mdX10_happyOf (Nat.le_of_ble_eq_true rfl) rfl (by decide) (by decide) rfl rfl rfl (Nat.le_of_ble_eq_true rfl) ⟨Nat.le_refl _, Nat.le_refl _⟩ dX10_write_69 ?_
        refine cm_mono hF (fun w zH_5 hF => ?_)
        obtain ⟨zr_6, rfl, hF⟩ := hF
        refine rm_callV (c0 := 99) (As := [.int zx2, .int zx3, .int zr_6]) (st := []) mlRX10_320 mdX10_keep (Nat.le_of_ble_eq_true rfl) rfl (by decide) (by decide) rfl rfl rfl (Nat.le_of_ble_eq_true rfl) ⟨Nat.le_refl _, Nat.le_refl _⟩ dX10_write_72 ?_
        refine cm_mono hF (fun w zH_7 hF => ?_)
        obtain ⟨rfl, hF⟩ := hF
        refine rn_iinc (w := (1 : Int32)) dX10_write_75 rfl (by decide) rfl (Nat.le_of_ble_eq_true rfl) (fun zx3_8 ezx3_8 => ?_)
        replace hF := hF zx3_8 ezx3_8
        show Rn _ _ _ _ _ _ _ _ [some (rf E 99), some (.int zx1), some (.int zx2), some (.int zx3_8)] _ _ _
        refine rn_goto (tgt := 36) dX10_write_78 (by decide) ?_
        exact rn_wk (L' := [some (rf E 99), some (.int zx1), some (.int zx2), some (.int zx3_8)]) (⟨rfl, ⟨rfl, ⟨rfl, ⟨rfl, trivial⟩⟩⟩⟩) hF
      · replace hF := hF.2 hc_4
        refine rn_aload_n dX10_write_59 rfl ?_
        refine rn_iload_n dX10_write_60 rfl ?_
        refine rm_callV (c0 := 99) (As := [.int zx3]) (st := [.int zx3, .int zx2, rf E 99]) mlRX10_230 mdX10_loadOf (Nat.le_of_ble_eq_true rfl) rfl (by decide) (by decide) rfl rfl rfl (Nat.le_of_ble_eq_true rfl) ⟨Nat.le_refl _, Nat.le_refl _⟩ dX10_write_61 ?_
        refine cm_mono hF (fun w zH_9 hF => ?_)
        obtain ⟨zr_10, rfl, hF⟩ := hF
        refine rn_goto (tgt := 72) dX10_write_64 (by decide) ?_
        refine rm_callV (c0 := 99) (As := [.int zx2, .int zx3, .int zr_10]) (st := []) mlRX10_320 mdX10_keep (Nat.le_of_ble_eq_true rfl) rfl (by decide) (by decide) rfl rfl rfl (Nat.le_of_ble_eq_true rfl) ⟨Nat.le_refl _, Nat.le_refl _⟩ dX10_write_72 ?_
        refine cm_mono hF (fun w zH_11 hF => ?_)
        obtain ⟨rfl, hF⟩ := hF
        refine rn_iinc (w := (1 : Int32)) dX10_write_75 rfl (by decide) rfl (Nat.le_of_ble_eq_true rfl) (fun zx3_12 ezx3_12 => ?_)
        replace hF := hF zx3_12 ezx3_12
        show Rn _ _ _ _ _ _ _ _ [some (rf E 99), some (.int zx1), some (.int zx2), some (.int zx3_12)] _ _ _
        refine rn_goto (tgt := 36) dX10_write_78 (by decide) ?_
        exact rn_wk (L' := [some (rf E 99), some (.int zx1), some (.int zx2), some (.int zx3_12)]) (⟨rfl, ⟨rfl, ⟨rfl, ⟨rfl, trivial⟩⟩⟩⟩) hF
theorem sgX10_sumOf_0 {E : En} {Q : Option Value → Hi → Prop} {H : Hi} {zx1 : Int32} 
    (hF : Cm E mX10_runsTold [rf E 99, .int (23 : Int32)] H (fun w zH_1 => w = none ∧ (Rm E mX10_sumOf Q 10 [some (rf E 99), some (.int zx1), some (.int (0 : Int32)), some (.int (0 : Int32))] [] zH_1))) :
    Rm E mX10_sumOf Q 0 [some (rf E 99), some (.int zx1), none, none] [] H := by
  refine rn_aload_n dX10_sumOf_0 rfl ?_
  refine rn_bipush (x := (23 : Int32)) dX10_sumOf_1 (by decide) ?_
  refine rm_callV (c0 := 99) (As := [.int (23 : Int32)]) (st := []) mlRX10_221 mdX10_runsTold (Nat.le_of_ble_eq_true rfl) rfl (by decide) (by decide) rfl rfl rfl (Nat.le_of_ble_eq_true rfl) ⟨Nat.le_refl _, Nat.le_refl _⟩ dX10_sumOf_3 ?_
  refine cm_mono hF (fun w zH_1 hF => ?_)
  obtain ⟨rfl, hF⟩ := hF
  refine rn_iconst (x := (0 : Int32)) dX10_sumOf_6 (by decide) ?_
  refine ra_istore_n dX10_sumOf_7 rfl (Nat.le_of_ble_eq_true rfl) ?_
  show Rn _ _ _ _ _ _ _ _ [some (rf E 99), some (.int zx1), some (.int (0 : Int32)), none] _ _ _
  refine rn_iconst (x := (0 : Int32)) dX10_sumOf_8 (by decide) ?_
  refine ra_istore_n dX10_sumOf_9 rfl (Nat.le_of_ble_eq_true rfl) ?_
  show Rn _ _ _ _ _ _ _ _ [some (rf E 99), some (.int zx1), some (.int (0 : Int32)), some (.int (0 : Int32))] _ _ _
  exact rn_wk (L' := [some (rf E 99), some (.int zx1), some (.int (0 : Int32)), some (.int (0 : Int32))]) (⟨rfl, ⟨rfl, ⟨rfl, ⟨rfl, trivial⟩⟩⟩⟩) hF
theorem cmX10_sumOf {E : En} {Q : Option Value → Hi → Prop} {H : Hi} {zx1 : Int32} 
    (hF : Cm E mX10_runsTold [rf E 99, .int (23 : Int32)] H (fun w zH_1 => w = none ∧ (Rm E mX10_sumOf Q 10 [some (rf E 99), some (.int zx1), some (.int (0 : Int32)), some (.int (0 : Int32))] [] zH_1))) :
    Cm E mX10_sumOf [rf E 99, .int zx1] H Q :=
  cm_of (by decide +kernel : plainName RX10 = true) (Nat.le_of_ble_eq_true rfl) rfl (sgX10_sumOf_0  hF)
theorem sgX10_sumOf_10 {E : En} {Q : Option Value → Hi → Prop} {H : Hi} {zx1 : Int32} {zx2 : Int32} {zx3 : Int32} 
    (hF : ((H 99 11) ≤ zx3 → ((¬ zx1 = 0 → ((¬ zx1 = (1 : Int32) → (Q (some (.int zx2)) H)) ∧ (zx1 = (1 : Int32) → (Q (some (.int (H 99 6))) H)))) ∧ (zx1 = 0 → (Q (some (.int (H 99 2))) H)))) ∧ (¬ (H 99 11) ≤ zx3 → (∃ zj_4 : Nat, (zj_4 < 44 ∧ zx3 = nI zj_4) ∧ (((H 115 zj_4) = 0 → (∀ zx2_6 : Int32, zx2_6 = zx2 + (0 : Int32) → (∀ zx3_7 : Int32, zx3_7 = zx3 + (1 : Int32) → (Rm E mX10_sumOf Q 10 [some (rf E 99), some (.int zx1), some (.int zx2_6), some (.int zx3_7)] [] H)))) ∧ (¬ (H 115 zj_4) = 0 → (∀ zx2_8 : Int32, zx2_8 = zx2 + (1 : Int32) → (∀ zx3_9 : Int32, zx3_9 = zx3 + (1 : Int32) → (Rm E mX10_sumOf Q 10 [some (rf E 99), some (.int zx1), some (.int zx2_8), some (.int zx3_9)] [] H)))))))) :
    Rm E mX10_sumOf Q 10 [some (rf E 99), some (.int zx1), some (.int zx2), some (.int zx3)] [] H := by
  refine rn_iload_n dX10_sumOf_10 rfl ?_
  refine rn_aload_n dX10_sumOf_11 rfl ?_
  refine rm_geti flRX10_163 rfl (by decide) rfl dX10_sumOf_12 ?_
  refine rn_icmp_ge (tgt := 41) dX10_sumOf_15 (by decide) (fun hc_1 => ?_) (fun hc_1 => ?_)
  · replace hF := hF.1 hc_1
    refine rn_iload_n dX10_sumOf_41 rfl ?_
    refine rn_if_ne (tgt := 52) dX10_sumOf_42 (by decide) (fun hc_2 => ?_) (fun hc_2 => ?_)
    · replace hF := hF.1 hc_2
      refine rn_iload_n dX10_sumOf_52 rfl ?_
      refine rn_iconst (x := (1 : Int32)) dX10_sumOf_53 (by decide) ?_
      refine rn_icmp_ne (tgt := 64) dX10_sumOf_54 (by decide) (fun hc_3 => ?_) (fun hc_3 => ?_)
      · replace hF := hF.1 hc_3
        refine rn_iload_n dX10_sumOf_64 rfl ?_
        exact rm_iret rfl dX10_sumOf_65 hF
      · replace hF := hF.2 hc_3
        refine rn_aload_n dX10_sumOf_57 rfl ?_
        refine rm_geti flRX10_128 rfl (by decide) rfl dX10_sumOf_58 ?_
        refine rn_goto (tgt := 65) dX10_sumOf_61 (by decide) ?_
        exact rm_iret rfl dX10_sumOf_65 hF
    · replace hF := hF.2 hc_2
      refine rn_aload_n dX10_sumOf_45 rfl ?_
      refine rm_geti flRX10_125 rfl (by decide) rfl dX10_sumOf_46 ?_
      refine rn_goto (tgt := 65) dX10_sumOf_49 (by decide) ?_
      exact rm_iret rfl dX10_sumOf_65 hF
  · replace hF := hF.2 hc_1
    refine rn_iload_n dX10_sumOf_18 rfl ?_
    refine rn_aload_n dX10_sumOf_19 rfl ?_
    refine rm_getr (r := 115) flRX10_55 rfl (by decide) rfl dX10_sumOf_20 ?_
    refine rn_iload_n dX10_sumOf_23 rfl ?_
    obtain ⟨zj_4, hzj_4, hF⟩ := hF
    refine rj_zald (j := zj_4) hzj_4 rfl (by decide) rfl (by decide) dX10_sumOf_24 ?_
    refine rn_if_eq (tgt := 32) dX10_sumOf_25 (by decide) (fun hc_5 => ?_) (fun hc_5 => ?_)
    · replace hF := hF.1 hc_5
      refine rn_iconst (x := (0 : Int32)) dX10_sumOf_32 (by decide) ?_
      refine rn_iadd dX10_sumOf_33 ?_
      refine rn_istore_n dX10_sumOf_34 rfl (Nat.le_of_ble_eq_true rfl) (fun zx2_6 ezx2_6 => ?_)
      replace hF := hF zx2_6 ezx2_6
      show Rn _ _ _ _ _ _ _ _ [some (rf E 99), some (.int zx1), some (.int zx2_6), some (.int zx3)] _ _ _
      refine rn_iinc (w := (1 : Int32)) dX10_sumOf_35 rfl (by decide) rfl (Nat.le_of_ble_eq_true rfl) (fun zx3_7 ezx3_7 => ?_)
      replace hF := hF zx3_7 ezx3_7
      show Rn _ _ _ _ _ _ _ _ [some (rf E 99), some (.int zx1), some (.int zx2_6), some (.int zx3_7)] _ _ _
      refine rn_goto (tgt := 10) dX10_sumOf_38 (by decide) ?_
      exact rn_wk (L' := [some (rf E 99), some (.int zx1), some (.int zx2_6), some (.int zx3_7)]) (⟨rfl, ⟨rfl, ⟨rfl, ⟨rfl, trivial⟩⟩⟩⟩) hF
    · replace hF := hF.2 hc_5
      refine rn_iconst (x := (1 : Int32)) dX10_sumOf_28 (by decide) ?_
      refine rn_goto (tgt := 33) dX10_sumOf_29 (by decide) ?_
      refine rn_iadd dX10_sumOf_33 ?_
      refine rn_istore_n dX10_sumOf_34 rfl (Nat.le_of_ble_eq_true rfl) (fun zx2_8 ezx2_8 => ?_)
      replace hF := hF zx2_8 ezx2_8
      show Rn _ _ _ _ _ _ _ _ [some (rf E 99), some (.int zx1), some (.int zx2_8), some (.int zx3)] _ _ _
      refine rn_iinc (w := (1 : Int32)) dX10_sumOf_35 rfl (by decide) rfl (Nat.le_of_ble_eq_true rfl) (fun zx3_9 ezx3_9 => ?_)
      replace hF := hF zx3_9 ezx3_9
      show Rn _ _ _ _ _ _ _ _ [some (rf E 99), some (.int zx1), some (.int zx2_8), some (.int zx3_9)] _ _ _
      refine rn_goto (tgt := 10) dX10_sumOf_38 (by decide) ?_
      exact rn_wk (L' := [some (rf E 99), some (.int zx1), some (.int zx2_8), some (.int zx3_9)]) (⟨rfl, ⟨rfl, ⟨rfl, ⟨rfl, trivial⟩⟩⟩⟩) hF
theorem sgX10_count_0 {E : En} {Q : Option Value → Hi → Prop} {H : Hi} {zx1 : Int32} 
    (hF : ((zx1.toInt < 0 ∨ 8 < zx1.toInt) → (Q (some (.int (-2 : Int32))) H)) ∧ (zx1.toInt = 0 → (Cm E mX10_sumOf [rf E 99, .int zx1] H (fun w zH_3 => ∃ zr_4 : Int32, w = some (.int zr_4) ∧ (Q (some (.int zr_4)) zH_3)))) ∧ (zx1.toInt = 1 → (Cm E mX10_sumOf [rf E 99, .int zx1] H (fun w zH_6 => ∃ zr_7 : Int32, w = some (.int zr_7) ∧ (Q (some (.int zr_7)) zH_6)))) ∧ (zx1.toInt = 2 → (∃ zj_9 : Nat, (zj_9 < 2 ∧ zx1 - (2 : Int32) = nI zj_9) ∧ (Q (some (.int (H 100 zj_9))) H))) ∧ (zx1.toInt = 3 → (∃ zj_11 : Nat, (zj_11 < 2 ∧ zx1 - (2 : Int32) = nI zj_11) ∧ (Q (some (.int (H 100 zj_11))) H))) ∧ (zx1.toInt = 4 → (Q (some (.int (H 99 11))) H)) ∧ (zx1.toInt = 5 → (Cm E mX10_sumOf [rf E 99, .int zx1] H (fun w zH_14 => ∃ zr_15 : Int32, w = some (.int zr_15) ∧ (Q (some (.int zr_15)) zH_14)))) ∧ (zx1.toInt = 6 → (Q (some (.int (H 99 14))) H)) ∧ (zx1.toInt = 7 → (Q (some (.int (H 99 30))) H)) ∧ (zx1.toInt = 8 → (Q (some (.int (H 99 41))) H)) ∧ True) :
    Rm E mX10_count Q 0 [some (rf E 99), some (.int zx1)] [] H := by
  refine rn_iload_n dX10_count_0 rfl ?_
  by_cases hc_1 : zx1.toInt < 0 ∨ 8 < zx1.toInt
  · refine rn_tabOut (tgt := 87) dX10_count_1 hc_1 (by decide) ?_
    replace hF := hF.1 hc_1
    refine rn_bipush (x := (-2 : Int32)) dX10_count_87 (by decide) ?_
    exact rm_iret rfl dX10_count_89 hF
  · replace hF := hF.2
    obtain ⟨hk_2, hk_2r⟩ : (0 : Int) ≤ zx1.toInt ∧ zx1.toInt ≤ 8 := by omega
    by_cases hq_5 : zx1.toInt = 0
    · replace hF := hF.1 hq_5
      refine rn_tabIn (tgt := 52) dX10_count_1 (by omega) (by omega) (by rw [hq_5]; rfl) (by decide) ?_
      refine rn_aload_n dX10_count_52 rfl ?_
      refine rn_iload_n dX10_count_53 rfl ?_
      refine rm_callV (c0 := 99) (As := [.int zx1]) (st := []) mlRX10_325 mdX10_sumOf (Nat.le_of_ble_eq_true rfl) rfl (by decide) (by decide) rfl rfl rfl (Nat.le_of_ble_eq_true rfl) ⟨Nat.le_refl _, Nat.le_refl _⟩ dX10_count_54 ?_
      refine cm_mono hF (fun w zH_3 hF => ?_)
      obtain ⟨zr_4, rfl, hF⟩ := hF
      exact rm_iret rfl dX10_count_57 hF
    by_cases hq_8 : zx1.toInt = 1
    · replace hF := hF.2.1 hq_8
      refine rn_tabIn (tgt := 52) dX10_count_1 (by omega) (by omega) (by rw [hq_8]; rfl) (by decide) ?_
      refine rn_aload_n dX10_count_52 rfl ?_
      refine rn_iload_n dX10_count_53 rfl ?_
      refine rm_callV (c0 := 99) (As := [.int zx1]) (st := []) mlRX10_325 mdX10_sumOf (Nat.le_of_ble_eq_true rfl) rfl (by decide) (by decide) rfl rfl rfl (Nat.le_of_ble_eq_true rfl) ⟨Nat.le_refl _, Nat.le_refl _⟩ dX10_count_54 ?_
      refine cm_mono hF (fun w zH_6 hF => ?_)
      obtain ⟨zr_7, rfl, hF⟩ := hF
      exact rm_iret rfl dX10_count_57 hF
    by_cases hq_10 : zx1.toInt = 2
    · replace hF := hF.2.2.1 hq_10
      refine rn_tabIn (tgt := 58) dX10_count_1 (by omega) (by omega) (by rw [hq_10]; rfl) (by decide) ?_
      refine rn_aload_n dX10_count_58 rfl ?_
      refine rm_getr (r := 100) flRX10_7 rfl (by decide) rfl dX10_count_59 ?_
      refine rn_iload_n dX10_count_62 rfl ?_
      refine rn_iconst (x := (2 : Int32)) dX10_count_63 (by decide) ?_
      refine rn_isub dX10_count_64 ?_
      obtain ⟨zj_9, hzj_9, hF⟩ := hF
      refine rj_iald (j := zj_9) hzj_9 rfl (by decide) rfl (by decide) dX10_count_65 ?_
      exact rm_iret rfl dX10_count_66 hF
    by_cases hq_12 : zx1.toInt = 3
    · replace hF := hF.2.2.2.1 hq_12
      refine rn_tabIn (tgt := 58) dX10_count_1 (by omega) (by omega) (by rw [hq_12]; rfl) (by decide) ?_
      refine rn_aload_n dX10_count_58 rfl ?_
      refine rm_getr (r := 100) flRX10_7 rfl (by decide) rfl dX10_count_59 ?_
      refine rn_iload_n dX10_count_62 rfl ?_
      refine rn_iconst (x := (2 : Int32)) dX10_count_63 (by decide) ?_
      refine rn_isub dX10_count_64 ?_
      obtain ⟨zj_11, hzj_11, hF⟩ := hF
      refine rj_iald (j := zj_11) hzj_11 rfl (by decide) rfl (by decide) dX10_count_65 ?_
      exact rm_iret rfl dX10_count_66 hF
    by_cases hq_13 : zx1.toInt = 4
    · replace hF := hF.2.2.2.2.1 hq_13
      refine rn_tabIn (tgt := 67) dX10_count_1 (by omega) (by omega) (by rw [hq_13]; rfl) (by decide) ?_
      refine rn_aload_n dX10_count_67 rfl ?_
      refine rm_geti flRX10_163 rfl (by decide) rfl dX10_count_68 ?_
      exact rm_iret rfl dX10_count_71 hF
    by_cases hq_16 : zx1.toInt = 5
    · replace hF := hF.2.2.2.2.2.1 hq_16
      refine rn_tabIn (tgt := 52) dX10_count_1 (by omega) (by omega) (by rw [hq_16]; rfl) (by decide) ?_
      refine rn_aload_n dX10_count_52 rfl ?_
      refine rn_iload_n dX10_count_53 rfl ?_
      refine rm_callV (c0 := 99) (As := [.int zx1]) (st := []) mlRX10_325 mdX10_sumOf (Nat.le_of_ble_eq_true rfl) rfl (by decide) (by decide) rfl rfl rfl (Nat.le_of_ble_eq_true rfl) ⟨Nat.le_refl _, Nat.le_refl _⟩ dX10_count_54 ?_
      refine cm_mono hF (fun w zH_14 hF => ?_)
      obtain ⟨zr_15, rfl, hF⟩ := hF
      exact rm_iret rfl dX10_count_57 hF
    by_cases hq_17 : zx1.toInt = 6
    · replace hF := hF.2.2.2.2.2.2.1 hq_17
      refine rn_tabIn (tgt := 72) dX10_count_1 (by omega) (by omega) (by rw [hq_17]; rfl) (by decide) ?_
      refine rn_aload_n dX10_count_72 rfl ?_
      refine rm_geti flRX10_166 rfl (by decide) rfl dX10_count_73 ?_
      exact rm_iret rfl dX10_count_76 hF
    by_cases hq_18 : zx1.toInt = 7
    · replace hF := hF.2.2.2.2.2.2.2.1 hq_18
      refine rn_tabIn (tgt := 77) dX10_count_1 (by omega) (by omega) (by rw [hq_18]; rfl) (by decide) ?_
      refine rn_aload_n dX10_count_77 rfl ?_
      refine rm_geti flRX10_277 rfl (by decide) rfl dX10_count_78 ?_
      exact rm_iret rfl dX10_count_81 hF
    by_cases hq_19 : zx1.toInt = 8
    · replace hF := hF.2.2.2.2.2.2.2.2.1 hq_19
      refine rn_tabIn (tgt := 82) dX10_count_1 (by omega) (by omega) (by rw [hq_19]; rfl) (by decide) ?_
      refine rn_aload_n dX10_count_82 rfl ?_
      refine rm_geti flRX10_314 rfl (by decide) rfl dX10_count_83 ?_
      exact rm_iret rfl dX10_count_86 hF
    exfalso; omega
theorem cmX10_count {E : En} {Q : Option Value → Hi → Prop} {H : Hi} {zx1 : Int32} 
    (hF : ((zx1.toInt < 0 ∨ 8 < zx1.toInt) → (Q (some (.int (-2 : Int32))) H)) ∧ (zx1.toInt = 0 → (Cm E mX10_sumOf [rf E 99, .int zx1] H (fun w zH_3 => ∃ zr_4 : Int32, w = some (.int zr_4) ∧ (Q (some (.int zr_4)) zH_3)))) ∧ (zx1.toInt = 1 → (Cm E mX10_sumOf [rf E 99, .int zx1] H (fun w zH_6 => ∃ zr_7 : Int32, w = some (.int zr_7) ∧ (Q (some (.int zr_7)) zH_6)))) ∧ (zx1.toInt = 2 → (∃ zj_9 : Nat, (zj_9 < 2 ∧ zx1 - (2 : Int32) = nI zj_9) ∧ (Q (some (.int (H 100 zj_9))) H))) ∧ (zx1.toInt = 3 → (∃ zj_11 : Nat, (zj_11 < 2 ∧ zx1 - (2 : Int32) = nI zj_11) ∧ (Q (some (.int (H 100 zj_11))) H))) ∧ (zx1.toInt = 4 → (Q (some (.int (H 99 11))) H)) ∧ (zx1.toInt = 5 → (Cm E mX10_sumOf [rf E 99, .int zx1] H (fun w zH_14 => ∃ zr_15 : Int32, w = some (.int zr_15) ∧ (Q (some (.int zr_15)) zH_14)))) ∧ (zx1.toInt = 6 → (Q (some (.int (H 99 14))) H)) ∧ (zx1.toInt = 7 → (Q (some (.int (H 99 30))) H)) ∧ (zx1.toInt = 8 → (Q (some (.int (H 99 41))) H)) ∧ True) :
    Cm E mX10_count [rf E 99, .int zx1] H Q :=
  cm_of (by decide +kernel : plainName RX10 = true) (Nat.le_of_ble_eq_true rfl) rfl (sgX10_count_0  hF)
