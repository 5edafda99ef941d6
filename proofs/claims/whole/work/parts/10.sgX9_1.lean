theorem sgX9_digest_0 {E : En} {Q : Option Value → Hi → Prop} {H : Hi}  
    (hF : Cm E mX9_refresh [rf E 0] H (fun w zH_1 => w = none ∧ (Rm E mX9_digest Q 10 [some (rf E 0), some (.long (17 : Int64)), none, some (.int (0 : Int32))] [] zH_1))) :
    Rm E mX9_digest Q 0 [some (rf E 0), none, none, none] [] H := by
  refine rn_aload_n dX9_digest_0 rfl ?_
  refine rm_callV (c0 := 0) (As := []) (st := []) mlRX9_103 mdX9_refresh (Nat.le_of_ble_eq_true rfl) rfl (by decide) (by decide) rfl rfl rfl (Nat.le_of_ble_eq_true rfl) ⟨Nat.le_refl _, Nat.le_refl _⟩ dX9_digest_1 ?_
  refine cm_mono hF (fun w zH_1 hF => ?_)
  obtain ⟨rfl, hF⟩ := hF
  refine rn_ldc2 coRX9_274 dX9_digest_4 ?_
  refine ra_lstore_n dX9_digest_7 rfl (Nat.le_of_ble_eq_true rfl) ?_
  show Rn _ _ _ _ _ _ _ _ [some (rf E 0), some (.long (17 : Int64)), none, none] _ _ _
  refine rn_iconst (x := (0 : Int32)) dX9_digest_8 (by decide) ?_
  refine ra_istore_n dX9_digest_9 rfl (Nat.le_of_ble_eq_true rfl) ?_
  show Rn _ _ _ _ _ _ _ _ [some (rf E 0), some (.long (17 : Int64)), none, some (.int (0 : Int32))] _ _ _
  exact rn_wk (L' := [some (rf E 0), some (.long (17 : Int64)), none, some (.int (0 : Int32))]) (⟨rfl, ⟨rfl, ⟨rfl, trivial⟩⟩⟩) hF
theorem cmX9_digest {E : En} {Q : Option Value → Hi → Prop} {H : Hi}  
    (hF : Cm E mX9_refresh [rf E 0] H (fun w zH_1 => w = none ∧ (Rm E mX9_digest Q 10 [some (rf E 0), some (.long (17 : Int64)), none, some (.int (0 : Int32))] [] zH_1))) :
    Cm E mX9_digest [rf E 0] H Q :=
  cm_of (by decide +kernel : plainName RX9 = true) (Nat.le_of_ble_eq_true rfl) rfl (sgX9_digest_0  hF)
theorem sgX9_digest_10 {E : En} {Q : Option Value → Hi → Prop} {H : Hi} {zy1 : Int64} {zx3 : Int32} 
    (hF : ((8 : Int32) ≤ zx3 → (Cm E mX7_firstWrong [rf E 1] H (fun w zH_2 => ∃ zr_3 : Int32, w = some (.int zr_3) ∧ (∀ zx1_4 : Int64, zx1_4 = ((31 : Int64) * zy1) + (zr_3.toInt64) → (Cm E mX7_firstWrong [rf E 3] zH_2 (fun w zH_5 => ∃ zr_6 : Int32, w = some (.int zr_6) ∧ (∀ zx1_7 : Int64, zx1_7 = ((31 : Int64) * zx1_4) + (zr_6.toInt64) → (Rm E mX9_digest Q 67 [some (rf E 0), some (.long zx1_7), none, some (.int (0 : Int32))] [] zH_5)))))))) ∧ (¬ (8 : Int32) ≤ zx3 → (Cm E mX9_tally [rf E 0, .int zx3] H (fun w zH_9 => ∃ zr_10 : Int32, w = some (.int zr_10) ∧ (∀ zx1_11 : Int64, zx1_11 = ((31 : Int64) * zy1) + (zr_10.toInt64) → (∀ zx3_12 : Int32, zx3_12 = zx3 + (1 : Int32) → (Rm E mX9_digest Q 10 [some (rf E 0), some (.long zx1_11), none, some (.int zx3_12)] [] zH_9))))))) :
    Rm E mX9_digest Q 10 [some (rf E 0), some (.long zy1), none, some (.int zx3)] [] H := by
  refine rn_iload_n dX9_digest_10 rfl ?_
  refine rn_bipush (x := (8 : Int32)) dX9_digest_11 (by decide) ?_
  refine rn_icmp_ge (tgt := 35) dX9_digest_13 (by decide) (fun hc_1 => ?_) (fun hc_1 => ?_)
  · replace hF := hF.1 hc_1
    refine rn_ldc2 coRX9_276 dX9_digest_35 ?_
    refine rn_lload_n dX9_digest_38 rfl ?_
    refine rn_lmul dX9_digest_39 ?_
    refine rn_aload_n dX9_digest_40 rfl ?_
    refine rm_getr (r := 1) flRX9_18 rfl (by decide) rfl dX9_digest_41 ?_
    refine rm_callV (c0 := 1) (As := []) (st := [.long ((31 : Int64) * zy1)]) mlRX9_99 mdX7_firstWrong (Nat.le_of_ble_eq_true rfl) rfl (by decide) (by decide) rfl rfl rfl (Nat.le_of_ble_eq_true rfl) ⟨Nat.le_refl _, Nat.le_refl _⟩ dX9_digest_44 ?_
    refine cm_mono hF (fun w zH_2 hF => ?_)
    obtain ⟨zr_3, rfl, hF⟩ := hF
    refine rn_i2l dX9_digest_47 ?_
    refine rn_ladd dX9_digest_48 ?_
    refine rn_lstore_n dX9_digest_49 rfl (Nat.le_of_ble_eq_true rfl) (fun zx1_4 ezx1_4 => ?_)
    replace hF := hF zx1_4 ezx1_4
    show Rn _ _ _ _ _ _ _ _ [some (rf E 0), some (.long zx1_4), none, some (.int zx3)] _ _ _
    refine rn_ldc2 coRX9_276 dX9_digest_50 ?_
    refine rn_lload_n dX9_digest_53 rfl ?_
    refine rn_lmul dX9_digest_54 ?_
    refine rn_aload_n dX9_digest_55 rfl ?_
    refine rm_getr (r := 3) flRX9_30 rfl (by decide) rfl dX9_digest_56 ?_
    refine rm_callV (c0 := 3) (As := []) (st := [.long ((31 : Int64) * zx1_4)]) mlRX9_99 mdX7_firstWrong (Nat.le_of_ble_eq_true rfl) rfl (by decide) (by decide) rfl rfl rfl (Nat.le_of_ble_eq_true rfl) ⟨Nat.le_refl _, Nat.le_refl _⟩ dX9_digest_59 ?_
    refine cm_mono hF (fun w zH_5 hF => ?_)
    obtain ⟨zr_6, rfl, hF⟩ := hF
    refine rn_i2l dX9_digest_62 ?_
    refine rn_ladd dX9_digest_63 ?_
    refine rn_lstore_n dX9_digest_64 rfl (Nat.le_of_ble_eq_true rfl) (fun zx1_7 ezx1_7 => ?_)
    replace hF := hF zx1_7 ezx1_7
    show Rn _ _ _ _ _ _ _ _ [some (rf E 0), some (.long zx1_7), none, some (.int zx3)] _ _ _
    refine rn_iconst (x := (0 : Int32)) dX9_digest_65 (by decide) ?_
    refine ra_istore_n dX9_digest_66 rfl (Nat.le_of_ble_eq_true rfl) ?_
    show Rn _ _ _ _ _ _ _ _ [some (rf E 0), some (.long zx1_7), none, some (.int (0 : Int32))] _ _ _
    exact rn_wk (L' := [some (rf E 0), some (.long zx1_7), none, some (.int (0 : Int32))]) (⟨rfl, ⟨rfl, ⟨rfl, trivial⟩⟩⟩) hF
  · replace hF := hF.2 hc_1
    refine rn_ldc2 coRX9_276 dX9_digest_16 ?_
    refine rn_lload_n dX9_digest_19 rfl ?_
    refine rn_lmul dX9_digest_20 ?_
    refine rn_aload_n dX9_digest_21 rfl ?_
    refine rn_iload_n dX9_digest_22 rfl ?_
    refine rm_callV (c0 := 0) (As := [.int zx3]) (st := [.long ((31 : Int64) * zy1)]) mlRX9_271 mdX9_tally (Nat.le_of_ble_eq_true rfl) rfl (by decide) (by decide) rfl rfl rfl (Nat.le_of_ble_eq_true rfl) ⟨Nat.le_refl _, Nat.le_refl _⟩ dX9_digest_23 ?_
    refine cm_mono hF (fun w zH_9 hF => ?_)
    obtain ⟨zr_10, rfl, hF⟩ := hF
    refine rn_i2l dX9_digest_26 ?_
    refine rn_ladd dX9_digest_27 ?_
    refine rn_lstore_n dX9_digest_28 rfl (Nat.le_of_ble_eq_true rfl) (fun zx1_11 ezx1_11 => ?_)
    replace hF := hF zx1_11 ezx1_11
    show Rn _ _ _ _ _ _ _ _ [some (rf E 0), some (.long zx1_11), none, some (.int zx3)] _ _ _
    refine rn_iinc (w := (1 : Int32)) dX9_digest_29 rfl (by decide) rfl (Nat.le_of_ble_eq_true rfl) (fun zx3_12 ezx3_12 => ?_)
    replace hF := hF zx3_12 ezx3_12
    show Rn _ _ _ _ _ _ _ _ [some (rf E 0), some (.long zx1_11), none, some (.int zx3_12)] _ _ _
    refine rn_goto (tgt := 10) dX9_digest_32 (by decide) ?_
    exact rn_wk (L' := [some (rf E 0), some (.long zx1_11), none, some (.int zx3_12)]) (⟨rfl, ⟨rfl, ⟨rfl, trivial⟩⟩⟩) hF
theorem sgX9_digest_67 {E : En} {Q : Option Value → Hi → Prop} {H : Hi} {zy1 : Int64} {zx3 : Int32} 
    (hF : ((H 5 0) ≤ zx3 → (Rm E mX9_digest Q 98 [some (rf E 0), some (.long zy1), none, some (.int (0 : Int32))] [] H)) ∧ (¬ (H 5 0) ≤ zx3 → (Cm E mX9_foldThingHours [rf E 0, .long zy1, .int zx3] H (fun w zH_3 => ∃ zr_4 : Int64, w = some (.long zr_4) ∧ (Cm E mX9_foldThingGuesses [rf E 0, .long zr_4, .int zx3] zH_3 (fun w zH_5 => ∃ zr_6 : Int64, w = some (.long zr_6) ∧ (∀ zx3_8 : Int32, zx3_8 = zx3 + (1 : Int32) → (Rm E mX9_digest Q 67 [some (rf E 0), some (.long zr_6), none, some (.int zx3_8)] [] zH_5)))))))) :
    Rm E mX9_digest Q 67 [some (rf E 0), some (.long zy1), none, some (.int zx3)] [] H := by
  refine rn_iload_n dX9_digest_67 rfl ?_
  refine rn_aload_n dX9_digest_68 rfl ?_
  refine rm_getr (r := 5) flRX9_36 rfl (by decide) rfl dX9_digest_69 ?_
  refine rm_geti flRX9_278 rfl (by decide) rfl dX9_digest_72 ?_
  refine rn_icmp_ge (tgt := 96) dX9_digest_75 (by decide) (fun hc_1 => ?_) (fun hc_1 => ?_)
  · replace hF := hF.1 hc_1
    refine rn_iconst (x := (0 : Int32)) dX9_digest_96 (by decide) ?_
    refine ra_istore_n dX9_digest_97 rfl (Nat.le_of_ble_eq_true rfl) ?_
    show Rn _ _ _ _ _ _ _ _ [some (rf E 0), some (.long zy1), none, some (.int (0 : Int32))] _ _ _
    exact rn_wk (L' := [some (rf E 0), some (.long zy1), none, some (.int (0 : Int32))]) (⟨rfl, ⟨rfl, ⟨rfl, trivial⟩⟩⟩) hF
  · replace hF := hF.2 hc_1
    refine rn_aload_n dX9_digest_78 rfl ?_
    refine rn_aload_n dX9_digest_79 rfl ?_
    refine rn_lload_n dX9_digest_80 rfl ?_
    refine rn_iload_n dX9_digest_81 rfl ?_
    refine rm_callV (c0 := 0) (As := [.long zy1, .int zx3]) (st := [rf E 0]) mlRX9_281 mdX9_foldThingHours (Nat.le_of_ble_eq_true rfl) rfl (by decide) (by decide) rfl rfl rfl (Nat.le_of_ble_eq_true rfl) ⟨Nat.le_refl _, Nat.le_refl _⟩ dX9_digest_82 ?_
    refine cm_mono hF (fun w zH_3 hF => ?_)
    obtain ⟨zr_4, rfl, hF⟩ := hF
    refine rn_iload_n dX9_digest_85 rfl ?_
    refine rm_callV (c0 := 0) (As := [.long zr_4, .int zx3]) (st := []) mlRX9_285 mdX9_foldThingGuesses (Nat.le_of_ble_eq_true rfl) rfl (by decide) (by decide) rfl rfl rfl (Nat.le_of_ble_eq_true rfl) ⟨Nat.le_refl _, Nat.le_refl _⟩ dX9_digest_86 ?_
    refine cm_mono hF (fun w zH_5 hF => ?_)
    obtain ⟨zr_6, rfl, hF⟩ := hF
    refine ra_lstore_n dX9_digest_89 rfl (Nat.le_of_ble_eq_true rfl) ?_
    show Rn _ _ _ _ _ _ _ _ [some (rf E 0), some (.long zr_6), none, some (.int zx3)] _ _ _
    refine rn_iinc (w := (1 : Int32)) dX9_digest_90 rfl (by decide) rfl (Nat.le_of_ble_eq_true rfl) (fun zx3_8 ezx3_8 => ?_)
    replace hF := hF zx3_8 ezx3_8
    show Rn _ _ _ _ _ _ _ _ [some (rf E 0), some (.long zr_6), none, some (.int zx3_8)] _ _ _
    refine rn_goto (tgt := 67) dX9_digest_93 (by decide) ?_
    exact rn_wk (L' := [some (rf E 0), some (.long zr_6), none, some (.int zx3_8)]) (⟨rfl, ⟨rfl, ⟨rfl, trivial⟩⟩⟩) hF
theorem sgX9_digest_98 {E : En} {Q : Option Value → Hi → Prop} {H : Hi} {zy1 : Int64} {zx3 : Int32} 
    (hF : ((H 5 1) ≤ zx3 → (Cm E mX9_foldHour [rf E 0, .long zy1, .int (0 : Int32)] H (fun w zH_2 => ∃ zr_3 : Int64, w = some (.long zr_3) ∧ (Cm E mX9_foldHour [rf E 0, .long zr_3, .int (1 : Int32)] zH_2 (fun w zH_5 => ∃ zr_6 : Int64, w = some (.long zr_6) ∧ (Cm E mX9_foldHour [rf E 0, .long zr_6, .int (5 : Int32)] zH_5 (fun w zH_8 => ∃ zr_9 : Int64, w = some (.long zr_9) ∧ (Cm E mX9_foldHour [rf E 0, .long zr_9, .int (12 : Int32)] zH_8 (fun w zH_11 => ∃ zr_12 : Int64, w = some (.long zr_12) ∧ (Cm E mX9_foldHour [rf E 0, .long zr_12, .int (23 : Int32)] zH_11 (fun w zH_14 => ∃ zr_15 : Int64, w = some (.long zr_15) ∧ (Rm E mX9_digest Q 161 [some (rf E 0), some (.long zr_15), none, some (.int (0 : Int32))] [] zH_14)))))))))))) ∧ (¬ (H 5 1) ≤ zx3 → (Cm E mX9_foldCousin [rf E 0, .long zy1, .int zx3] H (fun w zH_18 => ∃ zr_19 : Int64, w = some (.long zr_19) ∧ (∀ zx3_21 : Int32, zx3_21 = zx3 + (1 : Int32) → (Rm E mX9_digest Q 98 [some (rf E 0), some (.long zr_19), none, some (.int zx3_21)] [] zH_18)))))) :
    Rm E mX9_digest Q 98 [some (rf E 0), some (.long zy1), none, some (.int zx3)] [] H := by
  refine rn_iload_n dX9_digest_98 rfl ?_
  refine rn_aload_n dX9_digest_99 rfl ?_
  refine rm_getr (r := 5) flRX9_36 rfl (by decide) rfl dX9_digest_100 ?_
  refine rm_geti flRX9_288 rfl (by decide) rfl dX9_digest_103 ?_
  refine rn_icmp_ge (tgt := 122) dX9_digest_106 (by decide) (fun hc_1 => ?_) (fun hc_1 => ?_)
  · replace hF := hF.1 hc_1
    refine rn_aload_n dX9_digest_122 rfl ?_
    refine rn_lload_n dX9_digest_123 rfl ?_
    refine rn_iconst (x := (0 : Int32)) dX9_digest_124 (by decide) ?_
    refine rm_callV (c0 := 0) (As := [.long zy1, .int (0 : Int32)]) (st := []) mlRX9_294 mdX9_foldHour (Nat.le_of_ble_eq_true rfl) rfl (by decide) (by decide) rfl rfl rfl (Nat.le_of_ble_eq_true rfl) ⟨Nat.le_refl _, Nat.le_refl _⟩ dX9_digest_125 ?_
    refine cm_mono hF (fun w zH_2 hF => ?_)
    obtain ⟨zr_3, rfl, hF⟩ := hF
    refine ra_lstore_n dX9_digest_128 rfl (Nat.le_of_ble_eq_true rfl) ?_
    show Rn _ _ _ _ _ _ _ _ [some (rf E 0), some (.long zr_3), none, some (.int zx3)] _ _ _
    refine rn_aload_n dX9_digest_129 rfl ?_
    refine rn_lload_n dX9_digest_130 rfl ?_
    refine rn_iconst (x := (1 : Int32)) dX9_digest_131 (by decide) ?_
    refine rm_callV (c0 := 0) (As := [.long zr_3, .int (1 : Int32)]) (st := []) mlRX9_294 mdX9_foldHour (Nat.le_of_ble_eq_true rfl) rfl (by decide) (by decide) rfl rfl rfl (Nat.le_of_ble_eq_true rfl) ⟨Nat.le_refl _, Nat.le_refl _⟩ dX9_digest_132 ?_
    refine cm_mono hF (fun w zH_5 hF => ?_)
    obtain ⟨zr_6, rfl, hF⟩ := hF
    refine ra_lstore_n dX9_digest_135 rfl (Nat.le_of_ble_eq_true rfl) ?_
    show Rn _ _ _ _ _ _ _ _ [some (rf E 0), some (.long zr_6), none, some (.int zx3)] _ _ _
    refine rn_aload_n dX9_digest_136 rfl ?_
    refine rn_lload_n dX9_digest_137 rfl ?_
    refine rn_iconst (x := (5 : Int32)) dX9_digest_138 (by decide) ?_
    refine rm_callV (c0 := 0) (As := [.long zr_6, .int (5 : Int32)]) (st := []) mlRX9_294 mdX9_foldHour (Nat.le_of_ble_eq_true rfl) rfl (by decide) (by decide) rfl rfl rfl (Nat.le_of_ble_eq_true rfl) ⟨Nat.le_refl _, Nat.le_refl _⟩ dX9_digest_139 ?_
    refine cm_mono hF (fun w zH_8 hF => ?_)
    obtain ⟨zr_9, rfl, hF⟩ := hF
    refine ra_lstore_n dX9_digest_142 rfl (Nat.le_of_ble_eq_true rfl) ?_
    show Rn _ _ _ _ _ _ _ _ [some (rf E 0), some (.long zr_9), none, some (.int zx3)] _ _ _
    refine rn_aload_n dX9_digest_143 rfl ?_
    refine rn_lload_n dX9_digest_144 rfl ?_
    refine rn_bipush (x := (12 : Int32)) dX9_digest_145 (by decide) ?_
    refine rm_callV (c0 := 0) (As := [.long zr_9, .int (12 : Int32)]) (st := []) mlRX9_294 mdX9_foldHour (Nat.le_of_ble_eq_true rfl) rfl (by decide) (by decide) rfl rfl rfl (Nat.le_of_ble_eq_true rfl) ⟨Nat.le_refl _, Nat.le_refl _⟩ dX9_digest_147 ?_
    refine cm_mono hF (fun w zH_11 hF => ?_)
    obtain ⟨zr_12, rfl, hF⟩ := hF
    refine ra_lstore_n dX9_digest_150 rfl (Nat.le_of_ble_eq_true rfl) ?_
    show Rn _ _ _ _ _ _ _ _ [some (rf E 0), some (.long zr_12), none, some (.int zx3)] _ _ _
    refine rn_aload_n dX9_digest_151 rfl ?_
    refine rn_lload_n dX9_digest_152 rfl ?_
    refine rn_bipush (x := (23 : Int32)) dX9_digest_153 (by decide) ?_
    refine rm_callV (c0 := 0) (As := [.long zr_12, .int (23 : Int32)]) (st := []) mlRX9_294 mdX9_foldHour (Nat.le_of_ble_eq_true rfl) rfl (by decide) (by decide) rfl rfl rfl (Nat.le_of_ble_eq_true rfl) ⟨Nat.le_refl _, Nat.le_refl _⟩ dX9_digest_155 ?_
    refine cm_mono hF (fun w zH_14 hF => ?_)
    obtain ⟨zr_15, rfl, hF⟩ := hF
    refine ra_lstore_n dX9_digest_158 rfl (Nat.le_of_ble_eq_true rfl) ?_
    show Rn _ _ _ _ _ _ _ _ [some (rf E 0), some (.long zr_15), none, some (.int zx3)] _ _ _
    refine rn_iconst (x := (0 : Int32)) dX9_digest_159 (by decide) ?_
    refine ra_istore_n dX9_digest_160 rfl (Nat.le_of_ble_eq_true rfl) ?_
    show Rn _ _ _ _ _ _ _ _ [some (rf E 0), some (.long zr_15), none, some (.int (0 : Int32))] _ _ _
    exact rn_wk (L' := [some (rf E 0), some (.long zr_15), none, some (.int (0 : Int32))]) (⟨rfl, ⟨rfl, ⟨rfl, trivial⟩⟩⟩) hF
  · replace hF := hF.2 hc_1
    refine rn_aload_n dX9_digest_109 rfl ?_
    refine rn_lload_n dX9_digest_110 rfl ?_
    refine rn_iload_n dX9_digest_111 rfl ?_
    refine rm_callV (c0 := 0) (As := [.long zy1, .int zx3]) (st := []) mlRX9_291 mdX9_foldCousin (Nat.le_of_ble_eq_true rfl) rfl (by decide) (by decide) rfl rfl rfl (Nat.le_of_ble_eq_true rfl) ⟨Nat.le_refl _, Nat.le_refl _⟩ dX9_digest_112 ?_
    refine cm_mono hF (fun w zH_18 hF => ?_)
    obtain ⟨zr_19, rfl, hF⟩ := hF
    refine ra_lstore_n dX9_digest_115 rfl (Nat.le_of_ble_eq_true rfl) ?_
    show Rn _ _ _ _ _ _ _ _ [some (rf E 0), some (.long zr_19), none, some (.int zx3)] _ _ _
    refine rn_iinc (w := (1 : Int32)) dX9_digest_116 rfl (by decide) rfl (Nat.le_of_ble_eq_true rfl) (fun zx3_21 ezx3_21 => ?_)
    replace hF := hF zx3_21 ezx3_21
    show Rn _ _ _ _ _ _ _ _ [some (rf E 0), some (.long zr_19), none, some (.int zx3_21)] _ _ _
    refine rn_goto (tgt := 98) dX9_digest_119 (by decide) ?_
    exact rn_wk (L' := [some (rf E 0), some (.long zr_19), none, some (.int zx3_21)]) (⟨rfl, ⟨rfl, ⟨rfl, trivial⟩⟩⟩) hF
theorem sgX9_digest_161 {E : En} {Q : Option Value → Hi → Prop} {H : Hi} {zy1 : Int64} {zx3 : Int32} 
    (hF : ((H 11 2) ≤ zx3 → (Cm E mX2_firstIdle [rf E 22] H (fun w zH_2 => ∃ zr_3 : Int32, w = some (.int zr_3) ∧ (∀ zx1_4 : Int64, zx1_4 = ((31 : Int64) * zy1) + (zr_3.toInt64) → (Cm E mX3_planSort [rf E 75, .int (9 : Int32)] zH_2 (fun w zH_5 => w = none ∧ (Cm E mX4_told [rf E 77, .int (-1 : Int32)] zH_5 (fun w zH_6 => ∃ zr_7 : Int32, w = some (.int zr_7) ∧ (∀ zx1_8 : Int64, zx1_8 = ((31 : Int64) * zx1_4) + (zr_7.toInt64) → (Cm E mX4_told [rf E 77, .int (0 : Int32)] zH_6 (fun w zH_9 => ∃ zr_10 : Int32, w = some (.int zr_10) ∧ (∀ zx1_11 : Int64, zx1_11 = ((31 : Int64) * zx1_8) + (zr_10.toInt64) → (Cm E mX2_dayBySeed [rf E 22, .int (7 : Int32), .int (12 : Int32), .int (-1 : Int32)] zH_9 (fun w zH_12 => ∃ zr_13 : Int32, w = some (.int zr_13) ∧ (Q (some (.long (((31 : Int64) * zx1_11) + (zr_13.toInt64)))) zH_12))))))))))))))) ∧ (¬ (H 11 2) ≤ zx3 → (∀ zx1_14 : Int64, zx1_14 = ((31 : Int64) * zy1) + ((((H 22 5) >>> (zx3 &&& 31)) &&& (1 : Int32)).toInt64) → (∀ zx3_15 : Int32, zx3_15 = zx3 + (1 : Int32) → (Rm E mX9_digest Q 161 [some (rf E 0), some (.long zx1_14), none, some (.int zx3_15)] [] H))))) :
    Rm E mX9_digest Q 161 [some (rf E 0), some (.long zy1), none, some (.int zx3)] [] H := by
  refine rn_iload_n dX9_digest_161 rfl ?_
  refine rn_aload_n dX9_digest_162 rfl ?_
  refine rm_getr (r := 11) flRX9_43 rfl (by decide) rfl dX9_digest_163 ?_
  refine rm_geti flRX9_136 rfl (by decide) rfl dX9_digest_166 ?_
  refine rn_icmp_ge (tgt := 197) dX9_digest_169 (by decide) (fun hc_1 => ?_) (fun hc_1 => ?_)
  · replace hF := hF.1 hc_1
    refine rn_ldc2 coRX9_276 dX9_digest_197 ?_
    refine rn_lload_n dX9_digest_200 rfl ?_
    refine rn_lmul dX9_digest_201 ?_
    refine rn_aload_n dX9_digest_202 rfl ?_
    refine rm_getr (r := 22) flRX9_52 rfl (by decide) rfl dX9_digest_203 ?_
    refine rm_callV (c0 := 22) (As := []) (st := [.long ((31 : Int64) * zy1)]) mlRX9_177 mdX2_firstIdle (Nat.le_of_ble_eq_true rfl) rfl (by decide) (by decide) rfl rfl rfl (Nat.le_of_ble_eq_true rfl) ⟨Nat.le_refl _, Nat.le_refl _⟩ dX9_digest_206 ?_
    refine cm_mono hF (fun w zH_2 hF => ?_)
    obtain ⟨zr_3, rfl, hF⟩ := hF
    refine rn_i2l dX9_digest_209 ?_
    refine rn_ladd dX9_digest_210 ?_
    refine rn_lstore_n dX9_digest_211 rfl (Nat.le_of_ble_eq_true rfl) (fun zx1_4 ezx1_4 => ?_)
    replace hF := hF zx1_4 ezx1_4
    show Rn _ _ _ _ _ _ _ _ [some (rf E 0), some (.long zx1_4), none, some (.int zx3)] _ _ _
    refine rn_aload_n dX9_digest_212 rfl ?_
    refine rm_getr (r := 75) flRX9_61 rfl (by decide) rfl dX9_digest_213 ?_
    refine rn_bipush (x := (9 : Int32)) dX9_digest_216 (by decide) ?_
    refine rm_callV (c0 := 75) (As := [.int (9 : Int32)]) (st := []) mlRX9_201 mdX3_planSort (Nat.le_of_ble_eq_true rfl) rfl (by decide) (by decide) rfl rfl rfl (Nat.le_of_ble_eq_true rfl) ⟨Nat.le_refl _, Nat.le_refl _⟩ dX9_digest_218 ?_
    refine cm_mono hF (fun w zH_5 hF => ?_)
    obtain ⟨rfl, hF⟩ := hF
    refine rn_ldc2 coRX9_276 dX9_digest_221 ?_
    refine rn_lload_n dX9_digest_224 rfl ?_
    refine rn_lmul dX9_digest_225 ?_
    refine rn_aload_n dX9_digest_226 rfl ?_
    refine rm_getr (r := 75) flRX9_61 rfl (by decide) rfl dX9_digest_227 ?_
    refine rm_getr (r := 77) flRX9_205 rfl (by decide) rfl dX9_digest_230 ?_
    refine rn_iconst (x := (-1 : Int32)) dX9_digest_233 (by decide) ?_
    refine rm_callV (c0 := 77) (As := [.int (-1 : Int32)]) (st := [.long ((31 : Int64) * zx1_4)]) mlRX9_194 mdX4_told (Nat.le_of_ble_eq_true rfl) rfl (by decide) (by decide) rfl rfl rfl (Nat.le_of_ble_eq_true rfl) ⟨Nat.le_refl _, Nat.le_refl _⟩ dX9_digest_234 ?_
    refine cm_mono hF (fun w zH_6 hF => ?_)
    obtain ⟨zr_7, rfl, hF⟩ := hF
    refine rn_i2l dX9_digest_237 ?_
    refine rn_ladd dX9_digest_238 ?_
    refine rn_lstore_n dX9_digest_239 rfl (Nat.le_of_ble_eq_true rfl) (fun zx1_8 ezx1_8 => ?_)
    replace hF := hF zx1_8 ezx1_8
    show Rn _ _ _ _ _ _ _ _ [some (rf E 0), some (.long zx1_8), none, some (.int zx3)] _ _ _
    refine rn_ldc2 coRX9_276 dX9_digest_240 ?_
    refine rn_lload_n dX9_digest_243 rfl ?_
    refine rn_lmul dX9_digest_244 ?_
    refine rn_aload_n dX9_digest_245 rfl ?_
    refine rm_getr (r := 75) flRX9_61 rfl (by decide) rfl dX9_digest_246 ?_
    refine rm_getr (r := 77) flRX9_205 rfl (by decide) rfl dX9_digest_249 ?_
    refine rn_iconst (x := (0 : Int32)) dX9_digest_252 (by decide) ?_
    refine rm_callV (c0 := 77) (As := [.int (0 : Int32)]) (st := [.long ((31 : Int64) * zx1_8)]) mlRX9_194 mdX4_told (Nat.le_of_ble_eq_true rfl) rfl (by decide) (by decide) rfl rfl rfl (Nat.le_of_ble_eq_true rfl) ⟨Nat.le_refl _, Nat.le_refl _⟩ dX9_digest_253 ?_
    refine cm_mono hF (fun w zH_9 hF => ?_)
    obtain ⟨zr_10, rfl, hF⟩ := hF
    refine rn_i2l dX9_digest_256 ?_
    refine rn_ladd dX9_digest_257 ?_
    refine rn_lstore_n dX9_digest_258 rfl (Nat.le_of_ble_eq_true rfl) (fun zx1_11 ezx1_11 => ?_)
    replace hF := hF zx1_11 ezx1_11
    show Rn _ _ _ _ _ _ _ _ [some (rf E 0), some (.long zx1_11), none, some (.int zx3)] _ _ _
    refine rn_ldc2 coRX9_276 dX9_digest_259 ?_
    refine rn_lload_n dX9_digest_262 rfl ?_
    refine rn_lmul dX9_digest_263 ?_
    refine rn_aload_n dX9_digest_264 rfl ?_
    refine rm_getr (r := 22) flRX9_52 rfl (by decide) rfl dX9_digest_265 ?_
    refine rn_bipush (x := (7 : Int32)) dX9_digest_268 (by decide) ?_
    refine rn_bipush (x := (12 : Int32)) dX9_digest_270 (by decide) ?_
    refine rn_iconst (x := (-1 : Int32)) dX9_digest_272 (by decide) ?_
    refine rm_callV (c0 := 22) (As := [.int (7 : Int32), .int (12 : Int32), .int (-1 : Int32)]) (st := [.long ((31 : Int64) * zx1_11)]) mlRX9_230 mdX2_dayBySeed (Nat.le_of_ble_eq_true rfl) rfl (by decide) (by decide) rfl rfl rfl (Nat.le_of_ble_eq_true rfl) ⟨Nat.le_refl _, Nat.le_refl _⟩ dX9_digest_273 ?_
    refine cm_mono hF (fun w zH_12 hF => ?_)
    obtain ⟨zr_13, rfl, hF⟩ := hF
    refine rn_i2l dX9_digest_276 ?_
    refine rn_ladd dX9_digest_277 ?_
    exact rm_lret rfl dX9_digest_278 hF
  · replace hF := hF.2 hc_1
    refine rn_ldc2 coRX9_276 dX9_digest_172 ?_
    refine rn_lload_n dX9_digest_175 rfl ?_
    refine rn_lmul dX9_digest_176 ?_
    refine rn_aload_n dX9_digest_177 rfl ?_
    refine rm_getr (r := 22) flRX9_52 rfl (by decide) rfl dX9_digest_178 ?_
    refine rm_geti flRX9_174 rfl (by decide) rfl dX9_digest_181 ?_
    refine rn_iload_n dX9_digest_184 rfl ?_
    refine rn_ishr dX9_digest_185 ?_
    refine rn_iconst (x := (1 : Int32)) dX9_digest_186 (by decide) ?_
    refine rn_iand dX9_digest_187 ?_
    refine rn_i2l dX9_digest_188 ?_
    refine rn_ladd dX9_digest_189 ?_
    refine rn_lstore_n dX9_digest_190 rfl (Nat.le_of_ble_eq_true rfl) (fun zx1_14 ezx1_14 => ?_)
    replace hF := hF zx1_14 ezx1_14
    show Rn _ _ _ _ _ _ _ _ [some (rf E 0), some (.long zx1_14), none, some (.int zx3)] _ _ _
    refine rn_iinc (w := (1 : Int32)) dX9_digest_191 rfl (by decide) rfl (Nat.le_of_ble_eq_true rfl) (fun zx3_15 ezx3_15 => ?_)
    replace hF := hF zx3_15 ezx3_15
    show Rn _ _ _ _ _ _ _ _ [some (rf E 0), some (.long zx1_14), none, some (.int zx3_15)] _ _ _
    refine rn_goto (tgt := 161) dX9_digest_194 (by decide) ?_
    exact rn_wk (L' := [some (rf E 0), some (.long zx1_14), none, some (.int zx3_15)]) (⟨rfl, ⟨rfl, ⟨rfl, trivial⟩⟩⟩) hF
theorem sgX9_tally_0 {E : En} {Q : Option Value → Hi → Prop} {H : Hi} {zx1 : Int32} 
    (hF : ((zx1.toInt < 0 ∨ 8 < zx1.toInt) → (Q (some (.int (-2 : Int32))) H)) ∧ (zx1.toInt = 0 → (Q (some (.int (H 5 0))) H)) ∧ (zx1.toInt = 1 → (Q (some (.int (H 5 1))) H)) ∧ (zx1.toInt = 2 → (Q (some (.int (H 1 5))) H)) ∧ (zx1.toInt = 3 → (Q (some (.int (H 3 5))) H)) ∧ (zx1.toInt = 4 → (Q (some (.int (H 11 2))) H)) ∧ (zx1.toInt = 5 → (Cm E mJ6_bitCount_0f7a4 [.int (H 22 5)] H (fun w zH_8 => ∃ zr_9 : Int32, w = some (.int zr_9) ∧ (Q (some (.int zr_9)) zH_8)))) ∧ (zx1.toInt = 6 → (Q (some (.int (H 11 5))) H)) ∧ (zx1.toInt = 7 → (Q (some (.int (H 11 8))) H)) ∧ (zx1.toInt = 8 → (Q (some (.int (H 0 8))) H)) ∧ True) :
    Rm E mX9_tally Q 0 [some (rf E 0), some (.int zx1)] [] H := by
  refine rn_iload_n dX9_tally_0 rfl ?_
  by_cases hc_1 : zx1.toInt < 0 ∨ 8 < zx1.toInt
  · refine rn_tabOut (tgt := 124) dX9_tally_1 hc_1 (by decide) ?_
    replace hF := hF.1 hc_1
    refine rn_bipush (x := (-2 : Int32)) dX9_tally_124 (by decide) ?_
    exact rm_iret rfl dX9_tally_126 hF
  · replace hF := hF.2
    obtain ⟨hk_2, hk_2r⟩ : (0 : Int) ≤ zx1.toInt ∧ zx1.toInt ≤ 8 := by omega
    by_cases hq_3 : zx1.toInt = 0
    · replace hF := hF.1 hq_3
      refine rn_tabIn (tgt := 52) dX9_tally_1 (by omega) (by omega) (by rw [hq_3]; rfl) (by decide) ?_
      refine rn_aload_n dX9_tally_52 rfl ?_
      refine rm_getr (r := 5) flRX9_36 rfl (by decide) rfl dX9_tally_53 ?_
      refine rm_geti flRX9_278 rfl (by decide) rfl dX9_tally_56 ?_
      exact rm_iret rfl dX9_tally_59 hF
    by_cases hq_4 : zx1.toInt = 1
    · replace hF := hF.2.1 hq_4
      refine rn_tabIn (tgt := 60) dX9_tally_1 (by omega) (by omega) (by rw [hq_4]; rfl) (by decide) ?_
      refine rn_aload_n dX9_tally_60 rfl ?_
      refine rm_getr (r := 5) flRX9_36 rfl (by decide) rfl dX9_tally_61 ?_
      refine rm_geti flRX9_288 rfl (by decide) rfl dX9_tally_64 ?_
      exact rm_iret rfl dX9_tally_67 hF
    by_cases hq_5 : zx1.toInt = 2
    · replace hF := hF.2.2.1 hq_5
      refine rn_tabIn (tgt := 68) dX9_tally_1 (by omega) (by omega) (by rw [hq_5]; rfl) (by decide) ?_
      refine rn_aload_n dX9_tally_68 rfl ?_
      refine rm_getr (r := 1) flRX9_18 rfl (by decide) rfl dX9_tally_69 ?_
      refine rm_geti flRX9_95 rfl (by decide) rfl dX9_tally_72 ?_
      exact rm_iret rfl dX9_tally_75 hF
    by_cases hq_6 : zx1.toInt = 3
    · replace hF := hF.2.2.2.1 hq_6
      refine rn_tabIn (tgt := 76) dX9_tally_1 (by omega) (by omega) (by rw [hq_6]; rfl) (by decide) ?_
      refine rn_aload_n dX9_tally_76 rfl ?_
      refine rm_getr (r := 3) flRX9_30 rfl (by decide) rfl dX9_tally_77 ?_
      refine rm_geti flRX9_95 rfl (by decide) rfl dX9_tally_80 ?_
      exact rm_iret rfl dX9_tally_83 hF
    by_cases hq_7 : zx1.toInt = 4
    · replace hF := hF.2.2.2.2.1 hq_7
      refine rn_tabIn (tgt := 84) dX9_tally_1 (by omega) (by omega) (by rw [hq_7]; rfl) (by decide) ?_
      refine rn_aload_n dX9_tally_84 rfl ?_
      refine rm_getr (r := 11) flRX9_43 rfl (by decide) rfl dX9_tally_85 ?_
      refine rm_geti flRX9_136 rfl (by decide) rfl dX9_tally_88 ?_
      exact rm_iret rfl dX9_tally_91 hF
    by_cases hq_10 : zx1.toInt = 5
    · replace hF := hF.2.2.2.2.2.1 hq_10
      refine rn_tabIn (tgt := 92) dX9_tally_1 (by omega) (by omega) (by rw [hq_10]; rfl) (by decide) ?_
      refine rn_aload_n dX9_tally_92 rfl ?_
      refine rm_getr (r := 22) flRX9_52 rfl (by decide) rfl dX9_tally_93 ?_
      refine rm_geti flRX9_174 rfl (by decide) rfl dX9_tally_96 ?_
      refine rm_callS (As := [.int (H 22 5)]) (st := []) mlRX9_297 mdJ6_bitCount_0f7a4 (Nat.le_of_ble_eq_true rfl) rfl rfl (Nat.le_of_ble_eq_true rfl) ⟨Nat.le_refl _, Nat.le_refl _⟩ dX9_tally_99 ?_
      refine cm_mono hF (fun w zH_8 hF => ?_)
      obtain ⟨zr_9, rfl, hF⟩ := hF
      exact rm_iret rfl dX9_tally_102 hF
    by_cases hq_11 : zx1.toInt = 6
    · replace hF := hF.2.2.2.2.2.2.1 hq_11
      refine rn_tabIn (tgt := 103) dX9_tally_1 (by omega) (by omega) (by rw [hq_11]; rfl) (by decide) ?_
      refine rn_aload_n dX9_tally_103 rfl ?_
      refine rm_getr (r := 11) flRX9_43 rfl (by decide) rfl dX9_tally_104 ?_
      refine rm_geti flRX9_139 rfl (by decide) rfl dX9_tally_107 ?_
      exact rm_iret rfl dX9_tally_110 hF
    by_cases hq_12 : zx1.toInt = 7
    · replace hF := hF.2.2.2.2.2.2.2.1 hq_12
      refine rn_tabIn (tgt := 111) dX9_tally_1 (by omega) (by omega) (by rw [hq_12]; rfl) (by decide) ?_
      refine rn_aload_n dX9_tally_111 rfl ?_
      refine rm_getr (r := 11) flRX9_43 rfl (by decide) rfl dX9_tally_112 ?_
      refine rm_geti flRX9_212 rfl (by decide) rfl dX9_tally_115 ?_
      exact rm_iret rfl dX9_tally_118 hF
    by_cases hq_13 : zx1.toInt = 8
    · replace hF := hF.2.2.2.2.2.2.2.2.1 hq_13
      refine rn_tabIn (tgt := 119) dX9_tally_1 (by omega) (by omega) (by rw [hq_13]; rfl) (by decide) ?_
      refine rn_aload_n dX9_tally_119 rfl ?_
      refine rm_geti flRX9_253 rfl (by decide) rfl dX9_tally_120 ?_
      exact rm_iret rfl dX9_tally_123 hF
    exfalso; omega
theorem cmX9_tally {E : En} {Q : Option Value → Hi → Prop} {H : Hi} {zx1 : Int32} 
    (hF : ((zx1.toInt < 0 ∨ 8 < zx1.toInt) → (Q (some (.int (-2 : Int32))) H)) ∧ (zx1.toInt = 0 → (Q (some (.int (H 5 0))) H)) ∧ (zx1.toInt = 1 → (Q (some (.int (H 5 1))) H)) ∧ (zx1.toInt = 2 → (Q (some (.int (H 1 5))) H)) ∧ (zx1.toInt = 3 → (Q (some (.int (H 3 5))) H)) ∧ (zx1.toInt = 4 → (Q (some (.int (H 11 2))) H)) ∧ (zx1.toInt = 5 → (Cm E mJ6_bitCount_0f7a4 [.int (H 22 5)] H (fun w zH_8 => ∃ zr_9 : Int32, w = some (.int zr_9) ∧ (Q (some (.int zr_9)) zH_8)))) ∧ (zx1.toInt = 6 → (Q (some (.int (H 11 5))) H)) ∧ (zx1.toInt = 7 → (Q (some (.int (H 11 8))) H)) ∧ (zx1.toInt = 8 → (Q (some (.int (H 0 8))) H)) ∧ True) :
    Cm E mX9_tally [rf E 0, .int zx1] H Q :=
  cm_of (by decide +kernel : plainName RX9 = true) (Nat.le_of_ble_eq_true rfl) rfl (sgX9_tally_0  hF)
theorem sgX9_foldThingHours_0 {E : En} {Q : Option Value → Hi → Prop} {H : Hi} {zy1 : Int64} {zx3 : Int32} 
    (hF : Rm E mX9_foldThingHours Q 6 [some (rf E 0), none, none, some (.int zx3), some (.long zy1), none, some (.int (0 : Int32))] [] H) :
    Rm E mX9_foldThingHours Q 0 [some (rf E 0), some (.long zy1), none, some (.int zx3), none, none, none] [] H := by
  refine rn_lload_n dX9_foldThingHours_0 rfl ?_
  refine ra_lstore dX9_foldThingHours_1 rfl (Nat.le_of_ble_eq_true rfl) ?_
  show Rn _ _ _ _ _ _ _ _ [some (rf E 0), some (.long zy1), none, some (.int zx3), some (.long zy1), none, none] _ _ _
  refine rn_iconst (x := (0 : Int32)) dX9_foldThingHours_3 (by decide) ?_
  refine ra_istore dX9_foldThingHours_4 rfl (Nat.le_of_ble_eq_true rfl) ?_
  show Rn _ _ _ _ _ _ _ _ [some (rf E 0), some (.long zy1), none, some (.int zx3), some (.long zy1), none, some (.int (0 : Int32))] _ _ _
  exact rn_wk (L' := [some (rf E 0), none, none, some (.int zx3), some (.long zy1), none, some (.int (0 : Int32))]) (⟨rfl, ⟨rfl, ⟨rfl, ⟨rfl, trivial⟩⟩⟩⟩) hF
theorem cmX9_foldThingHours {E : En} {Q : Option Value → Hi → Prop} {H : Hi} {zy1 : Int64} {zx3 : Int32} 
    (hF : Rm E mX9_foldThingHours Q 6 [some (rf E 0), none, none, some (.int zx3), some (.long zy1), none, some (.int (0 : Int32))] [] H) :
    Cm E mX9_foldThingHours [rf E 0, .long zy1, .int zx3] H Q :=
  cm_of (by decide +kernel : plainName RX9 = true) (Nat.le_of_ble_eq_true rfl) rfl (sgX9_foldThingHours_0  hF)
theorem sgX9_foldThingHours_6 {E : En} {Q : Option Value → Hi → Prop} {H : Hi} {zx3 : Int32} {zy4 : Int64} {zx6 : Int32} 
    (hF : ((3 : Int32) ≤ zx6 → (Cm E mX6_placeOf [rf E (28 + 2 * 5), .int zx3] H (fun w zH_2 => ∃ zr_3 : Int32, w = some (.int zr_3) ∧ (∀ zx4_4 : Int64, zx4_4 = ((31 : Int64) * zy4) + (zr_3.toInt64) → (Cm E mX6_placeOf [rf E (28 + 2 * 23), .int zx3] zH_2 (fun w zH_5 => ∃ zr_6 : Int32, w = some (.int zr_6) ∧ (∀ zx4_7 : Int64, zx4_7 = ((31 : Int64) * zx4_4) + (zr_6.toInt64) → (Cm E mX2_firstGone [rf E 22, .int zx3] zH_5 (fun w zH_8 => ∃ zr_9 : Int32, w = some (.int zr_9) ∧ (Q (some (.long (((31 : Int64) * zx4_7) + (zr_9.toInt64)))) zH_8)))))))))) ∧ (¬ (3 : Int32) ≤ zx6 → (Cm E mX0_ofThing [rf E 5, .int zx3, .int zx6] H (fun w zH_10 => ∃ zr_11 : Int32, w = some (.int zr_11) ∧ (∀ zx4_12 : Int64, zx4_12 = ((31 : Int64) * zy4) + (zr_11.toInt64) → (∀ zx6_13 : Int32, zx6_13 = zx6 + (1 : Int32) → (Rm E mX9_foldThingHours Q 6 [some (rf E 0), none, none, some (.int zx3), some (.long zx4_12), none, some (.int zx6_13)] [] zH_10))))))) :
    Rm E mX9_foldThingHours Q 6 [some (rf E 0), none, none, some (.int zx3), some (.long zy4), none, some (.int zx6)] [] H := by
  refine rn_iload dX9_foldThingHours_6 rfl ?_
  refine rn_iconst (x := (3 : Int32)) dX9_foldThingHours_8 (by decide) ?_
  refine rn_icmp_ge (tgt := 38) dX9_foldThingHours_9 (by decide) (fun hc_1 => ?_) (fun hc_1 => ?_)
  · replace hF := hF.1 hc_1
    refine rn_ldc2 coRX9_276 dX9_foldThingHours_38 ?_
    refine rn_lload dX9_foldThingHours_41 rfl ?_
    refine rn_lmul dX9_foldThingHours_43 ?_
    refine rn_aload_n dX9_foldThingHours_44 rfl ?_
    refine rm_getr (r := 22) flRX9_52 rfl (by decide) rfl dX9_foldThingHours_45 ?_
    refine rm_getr (r := 25) flRX9_156 rfl (by decide) rfl dX9_foldThingHours_48 ?_
    refine rn_iconst (x := (5 : Int32)) dX9_foldThingHours_51 (by decide) ?_
    refine rj_aald (j := 5) (Cn := RX6) (r := (28 + 2 * 5)) ⟨by decide, by decide⟩ (st_beh _ (by decide : 5 < 24)).2 rfl (by decide) (by decide) rfl (by decide) dX9_foldThingHours_52 ?_
    refine rn_iload_n dX9_foldThingHours_53 rfl ?_
    refine rm_callV (c0 := (28 + 2 * 5)) (As := [.int zx3]) (st := [.long ((31 : Int64) * zy4)]) mlRX9_160 mdX6_placeOf (Nat.le_of_ble_eq_true rfl) (st_beh _ (by decide : 5 < 24)).1.2.1 (st_beh _ (by decide : 5 < 24)).1.1 (by decide) rfl rfl rfl (Nat.le_of_ble_eq_true rfl) ⟨Nat.le_refl _, Nat.le_refl _⟩ dX9_foldThingHours_54 ?_
    refine cm_mono hF (fun w zH_2 hF => ?_)
    obtain ⟨zr_3, rfl, hF⟩ := hF
    refine rn_i2l dX9_foldThingHours_57 ?_
    refine rn_ladd dX9_foldThingHours_58 ?_
    refine rn_lstore dX9_foldThingHours_59 rfl (Nat.le_of_ble_eq_true rfl) (fun zx4_4 ezx4_4 => ?_)
    replace hF := hF zx4_4 ezx4_4
    show Rn _ _ _ _ _ _ _ _ [some (rf E 0), none, none, some (.int zx3), some (.long zx4_4), none, some (.int zx6)] _ _ _
    refine rn_ldc2 coRX9_276 dX9_foldThingHours_61 ?_
    refine rn_lload dX9_foldThingHours_64 rfl ?_
    refine rn_lmul dX9_foldThingHours_66 ?_
    refine rn_aload_n dX9_foldThingHours_67 rfl ?_
    refine rm_getr (r := 22) flRX9_52 rfl (by decide) rfl dX9_foldThingHours_68 ?_
    refine rm_getr (r := 25) flRX9_156 rfl (by decide) rfl dX9_foldThingHours_71 ?_
    refine rn_bipush (x := (23 : Int32)) dX9_foldThingHours_74 (by decide) ?_
    refine rj_aald (j := 23) (Cn := RX6) (r := (28 + 2 * 23)) ⟨by decide, by decide⟩ (st_beh _ (by decide : 23 < 24)).2 rfl (by decide) (by decide) rfl (by decide) dX9_foldThingHours_76 ?_
    refine rn_iload_n dX9_foldThingHours_77 rfl ?_
    refine rm_callV (c0 := (28 + 2 * 23)) (As := [.int zx3]) (st := [.long ((31 : Int64) * zx4_4)]) mlRX9_160 mdX6_placeOf (Nat.le_of_ble_eq_true rfl) (st_beh _ (by decide : 23 < 24)).1.2.1 (st_beh _ (by decide : 23 < 24)).1.1 (by decide) rfl rfl rfl (Nat.le_of_ble_eq_true rfl) ⟨Nat.le_refl _, Nat.le_refl _⟩ dX9_foldThingHours_78 ?_
    refine cm_mono hF (fun w zH_5 hF => ?_)
    obtain ⟨zr_6, rfl, hF⟩ := hF
    refine rn_i2l dX9_foldThingHours_81 ?_
    refine rn_ladd dX9_foldThingHours_82 ?_
    refine rn_lstore dX9_foldThingHours_83 rfl (Nat.le_of_ble_eq_true rfl) (fun zx4_7 ezx4_7 => ?_)
    replace hF := hF zx4_7 ezx4_7
    show Rn _ _ _ _ _ _ _ _ [some (rf E 0), none, none, some (.int zx3), some (.long zx4_7), none, some (.int zx6)] _ _ _
    refine rn_ldc2 coRX9_276 dX9_foldThingHours_85 ?_
    refine rn_lload dX9_foldThingHours_88 rfl ?_
    refine rn_lmul dX9_foldThingHours_90 ?_
    refine rn_aload_n dX9_foldThingHours_91 rfl ?_
    refine rm_getr (r := 22) flRX9_52 rfl (by decide) rfl dX9_foldThingHours_92 ?_
    refine rn_iload_n dX9_foldThingHours_95 rfl ?_
    refine rm_callV (c0 := 22) (As := [.int zx3]) (st := [.long ((31 : Int64) * zx4_7)]) mlRX9_180 mdX2_firstGone (Nat.le_of_ble_eq_true rfl) rfl (by decide) (by decide) rfl rfl rfl (Nat.le_of_ble_eq_true rfl) ⟨Nat.le_refl _, Nat.le_refl _⟩ dX9_foldThingHours_96 ?_
    refine cm_mono hF (fun w zH_8 hF => ?_)
    obtain ⟨zr_9, rfl, hF⟩ := hF
    refine rn_i2l dX9_foldThingHours_99 ?_
    refine rn_ladd dX9_foldThingHours_100 ?_
    exact rm_lret rfl dX9_foldThingHours_101 hF
  · replace hF := hF.2 hc_1
    refine rn_ldc2 coRX9_276 dX9_foldThingHours_12 ?_
    refine rn_lload dX9_foldThingHours_15 rfl ?_
    refine rn_lmul dX9_foldThingHours_17 ?_
    refine rn_aload_n dX9_foldThingHours_18 rfl ?_
    refine rm_getr (r := 5) flRX9_36 rfl (by decide) rfl dX9_foldThingHours_19 ?_
    refine rn_iload_n dX9_foldThingHours_22 rfl ?_
    refine rn_iload dX9_foldThingHours_23 rfl ?_
    refine rm_callV (c0 := 5) (As := [.int zx3, .int zx6]) (st := [.long ((31 : Int64) * zy4)]) mlRX9_109 mdX0_ofThing (Nat.le_of_ble_eq_true rfl) rfl (by decide) (by decide) rfl rfl rfl (Nat.le_of_ble_eq_true rfl) ⟨Nat.le_refl _, Nat.le_refl _⟩ dX9_foldThingHours_25 ?_
    refine cm_mono hF (fun w zH_10 hF => ?_)
    obtain ⟨zr_11, rfl, hF⟩ := hF
    refine rn_i2l dX9_foldThingHours_28 ?_
    refine rn_ladd dX9_foldThingHours_29 ?_
    refine rn_lstore dX9_foldThingHours_30 rfl (Nat.le_of_ble_eq_true rfl) (fun zx4_12 ezx4_12 => ?_)
    replace hF := hF zx4_12 ezx4_12
    show Rn _ _ _ _ _ _ _ _ [some (rf E 0), none, none, some (.int zx3), some (.long zx4_12), none, some (.int zx6)] _ _ _
    refine rn_iinc (w := (1 : Int32)) dX9_foldThingHours_32 rfl (by decide) rfl (Nat.le_of_ble_eq_true rfl) (fun zx6_13 ezx6_13 => ?_)
    replace hF := hF zx6_13 ezx6_13
    show Rn _ _ _ _ _ _ _ _ [some (rf E 0), none, none, some (.int zx3), some (.long zx4_12), none, some (.int zx6_13)] _ _ _
    refine rn_goto (tgt := 6) dX9_foldThingHours_35 (by decide) ?_
    exact rn_wk (L' := [some (rf E 0), none, none, some (.int zx3), some (.long zx4_12), none, some (.int zx6_13)]) (⟨rfl, ⟨rfl, ⟨rfl, ⟨rfl, trivial⟩⟩⟩⟩) hF
theorem sgX9_foldThingGuesses_0 {E : En} {Q : Option Value → Hi → Prop} {H : Hi} {zy1 : Int64} {zx3 : Int32} 
    (hF : ((H 5 1) ≤ 0 → (Rm E mX9_foldThingGuesses Q 18 [some (rf E 0), none, none, some (.int zx3), some (.long zy1), none, none] [.int (0 : Int32)] H)) ∧ (¬ (H 5 1) ≤ 0 → (Rm E mX9_foldThingGuesses Q 18 [some (rf E 0), none, none, some (.int zx3), some (.long zy1), none, none] [.int (1 : Int32)] H))) :
    Rm E mX9_foldThingGuesses Q 0 [some (rf E 0), some (.long zy1), none, some (.int zx3), none, none, none] [] H := by
  refine rn_lload_n dX9_foldThingGuesses_0 rfl ?_
  refine ra_lstore dX9_foldThingGuesses_1 rfl (Nat.le_of_ble_eq_true rfl) ?_
  show Rn _ _ _ _ _ _ _ _ [some (rf E 0), some (.long zy1), none, some (.int zx3), some (.long zy1), none, none] _ _ _
  refine rn_aload_n dX9_foldThingGuesses_3 rfl ?_
  refine rm_getr (r := 5) flRX9_36 rfl (by decide) rfl dX9_foldThingGuesses_4 ?_
  refine rm_geti flRX9_288 rfl (by decide) rfl dX9_foldThingGuesses_7 ?_
  refine rn_if_le (tgt := 17) dX9_foldThingGuesses_10 (by decide) (fun hc_2 => ?_) (fun hc_2 => ?_)
  · replace hF := hF.1 hc_2
    refine rn_iconst (x := (0 : Int32)) dX9_foldThingGuesses_17 (by decide) ?_
    exact rn_wk (L' := [some (rf E 0), none, none, some (.int zx3), some (.long zy1), none, none]) (⟨rfl, ⟨rfl, ⟨rfl, trivial⟩⟩⟩) hF
  · replace hF := hF.2 hc_2
    refine rn_iconst (x := (1 : Int32)) dX9_foldThingGuesses_13 (by decide) ?_
    refine rn_goto (tgt := 18) dX9_foldThingGuesses_14 (by decide) ?_
    exact rn_wk (L' := [some (rf E 0), none, none, some (.int zx3), some (.long zy1), none, none]) (⟨rfl, ⟨rfl, ⟨rfl, trivial⟩⟩⟩) hF
theorem cmX9_foldThingGuesses {E : En} {Q : Option Value → Hi → Prop} {H : Hi} {zy1 : Int64} {zx3 : Int32} 
    (hF : ((H 5 1) ≤ 0 → (Rm E mX9_foldThingGuesses Q 18 [some (rf E 0), none, none, some (.int zx3), some (.long zy1), none, none] [.int (0 : Int32)] H)) ∧ (¬ (H 5 1) ≤ 0 → (Rm E mX9_foldThingGuesses Q 18 [some (rf E 0), none, none, some (.int zx3), some (.long zy1), none, none] [.int (1 : Int32)] H))) :
    Cm E mX9_foldThingGuesses [rf E 0, .long zy1, .int zx3] H Q :=
  cm_of (by decide +kernel : plainName RX9 = true) (Nat.le_of_ble_eq_true rfl) rfl (sgX9_foldThingGuesses_0  hF)
theorem sgX9_foldThingGuesses_18 {E : En} {Q : Option Value → Hi → Prop} {H : Hi} {zx3 : Int32} {zy4 : Int64} {zt0 : Int32} 
    (hF : (zt0 = 0 → ((zt0 = 0 → (Rm E mX9_foldThingGuesses Q 63 [some (rf E 0), none, none, some (.int zx3), none, none, some (.int zt0)] [.int (-2 : Int32), .long ((31 : Int64) * zy4)] H)) ∧ (¬ zt0 = 0 → (Cm E mX4_told [rf E 76, .int (-1 : Int32)] H (fun w zH_4 => ∃ zr_5 : Int32, w = some (.int zr_5) ∧ (Rm E mX9_foldThingGuesses Q 63 [some (rf E 0), none, none, some (.int zx3), none, none, some (.int zt0)] [.int zr_5, .long ((31 : Int64) * zy4)] zH_4)))))) ∧ (¬ zt0 = 0 → (Cm E mX3_planLend [rf E 75, .int (0 : Int32), .int zx3, .int (3 : Int32), .int (4 : Int32)] H (fun w zH_6 => w = none ∧ (Rm E mX9_foldThingGuesses Q 36 [some (rf E 0), none, none, some (.int zx3), some (.long zy4), none, some (.int zt0)] [] zH_6))))) :
    Rm E mX9_foldThingGuesses Q 18 [some (rf E 0), none, none, some (.int zx3), some (.long zy4), none, none] [.int zt0] H := by
  refine ra_istore dX9_foldThingGuesses_18 rfl (Nat.le_of_ble_eq_true rfl) ?_
  show Rn _ _ _ _ _ _ _ _ [some (rf E 0), none, none, some (.int zx3), some (.long zy4), none, some (.int zt0)] _ _ _
  refine rn_iload dX9_foldThingGuesses_20 rfl ?_
  refine rn_if_eq (tgt := 36) dX9_foldThingGuesses_22 (by decide) (fun hc_2 => ?_) (fun hc_2 => ?_)
  · replace hF := hF.1 hc_2
    refine rn_ldc2 coRX9_276 dX9_foldThingGuesses_36 ?_
    refine rn_lload dX9_foldThingGuesses_39 rfl ?_
    refine rn_lmul dX9_foldThingGuesses_41 ?_
    refine rn_iload dX9_foldThingGuesses_42 rfl ?_
    refine rn_if_eq (tgt := 61) dX9_foldThingGuesses_44 (by decide) (fun hc_3 => ?_) (fun hc_3 => ?_)
    · replace hF := hF.1 hc_3
      refine rn_bipush (x := (-2 : Int32)) dX9_foldThingGuesses_61 (by decide) ?_
      exact rn_wk (L' := [some (rf E 0), none, none, some (.int zx3), none, none, some (.int zt0)]) (⟨rfl, ⟨rfl, ⟨rfl, trivial⟩⟩⟩) hF
    · replace hF := hF.2 hc_3
      refine rn_aload_n dX9_foldThingGuesses_47 rfl ?_
      refine rm_getr (r := 75) flRX9_61 rfl (by decide) rfl dX9_foldThingGuesses_48 ?_
      refine rm_getr (r := 76) flRX9_190 rfl (by decide) rfl dX9_foldThingGuesses_51 ?_
      refine rn_iconst (x := (-1 : Int32)) dX9_foldThingGuesses_54 (by decide) ?_
      refine rm_callV (c0 := 76) (As := [.int (-1 : Int32)]) (st := [.long ((31 : Int64) * zy4)]) mlRX9_194 mdX4_told (Nat.le_of_ble_eq_true rfl) rfl (by decide) (by decide) rfl rfl rfl (Nat.le_of_ble_eq_true rfl) ⟨Nat.le_refl _, Nat.le_refl _⟩ dX9_foldThingGuesses_55 ?_
      refine cm_mono hF (fun w zH_4 hF => ?_)
      obtain ⟨zr_5, rfl, hF⟩ := hF
      refine rn_goto (tgt := 63) dX9_foldThingGuesses_58 (by decide) ?_
      exact rn_wk (L' := [some (rf E 0), none, none, some (.int zx3), none, none, some (.int zt0)]) (⟨rfl, ⟨rfl, ⟨rfl, trivial⟩⟩⟩) hF
  · replace hF := hF.2 hc_2
    refine rn_aload_n dX9_foldThingGuesses_25 rfl ?_
    refine rm_getr (r := 75) flRX9_61 rfl (by decide) rfl dX9_foldThingGuesses_26 ?_
    refine rn_iconst (x := (0 : Int32)) dX9_foldThingGuesses_29 (by decide) ?_
    refine rn_iload_n dX9_foldThingGuesses_30 rfl ?_
    refine rn_iconst (x := (3 : Int32)) dX9_foldThingGuesses_31 (by decide) ?_
    refine rn_iconst (x := (4 : Int32)) dX9_foldThingGuesses_32 (by decide) ?_
    refine rm_callV (c0 := 75) (As := [.int (0 : Int32), .int zx3, .int (3 : Int32), .int (4 : Int32)]) (st := []) mlRX9_186 mdX3_planLend (Nat.le_of_ble_eq_true rfl) rfl (by decide) (by decide) rfl rfl rfl (Nat.le_of_ble_eq_true rfl) ⟨Nat.le_refl _, Nat.le_refl _⟩ dX9_foldThingGuesses_33 ?_
    refine cm_mono hF (fun w zH_6 hF => ?_)
    obtain ⟨rfl, hF⟩ := hF
    exact rn_wk (L' := [some (rf E 0), none, none, some (.int zx3), some (.long zy4), none, some (.int zt0)]) (⟨rfl, ⟨rfl, ⟨rfl, ⟨rfl, trivial⟩⟩⟩⟩) hF
theorem sgX9_foldThingGuesses_63 {E : En} {Q : Option Value → Hi → Prop} {H : Hi} {zx3 : Int32} {zx6 : Int32} {zu0 : Int64} {zt1 : Int32} 
    (hF : ∀ zx4_1 : Int64, zx4_1 = zu0 + (zt1.toInt64) → ((zx6 = 0 → (Rm E mX9_foldThingGuesses Q 94 [some (rf E 0), none, none, some (.int zx3), none, none, some (.int zx6)] [.int (-2 : Int32), .long ((31 : Int64) * zx4_1)] H)) ∧ (¬ zx6 = 0 → (Cm E mX4_told [rf E 76, .int (0 : Int32)] H (fun w zH_3 => ∃ zr_4 : Int32, w = some (.int zr_4) ∧ (Rm E mX9_foldThingGuesses Q 94 [some (rf E 0), none, none, some (.int zx3), none, none, some (.int zx6)] [.int zr_4, .long ((31 : Int64) * zx4_1)] zH_3)))))) :
    Rm E mX9_foldThingGuesses Q 63 [some (rf E 0), none, none, some (.int zx3), none, none, some (.int zx6)] [.int zt1, .long zu0] H := by
  refine rn_i2l dX9_foldThingGuesses_63 ?_
  refine rn_ladd dX9_foldThingGuesses_64 ?_
  refine rn_lstore dX9_foldThingGuesses_65 rfl (Nat.le_of_ble_eq_true rfl) (fun zx4_1 ezx4_1 => ?_)
  replace hF := hF zx4_1 ezx4_1
  show Rn _ _ _ _ _ _ _ _ [some (rf E 0), none, none, some (.int zx3), some (.long zx4_1), none, some (.int zx6)] _ _ _
  refine rn_ldc2 coRX9_276 dX9_foldThingGuesses_67 ?_
  refine rn_lload dX9_foldThingGuesses_70 rfl ?_
  refine rn_lmul dX9_foldThingGuesses_72 ?_
  refine rn_iload dX9_foldThingGuesses_73 rfl ?_
  refine rn_if_eq (tgt := 92) dX9_foldThingGuesses_75 (by decide) (fun hc_2 => ?_) (fun hc_2 => ?_)
  · replace hF := hF.1 hc_2
    refine rn_bipush (x := (-2 : Int32)) dX9_foldThingGuesses_92 (by decide) ?_
    exact rn_wk (L' := [some (rf E 0), none, none, some (.int zx3), none, none, some (.int zx6)]) (⟨rfl, ⟨rfl, ⟨rfl, trivial⟩⟩⟩) hF
  · replace hF := hF.2 hc_2
    refine rn_aload_n dX9_foldThingGuesses_78 rfl ?_
    refine rm_getr (r := 75) flRX9_61 rfl (by decide) rfl dX9_foldThingGuesses_79 ?_
    refine rm_getr (r := 76) flRX9_190 rfl (by decide) rfl dX9_foldThingGuesses_82 ?_
    refine rn_iconst (x := (0 : Int32)) dX9_foldThingGuesses_85 (by decide) ?_
    refine rm_callV (c0 := 76) (As := [.int (0 : Int32)]) (st := [.long ((31 : Int64) * zx4_1)]) mlRX9_194 mdX4_told (Nat.le_of_ble_eq_true rfl) rfl (by decide) (by decide) rfl rfl rfl (Nat.le_of_ble_eq_true rfl) ⟨Nat.le_refl _, Nat.le_refl _⟩ dX9_foldThingGuesses_86 ?_
    refine cm_mono hF (fun w zH_3 hF => ?_)
    obtain ⟨zr_4, rfl, hF⟩ := hF
    refine rn_goto (tgt := 94) dX9_foldThingGuesses_89 (by decide) ?_
    exact rn_wk (L' := [some (rf E 0), none, none, some (.int zx3), none, none, some (.int zx6)]) (⟨rfl, ⟨rfl, ⟨rfl, trivial⟩⟩⟩) hF
theorem sgX9_foldThingGuesses_36 {E : En} {Q : Option Value → Hi → Prop} {H : Hi} {zx3 : Int32} {zy4 : Int64} {zx6 : Int32} 
    (hF : (zx6 = 0 → (Rm E mX9_foldThingGuesses Q 63 [some (rf E 0), none, none, some (.int zx3), none, none, some (.int zx6)] [.int (-2 : Int32), .long ((31 : Int64) * zy4)] H)) ∧ (¬ zx6 = 0 → (Cm E mX4_told [rf E 76, .int (-1 : Int32)] H (fun w zH_2 => ∃ zr_3 : Int32, w = some (.int zr_3) ∧ (Rm E mX9_foldThingGuesses Q 63 [some (rf E 0), none, none, some (.int zx3), none, none, some (.int zx6)] [.int zr_3, .long ((31 : Int64) * zy4)] zH_2))))) :
    Rm E mX9_foldThingGuesses Q 36 [some (rf E 0), none, none, some (.int zx3), some (.long zy4), none, some (.int zx6)] [] H := by
  refine rn_ldc2 coRX9_276 dX9_foldThingGuesses_36 ?_
  refine rn_lload dX9_foldThingGuesses_39 rfl ?_
  refine rn_lmul dX9_foldThingGuesses_41 ?_
  refine rn_iload dX9_foldThingGuesses_42 rfl ?_
  refine rn_if_eq (tgt := 61) dX9_foldThingGuesses_44 (by decide) (fun hc_1 => ?_) (fun hc_1 => ?_)
  · replace hF := hF.1 hc_1
    refine rn_bipush (x := (-2 : Int32)) dX9_foldThingGuesses_61 (by decide) ?_
    exact rn_wk (L' := [some (rf E 0), none, none, some (.int zx3), none, none, some (.int zx6)]) (⟨rfl, ⟨rfl, ⟨rfl, trivial⟩⟩⟩) hF
  · replace hF := hF.2 hc_1
    refine rn_aload_n dX9_foldThingGuesses_47 rfl ?_
    refine rm_getr (r := 75) flRX9_61 rfl (by decide) rfl dX9_foldThingGuesses_48 ?_
    refine rm_getr (r := 76) flRX9_190 rfl (by decide) rfl dX9_foldThingGuesses_51 ?_
    refine rn_iconst (x := (-1 : Int32)) dX9_foldThingGuesses_54 (by decide) ?_
    refine rm_callV (c0 := 76) (As := [.int (-1 : Int32)]) (st := [.long ((31 : Int64) * zy4)]) mlRX9_194 mdX4_told (Nat.le_of_ble_eq_true rfl) rfl (by decide) (by decide) rfl rfl rfl (Nat.le_of_ble_eq_true rfl) ⟨Nat.le_refl _, Nat.le_refl _⟩ dX9_foldThingGuesses_55 ?_
    refine cm_mono hF (fun w zH_2 hF => ?_)
    obtain ⟨zr_3, rfl, hF⟩ := hF
    refine rn_goto (tgt := 63) dX9_foldThingGuesses_58 (by decide) ?_
    exact rn_wk (L' := [some (rf E 0), none, none, some (.int zx3), none, none, some (.int zx6)]) (⟨rfl, ⟨rfl, ⟨rfl, trivial⟩⟩⟩) hF
theorem sgX9_foldThingGuesses_94 {E : En} {Q : Option Value → Hi → Prop} {H : Hi} {zx3 : Int32} {zx6 : Int32} {zu0 : Int64} {zt1 : Int32} 
    (hF : ∀ zx4_1 : Int64, zx4_1 = zu0 + (zt1.toInt64) → (Cm E mX1_suspects [rf E 86, .int zx3] H (fun w zH_2 => ∃ zr_3 : Int32, w = some (.int zr_3) ∧ (∀ zx4_4 : Int64, zx4_4 = ((31 : Int64) * zx4_1) + (zr_3.toInt64) → ((zx6 = 0 → (Rm E mX9_foldThingGuesses Q 141 [some (rf E 0), none, none, some (.int zx3), none, none, none] [.int (-2 : Int32), .long ((31 : Int64) * zx4_4)] zH_2)) ∧ (¬ zx6 = 0 → (Cm E mX1_bestHour [rf E 86, .int (0 : Int32), .int zx3] zH_2 (fun w zH_6 => ∃ zr_7 : Int32, w = some (.int zr_7) ∧ (Rm E mX9_foldThingGuesses Q 141 [some (rf E 0), none, none, some (.int zx3), none, none, none] [.int zr_7, .long ((31 : Int64) * zx4_4)] zH_6))))))))) :
    Rm E mX9_foldThingGuesses Q 94 [some (rf E 0), none, none, some (.int zx3), none, none, some (.int zx6)] [.int zt1, .long zu0] H := by
  refine rn_i2l dX9_foldThingGuesses_94 ?_
  refine rn_ladd dX9_foldThingGuesses_95 ?_
  refine rn_lstore dX9_foldThingGuesses_96 rfl (Nat.le_of_ble_eq_true rfl) (fun zx4_1 ezx4_1 => ?_)
  replace hF := hF zx4_1 ezx4_1
  show Rn _ _ _ _ _ _ _ _ [some (rf E 0), none, none, some (.int zx3), some (.long zx4_1), none, some (.int zx6)] _ _ _
  refine rn_ldc2 coRX9_276 dX9_foldThingGuesses_98 ?_
  refine rn_lload dX9_foldThingGuesses_101 rfl ?_
  refine rn_lmul dX9_foldThingGuesses_103 ?_
  refine rn_aload_n dX9_foldThingGuesses_104 rfl ?_
  refine rm_getr (r := 86) flRX9_68 rfl (by decide) rfl dX9_foldThingGuesses_105 ?_
  refine rn_iload_n dX9_foldThingGuesses_108 rfl ?_
  refine rm_callV (c0 := 86) (As := [.int zx3]) (st := [.long ((31 : Int64) * zx4_1)]) mlRX9_218 mdX1_suspects (Nat.le_of_ble_eq_true rfl) rfl (by decide) (by decide) rfl rfl rfl (Nat.le_of_ble_eq_true rfl) ⟨Nat.le_refl _, Nat.le_refl _⟩ dX9_foldThingGuesses_109 ?_
  refine cm_mono hF (fun w zH_2 hF => ?_)
  obtain ⟨zr_3, rfl, hF⟩ := hF
  refine rn_i2l dX9_foldThingGuesses_112 ?_
  refine rn_ladd dX9_foldThingGuesses_113 ?_
  refine rn_lstore dX9_foldThingGuesses_114 rfl (Nat.le_of_ble_eq_true rfl) (fun zx4_4 ezx4_4 => ?_)
  replace hF := hF zx4_4 ezx4_4
  show Rn _ _ _ _ _ _ _ _ [some (rf E 0), none, none, some (.int zx3), some (.long zx4_4), none, some (.int zx6)] _ _ _
  refine rn_ldc2 coRX9_276 dX9_foldThingGuesses_116 ?_
  refine rn_lload dX9_foldThingGuesses_119 rfl ?_
  refine rn_lmul dX9_foldThingGuesses_121 ?_
  refine rn_iload dX9_foldThingGuesses_122 rfl ?_
  refine rn_if_eq (tgt := 139) dX9_foldThingGuesses_124 (by decide) (fun hc_5 => ?_) (fun hc_5 => ?_)
  · replace hF := hF.1 hc_5
    refine rn_bipush (x := (-2 : Int32)) dX9_foldThingGuesses_139 (by decide) ?_
    exact rn_wk (L' := [some (rf E 0), none, none, some (.int zx3), none, none, none]) (⟨rfl, ⟨rfl, trivial⟩⟩) hF
  · replace hF := hF.2 hc_5
    refine rn_aload_n dX9_foldThingGuesses_127 rfl ?_
    refine rm_getr (r := 86) flRX9_68 rfl (by decide) rfl dX9_foldThingGuesses_128 ?_
    refine rn_iconst (x := (0 : Int32)) dX9_foldThingGuesses_131 (by decide) ?_
    refine rn_iload_n dX9_foldThingGuesses_132 rfl ?_
    refine rm_callV (c0 := 86) (As := [.int (0 : Int32), .int zx3]) (st := [.long ((31 : Int64) * zx4_4)]) mlRX9_221 mdX1_bestHour (Nat.le_of_ble_eq_true rfl) rfl (by decide) (by decide) rfl rfl rfl (Nat.le_of_ble_eq_true rfl) ⟨Nat.le_refl _, Nat.le_refl _⟩ dX9_foldThingGuesses_133 ?_
    refine cm_mono hF (fun w zH_6 hF => ?_)
    obtain ⟨zr_7, rfl, hF⟩ := hF
    refine rn_goto (tgt := 141) dX9_foldThingGuesses_136 (by decide) ?_
    exact rn_wk (L' := [some (rf E 0), none, none, some (.int zx3), none, none, none]) (⟨rfl, ⟨rfl, trivial⟩⟩) hF
theorem sgX9_foldThingGuesses_141 {E : En} {Q : Option Value → Hi → Prop} {H : Hi} {zx3 : Int32} {zu0 : Int64} {zt1 : Int32} 
    (hF : ∀ zx4_1 : Int64, zx4_1 = zu0 + (zt1.toInt64) → (Cm E mX2_stayChance [rf E 22, .int (5 : Int32), .int zx3, .int (9 : Int32), .int (0 : Int32)] H (fun w zH_2 => ∃ zr_3 : Int64, w = some (.long zr_3) ∧ (∀ zx4_4 : Int64, zx4_4 = ((31 : Int64) * zx4_1) + zr_3 → (Cm E mX2_stayChance [rf E 22, .int (5 : Int32), .int zx3, .int (9 : Int32), .int (1 : Int32)] zH_2 (fun w zH_5 => ∃ zr_6 : Int64, w = some (.long zr_6) ∧ (∀ zx4_7 : Int64, zx4_7 = ((31 : Int64) * zx4_4) + zr_6 → (Cm E mX2_dayBySeed [rf E 22, .int (7 : Int32), .int (12 : Int32), .int zx3] zH_5 (fun w zH_8 => ∃ zr_9 : Int32, w = some (.int zr_9) ∧ (Q (some (.long (((31 : Int64) * zx4_7) + (zr_9.toInt64)))) zH_8)))))))))) :
    Rm E mX9_foldThingGuesses Q 141 [some (rf E 0), none, none, some (.int zx3), none, none, none] [.int zt1, .long zu0] H := by
  refine rn_i2l dX9_foldThingGuesses_141 ?_
  refine rn_ladd dX9_foldThingGuesses_142 ?_
  refine rn_lstore dX9_foldThingGuesses_143 rfl (Nat.le_of_ble_eq_true rfl) (fun zx4_1 ezx4_1 => ?_)
  replace hF := hF zx4_1 ezx4_1
  show Rn _ _ _ _ _ _ _ _ [some (rf E 0), none, none, some (.int zx3), some (.long zx4_1), none, none] _ _ _
  refine rn_ldc2 coRX9_276 dX9_foldThingGuesses_145 ?_
  refine rn_lload dX9_foldThingGuesses_148 rfl ?_
  refine rn_lmul dX9_foldThingGuesses_150 ?_
  refine rn_aload_n dX9_foldThingGuesses_151 rfl ?_
  refine rm_getr (r := 22) flRX9_52 rfl (by decide) rfl dX9_foldThingGuesses_152 ?_
  refine rn_iconst (x := (5 : Int32)) dX9_foldThingGuesses_155 (by decide) ?_
  refine rn_iload_n dX9_foldThingGuesses_156 rfl ?_
  refine rn_bipush (x := (9 : Int32)) dX9_foldThingGuesses_157 (by decide) ?_
  refine rn_iconst (x := (0 : Int32)) dX9_foldThingGuesses_159 (by decide) ?_
  refine rm_callV (c0 := 22) (As := [.int (5 : Int32), .int zx3, .int (9 : Int32), .int (0 : Int32)]) (st := [.long ((31 : Int64) * zx4_1)]) mlRX9_226 mdX2_stayChance (Nat.le_of_ble_eq_true rfl) rfl (by decide) (by decide) rfl rfl rfl (Nat.le_of_ble_eq_true rfl) ⟨Nat.le_refl _, Nat.le_refl _⟩ dX9_foldThingGuesses_160 ?_
  refine cm_mono hF (fun w zH_2 hF => ?_)
  obtain ⟨zr_3, rfl, hF⟩ := hF
  refine rn_ladd dX9_foldThingGuesses_163 ?_
  refine rn_lstore dX9_foldThingGuesses_164 rfl (Nat.le_of_ble_eq_true rfl) (fun zx4_4 ezx4_4 => ?_)
  replace hF := hF zx4_4 ezx4_4
  show Rn _ _ _ _ _ _ _ _ [some (rf E 0), none, none, some (.int zx3), some (.long zx4_4), none, none] _ _ _
  refine rn_ldc2 coRX9_276 dX9_foldThingGuesses_166 ?_
  refine rn_lload dX9_foldThingGuesses_169 rfl ?_
  refine rn_lmul dX9_foldThingGuesses_171 ?_
  refine rn_aload_n dX9_foldThingGuesses_172 rfl ?_
  refine rm_getr (r := 22) flRX9_52 rfl (by decide) rfl dX9_foldThingGuesses_173 ?_
  refine rn_iconst (x := (5 : Int32)) dX9_foldThingGuesses_176 (by decide) ?_
  refine rn_iload_n dX9_foldThingGuesses_177 rfl ?_
  refine rn_bipush (x := (9 : Int32)) dX9_foldThingGuesses_178 (by decide) ?_
  refine rn_iconst (x := (1 : Int32)) dX9_foldThingGuesses_180 (by decide) ?_
  refine rm_callV (c0 := 22) (As := [.int (5 : Int32), .int zx3, .int (9 : Int32), .int (1 : Int32)]) (st := [.long ((31 : Int64) * zx4_4)]) mlRX9_226 mdX2_stayChance (Nat.le_of_ble_eq_true rfl) rfl (by decide) (by decide) rfl rfl rfl (Nat.le_of_ble_eq_true rfl) ⟨Nat.le_refl _, Nat.le_refl _⟩ dX9_foldThingGuesses_181 ?_
  refine cm_mono hF (fun w zH_5 hF => ?_)
  obtain ⟨zr_6, rfl, hF⟩ := hF
  refine rn_ladd dX9_foldThingGuesses_184 ?_
  refine rn_lstore dX9_foldThingGuesses_185 rfl (Nat.le_of_ble_eq_true rfl) (fun zx4_7 ezx4_7 => ?_)
  replace hF := hF zx4_7 ezx4_7
  show Rn _ _ _ _ _ _ _ _ [some (rf E 0), none, none, some (.int zx3), some (.long zx4_7), none, none] _ _ _
  refine rn_ldc2 coRX9_276 dX9_foldThingGuesses_187 ?_
  refine rn_lload dX9_foldThingGuesses_190 rfl ?_
  refine rn_lmul dX9_foldThingGuesses_192 ?_
  refine rn_aload_n dX9_foldThingGuesses_193 rfl ?_
  refine rm_getr (r := 22) flRX9_52 rfl (by decide) rfl dX9_foldThingGuesses_194 ?_
  refine rn_bipush (x := (7 : Int32)) dX9_foldThingGuesses_197 (by decide) ?_
  refine rn_bipush (x := (12 : Int32)) dX9_foldThingGuesses_199 (by decide) ?_
  refine rn_iload_n dX9_foldThingGuesses_201 rfl ?_
  refine rm_callV (c0 := 22) (As := [.int (7 : Int32), .int (12 : Int32), .int zx3]) (st := [.long ((31 : Int64) * zx4_7)]) mlRX9_230 mdX2_dayBySeed (Nat.le_of_ble_eq_true rfl) rfl (by decide) (by decide) rfl rfl rfl (Nat.le_of_ble_eq_true rfl) ⟨Nat.le_refl _, Nat.le_refl _⟩ dX9_foldThingGuesses_202 ?_
  refine cm_mono hF (fun w zH_8 hF => ?_)
  obtain ⟨zr_9, rfl, hF⟩ := hF
  refine rn_i2l dX9_foldThingGuesses_205 ?_
  refine rn_ladd dX9_foldThingGuesses_206 ?_
  exact rm_lret rfl dX9_foldThingGuesses_207 hF
theorem sgX9_foldCousin_0 {E : En} {Q : Option Value → Hi → Prop} {H : Hi} {zy1 : Int64} {zx3 : Int32} 
    (hF : Cm E mX0_ofCousin [rf E 5, .int zx3, .int (0 : Int32)] H (fun w zH_2 => ∃ zr_3 : Int32, w = some (.int zr_3) ∧ (∀ zx4_4 : Int64, zx4_4 = ((31 : Int64) * zy1) + (zr_3.toInt64) → (Cm E mX0_ofCousin [rf E 5, .int zx3, .int (1 : Int32)] zH_2 (fun w zH_5 => ∃ zr_6 : Int32, w = some (.int zr_6) ∧ (∀ zx4_7 : Int64, zx4_7 = ((31 : Int64) * zx4_4) + (zr_6.toInt64) → (Cm E mX2_heldBy [rf E 22, .int (9 : Int32), .int zx3] zH_5 (fun w zH_8 => ∃ zr_9 : Int32, w = some (.int zr_9) ∧ (∀ zx4_10 : Int64, zx4_10 = ((31 : Int64) * zx4_7) + (zr_9.toInt64) → (((zH_8 5 0) ≤ 0 → (Q (some (.long (((31 : Int64) * zx4_10) + ((-2 : Int32).toInt64)))) zH_8)) ∧ (¬ (zH_8 5 0) ≤ 0 → (Cm E mX1_fittingHours [rf E 86, .int zx3, .int (0 : Int32)] zH_8 (fun w zH_12 => ∃ zr_13 : Int32, w = some (.int zr_13) ∧ (Q (some (.long (((31 : Int64) * zx4_10) + (zr_13.toInt64)))) zH_12)))))))))))))) :
    Rm E mX9_foldCousin Q 0 [some (rf E 0), some (.long zy1), none, some (.int zx3), none, none] [] H := by
  refine rn_lload_n dX9_foldCousin_0 rfl ?_
  refine ra_lstore dX9_foldCousin_1 rfl (Nat.le_of_ble_eq_true rfl) ?_
  show Rn _ _ _ _ _ _ _ _ [some (rf E 0), some (.long zy1), none, some (.int zx3), some (.long zy1), none] _ _ _
  refine rn_ldc2 coRX9_276 dX9_foldCousin_3 ?_
  refine rn_lload dX9_foldCousin_6 rfl ?_
  refine rn_lmul dX9_foldCousin_8 ?_
  refine rn_aload_n dX9_foldCousin_9 rfl ?_
  refine rm_getr (r := 5) flRX9_36 rfl (by decide) rfl dX9_foldCousin_10 ?_
  refine rn_iload_n dX9_foldCousin_13 rfl ?_
  refine rn_iconst (x := (0 : Int32)) dX9_foldCousin_14 (by decide) ?_
  refine rm_callV (c0 := 5) (As := [.int zx3, .int (0 : Int32)]) (st := [.long ((31 : Int64) * zy1)]) mlRX9_119 mdX0_ofCousin (Nat.le_of_ble_eq_true rfl) rfl (by decide) (by decide) rfl rfl rfl (Nat.le_of_ble_eq_true rfl) ⟨Nat.le_refl _, Nat.le_refl _⟩ dX9_foldCousin_15 ?_
  refine cm_mono hF (fun w zH_2 hF => ?_)
  obtain ⟨zr_3, rfl, hF⟩ := hF
  refine rn_i2l dX9_foldCousin_18 ?_
  refine rn_ladd dX9_foldCousin_19 ?_
  refine rn_lstore dX9_foldCousin_20 rfl (Nat.le_of_ble_eq_true rfl) (fun zx4_4 ezx4_4 => ?_)
  replace hF := hF zx4_4 ezx4_4
  show Rn _ _ _ _ _ _ _ _ [some (rf E 0), some (.long zy1), none, some (.int zx3), some (.long zx4_4), none] _ _ _
  refine rn_ldc2 coRX9_276 dX9_foldCousin_22 ?_
  refine rn_lload dX9_foldCousin_25 rfl ?_
  refine rn_lmul dX9_foldCousin_27 ?_
  refine rn_aload_n dX9_foldCousin_28 rfl ?_
  refine rm_getr (r := 5) flRX9_36 rfl (by decide) rfl dX9_foldCousin_29 ?_
  refine rn_iload_n dX9_foldCousin_32 rfl ?_
  refine rn_iconst (x := (1 : Int32)) dX9_foldCousin_33 (by decide) ?_
  refine rm_callV (c0 := 5) (As := [.int zx3, .int (1 : Int32)]) (st := [.long ((31 : Int64) * zx4_4)]) mlRX9_119 mdX0_ofCousin (Nat.le_of_ble_eq_true rfl) rfl (by decide) (by decide) rfl rfl rfl (Nat.le_of_ble_eq_true rfl) ⟨Nat.le_refl _, Nat.le_refl _⟩ dX9_foldCousin_34 ?_
  refine cm_mono hF (fun w zH_5 hF => ?_)
  obtain ⟨zr_6, rfl, hF⟩ := hF
  refine rn_i2l dX9_foldCousin_37 ?_
  refine rn_ladd dX9_foldCousin_38 ?_
  refine rn_lstore dX9_foldCousin_39 rfl (Nat.le_of_ble_eq_true rfl) (fun zx4_7 ezx4_7 => ?_)
  replace hF := hF zx4_7 ezx4_7
  show Rn _ _ _ _ _ _ _ _ [some (rf E 0), some (.long zy1), none, some (.int zx3), some (.long zx4_7), none] _ _ _
  refine rn_ldc2 coRX9_276 dX9_foldCousin_41 ?_
  refine rn_lload dX9_foldCousin_44 rfl ?_
  refine rn_lmul dX9_foldCousin_46 ?_
  refine rn_aload_n dX9_foldCousin_47 rfl ?_
  refine rm_getr (r := 22) flRX9_52 rfl (by decide) rfl dX9_foldCousin_48 ?_
  refine rn_bipush (x := (9 : Int32)) dX9_foldCousin_51 (by decide) ?_
  refine rn_iload_n dX9_foldCousin_53 rfl ?_
  refine rm_callV (c0 := 22) (As := [.int (9 : Int32), .int zx3]) (st := [.long ((31 : Int64) * zx4_7)]) mlRX9_165 mdX2_heldBy (Nat.le_of_ble_eq_true rfl) rfl (by decide) (by decide) rfl rfl rfl (Nat.le_of_ble_eq_true rfl) ⟨Nat.le_refl _, Nat.le_refl _⟩ dX9_foldCousin_54 ?_
  refine cm_mono hF (fun w zH_8 hF => ?_)
  obtain ⟨zr_9, rfl, hF⟩ := hF
  refine rn_i2l dX9_foldCousin_57 ?_
  refine rn_ladd dX9_foldCousin_58 ?_
  refine rn_lstore dX9_foldCousin_59 rfl (Nat.le_of_ble_eq_true rfl) (fun zx4_10 ezx4_10 => ?_)
  replace hF := hF zx4_10 ezx4_10
  show Rn _ _ _ _ _ _ _ _ [some (rf E 0), some (.long zy1), none, some (.int zx3), some (.long zx4_10), none] _ _ _
  refine rn_ldc2 coRX9_276 dX9_foldCousin_61 ?_
  refine rn_lload dX9_foldCousin_64 rfl ?_
  refine rn_lmul dX9_foldCousin_66 ?_
  refine rn_aload_n dX9_foldCousin_67 rfl ?_
  refine rm_getr (r := 5) flRX9_36 rfl (by decide) rfl dX9_foldCousin_68 ?_
  refine rm_geti flRX9_278 rfl (by decide) rfl dX9_foldCousin_71 ?_
  refine rn_if_le (tgt := 89) dX9_foldCousin_74 (by decide) (fun hc_11 => ?_) (fun hc_11 => ?_)
  · replace hF := hF.1 hc_11
    refine rn_bipush (x := (-2 : Int32)) dX9_foldCousin_89 (by decide) ?_
    refine rn_i2l dX9_foldCousin_91 ?_
    refine rn_ladd dX9_foldCousin_92 ?_
    exact rm_lret rfl dX9_foldCousin_93 hF
  · replace hF := hF.2 hc_11
    refine rn_aload_n dX9_foldCousin_77 rfl ?_
    refine rm_getr (r := 86) flRX9_68 rfl (by decide) rfl dX9_foldCousin_78 ?_
    refine rn_iload_n dX9_foldCousin_81 rfl ?_
    refine rn_iconst (x := (0 : Int32)) dX9_foldCousin_82 (by decide) ?_
    refine rm_callV (c0 := 86) (As := [.int zx3, .int (0 : Int32)]) (st := [.long ((31 : Int64) * zx4_10)]) mlRX9_215 mdX1_fittingHours (Nat.le_of_ble_eq_true rfl) rfl (by decide) (by decide) rfl rfl rfl (Nat.le_of_ble_eq_true rfl) ⟨Nat.le_refl _, Nat.le_refl _⟩ dX9_foldCousin_83 ?_
    refine cm_mono hF (fun w zH_12 hF => ?_)
    obtain ⟨zr_13, rfl, hF⟩ := hF
    refine rn_goto (tgt := 91) dX9_foldCousin_86 (by decide) ?_
    refine rn_i2l dX9_foldCousin_91 ?_
    refine rn_ladd dX9_foldCousin_92 ?_
    exact rm_lret rfl dX9_foldCousin_93 hF
theorem cmX9_foldCousin {E : En} {Q : Option Value → Hi → Prop} {H : Hi} {zy1 : Int64} {zx3 : Int32} 
    (hF : Cm E mX0_ofCousin [rf E 5, .int zx3, .int (0 : Int32)] H (fun w zH_2 => ∃ zr_3 : Int32, w = some (.int zr_3) ∧ (∀ zx4_4 : Int64, zx4_4 = ((31 : Int64) * zy1) + (zr_3.toInt64) → (Cm E mX0_ofCousin [rf E 5, .int zx3, .int (1 : Int32)] zH_2 (fun w zH_5 => ∃ zr_6 : Int32, w = some (.int zr_6) ∧ (∀ zx4_7 : Int64, zx4_7 = ((31 : Int64) * zx4_4) + (zr_6.toInt64) → (Cm E mX2_heldBy [rf E 22, .int (9 : Int32), .int zx3] zH_5 (fun w zH_8 => ∃ zr_9 : Int32, w = some (.int zr_9) ∧ (∀ zx4_10 : Int64, zx4_10 = ((31 : Int64) * zx4_7) + (zr_9.toInt64) → (((zH_8 5 0) ≤ 0 → (Q (some (.long (((31 : Int64) * zx4_10) + ((-2 : Int32).toInt64)))) zH_8)) ∧ (¬ (zH_8 5 0) ≤ 0 → (Cm E mX1_fittingHours [rf E 86, .int zx3, .int (0 : Int32)] zH_8 (fun w zH_12 => ∃ zr_13 : Int32, w = some (.int zr_13) ∧ (Q (some (.long (((31 : Int64) * zx4_10) + (zr_13.toInt64)))) zH_12)))))))))))))) :
    Cm E mX9_foldCousin [rf E 0, .long zy1, .int zx3] H Q :=
  cm_of (by decide +kernel : plainName RX9 = true) (Nat.le_of_ble_eq_true rfl) rfl (sgX9_foldCousin_0  hF)
theorem sgX9_foldHour_0 {E : En} {Q : Option Value → Hi → Prop} {H : Hi} {zy1 : Int64} {zx3 : Int32} 
    (hF : ∃ zj_2 : Nat, (zj_2 < 24 ∧ zx3 = nI zj_2) ∧ (∀ zx4_3 : Int64, zx4_3 = ((31 : Int64) * zy1) + ((H (28 + 2 * zj_2) 2).toInt64) → (Cm E mX2_content [rf E 22, .int zx3] H (fun w zH_4 => ∃ zr_5 : Int32, w = some (.int zr_5) ∧ (∀ zx4_6 : Int64, zx4_6 = ((31 : Int64) * zx4_3) + (zr_5.toInt64) → (Cm E mX3_unsettled [rf E 75, .int zx3] zH_4 (fun w zH_7 => ∃ zr_8 : Int32, w = some (.int zr_8) ∧ (Q (some (.long (((31 : Int64) * zx4_6) + (zr_8.toInt64)))) zH_7)))))))) :
    Rm E mX9_foldHour Q 0 [some (rf E 0), some (.long zy1), none, some (.int zx3), none, none] [] H := by
  refine rn_lload_n dX9_foldHour_0 rfl ?_
  refine ra_lstore dX9_foldHour_1 rfl (Nat.le_of_ble_eq_true rfl) ?_
  show Rn _ _ _ _ _ _ _ _ [some (rf E 0), some (.long zy1), none, some (.int zx3), some (.long zy1), none] _ _ _
  refine rn_ldc2 coRX9_276 dX9_foldHour_3 ?_
  refine rn_lload dX9_foldHour_6 rfl ?_
  refine rn_lmul dX9_foldHour_8 ?_
  refine rn_aload_n dX9_foldHour_9 rfl ?_
  refine rm_getr (r := 22) flRX9_52 rfl (by decide) rfl dX9_foldHour_10 ?_
  refine rm_getr (r := 25) flRX9_156 rfl (by decide) rfl dX9_foldHour_13 ?_
  refine rn_iload_n dX9_foldHour_16 rfl ?_
  obtain ⟨zj_2, hzj_2, hF⟩ := hF
  refine rj_aald (j := zj_2) (Cn := RX6) (r := (28 + 2 * zj_2)) hzj_2 (st_beh _ hzj_2.1).2 rfl (by decide) (by decide) rfl (by decide) dX9_foldHour_17 ?_
  refine rm_geti flRX9_168 (st_beh _ hzj_2.1).1.2.1 (st_beh _ hzj_2.1).1.1 (rT_row (st_beh _ hzj_2.1).1.2.2 _) dX9_foldHour_18 ?_
  refine rn_i2l dX9_foldHour_21 ?_
  refine rn_ladd dX9_foldHour_22 ?_
  refine rn_lstore dX9_foldHour_23 rfl (Nat.le_of_ble_eq_true rfl) (fun zx4_3 ezx4_3 => ?_)
  replace hF := hF zx4_3 ezx4_3
  show Rn _ _ _ _ _ _ _ _ [some (rf E 0), some (.long zy1), none, some (.int zx3), some (.long zx4_3), none] _ _ _
  refine rn_ldc2 coRX9_276 dX9_foldHour_25 ?_
  refine rn_lload dX9_foldHour_28 rfl ?_
  refine rn_lmul dX9_foldHour_30 ?_
  refine rn_aload_n dX9_foldHour_31 rfl ?_
  refine rm_getr (r := 22) flRX9_52 rfl (by decide) rfl dX9_foldHour_32 ?_
  refine rn_iload_n dX9_foldHour_35 rfl ?_
  refine rm_callV (c0 := 22) (As := [.int zx3]) (st := [.long ((31 : Int64) * zx4_3)]) mlRX9_171 mdX2_content (Nat.le_of_ble_eq_true rfl) rfl (by decide) (by decide) rfl rfl rfl (Nat.le_of_ble_eq_true rfl) ⟨Nat.le_refl _, Nat.le_refl _⟩ dX9_foldHour_36 ?_
  refine cm_mono hF (fun w zH_4 hF => ?_)
  obtain ⟨zr_5, rfl, hF⟩ := hF
  refine rn_i2l dX9_foldHour_39 ?_
  refine rn_ladd dX9_foldHour_40 ?_
  refine rn_lstore dX9_foldHour_41 rfl (Nat.le_of_ble_eq_true rfl) (fun zx4_6 ezx4_6 => ?_)
  replace hF := hF zx4_6 ezx4_6
  show Rn _ _ _ _ _ _ _ _ [some (rf E 0), some (.long zy1), none, some (.int zx3), some (.long zx4_6), none] _ _ _
  refine rn_ldc2 coRX9_276 dX9_foldHour_43 ?_
  refine rn_lload dX9_foldHour_46 rfl ?_
  refine rn_lmul dX9_foldHour_48 ?_
  refine rn_aload_n dX9_foldHour_49 rfl ?_
  refine rm_getr (r := 75) flRX9_61 rfl (by decide) rfl dX9_foldHour_50 ?_
  refine rn_iload_n dX9_foldHour_53 rfl ?_
  refine rm_callV (c0 := 75) (As := [.int zx3]) (st := [.long ((31 : Int64) * zx4_6)]) mlRX9_198 mdX3_unsettled (Nat.le_of_ble_eq_true rfl) rfl (by decide) (by decide) rfl rfl rfl (Nat.le_of_ble_eq_true rfl) ⟨Nat.le_refl _, Nat.le_refl _⟩ dX9_foldHour_54 ?_
  refine cm_mono hF (fun w zH_7 hF => ?_)
  obtain ⟨zr_8, rfl, hF⟩ := hF
  refine rn_i2l dX9_foldHour_57 ?_
  refine rn_ladd dX9_foldHour_58 ?_
  exact rm_lret rfl dX9_foldHour_59 hF
theorem cmX9_foldHour {E : En} {Q : Option Value → Hi → Prop} {H : Hi} {zy1 : Int64} {zx3 : Int32} 
    (hF : ∃ zj_2 : Nat, (zj_2 < 24 ∧ zx3 = nI zj_2) ∧ (∀ zx4_3 : Int64, zx4_3 = ((31 : Int64) * zy1) + ((H (28 + 2 * zj_2) 2).toInt64) → (Cm E mX2_content [rf E 22, .int zx3] H (fun w zH_4 => ∃ zr_5 : Int32, w = some (.int zr_5) ∧ (∀ zx4_6 : Int64, zx4_6 = ((31 : Int64) * zx4_3) + (zr_5.toInt64) → (Cm E mX3_unsettled [rf E 75, .int zx3] zH_4 (fun w zH_7 => ∃ zr_8 : Int32, w = some (.int zr_8) ∧ (Q (some (.long (((31 : Int64) * zx4_6) + (zr_8.toInt64)))) zH_7)))))))) :
    Cm E mX9_foldHour [rf E 0, .long zy1, .int zx3] H Q :=
  cm_of (by decide +kernel : plainName RX9 = true) (Nat.le_of_ble_eq_true rfl) rfl (sgX9_foldHour_0  hF)
theorem sgX9_refresh_0 {E : En} {Q : Option Value → Hi → Prop} {H : Hi}  
    (hF : (¬ (H 0 9) = 0 → (Cm E mX0_learnThings [rf E 5, rf E 1] H (fun w zH_2 => w = none ∧ (Cm E mX0_learnCousins [rf E 5, rf E 3] zH_2 (fun w zH_3 => w = none ∧ (Cm E mX8_arrange [rf E 11] zH_3 (fun w zH_4 => w = none ∧ (Cm E mX2_replay [rf E 22] zH_4 (fun w zH_5 => w = none ∧ (Cm E mX3_drop [rf E 75] zH_5 (fun w zH_6 => w = none ∧ (∀ zH_7 : Hi, zH_7 = up zH_6 0 9 (0 : Int32) → (Q none zH_7))))))))))))) ∧ ((H 0 9) = 0 → (Q none H))) :
    Rm E mX9_refresh Q 0 [some (rf E 0)] [] H := by
  refine rn_aload_n dX9_refresh_0 rfl ?_
  refine rm_geti flRX9_79 rfl (by decide) rfl dX9_refresh_1 ?_
  refine rn_if_ne (tgt := 8) dX9_refresh_4 (by decide) (fun hc_1 => ?_) (fun hc_1 => ?_)
  · replace hF := hF.1 hc_1
    refine rn_aload_n dX9_refresh_8 rfl ?_
    refine rm_getr (r := 5) flRX9_36 rfl (by decide) rfl dX9_refresh_9 ?_
    refine rn_aload_n dX9_refresh_12 rfl ?_
    refine rm_getr (r := 1) flRX9_18 rfl (by decide) rfl dX9_refresh_13 ?_
    refine rm_callV (c0 := 5) (As := [rf E 1]) (st := []) mlRX9_302 mdX0_learnThings (Nat.le_of_ble_eq_true rfl) rfl (by decide) (by decide) rfl rfl rfl (Nat.le_of_ble_eq_true rfl) ⟨Nat.le_refl _, Nat.le_refl _⟩ dX9_refresh_16 ?_
    refine cm_mono hF (fun w zH_2 hF => ?_)
    obtain ⟨rfl, hF⟩ := hF
    refine rn_aload_n dX9_refresh_19 rfl ?_
    refine rm_getr (r := 5) flRX9_36 rfl (by decide) rfl dX9_refresh_20 ?_
    refine rn_aload_n dX9_refresh_23 rfl ?_
    refine rm_getr (r := 3) flRX9_30 rfl (by decide) rfl dX9_refresh_24 ?_
    refine rm_callV (c0 := 5) (As := [rf E 3]) (st := []) mlRX9_306 mdX0_learnCousins (Nat.le_of_ble_eq_true rfl) rfl (by decide) (by decide) rfl rfl rfl (Nat.le_of_ble_eq_true rfl) ⟨Nat.le_refl _, Nat.le_refl _⟩ dX9_refresh_27 ?_
    refine cm_mono hF (fun w zH_3 hF => ?_)
    obtain ⟨rfl, hF⟩ := hF
    refine rn_aload_n dX9_refresh_30 rfl ?_
    refine rm_getr (r := 11) flRX9_43 rfl (by decide) rfl dX9_refresh_31 ?_
    refine rm_callV (c0 := 11) (As := []) (st := []) mlRX9_309 mdX8_arrange (Nat.le_of_ble_eq_true rfl) rfl (by decide) (by decide) rfl rfl rfl (Nat.le_of_ble_eq_true rfl) ⟨Nat.le_refl _, Nat.le_refl _⟩ dX9_refresh_34 ?_
    refine cm_mono hF (fun w zH_4 hF => ?_)
    obtain ⟨rfl, hF⟩ := hF
    refine rn_aload_n dX9_refresh_37 rfl ?_
    refine rm_getr (r := 22) flRX9_52 rfl (by decide) rfl dX9_refresh_38 ?_
    refine rm_callV (c0 := 22) (As := []) (st := []) mlRX9_312 mdX2_replay (Nat.le_of_ble_eq_true rfl) rfl (by decide) (by decide) rfl rfl rfl (Nat.le_of_ble_eq_true rfl) ⟨Nat.le_refl _, Nat.le_refl _⟩ dX9_refresh_41 ?_
    refine cm_mono hF (fun w zH_5 hF => ?_)
    obtain ⟨rfl, hF⟩ := hF
    refine rn_aload_n dX9_refresh_44 rfl ?_
    refine rm_getr (r := 75) flRX9_61 rfl (by decide) rfl dX9_refresh_45 ?_
    refine rm_callV (c0 := 75) (As := []) (st := []) mlRX9_315 mdX3_drop (Nat.le_of_ble_eq_true rfl) rfl (by decide) (by decide) rfl rfl rfl (Nat.le_of_ble_eq_true rfl) ⟨Nat.le_refl _, Nat.le_refl _⟩ dX9_refresh_48 ?_
    refine cm_mono hF (fun w zH_6 hF => ?_)
    obtain ⟨rfl, hF⟩ := hF
    refine rn_aload_n dX9_refresh_51 rfl ?_
    refine rn_iconst (x := (0 : Int32)) dX9_refresh_52 (by decide) ?_
    refine rm_putz flRX9_79 rfl (by decide) rfl rfl rfl dX9_refresh_53 (fun zH_7 ezH_7 => ?_)
    replace hF := hF zH_7 ezH_7
    exact rm_vret rfl dX9_refresh_56 hF
  · replace hF := hF.2 hc_1
    exact rm_vret rfl dX9_refresh_7 hF
theorem cmX9_refresh {E : En} {Q : Option Value → Hi → Prop} {H : Hi}  
    (hF : (¬ (H 0 9) = 0 → (Cm E mX0_learnThings [rf E 5, rf E 1] H (fun w zH_2 => w = none ∧ (Cm E mX0_learnCousins [rf E 5, rf E 3] zH_2 (fun w zH_3 => w = none ∧ (Cm E mX8_arrange [rf E 11] zH_3 (fun w zH_4 => w = none ∧ (Cm E mX2_replay [rf E 22] zH_4 (fun w zH_5 => w = none ∧ (Cm E mX3_drop [rf E 75] zH_5 (fun w zH_6 => w = none ∧ (∀ zH_7 : Hi, zH_7 = up zH_6 0 9 (0 : Int32) → (Q none zH_7))))))))))))) ∧ ((H 0 9) = 0 → (Q none H))) :
    Cm E mX9_refresh [rf E 0] H Q :=
  cm_of (by decide +kernel : plainName RX9 = true) (Nat.le_of_ble_eq_true rfl) rfl (sgX9_refresh_0  hF)
theorem sgX9_found_0 {E : En} {Q : Option Value → Hi → Prop} {H : Hi} {zx1 : Int32} 
    (hF : ∀ zH_1 : Hi, zH_1 = up H 0 8 zx1 → (Q (some (.int ((-10 : Int32) - zx1))) zH_1)) :
    Rm E mX9_found Q 0 [some (rf E 0), some (.int zx1)] [] H := by
  refine rn_aload_n dX9_found_0 rfl ?_
  refine rn_iload_n dX9_found_1 rfl ?_
  refine rm_puti flRX9_253 rfl (by decide) rfl dX9_found_2 (fun zH_1 ezH_1 => ?_)
  replace hF := hF zH_1 ezH_1
  refine rn_bipush (x := (-10 : Int32)) dX9_found_5 (by decide) ?_
  refine rn_iload_n dX9_found_7 rfl ?_
  refine rn_isub dX9_found_8 ?_
  exact rm_iret rfl dX9_found_9 hF
theorem cmX9_found {E : En} {Q : Option Value → Hi → Prop} {H : Hi} {zx1 : Int32} 
    (hF : ∀ zH_1 : Hi, zH_1 = up H 0 8 zx1 → (Q (some (.int ((-10 : Int32) - zx1))) zH_1)) :
    Cm E mX9_found [rf E 0, .int zx1] H Q :=
  cm_of (by decide +kernel : plainName RX9 = true) (Nat.le_of_ble_eq_true rfl) rfl (sgX9_found_0  hF)
theorem sgX9_textOf_0 {E : En} {Q : Option Value → Hi → Prop} {H : Hi} {zx1 : Int32} 
    (hF : (¬ zx1 = 0 → (Q (some (rf E 3)) H)) ∧ (zx1 = 0 → (Q (some (rf E 1)) H))) :
    Rm E mX9_textOf Q 0 [some (rf E 0), some (.int zx1)] [] H := by
  refine rn_iload_n dX9_textOf_0 rfl ?_
  refine rn_if_ne (tgt := 11) dX9_textOf_1 (by decide) (fun hc_1 => ?_) (fun hc_1 => ?_)
  · replace hF := hF.1 hc_1
    refine rn_aload_n dX9_textOf_11 rfl ?_
    refine rm_getr (r := 3) flRX9_30 rfl (by decide) rfl dX9_textOf_12 ?_
    exact rm_aret rfl (Or.inl ⟨_, rfl⟩) dX9_textOf_15 hF
  · replace hF := hF.2 hc_1
    refine rn_aload_n dX9_textOf_4 rfl ?_
    refine rm_getr (r := 1) flRX9_18 rfl (by decide) rfl dX9_textOf_5 ?_
    refine rn_goto (tgt := 15) dX9_textOf_8 (by decide) ?_
    exact rm_aret rfl (Or.inl ⟨_, rfl⟩) dX9_textOf_15 hF
theorem cmX9_textOf {E : En} {Q : Option Value → Hi → Prop} {H : Hi} {zx1 : Int32} 
    (hF : (¬ zx1 = 0 → (Q (some (rf E 3)) H)) ∧ (zx1 = 0 → (Q (some (rf E 1)) H))) :
    Cm E mX9_textOf [rf E 0, .int zx1] H Q :=
  cm_of (by decide +kernel : plainName RX9 = true) (Nat.le_of_ble_eq_true rfl) rfl (sgX9_textOf_0  hF)
theorem sgX9_isThing_0 {E : En} {Q : Option Value → Hi → Prop} {H : Hi} {zx1 : Int32} 
    (hF : (zx1 < 0 → (Q (some (.int (0 : Int32))) H)) ∧ (¬ zx1 < 0 → (((H 5 0) ≤ zx1 → (Q (some (.int (0 : Int32))) H)) ∧ (¬ (H 5 0) ≤ zx1 → (Q (some (.int (1 : Int32))) H))))) :
    Rm E mX9_isThing Q 0 [some (rf E 0), some (.int zx1)] [] H := by
  refine rn_iload_n dX9_isThing_0 rfl ?_
  refine rn_if_lt (tgt := 19) dX9_isThing_1 (by decide) (fun hc_1 => ?_) (fun hc_1 => ?_)
  · replace hF := hF.1 hc_1
    refine rn_iconst (x := (0 : Int32)) dX9_isThing_19 (by decide) ?_
    exact rm_zret rfl rfl dX9_isThing_20 hF
  · replace hF := hF.2 hc_1
    refine rn_iload_n dX9_isThing_4 rfl ?_
    refine rn_aload_n dX9_isThing_5 rfl ?_
    refine rm_getr (r := 5) flRX9_36 rfl (by decide) rfl dX9_isThing_6 ?_
    refine rm_geti flRX9_278 rfl (by decide) rfl dX9_isThing_9 ?_
    refine rn_icmp_ge (tgt := 19) dX9_isThing_12 (by decide) (fun hc_2 => ?_) (fun hc_2 => ?_)
    · replace hF := hF.1 hc_2
      refine rn_iconst (x := (0 : Int32)) dX9_isThing_19 (by decide) ?_
      exact rm_zret rfl rfl dX9_isThing_20 hF
    · replace hF := hF.2 hc_2
      refine rn_iconst (x := (1 : Int32)) dX9_isThing_15 (by decide) ?_
      refine rn_goto (tgt := 20) dX9_isThing_16 (by decide) ?_
      exact rm_zret rfl rfl dX9_isThing_20 hF
theorem cmX9_isThing {E : En} {Q : Option Value → Hi → Prop} {H : Hi} {zx1 : Int32} 
    (hF : (zx1 < 0 → (Q (some (.int (0 : Int32))) H)) ∧ (¬ zx1 < 0 → (((H 5 0) ≤ zx1 → (Q (some (.int (0 : Int32))) H)) ∧ (¬ (H 5 0) ≤ zx1 → (Q (some (.int (1 : Int32))) H))))) :
    Cm E mX9_isThing [rf E 0, .int zx1] H Q :=
  cm_of (by decide +kernel : plainName RX9 = true) (Nat.le_of_ble_eq_true rfl) rfl (sgX9_isThing_0  hF)
theorem sgX9_isCousin_0 {E : En} {Q : Option Value → Hi → Prop} {H : Hi} {zx1 : Int32} 
    (hF : (zx1 < 0 → (Q (some (.int (0 : Int32))) H)) ∧ (¬ zx1 < 0 → (((H 5 1) ≤ zx1 → (Q (some (.int (0 : Int32))) H)) ∧ (¬ (H 5 1) ≤ zx1 → (Q (some (.int (1 : Int32))) H))))) :
    Rm E mX9_isCousin Q 0 [some (rf E 0), some (.int zx1)] [] H := by
  refine rn_iload_n dX9_isCousin_0 rfl ?_
  refine rn_if_lt (tgt := 19) dX9_isCousin_1 (by decide) (fun hc_1 => ?_) (fun hc_1 => ?_)
  · replace hF := hF.1 hc_1
    refine rn_iconst (x := (0 : Int32)) dX9_isCousin_19 (by decide) ?_
    exact rm_zret rfl rfl dX9_isCousin_20 hF
  · replace hF := hF.2 hc_1
    refine rn_iload_n dX9_isCousin_4 rfl ?_
    refine rn_aload_n dX9_isCousin_5 rfl ?_
    refine rm_getr (r := 5) flRX9_36 rfl (by decide) rfl dX9_isCousin_6 ?_
    refine rm_geti flRX9_288 rfl (by decide) rfl dX9_isCousin_9 ?_
    refine rn_icmp_ge (tgt := 19) dX9_isCousin_12 (by decide) (fun hc_2 => ?_) (fun hc_2 => ?_)
    · replace hF := hF.1 hc_2
      refine rn_iconst (x := (0 : Int32)) dX9_isCousin_19 (by decide) ?_
      exact rm_zret rfl rfl dX9_isCousin_20 hF
    · replace hF := hF.2 hc_2
      refine rn_iconst (x := (1 : Int32)) dX9_isCousin_15 (by decide) ?_
      refine rn_goto (tgt := 20) dX9_isCousin_16 (by decide) ?_
      exact rm_zret rfl rfl dX9_isCousin_20 hF
theorem cmX9_isCousin {E : En} {Q : Option Value → Hi → Prop} {H : Hi} {zx1 : Int32} 
    (hF : (zx1 < 0 → (Q (some (.int (0 : Int32))) H)) ∧ (¬ zx1 < 0 → (((H 5 1) ≤ zx1 → (Q (some (.int (0 : Int32))) H)) ∧ (¬ (H 5 1) ≤ zx1 → (Q (some (.int (1 : Int32))) H))))) :
    Cm E mX9_isCousin [rf E 0, .int zx1] H Q :=
  cm_of (by decide +kernel : plainName RX9 = true) (Nat.le_of_ble_eq_true rfl) rfl (sgX9_isCousin_0  hF)
theorem sgX9_isText_0 {E : En} {Q : Option Value → Hi → Prop} {H : Hi} {zx0 : Int32} 
    (hF : Cm E mX9_isBit [.int zx0] H (fun w zH_1 => ∃ zr_2 : Int32, w = some (.int zr_2) ∧ (narrow .boolean (.int zr_2) = .int zr_2 ∧ Q (some (.int zr_2)) zH_1))) :
    Rm E mX9_isText Q 0 [some (.int zx0)] [] H := by
  refine rn_iload_n dX9_isText_0 rfl ?_
  refine rm_callS (As := [.int zx0]) (st := []) mlRX9_116 mdX9_isBit (Nat.le_of_ble_eq_true rfl) rfl rfl (Nat.le_of_ble_eq_true rfl) ⟨Nat.le_refl _, Nat.le_refl _⟩ dX9_isText_1 ?_
  refine cm_mono hF (fun w zH_1 hF => ?_)
  obtain ⟨zr_2, rfl, hF⟩ := hF
  exact rm_zret rfl hF.1 dX9_isText_4 hF.2
theorem cmX9_isText {E : En} {Q : Option Value → Hi → Prop} {H : Hi} {zx0 : Int32} 
    (hF : Cm E mX9_isBit [.int zx0] H (fun w zH_1 => ∃ zr_2 : Int32, w = some (.int zr_2) ∧ (narrow .boolean (.int zr_2) = .int zr_2 ∧ Q (some (.int zr_2)) zH_1))) :
    Cm E mX9_isText [.int zx0] H Q :=
  cm_of (by decide +kernel : plainName RX9 = true) (Nat.le_of_ble_eq_true rfl) rfl (sgX9_isText_0  hF)
theorem sgX9_isBit_0 {E : En} {Q : Option Value → Hi → Prop} {H : Hi} {zx0 : Int32} 
    (hF : (zx0 = 0 → (Q (some (.int (1 : Int32))) H)) ∧ (¬ zx0 = 0 → ((¬ zx0 = (1 : Int32) → (Q (some (.int (0 : Int32))) H)) ∧ (zx0 = (1 : Int32) → (Q (some (.int (1 : Int32))) H))))) :
    Rm E mX9_isBit Q 0 [some (.int zx0)] [] H := by
  refine rn_iload_n dX9_isBit_0 rfl ?_
  refine rn_if_eq (tgt := 9) dX9_isBit_1 (by decide) (fun hc_1 => ?_) (fun hc_1 => ?_)
  · replace hF := hF.1 hc_1
    refine rn_iconst (x := (1 : Int32)) dX9_isBit_9 (by decide) ?_
    refine rn_goto (tgt := 14) dX9_isBit_10 (by decide) ?_
    exact rm_zret rfl rfl dX9_isBit_14 hF
  · replace hF := hF.2 hc_1
    refine rn_iload_n dX9_isBit_4 rfl ?_
    refine rn_iconst (x := (1 : Int32)) dX9_isBit_5 (by decide) ?_
    refine rn_icmp_ne (tgt := 13) dX9_isBit_6 (by decide) (fun hc_2 => ?_) (fun hc_2 => ?_)
    · replace hF := hF.1 hc_2
      refine rn_iconst (x := (0 : Int32)) dX9_isBit_13 (by decide) ?_
      exact rm_zret rfl rfl dX9_isBit_14 hF
    · replace hF := hF.2 hc_2
      refine rn_iconst (x := (1 : Int32)) dX9_isBit_9 (by decide) ?_
      refine rn_goto (tgt := 14) dX9_isBit_10 (by decide) ?_
      exact rm_zret rfl rfl dX9_isBit_14 hF
theorem cmX9_isBit {E : En} {Q : Option Value → Hi → Prop} {H : Hi} {zx0 : Int32} 
    (hF : (zx0 = 0 → (Q (some (.int (1 : Int32))) H)) ∧ (¬ zx0 = 0 → ((¬ zx0 = (1 : Int32) → (Q (some (.int (0 : Int32))) H)) ∧ (zx0 = (1 : Int32) → (Q (some (.int (1 : Int32))) H))))) :
    Cm E mX9_isBit [.int zx0] H Q :=
  cm_of (by decide +kernel : plainName RX9 = true) (Nat.le_of_ble_eq_true rfl) rfl (sgX9_isBit_0  hF)
theorem sgX9_isRowPlace_0 {E : En} {Q : Option Value → Hi → Prop} {H : Hi} {zx0 : Int32} 
    (hF : (zx0 = (-1 : Int32) → (Q (some (.int (1 : Int32))) H)) ∧ (¬ zx0 = (-1 : Int32) → (Cm E mX9_isBit [.int zx0] H (fun w zH_2 => ∃ zr_3 : Int32, w = some (.int zr_3) ∧ ((zr_3 = 0 → (Q (some (.int (0 : Int32))) zH_2)) ∧ (¬ zr_3 = 0 → (Q (some (.int (1 : Int32))) zH_2))))))) :
    Rm E mX9_isRowPlace Q 0 [some (.int zx0)] [] H := by
  refine rn_iload_n dX9_isRowPlace_0 rfl ?_
  refine rn_iconst (x := (-1 : Int32)) dX9_isRowPlace_1 (by decide) ?_
  refine rn_icmp_eq (tgt := 12) dX9_isRowPlace_2 (by decide) (fun hc_1 => ?_) (fun hc_1 => ?_)
  · replace hF := hF.1 hc_1
    refine rn_iconst (x := (1 : Int32)) dX9_isRowPlace_12 (by decide) ?_
    refine rn_goto (tgt := 17) dX9_isRowPlace_13 (by decide) ?_
    exact rm_zret rfl rfl dX9_isRowPlace_17 hF
  · replace hF := hF.2 hc_1
    refine rn_iload_n dX9_isRowPlace_5 rfl ?_
    refine rm_callS (As := [.int zx0]) (st := []) mlRX9_116 mdX9_isBit (Nat.le_of_ble_eq_true rfl) rfl rfl (Nat.le_of_ble_eq_true rfl) ⟨Nat.le_refl _, Nat.le_refl _⟩ dX9_isRowPlace_6 ?_
    refine cm_mono hF (fun w zH_2 hF => ?_)
    obtain ⟨zr_3, rfl, hF⟩ := hF
    refine rn_if_eq (tgt := 16) dX9_isRowPlace_9 (by decide) (fun hc_4 => ?_) (fun hc_4 => ?_)
    · replace hF := hF.1 hc_4
      refine rn_iconst (x := (0 : Int32)) dX9_isRowPlace_16 (by decide) ?_
      exact rm_zret rfl rfl dX9_isRowPlace_17 hF
    · replace hF := hF.2 hc_4
      refine rn_iconst (x := (1 : Int32)) dX9_isRowPlace_12 (by decide) ?_
      refine rn_goto (tgt := 17) dX9_isRowPlace_13 (by decide) ?_
      exact rm_zret rfl rfl dX9_isRowPlace_17 hF
theorem cmX9_isRowPlace {E : En} {Q : Option Value → Hi → Prop} {H : Hi} {zx0 : Int32} 
    (hF : (zx0 = (-1 : Int32) → (Q (some (.int (1 : Int32))) H)) ∧ (¬ zx0 = (-1 : Int32) → (Cm E mX9_isBit [.int zx0] H (fun w zH_2 => ∃ zr_3 : Int32, w = some (.int zr_3) ∧ ((zr_3 = 0 → (Q (some (.int (0 : Int32))) zH_2)) ∧ (¬ zr_3 = 0 → (Q (some (.int (1 : Int32))) zH_2))))))) :
    Cm E mX9_isRowPlace [.int zx0] H Q :=
  cm_of (by decide +kernel : plainName RX9 = true) (Nat.le_of_ble_eq_true rfl) rfl (sgX9_isRowPlace_0  hF)
theorem sgX9_isEighth_0 {E : En} {Q : Option Value → Hi → Prop} {H : Hi} {zx0 : Int32} 
    (hF : (zx0 < 0 → (Q (some (.int (0 : Int32))) H)) ∧ (¬ zx0 < 0 → (((8 : Int32) ≤ zx0 → (Q (some (.int (0 : Int32))) H)) ∧ (¬ (8 : Int32) ≤ zx0 → (Q (some (.int (1 : Int32))) H))))) :
    Rm E mX9_isEighth Q 0 [some (.int zx0)] [] H := by
  refine rn_iload_n dX9_isEighth_0 rfl ?_
  refine rn_if_lt (tgt := 14) dX9_isEighth_1 (by decide) (fun hc_1 => ?_) (fun hc_1 => ?_)
  · replace hF := hF.1 hc_1
    refine rn_iconst (x := (0 : Int32)) dX9_isEighth_14 (by decide) ?_
    exact rm_zret rfl rfl dX9_isEighth_15 hF
  · replace hF := hF.2 hc_1
    refine rn_iload_n dX9_isEighth_4 rfl ?_
    refine rn_bipush (x := (8 : Int32)) dX9_isEighth_5 (by decide) ?_
    refine rn_icmp_ge (tgt := 14) dX9_isEighth_7 (by decide) (fun hc_2 => ?_) (fun hc_2 => ?_)
    · replace hF := hF.1 hc_2
      refine rn_iconst (x := (0 : Int32)) dX9_isEighth_14 (by decide) ?_
      exact rm_zret rfl rfl dX9_isEighth_15 hF
    · replace hF := hF.2 hc_2
      refine rn_iconst (x := (1 : Int32)) dX9_isEighth_10 (by decide) ?_
      refine rn_goto (tgt := 15) dX9_isEighth_11 (by decide) ?_
      exact rm_zret rfl rfl dX9_isEighth_15 hF
theorem cmX9_isEighth {E : En} {Q : Option Value → Hi → Prop} {H : Hi} {zx0 : Int32} 
    (hF : (zx0 < 0 → (Q (some (.int (0 : Int32))) H)) ∧ (¬ zx0 < 0 → (((8 : Int32) ≤ zx0 → (Q (some (.int (0 : Int32))) H)) ∧ (¬ (8 : Int32) ≤ zx0 → (Q (some (.int (1 : Int32))) H))))) :
    Cm E mX9_isEighth [.int zx0] H Q :=
  cm_of (by decide +kernel : plainName RX9 = true) (Nat.le_of_ble_eq_true rfl) rfl (sgX9_isEighth_0  hF)
theorem sgX9_isHour_0 {E : En} {Q : Option Value → Hi → Prop} {H : Hi} {zx0 : Int32} 
    (hF : (zx0 < 0 → (Q (some (.int (0 : Int32))) H)) ∧ (¬ zx0 < 0 → (((24 : Int32) ≤ zx0 → (Q (some (.int (0 : Int32))) H)) ∧ (¬ (24 : Int32) ≤ zx0 → (Q (some (.int (1 : Int32))) H))))) :
    Rm E mX9_isHour Q 0 [some (.int zx0)] [] H := by
  refine rn_iload_n dX9_isHour_0 rfl ?_
  refine rn_if_lt (tgt := 14) dX9_isHour_1 (by decide) (fun hc_1 => ?_) (fun hc_1 => ?_)
  · replace hF := hF.1 hc_1
    refine rn_iconst (x := (0 : Int32)) dX9_isHour_14 (by decide) ?_
    exact rm_zret rfl rfl dX9_isHour_15 hF
  · replace hF := hF.2 hc_1
    refine rn_iload_n dX9_isHour_4 rfl ?_
    refine rn_bipush (x := (24 : Int32)) dX9_isHour_5 (by decide) ?_
    refine rn_icmp_ge (tgt := 14) dX9_isHour_7 (by decide) (fun hc_2 => ?_) (fun hc_2 => ?_)
    · replace hF := hF.1 hc_2
      refine rn_iconst (x := (0 : Int32)) dX9_isHour_14 (by decide) ?_
      exact rm_zret rfl rfl dX9_isHour_15 hF
    · replace hF := hF.2 hc_2
      refine rn_iconst (x := (1 : Int32)) dX9_isHour_10 (by decide) ?_
      refine rn_goto (tgt := 15) dX9_isHour_11 (by decide) ?_
      exact rm_zret rfl rfl dX9_isHour_15 hF
theorem cmX9_isHour {E : En} {Q : Option Value → Hi → Prop} {H : Hi} {zx0 : Int32} 
    (hF : (zx0 < 0 → (Q (some (.int (0 : Int32))) H)) ∧ (¬ zx0 < 0 → (((24 : Int32) ≤ zx0 → (Q (some (.int (0 : Int32))) H)) ∧ (¬ (24 : Int32) ≤ zx0 → (Q (some (.int (1 : Int32))) H))))) :
    Cm E mX9_isHour [.int zx0] H Q :=
  cm_of (by decide +kernel : plainName RX9 = true) (Nat.le_of_ble_eq_true rfl) rfl (sgX9_isHour_0  hF)
theorem sgX9_isSheet_0 {E : En} {Q : Option Value → Hi → Prop} {H : Hi} {zx0 : Int32} 
    (hF : (zx0 < 0 → (Q (some (.int (0 : Int32))) H)) ∧ (¬ zx0 < 0 → (((4 : Int32) ≤ zx0 → (Q (some (.int (0 : Int32))) H)) ∧ (¬ (4 : Int32) ≤ zx0 → (Q (some (.int (1 : Int32))) H))))) :
    Rm E mX9_isSheet Q 0 [some (.int zx0)] [] H := by
  refine rn_iload_n dX9_isSheet_0 rfl ?_
  refine rn_if_lt (tgt := 13) dX9_isSheet_1 (by decide) (fun hc_1 => ?_) (fun hc_1 => ?_)
  · replace hF := hF.1 hc_1
    refine rn_iconst (x := (0 : Int32)) dX9_isSheet_13 (by decide) ?_
    exact rm_zret rfl rfl dX9_isSheet_14 hF
  · replace hF := hF.2 hc_1
    refine rn_iload_n dX9_isSheet_4 rfl ?_
    refine rn_iconst (x := (4 : Int32)) dX9_isSheet_5 (by decide) ?_
    refine rn_icmp_ge (tgt := 13) dX9_isSheet_6 (by decide) (fun hc_2 => ?_) (fun hc_2 => ?_)
    · replace hF := hF.1 hc_2
      refine rn_iconst (x := (0 : Int32)) dX9_isSheet_13 (by decide) ?_
      exact rm_zret rfl rfl dX9_isSheet_14 hF
    · replace hF := hF.2 hc_2
      refine rn_iconst (x := (1 : Int32)) dX9_isSheet_9 (by decide) ?_
      refine rn_goto (tgt := 14) dX9_isSheet_10 (by decide) ?_
      exact rm_zret rfl rfl dX9_isSheet_14 hF
theorem cmX9_isSheet {E : En} {Q : Option Value → Hi → Prop} {H : Hi} {zx0 : Int32} 
    (hF : (zx0 < 0 → (Q (some (.int (0 : Int32))) H)) ∧ (¬ zx0 < 0 → (((4 : Int32) ≤ zx0 → (Q (some (.int (0 : Int32))) H)) ∧ (¬ (4 : Int32) ≤ zx0 → (Q (some (.int (1 : Int32))) H))))) :
    Cm E mX9_isSheet [.int zx0] H Q :=
  cm_of (by decide +kernel : plainName RX9 = true) (Nat.le_of_ble_eq_true rfl) rfl (sgX9_isSheet_0  hF)
theorem sgX9_isForm_0 {E : En} {Q : Option Value → Hi → Prop} {H : Hi} {zx0 : Int32} 
    (hF : (zx0 < 0 → (Q (some (.int (0 : Int32))) H)) ∧ (¬ zx0 < 0 → (((2 : Int32) < zx0 → (Q (some (.int (0 : Int32))) H)) ∧ (¬ (2 : Int32) < zx0 → (Q (some (.int (1 : Int32))) H))))) :
    Rm E mX9_isForm Q 0 [some (.int zx0)] [] H := by
  refine rn_iload_n dX9_isForm_0 rfl ?_
  refine rn_if_lt (tgt := 13) dX9_isForm_1 (by decide) (fun hc_1 => ?_) (fun hc_1 => ?_)
  · replace hF := hF.1 hc_1
    refine rn_iconst (x := (0 : Int32)) dX9_isForm_13 (by decide) ?_
    exact rm_zret rfl rfl dX9_isForm_14 hF
  · replace hF := hF.2 hc_1
    refine rn_iload_n dX9_isForm_4 rfl ?_
    refine rn_iconst (x := (2 : Int32)) dX9_isForm_5 (by decide) ?_
    refine rn_icmp_gt (tgt := 13) dX9_isForm_6 (by decide) (fun hc_2 => ?_) (fun hc_2 => ?_)
    · replace hF := hF.1 hc_2
      refine rn_iconst (x := (0 : Int32)) dX9_isForm_13 (by decide) ?_
      exact rm_zret rfl rfl dX9_isForm_14 hF
    · replace hF := hF.2 hc_2
      refine rn_iconst (x := (1 : Int32)) dX9_isForm_9 (by decide) ?_
      refine rn_goto (tgt := 14) dX9_isForm_10 (by decide) ?_
      exact rm_zret rfl rfl dX9_isForm_14 hF
theorem cmX9_isForm {E : En} {Q : Option Value → Hi → Prop} {H : Hi} {zx0 : Int32} 
    (hF : (zx0 < 0 → (Q (some (.int (0 : Int32))) H)) ∧ (¬ zx0 < 0 → (((2 : Int32) < zx0 → (Q (some (.int (0 : Int32))) H)) ∧ (¬ (2 : Int32) < zx0 → (Q (some (.int (1 : Int32))) H))))) :
    Cm E mX9_isForm [.int zx0] H Q :=
  cm_of (by decide +kernel : plainName RX9 = true) (Nat.le_of_ble_eq_true rfl) rfl (sgX9_isForm_0  hF)
