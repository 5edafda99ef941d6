theorem sgX10_hourDigest_0 {E : En} {Q : Option Value → Hi → Prop} {H : Hi} {y1 : Int64} {x3 : Int32} 
    (hF : Cm E mX10_loadOf [rf E 99, .int x3] H (fun w H_1 => ∃ r_2 : Int32, w = some (.int r_2) ∧ (∀ x4_3 : Int64, x4_3 = ((31 : Int64) * y1) + (r_2.toInt64) → (Cm E mX10_happyOf [rf E 99, .int x3] H_1 (fun w H_4 => ∃ r_5 : Int32, w = some (.int r_5) ∧ (∀ x4_6 : Int64, x4_6 = ((31 : Int64) * x4_3) + (r_5.toInt64) → (Cm E mX10_hangsOf [rf E 99, .int x3] H_4 (fun w H_7 => ∃ r_8 : Int32, w = some (.int r_8) ∧ (Q (some (.long (((31 : Int64) * x4_6) + (r_8.toInt64)))) H_7))))))))) :
    Rm E mX10_hourDigest Q 0 [some (rf E 99), some (.long y1), none, some (.int x3), none, none] [] H := by
  refine rn_ldc2 coRX10_328 dX10_hourDigest_0 ?_
  refine rn_lload_n dX10_hourDigest_3 rfl ?_
  refine rn_lmul dX10_hourDigest_4 ?_
  refine rn_aload_n dX10_hourDigest_5 rfl ?_
  refine rn_iload_n dX10_hourDigest_6 rfl ?_
  refine rm_callV (c0 := 99) (As := [.int x3]) (st := [.long ((31 : Int64) * y1)]) mlRX10_230 mdX10_loadOf (Nat.le_of_ble_eq_true rfl) rfl (by decide) (by decide) rfl rfl rfl (Nat.le_of_ble_eq_true rfl) ⟨Nat.le_refl _, Nat.le_refl _⟩ dX10_hourDigest_7 ?_
  refine cm_mono hF (fun w H_1 hF => ?_)
  obtain ⟨r_2, rfl, hF⟩ := hF
  refine rn_i2l dX10_hourDigest_10 ?_
  refine rn_ladd dX10_hourDigest_11 ?_
  refine rn_lstore dX10_hourDigest_12 rfl (by decide) (fun x4_3 ex4_3 => ?_)
  replace hF := hF x4_3 ex4_3
  refine rn_ldc2 coRX10_328 dX10_hourDigest_14 ?_
  refine rn_lload dX10_hourDigest_17 rfl ?_
  refine rn_lmul dX10_hourDigest_19 ?_
  refine rn_aload_n dX10_hourDigest_20 rfl ?_
  refine rn_iload_n dX10_hourDigest_21 rfl ?_
  refine rm_callV (c0 := 99) (As := [.int x3]) (st := [.long ((31 : Int64) * x4_3)]) mlRX10_233 mdX10_happyOf (Nat.le_of_ble_eq_true rfl) rfl (by decide) (by decide) rfl rfl rfl (Nat.le_of_ble_eq_true rfl) ⟨Nat.le_refl _, Nat.le_refl _⟩ dX10_hourDigest_22 ?_
  refine cm_mono hF (fun w H_4 hF => ?_)
  obtain ⟨r_5, rfl, hF⟩ := hF
  refine rn_i2l dX10_hourDigest_25 ?_
  refine rn_ladd dX10_hourDigest_26 ?_
  refine rn_lstore dX10_hourDigest_27 rfl (by decide) (fun x4_6 ex4_6 => ?_)
  replace hF := hF x4_6 ex4_6
  refine rn_ldc2 coRX10_328 dX10_hourDigest_29 ?_
  refine rn_lload dX10_hourDigest_32 rfl ?_
  refine rn_lmul dX10_hourDigest_34 ?_
  refine rn_aload_n dX10_hourDigest_35 rfl ?_
  refine rn_iload_n dX10_hourDigest_36 rfl ?_
  refine rm_callV (c0 := 99) (As := [.int x3]) (st := [.long ((31 : Int64) * x4_6)]) mlRX10_268 mdX10_hangsOf (Nat.le_of_ble_eq_true rfl) rfl (by decide) (by decide) rfl rfl rfl (Nat.le_of_ble_eq_true rfl) ⟨Nat.le_refl _, Nat.le_refl _⟩ dX10_hourDigest_37 ?_
  refine cm_mono hF (fun w H_7 hF => ?_)
  obtain ⟨r_8, rfl, hF⟩ := hF
  refine rn_i2l dX10_hourDigest_40 ?_
  refine rn_ladd dX10_hourDigest_41 ?_
  exact rm_lret rfl dX10_hourDigest_42 hF
theorem cmX10_hourDigest {E : En} {Q : Option Value → Hi → Prop} {H : Hi} {y1 : Int64} {x3 : Int32} 
    (hF : Cm E mX10_loadOf [rf E 99, .int x3] H (fun w H_1 => ∃ r_2 : Int32, w = some (.int r_2) ∧ (∀ x4_3 : Int64, x4_3 = ((31 : Int64) * y1) + (r_2.toInt64) → (Cm E mX10_happyOf [rf E 99, .int x3] H_1 (fun w H_4 => ∃ r_5 : Int32, w = some (.int r_5) ∧ (∀ x4_6 : Int64, x4_6 = ((31 : Int64) * x4_3) + (r_5.toInt64) → (Cm E mX10_hangsOf [rf E 99, .int x3] H_4 (fun w H_7 => ∃ r_8 : Int32, w = some (.int r_8) ∧ (Q (some (.long (((31 : Int64) * x4_6) + (r_8.toInt64)))) H_7))))))))) :
    Cm E mX10_hourDigest [rf E 99, .long y1, .int x3] H Q :=
  cm_of (by decide +kernel) (Nat.le_of_ble_eq_true rfl) rfl (sgX10_hourDigest_0  hF)
theorem sgX10_digest_0 {E : En} {Q : Option Value → Hi → Prop} {H : Hi}  
    (hF : Rm E mX10_digest Q 6 [some (rf E 99), some (.long (17 : Int64)), none, some (.int (0 : Int32))] [] H) :
    Rm E mX10_digest Q 0 [some (rf E 99), none, none, none] [] H := by
  refine rn_ldc2 coRX10_336 dX10_digest_0 ?_
  refine rn_lstore_n dX10_digest_3 rfl (by decide) (fun x1_1 ex1_1 => ?_)
  subst ex1_1
  refine rn_iconst (x := (0 : Int32)) dX10_digest_4 (by decide) ?_
  refine rn_istore_n dX10_digest_5 rfl (by decide) (fun x3_2 ex3_2 => ?_)
  subst ex3_2
  exact rn_wk (L' := [some (rf E 99), some (.long (17 : Int64)), none, some (.int (0 : Int32))]) (⟨rfl, ⟨rfl, ⟨rfl, trivial⟩⟩⟩) hF
theorem cmX10_digest {E : En} {Q : Option Value → Hi → Prop} {H : Hi}  
    (hF : Rm E mX10_digest Q 6 [some (rf E 99), some (.long (17 : Int64)), none, some (.int (0 : Int32))] [] H) :
    Cm E mX10_digest [rf E 99] H Q :=
  cm_of (by decide +kernel) (Nat.le_of_ble_eq_true rfl) rfl (sgX10_digest_0  hF)
theorem sgX10_digest_6 {E : En} {Q : Option Value → Hi → Prop} {H : Hi} {y1 : Int64} {x3 : Int32} 
    (hF : ((8 : Int32) ≤ x3 → (Cm E mX10_faultOf [rf E 99, .int (0 : Int32)] H (fun w H_2 => ∃ r_3 : Int32, w = some (.int r_3) ∧ (∀ x1_4 : Int64, x1_4 = ((31 : Int64) * y1) + (r_3.toInt64) → (Cm E mX10_faultOf [rf E 99, .int (1 : Int32)] H_2 (fun w H_5 => ∃ r_6 : Int32, w = some (.int r_6) ∧ (∀ x1_7 : Int64, x1_7 = ((31 : Int64) * x1_4) + (r_6.toInt64) → (Rm E mX10_digest Q 59 [some (rf E 99), some (.long x1_7), none, some (.int (0 : Int32))] [] H_5)))))))) ∧ (¬ (8 : Int32) ≤ x3 → (Cm E mX10_count [rf E 99, .int x3] H (fun w H_9 => ∃ r_10 : Int32, w = some (.int r_10) ∧ (∀ x1_11 : Int64, x1_11 = ((31 : Int64) * y1) + (r_10.toInt64) → (∀ x3_12 : Int32, x3_12 = x3 + (1 : Int32) → (Rm E mX10_digest Q 6 [some (rf E 99), some (.long x1_11), none, some (.int x3_12)] [] H_9))))))) :
    Rm E mX10_digest Q 6 [some (rf E 99), some (.long y1), none, some (.int x3)] [] H := by
  refine rn_iload_n dX10_digest_6 rfl ?_
  refine rn_bipush (x := (8 : Int32)) dX10_digest_7 (by decide) ?_
  refine rn_icmp_ge (tgt := 31) dX10_digest_9 (by decide) (fun hc_1 => ?_) (fun hc_1 => ?_)
  · replace hF := hF.1 hc_1
    refine rn_ldc2 coRX10_328 dX10_digest_31 ?_
    refine rn_lload_n dX10_digest_34 rfl ?_
    refine rn_lmul dX10_digest_35 ?_
    refine rn_aload_n dX10_digest_36 rfl ?_
    refine rn_iconst (x := (0 : Int32)) dX10_digest_37 (by decide) ?_
    refine rm_callV (c0 := 99) (As := [.int (0 : Int32)]) (st := [.long ((31 : Int64) * y1)]) mlRX10_141 mdX10_faultOf (Nat.le_of_ble_eq_true rfl) rfl (by decide) (by decide) rfl rfl rfl (Nat.le_of_ble_eq_true rfl) ⟨Nat.le_refl _, Nat.le_refl _⟩ dX10_digest_38 ?_
    refine cm_mono hF (fun w H_2 hF => ?_)
    obtain ⟨r_3, rfl, hF⟩ := hF
    refine rn_i2l dX10_digest_41 ?_
    refine rn_ladd dX10_digest_42 ?_
    refine rn_lstore_n dX10_digest_43 rfl (by decide) (fun x1_4 ex1_4 => ?_)
    replace hF := hF x1_4 ex1_4
    refine rn_ldc2 coRX10_328 dX10_digest_44 ?_
    refine rn_lload_n dX10_digest_47 rfl ?_
    refine rn_lmul dX10_digest_48 ?_
    refine rn_aload_n dX10_digest_49 rfl ?_
    refine rn_iconst (x := (1 : Int32)) dX10_digest_50 (by decide) ?_
    refine rm_callV (c0 := 99) (As := [.int (1 : Int32)]) (st := [.long ((31 : Int64) * x1_4)]) mlRX10_141 mdX10_faultOf (Nat.le_of_ble_eq_true rfl) rfl (by decide) (by decide) rfl rfl rfl (Nat.le_of_ble_eq_true rfl) ⟨Nat.le_refl _, Nat.le_refl _⟩ dX10_digest_51 ?_
    refine cm_mono hF (fun w H_5 hF => ?_)
    obtain ⟨r_6, rfl, hF⟩ := hF
    refine rn_i2l dX10_digest_54 ?_
    refine rn_ladd dX10_digest_55 ?_
    refine rn_lstore_n dX10_digest_56 rfl (by decide) (fun x1_7 ex1_7 => ?_)
    replace hF := hF x1_7 ex1_7
    refine rn_iconst (x := (0 : Int32)) dX10_digest_57 (by decide) ?_
    refine rn_istore_n dX10_digest_58 rfl (by decide) (fun x3_8 ex3_8 => ?_)
    subst ex3_8
    exact rn_wk (L' := [some (rf E 99), some (.long x1_7), none, some (.int (0 : Int32))]) (⟨rfl, ⟨rfl, ⟨rfl, trivial⟩⟩⟩) hF
  · replace hF := hF.2 hc_1
    refine rn_ldc2 coRX10_328 dX10_digest_12 ?_
    refine rn_lload_n dX10_digest_15 rfl ?_
    refine rn_lmul dX10_digest_16 ?_
    refine rn_aload_n dX10_digest_17 rfl ?_
    refine rn_iload_n dX10_digest_18 rfl ?_
    refine rm_callV (c0 := 99) (As := [.int x3]) (st := [.long ((31 : Int64) * y1)]) mlRX10_338 mdX10_count (Nat.le_of_ble_eq_true rfl) rfl (by decide) (by decide) rfl rfl rfl (Nat.le_of_ble_eq_true rfl) ⟨Nat.le_refl _, Nat.le_refl _⟩ dX10_digest_19 ?_
    refine cm_mono hF (fun w H_9 hF => ?_)
    obtain ⟨r_10, rfl, hF⟩ := hF
    refine rn_i2l dX10_digest_22 ?_
    refine rn_ladd dX10_digest_23 ?_
    refine rn_lstore_n dX10_digest_24 rfl (by decide) (fun x1_11 ex1_11 => ?_)
    replace hF := hF x1_11 ex1_11
    refine rn_iinc (w := (1 : Int32)) dX10_digest_25 rfl (by decide) rfl (by decide) (fun x3_12 ex3_12 => ?_)
    replace hF := hF x3_12 ex3_12
    refine rn_goto (tgt := 6) dX10_digest_28 (by decide) ?_
    exact rn_wk (L' := [some (rf E 99), some (.long x1_11), none, some (.int x3_12)]) (⟨rfl, ⟨rfl, ⟨rfl, trivial⟩⟩⟩) hF
theorem sgX10_digest_59 {E : En} {Q : Option Value → Hi → Prop} {H : Hi} {y1 : Int64} {x3 : Int32} 
    (hF : ((H 99 2) ≤ x3 → (Rm E mX10_digest Q 82 [some (rf E 99), some (.long y1), none, some (.int (0 : Int32))] [] H)) ∧ (¬ (H 99 2) ≤ x3 → (Cm E mX10_thingDigest [rf E 99, .long y1, .int x3] H (fun w H_3 => ∃ r_4 : Int64, w = some (.long r_4) ∧ (∀ x3_6 : Int32, x3_6 = x3 + (1 : Int32) → (Rm E mX10_digest Q 59 [some (rf E 99), some (.long r_4), none, some (.int x3_6)] [] H_3)))))) :
    Rm E mX10_digest Q 59 [some (rf E 99), some (.long y1), none, some (.int x3)] [] H := by
  refine rn_iload_n dX10_digest_59 rfl ?_
  refine rn_aload_n dX10_digest_60 rfl ?_
  refine rm_geti flRX10_125 rfl (by decide) rfl dX10_digest_61 ?_
  refine rn_icmp_ge (tgt := 80) dX10_digest_64 (by decide) (fun hc_1 => ?_) (fun hc_1 => ?_)
  · replace hF := hF.1 hc_1
    refine rn_iconst (x := (0 : Int32)) dX10_digest_80 (by decide) ?_
    refine rn_istore_n dX10_digest_81 rfl (by decide) (fun x3_2 ex3_2 => ?_)
    subst ex3_2
    exact rn_wk (L' := [some (rf E 99), some (.long y1), none, some (.int (0 : Int32))]) (⟨rfl, ⟨rfl, ⟨rfl, trivial⟩⟩⟩) hF
  · replace hF := hF.2 hc_1
    refine rn_aload_n dX10_digest_67 rfl ?_
    refine rn_lload_n dX10_digest_68 rfl ?_
    refine rn_iload_n dX10_digest_69 rfl ?_
    refine rm_callV (c0 := 99) (As := [.long y1, .int x3]) (st := []) mlRX10_341 mdX10_thingDigest (Nat.le_of_ble_eq_true rfl) rfl (by decide) (by decide) rfl rfl rfl (Nat.le_of_ble_eq_true rfl) ⟨Nat.le_refl _, Nat.le_refl _⟩ dX10_digest_70 ?_
    refine cm_mono hF (fun w H_3 hF => ?_)
    obtain ⟨r_4, rfl, hF⟩ := hF
    refine rn_lstore_n dX10_digest_73 rfl (by decide) (fun x1_5 ex1_5 => ?_)
    subst ex1_5
    refine rn_iinc (w := (1 : Int32)) dX10_digest_74 rfl (by decide) rfl (by decide) (fun x3_6 ex3_6 => ?_)
    replace hF := hF x3_6 ex3_6
    refine rn_goto (tgt := 59) dX10_digest_77 (by decide) ?_
    exact rn_wk (L' := [some (rf E 99), some (.long r_4), none, some (.int x3_6)]) (⟨rfl, ⟨rfl, ⟨rfl, trivial⟩⟩⟩) hF
theorem sgX10_digest_82 {E : En} {Q : Option Value → Hi → Prop} {H : Hi} {y1 : Int64} {x3 : Int32} 
    (hF : ((H 99 6) ≤ x3 → (Cm E mX10_hourDigest [rf E 99, .long y1, .int (0 : Int32)] H (fun w H_2 => ∃ r_3 : Int64, w = some (.long r_3) ∧ (Cm E mX10_hourDigest [rf E 99, .long r_3, .int (1 : Int32)] H_2 (fun w H_5 => ∃ r_6 : Int64, w = some (.long r_6) ∧ (Cm E mX10_hourDigest [rf E 99, .long r_6, .int (5 : Int32)] H_5 (fun w H_8 => ∃ r_9 : Int64, w = some (.long r_9) ∧ (Cm E mX10_hourDigest [rf E 99, .long r_9, .int (12 : Int32)] H_8 (fun w H_11 => ∃ r_12 : Int64, w = some (.long r_12) ∧ (Cm E mX10_hourDigest [rf E 99, .long r_12, .int (23 : Int32)] H_11 (fun w H_14 => ∃ r_15 : Int64, w = some (.long r_15) ∧ (Rm E mX10_digest Q 192 [some (rf E 99), some (.long r_15), none, some (.int (0 : Int32))] [] H_14)))))))))))) ∧ (¬ (H 99 6) ≤ x3 → (∃ j_18 : Nat, (j_18 < 9 ∧ x3 = nI j_18) ∧ (∀ x1_19 : Int64, x1_19 = ((31 : Int64) * y1) + ((H 105 j_18).toInt64) → (∃ j_20 : Nat, (j_20 < 9 ∧ x3 = nI j_20) ∧ (∀ x1_21 : Int64, x1_21 = ((31 : Int64) * x1_19) + ((H 106 j_20).toInt64) → (Cm E mX10_hasOf [rf E 99, .int (9 : Int32), .int x3] H (fun w H_22 => ∃ r_23 : Int32, w = some (.int r_23) ∧ (∀ x1_24 : Int64, x1_24 = ((31 : Int64) * x1_21) + (r_23.toInt64) → (Cm E mX10_when [rf E 99, .int x3, .int (0 : Int32)] H_22 (fun w H_25 => ∃ r_26 : Int32, w = some (.int r_26) ∧ (∀ x1_27 : Int64, x1_27 = ((31 : Int64) * x1_24) + (r_26.toInt64) → (∀ x3_28 : Int32, x3_28 = x3 + (1 : Int32) → (Rm E mX10_digest Q 82 [some (rf E 99), some (.long x1_27), none, some (.int x3_28)] [] H_25)))))))))))))) :
    Rm E mX10_digest Q 82 [some (rf E 99), some (.long y1), none, some (.int x3)] [] H := by
  refine rn_iload_n dX10_digest_82 rfl ?_
  refine rn_aload_n dX10_digest_83 rfl ?_
  refine rm_geti flRX10_128 rfl (by decide) rfl dX10_digest_84 ?_
  refine rn_icmp_ge (tgt := 153) dX10_digest_87 (by decide) (fun hc_1 => ?_) (fun hc_1 => ?_)
  · replace hF := hF.1 hc_1
    refine rn_aload_n dX10_digest_153 rfl ?_
    refine rn_lload_n dX10_digest_154 rfl ?_
    refine rn_iconst (x := (0 : Int32)) dX10_digest_155 (by decide) ?_
    refine rm_callV (c0 := 99) (As := [.long y1, .int (0 : Int32)]) (st := []) mlRX10_348 mdX10_hourDigest (Nat.le_of_ble_eq_true rfl) rfl (by decide) (by decide) rfl rfl rfl (Nat.le_of_ble_eq_true rfl) ⟨Nat.le_refl _, Nat.le_refl _⟩ dX10_digest_156 ?_
    refine cm_mono hF (fun w H_2 hF => ?_)
    obtain ⟨r_3, rfl, hF⟩ := hF
    refine rn_lstore_n dX10_digest_159 rfl (by decide) (fun x1_4 ex1_4 => ?_)
    subst ex1_4
    refine rn_aload_n dX10_digest_160 rfl ?_
    refine rn_lload_n dX10_digest_161 rfl ?_
    refine rn_iconst (x := (1 : Int32)) dX10_digest_162 (by decide) ?_
    refine rm_callV (c0 := 99) (As := [.long r_3, .int (1 : Int32)]) (st := []) mlRX10_348 mdX10_hourDigest (Nat.le_of_ble_eq_true rfl) rfl (by decide) (by decide) rfl rfl rfl (Nat.le_of_ble_eq_true rfl) ⟨Nat.le_refl _, Nat.le_refl _⟩ dX10_digest_163 ?_
    refine cm_mono hF (fun w H_5 hF => ?_)
    obtain ⟨r_6, rfl, hF⟩ := hF
    refine rn_lstore_n dX10_digest_166 rfl (by decide) (fun x1_7 ex1_7 => ?_)
    subst ex1_7
    refine rn_aload_n dX10_digest_167 rfl ?_
    refine rn_lload_n dX10_digest_168 rfl ?_
    refine rn_iconst (x := (5 : Int32)) dX10_digest_169 (by decide) ?_
    refine rm_callV (c0 := 99) (As := [.long r_6, .int (5 : Int32)]) (st := []) mlRX10_348 mdX10_hourDigest (Nat.le_of_ble_eq_true rfl) rfl (by decide) (by decide) rfl rfl rfl (Nat.le_of_ble_eq_true rfl) ⟨Nat.le_refl _, Nat.le_refl _⟩ dX10_digest_170 ?_
    refine cm_mono hF (fun w H_8 hF => ?_)
    obtain ⟨r_9, rfl, hF⟩ := hF
    refine rn_lstore_n dX10_digest_173 rfl (by decide) (fun x1_10 ex1_10 => ?_)
    subst ex1_10
    refine rn_aload_n dX10_digest_174 rfl ?_
    refine rn_lload_n dX10_digest_175 rfl ?_
    refine rn_bipush (x := (12 : Int32)) dX10_digest_176 (by decide) ?_
    refine rm_callV (c0 := 99) (As := [.long r_9, .int (12 : Int32)]) (st := []) mlRX10_348 mdX10_hourDigest (Nat.le_of_ble_eq_true rfl) rfl (by decide) (by decide) rfl rfl rfl (Nat.le_of_ble_eq_true rfl) ⟨Nat.le_refl _, Nat.le_refl _⟩ dX10_digest_178 ?_
    refine cm_mono hF (fun w H_11 hF => ?_)
    obtain ⟨r_12, rfl, hF⟩ := hF
    refine rn_lstore_n dX10_digest_181 rfl (by decide) (fun x1_13 ex1_13 => ?_)
    subst ex1_13
    refine rn_aload_n dX10_digest_182 rfl ?_
    refine rn_lload_n dX10_digest_183 rfl ?_
    refine rn_bipush (x := (23 : Int32)) dX10_digest_184 (by decide) ?_
    refine rm_callV (c0 := 99) (As := [.long r_12, .int (23 : Int32)]) (st := []) mlRX10_348 mdX10_hourDigest (Nat.le_of_ble_eq_true rfl) rfl (by decide) (by decide) rfl rfl rfl (Nat.le_of_ble_eq_true rfl) ⟨Nat.le_refl _, Nat.le_refl _⟩ dX10_digest_186 ?_
    refine cm_mono hF (fun w H_14 hF => ?_)
    obtain ⟨r_15, rfl, hF⟩ := hF
    refine rn_lstore_n dX10_digest_189 rfl (by decide) (fun x1_16 ex1_16 => ?_)
    subst ex1_16
    refine rn_iconst (x := (0 : Int32)) dX10_digest_190 (by decide) ?_
    refine rn_istore_n dX10_digest_191 rfl (by decide) (fun x3_17 ex3_17 => ?_)
    subst ex3_17
    exact rn_wk (L' := [some (rf E 99), some (.long r_15), none, some (.int (0 : Int32))]) (⟨rfl, ⟨rfl, ⟨rfl, trivial⟩⟩⟩) hF
  · replace hF := hF.2 hc_1
    refine rn_ldc2 coRX10_328 dX10_digest_90 ?_
    refine rn_lload_n dX10_digest_93 rfl ?_
    refine rn_lmul dX10_digest_94 ?_
    refine rn_aload_n dX10_digest_95 rfl ?_
    refine rm_getr (r := 105) flRX10_25 rfl (by decide) rfl dX10_digest_96 ?_
    refine rn_iload_n dX10_digest_99 rfl ?_
    obtain ⟨j_18, hj_18, hF⟩ := hF
    refine rj_iald hj_18 rfl (by decide) rfl (by decide) dX10_digest_100 ?_
    refine rn_i2l dX10_digest_101 ?_
    refine rn_ladd dX10_digest_102 ?_
    refine rn_lstore_n dX10_digest_103 rfl (by decide) (fun x1_19 ex1_19 => ?_)
    replace hF := hF x1_19 ex1_19
    refine rn_ldc2 coRX10_328 dX10_digest_104 ?_
    refine rn_lload_n dX10_digest_107 rfl ?_
    refine rn_lmul dX10_digest_108 ?_
    refine rn_aload_n dX10_digest_109 rfl ?_
    refine rm_getr (r := 106) flRX10_28 rfl (by decide) rfl dX10_digest_110 ?_
    refine rn_iload_n dX10_digest_113 rfl ?_
    obtain ⟨j_20, hj_20, hF⟩ := hF
    refine rj_iald hj_20 rfl (by decide) rfl (by decide) dX10_digest_114 ?_
    refine rn_i2l dX10_digest_115 ?_
    refine rn_ladd dX10_digest_116 ?_
    refine rn_lstore_n dX10_digest_117 rfl (by decide) (fun x1_21 ex1_21 => ?_)
    replace hF := hF x1_21 ex1_21
    refine rn_ldc2 coRX10_328 dX10_digest_118 ?_
    refine rn_lload_n dX10_digest_121 rfl ?_
    refine rn_lmul dX10_digest_122 ?_
    refine rn_aload_n dX10_digest_123 rfl ?_
    refine rn_bipush (x := (9 : Int32)) dX10_digest_124 (by decide) ?_
    refine rn_iload_n dX10_digest_126 rfl ?_
    refine rm_callV (c0 := 99) (As := [.int (9 : Int32), .int x3]) (st := [.long ((31 : Int64) * x1_21)]) mlRX10_227 mdX10_hasOf (Nat.le_of_ble_eq_true rfl) rfl (by decide) (by decide) rfl rfl rfl (Nat.le_of_ble_eq_true rfl) ⟨Nat.le_refl _, Nat.le_refl _⟩ dX10_digest_127 ?_
    refine cm_mono hF (fun w H_22 hF => ?_)
    obtain ⟨r_23, rfl, hF⟩ := hF
    refine rn_i2l dX10_digest_130 ?_
    refine rn_ladd dX10_digest_131 ?_
    refine rn_lstore_n dX10_digest_132 rfl (by decide) (fun x1_24 ex1_24 => ?_)
    replace hF := hF x1_24 ex1_24
    refine rn_ldc2 coRX10_328 dX10_digest_133 ?_
    refine rn_lload_n dX10_digest_136 rfl ?_
    refine rn_lmul dX10_digest_137 ?_
    refine rn_aload_n dX10_digest_138 rfl ?_
    refine rn_iload_n dX10_digest_139 rfl ?_
    refine rn_iconst (x := (0 : Int32)) dX10_digest_140 (by decide) ?_
    refine rm_callV (c0 := 99) (As := [.int x3, .int (0 : Int32)]) (st := [.long ((31 : Int64) * x1_24)]) mlRX10_345 mdX10_when (Nat.le_of_ble_eq_true rfl) rfl (by decide) (by decide) rfl rfl rfl (Nat.le_of_ble_eq_true rfl) ⟨Nat.le_refl _, Nat.le_refl _⟩ dX10_digest_141 ?_
    refine cm_mono hF (fun w H_25 hF => ?_)
    obtain ⟨r_26, rfl, hF⟩ := hF
    refine rn_i2l dX10_digest_144 ?_
    refine rn_ladd dX10_digest_145 ?_
    refine rn_lstore_n dX10_digest_146 rfl (by decide) (fun x1_27 ex1_27 => ?_)
    replace hF := hF x1_27 ex1_27
    refine rn_iinc (w := (1 : Int32)) dX10_digest_147 rfl (by decide) rfl (by decide) (fun x3_28 ex3_28 => ?_)
    replace hF := hF x3_28 ex3_28
    refine rn_goto (tgt := 82) dX10_digest_150 (by decide) ?_
    exact rn_wk (L' := [some (rf E 99), some (.long x1_27), none, some (.int x3_28)]) (⟨rfl, ⟨rfl, ⟨rfl, trivial⟩⟩⟩) hF
theorem sgX10_digest_192 {E : En} {Q : Option Value → Hi → Prop} {H : Hi} {y1 : Int64} {x3 : Int32} 
    (hF : ((H 99 11) ≤ x3 → (Cm E mX10_failsNow [rf E 99] H (fun w H_2 => ∃ r_3 : Int32, w = some (.int r_3) ∧ (∀ x1_4 : Int64, x1_4 = ((31 : Int64) * y1) + (r_3.toInt64) → (Cm E mX10_sortBy [rf E 99, .int (9 : Int32)] H_2 (fun w H_5 => ∃ r_6 : Int32, w = some (.int r_6) ∧ (∀ x1_8 : Int64, x1_8 = ((31 : Int64) * x1_4) + (r_6.toInt64) → (Cm E mX10_ofRow [rf E 99, .int r_6, .int (0 : Int32)] H_5 (fun w H_9 => ∃ r_10 : Int32, w = some (.int r_10) ∧ (∀ x1_11 : Int64, x1_11 = ((31 : Int64) * x1_8) + (r_10.toInt64) → (Cm E mX10_dayOf [rf E 99, .int (7 : Int32), .int (12 : Int32), .int (-1 : Int32)] H_9 (fun w H_12 => ∃ r_13 : Int32, w = some (.int r_13) ∧ (Q (some (.long (((31 : Int64) * x1_11) + (r_13.toInt64)))) H_12))))))))))))) ∧ (¬ (H 99 11) ≤ x3 → (Cm E mX10_worksOf [rf E 99, .int x3] H (fun w H_14 => ∃ r_15 : Int32, w = some (.int r_15) ∧ (∀ x1_16 : Int64, x1_16 = ((31 : Int64) * y1) + (r_15.toInt64) → (∀ x3_17 : Int32, x3_17 = x3 + (1 : Int32) → (Rm E mX10_digest Q 192 [some (rf E 99), some (.long x1_16), none, some (.int x3_17)] [] H_14))))))) :
    Rm E mX10_digest Q 192 [some (rf E 99), some (.long y1), none, some (.int x3)] [] H := by
  refine rn_iload_n dX10_digest_192 rfl ?_
  refine rn_aload_n dX10_digest_193 rfl ?_
  refine rm_geti flRX10_163 rfl (by decide) rfl dX10_digest_194 ?_
  refine rn_icmp_ge (tgt := 219) dX10_digest_197 (by decide) (fun hc_1 => ?_) (fun hc_1 => ?_)
  · replace hF := hF.1 hc_1
    refine rn_ldc2 coRX10_328 dX10_digest_219 ?_
    refine rn_lload_n dX10_digest_222 rfl ?_
    refine rn_lmul dX10_digest_223 ?_
    refine rn_aload_n dX10_digest_224 rfl ?_
    refine rm_callV (c0 := 99) (As := []) (st := [.long ((31 : Int64) * y1)]) mlRX10_239 mdX10_failsNow (Nat.le_of_ble_eq_true rfl) rfl (by decide) (by decide) rfl rfl rfl (Nat.le_of_ble_eq_true rfl) ⟨Nat.le_refl _, Nat.le_refl _⟩ dX10_digest_225 ?_
    refine cm_mono hF (fun w H_2 hF => ?_)
    obtain ⟨r_3, rfl, hF⟩ := hF
    refine rn_i2l dX10_digest_228 ?_
    refine rn_ladd dX10_digest_229 ?_
    refine rn_lstore_n dX10_digest_230 rfl (by decide) (fun x1_4 ex1_4 => ?_)
    replace hF := hF x1_4 ex1_4
    refine rn_aload_n dX10_digest_231 rfl ?_
    refine rn_bipush (x := (9 : Int32)) dX10_digest_232 (by decide) ?_
    refine rm_callV (c0 := 99) (As := [.int (9 : Int32)]) (st := []) mlRX10_274 mdX10_sortBy (Nat.le_of_ble_eq_true rfl) rfl (by decide) (by decide) rfl rfl rfl (Nat.le_of_ble_eq_true rfl) ⟨Nat.le_refl _, Nat.le_refl _⟩ dX10_digest_234 ?_
    refine cm_mono hF (fun w H_5 hF => ?_)
    obtain ⟨r_6, rfl, hF⟩ := hF
    refine rn_istore_n dX10_digest_237 rfl (by decide) (fun x3_7 ex3_7 => ?_)
    subst ex3_7
    refine rn_ldc2 coRX10_328 dX10_digest_238 ?_
    refine rn_lload_n dX10_digest_241 rfl ?_
    refine rn_lmul dX10_digest_242 ?_
    refine rn_iload_n dX10_digest_243 rfl ?_
    refine rn_i2l dX10_digest_244 ?_
    refine rn_ladd dX10_digest_245 ?_
    refine rn_lstore_n dX10_digest_246 rfl (by decide) (fun x1_8 ex1_8 => ?_)
    replace hF := hF x1_8 ex1_8
    refine rn_ldc2 coRX10_328 dX10_digest_247 ?_
    refine rn_lload_n dX10_digest_250 rfl ?_
    refine rn_lmul dX10_digest_251 ?_
    refine rn_aload_n dX10_digest_252 rfl ?_
    refine rn_iload_n dX10_digest_253 rfl ?_
    refine rn_iconst (x := (0 : Int32)) dX10_digest_254 (by decide) ?_
    refine rm_callV (c0 := 99) (As := [.int r_6, .int (0 : Int32)]) (st := [.long ((31 : Int64) * x1_8)]) mlRX10_261 mdX10_ofRow (Nat.le_of_ble_eq_true rfl) rfl (by decide) (by decide) rfl rfl rfl (Nat.le_of_ble_eq_true rfl) ⟨Nat.le_refl _, Nat.le_refl _⟩ dX10_digest_255 ?_
    refine cm_mono hF (fun w H_9 hF => ?_)
    obtain ⟨r_10, rfl, hF⟩ := hF
    refine rn_i2l dX10_digest_258 ?_
    refine rn_ladd dX10_digest_259 ?_
    refine rn_lstore_n dX10_digest_260 rfl (by decide) (fun x1_11 ex1_11 => ?_)
    replace hF := hF x1_11 ex1_11
    refine rn_ldc2 coRX10_328 dX10_digest_261 ?_
    refine rn_lload_n dX10_digest_264 rfl ?_
    refine rn_lmul dX10_digest_265 ?_
    refine rn_aload_n dX10_digest_266 rfl ?_
    refine rn_bipush (x := (7 : Int32)) dX10_digest_267 (by decide) ?_
    refine rn_bipush (x := (12 : Int32)) dX10_digest_269 (by decide) ?_
    refine rn_iconst (x := (-1 : Int32)) dX10_digest_271 (by decide) ?_
    refine rm_callV (c0 := 99) (As := [.int (7 : Int32), .int (12 : Int32), .int (-1 : Int32)]) (st := [.long ((31 : Int64) * x1_11)]) mlRX10_310 mdX10_dayOf (Nat.le_of_ble_eq_true rfl) rfl (by decide) (by decide) rfl rfl rfl (Nat.le_of_ble_eq_true rfl) ⟨Nat.le_refl _, Nat.le_refl _⟩ dX10_digest_272 ?_
    refine cm_mono hF (fun w H_12 hF => ?_)
    obtain ⟨r_13, rfl, hF⟩ := hF
    refine rn_i2l dX10_digest_275 ?_
    refine rn_ladd dX10_digest_276 ?_
    exact rm_lret rfl dX10_digest_277 hF
  · replace hF := hF.2 hc_1
    refine rn_ldc2 coRX10_328 dX10_digest_200 ?_
    refine rn_lload_n dX10_digest_203 rfl ?_
    refine rn_lmul dX10_digest_204 ?_
    refine rn_aload_n dX10_digest_205 rfl ?_
    refine rn_iload_n dX10_digest_206 rfl ?_
    refine rm_callV (c0 := 99) (As := [.int x3]) (st := [.long ((31 : Int64) * y1)]) mlRX10_236 mdX10_worksOf (Nat.le_of_ble_eq_true rfl) rfl (by decide) (by decide) rfl rfl rfl (Nat.le_of_ble_eq_true rfl) ⟨Nat.le_refl _, Nat.le_refl _⟩ dX10_digest_207 ?_
    refine cm_mono hF (fun w H_14 hF => ?_)
    obtain ⟨r_15, rfl, hF⟩ := hF
    refine rn_i2l dX10_digest_210 ?_
    refine rn_ladd dX10_digest_211 ?_
    refine rn_lstore_n dX10_digest_212 rfl (by decide) (fun x1_16 ex1_16 => ?_)
    replace hF := hF x1_16 ex1_16
    refine rn_iinc (w := (1 : Int32)) dX10_digest_213 rfl (by decide) rfl (by decide) (fun x3_17 ex3_17 => ?_)
    replace hF := hF x3_17 ex3_17
    refine rn_goto (tgt := 192) dX10_digest_216 (by decide) ?_
    exact rn_wk (L' := [some (rf E 99), some (.long x1_16), none, some (.int x3_17)]) (⟨rfl, ⟨rfl, ⟨rfl, trivial⟩⟩⟩) hF
