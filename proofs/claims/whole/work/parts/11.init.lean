set_option maxHeartbeats 4000000 in
set_option maxRecDepth 20000 in
theorem ciX7_init_1 {E : En} {Q : Option Value → Hp → Prop} {T : List (List Value)} (B : List (List Value)) (hB : B.length = 1) (hT : T = B ++ [[.null, .null, .null, .null, .int 0, .int 0]])
    (hq : Q none (tb (B ++ [[rf E 2, rf E (1000 + 0), rf E (1000 + 1), rf E (1000 + 2), .int 3, .int 0], []]))) :
    Ct E mX7_init 1 31 [rf E 1, .int 31, rf E (1000 + 0), rf E (1000 + 1), rf E (1000 + 2)] 2 (tb T) Q := by
  subst hT
  refine ct_of (L0 := [some (rf E 1), some (.int 31), some (rf E (1000 + 0)), some (rf E (1000 + 1)), some (rf E (1000 + 2))]) (by decide +kernel : plainName RX7 = true) (Nat.le_of_ble_eq_true rfl) rfl ?_
  refine rn_aload_n dX7_init_0 rfl ?_
  refine rn_objInit (c0 := 1) mlRX7_3 in_objI in_objC (Nat.le_of_ble_eq_true rfl) dX7_init_1 ?_
  refine rn_aload_n dX7_init_4 rfl ?_
  refine rn_iload_n dX7_init_5 rfl ?_
  refine rt_newa (n := 2) (t := 100) (N := 31) (atype := .int) (ty := .int) rfl in_aI (by decide) rfl (by intro C h; cases h) rfl (by decide) (by decide) (by decide) rfl (by decide) ⟨Nat.le_of_ble_eq_true rfl, Nat.le_of_ble_eq_true rfl⟩ dX7_init_6 (by simp [hB]) ?_
  rw [List.append_assoc]
  show Rn _ _ _ _ _ _ _ _ _ _ _ (tb (B ++ [[.null, .null, .null, .null, .int 0, .int 0], []]))
  refine rt_putF (i := 0) (ty := (.array .int)) hB rfl flRX7_9 rfl (by decide) rfl rfl (by decide +kernel) rfl rfl dX7_init_8 (Nat.le_of_ble_eq_true rfl) (Nat.le_of_ble_eq_true rfl) ?_
  show Rn _ _ _ _ _ _ _ _ _ _ _ (tb (B ++ [[rf E 2, .null, .null, .null, .int 0, .int 0], []]))
  refine rn_aload_n dX7_init_11 rfl ?_
  refine rn_aload_n dX7_init_12 rfl ?_
  refine rt_putF (i := 0) (ty := (.object "java/lang/String")) hB rfl flRX7_15 rfl (by decide) rfl rfl (by decide +kernel) rfl rfl dX7_init_13 (Nat.le_of_ble_eq_true rfl) (Nat.le_of_ble_eq_true rfl) ?_
  show Rn _ _ _ _ _ _ _ _ _ _ _ (tb (B ++ [[rf E 2, rf E (1000 + 0), .null, .null, .int 0, .int 0], []]))
  refine rn_aload_n dX7_init_16 rfl ?_
  refine rn_aload_n dX7_init_17 rfl ?_
  refine rt_putF (i := 0) (ty := (.object "java/lang/String")) hB rfl flRX7_19 rfl (by decide) rfl rfl (by decide +kernel) rfl rfl dX7_init_18 (Nat.le_of_ble_eq_true rfl) (Nat.le_of_ble_eq_true rfl) ?_
  show Rn _ _ _ _ _ _ _ _ _ _ _ (tb (B ++ [[rf E 2, rf E (1000 + 0), rf E (1000 + 1), .null, .int 0, .int 0], []]))
  refine rn_aload_n dX7_init_21 rfl ?_
  refine rn_aload dX7_init_22 rfl ?_
  refine rt_putF (i := 0) (ty := (.object "java/lang/String")) hB rfl flRX7_22 rfl (by decide) rfl rfl (by decide +kernel) rfl rfl dX7_init_24 (Nat.le_of_ble_eq_true rfl) (Nat.le_of_ble_eq_true rfl) ?_
  show Rn _ _ _ _ _ _ _ _ _ _ _ (tb (B ++ [[rf E 2, rf E (1000 + 0), rf E (1000 + 1), rf E (1000 + 2), .int 0, .int 0], []]))
  refine rn_aload_n dX7_init_27 rfl ?_
  refine rn_aload dX7_init_28 rfl ?_
  refine rn_callVS (mc2 := 0) (ms2 := 0) (j := 2) (As := []) (st := [rf E 1]) mlRX7_25 mdJ0_isEmpty_aae02 (Nat.le_of_ble_eq_true rfl) (by decide) rfl rfl rfl (Nat.le_of_ble_eq_true rfl) (by decide) ⟨Nat.le_of_ble_eq_true rfl, Nat.le_of_ble_eq_true rfl⟩ dX7_init_30 (ct_isEmpty (by decide) (by decide) ?_)
  show Rn _ _ _ _ _ _ _ _ _ [.int (0 : Int32), rf E 1] _ _
  refine rn_if_eq (tgt := 40) dX7_init_33 (by decide) (fun _ => ?_) (fun q => absurd q (by decide))
  refine rn_iconst (x := (3 : Int32)) dX7_init_40 (by decide) ?_
  refine rt_putF (i := 0) (ty := .int) hB rfl flRX7_31 rfl (by decide) rfl rfl (by decide +kernel) rfl rfl dX7_init_41 (Nat.le_of_ble_eq_true rfl) (Nat.le_of_ble_eq_true rfl) ?_
  show Rn _ _ _ _ _ _ _ _ _ _ _ (tb (B ++ [[rf E 2, rf E (1000 + 0), rf E (1000 + 1), rf E (1000 + 2), .int 3, .int 0], []]))
  exact rn_vret rfl dX7_init_44 rfl (by decide) hq
set_option maxHeartbeats 4000000 in
set_option maxRecDepth 20000 in
theorem ciX7_init_3 {E : En} {Q : Option Value → Hp → Prop} {T : List (List Value)} (B : List (List Value)) (hB : B.length = 3) (hT : T = B ++ [[.null, .null, .null, .null, .int 0, .int 0]])
    (hq : Q none (tb (B ++ [[rf E 4, rf E (1000 + 3), rf E (1000 + 4), rf E (1000 + 5), .int 2, .int 0], []]))) :
    Ct E mX7_init 1 23 [rf E 3, .int 23, rf E (1000 + 3), rf E (1000 + 4), rf E (1000 + 5)] 4 (tb T) Q := by
  subst hT
  refine ct_of (L0 := [some (rf E 3), some (.int 23), some (rf E (1000 + 3)), some (rf E (1000 + 4)), some (rf E (1000 + 5))]) (by decide +kernel : plainName RX7 = true) (Nat.le_of_ble_eq_true rfl) rfl ?_
  refine rn_aload_n dX7_init_0 rfl ?_
  refine rn_objInit (c0 := 3) mlRX7_3 in_objI in_objC (Nat.le_of_ble_eq_true rfl) dX7_init_1 ?_
  refine rn_aload_n dX7_init_4 rfl ?_
  refine rn_iload_n dX7_init_5 rfl ?_
  refine rt_newa (n := 4) (t := 100) (N := 23) (atype := .int) (ty := .int) rfl in_aI (by decide) rfl (by intro C h; cases h) rfl (by decide) (by decide) (by decide) rfl (by decide) ⟨Nat.le_of_ble_eq_true rfl, Nat.le_of_ble_eq_true rfl⟩ dX7_init_6 (by simp [hB]) ?_
  rw [List.append_assoc]
  show Rn _ _ _ _ _ _ _ _ _ _ _ (tb (B ++ [[.null, .null, .null, .null, .int 0, .int 0], []]))
  refine rt_putF (i := 0) (ty := (.array .int)) hB rfl flRX7_9 rfl (by decide) rfl rfl (by decide +kernel) rfl rfl dX7_init_8 (Nat.le_of_ble_eq_true rfl) (Nat.le_of_ble_eq_true rfl) ?_
  show Rn _ _ _ _ _ _ _ _ _ _ _ (tb (B ++ [[rf E 4, .null, .null, .null, .int 0, .int 0], []]))
  refine rn_aload_n dX7_init_11 rfl ?_
  refine rn_aload_n dX7_init_12 rfl ?_
  refine rt_putF (i := 0) (ty := (.object "java/lang/String")) hB rfl flRX7_15 rfl (by decide) rfl rfl (by decide +kernel) rfl rfl dX7_init_13 (Nat.le_of_ble_eq_true rfl) (Nat.le_of_ble_eq_true rfl) ?_
  show Rn _ _ _ _ _ _ _ _ _ _ _ (tb (B ++ [[rf E 4, rf E (1000 + 3), .null, .null, .int 0, .int 0], []]))
  refine rn_aload_n dX7_init_16 rfl ?_
  refine rn_aload_n dX7_init_17 rfl ?_
  refine rt_putF (i := 0) (ty := (.object "java/lang/String")) hB rfl flRX7_19 rfl (by decide) rfl rfl (by decide +kernel) rfl rfl dX7_init_18 (Nat.le_of_ble_eq_true rfl) (Nat.le_of_ble_eq_true rfl) ?_
  show Rn _ _ _ _ _ _ _ _ _ _ _ (tb (B ++ [[rf E 4, rf E (1000 + 3), rf E (1000 + 4), .null, .int 0, .int 0], []]))
  refine rn_aload_n dX7_init_21 rfl ?_
  refine rn_aload dX7_init_22 rfl ?_
  refine rt_putF (i := 0) (ty := (.object "java/lang/String")) hB rfl flRX7_22 rfl (by decide) rfl rfl (by decide +kernel) rfl rfl dX7_init_24 (Nat.le_of_ble_eq_true rfl) (Nat.le_of_ble_eq_true rfl) ?_
  show Rn _ _ _ _ _ _ _ _ _ _ _ (tb (B ++ [[rf E 4, rf E (1000 + 3), rf E (1000 + 4), rf E (1000 + 5), .int 0, .int 0], []]))
  refine rn_aload_n dX7_init_27 rfl ?_
  refine rn_aload dX7_init_28 rfl ?_
  refine rn_callVS (mc2 := 0) (ms2 := 0) (j := 5) (As := []) (st := [rf E 3]) mlRX7_25 mdJ0_isEmpty_aae02 (Nat.le_of_ble_eq_true rfl) (by decide) rfl rfl rfl (Nat.le_of_ble_eq_true rfl) (by decide) ⟨Nat.le_of_ble_eq_true rfl, Nat.le_of_ble_eq_true rfl⟩ dX7_init_30 (ct_isEmpty (by decide) (by decide) ?_)
  show Rn _ _ _ _ _ _ _ _ _ [.int (1 : Int32), rf E 3] _ _
  refine rn_if_eq (tgt := 40) dX7_init_33 (by decide) (fun q => absurd q (by decide)) (fun _ => ?_)
  refine rn_iconst (x := (2 : Int32)) dX7_init_36 (by decide) ?_
  refine rn_goto (tgt := 41) dX7_init_37 (by decide) ?_
  refine rt_putF (i := 0) (ty := .int) hB rfl flRX7_31 rfl (by decide) rfl rfl (by decide +kernel) rfl rfl dX7_init_41 (Nat.le_of_ble_eq_true rfl) (Nat.le_of_ble_eq_true rfl) ?_
  show Rn _ _ _ _ _ _ _ _ _ _ _ (tb (B ++ [[rf E 4, rf E (1000 + 3), rf E (1000 + 4), rf E (1000 + 5), .int 2, .int 0], []]))
  exact rn_vret rfl dX7_init_44 rfl (by decide) hq
set_option maxHeartbeats 4000000 in
set_option maxRecDepth 20000 in
theorem ciX0_init_5 {E : En} {Q : Option Value → Hp → Prop} {T : List (List Value)} (B : List (List Value)) (hB : B.length = 5) (hT : T = B ++ [[.int 0, .int 0, .null, .null, .null, .null, .int 0, .int 0, .int 0, .null]])
    (hq : Q none (tb (B ++ [[.int 0, .int 0, rf E 6, rf E 7, rf E 8, rf E 9, .int 0, .int 0, .int 0, rf E 10], [], [], [], [], []]))) :
    Ct E mX0_init 5 42 [rf E 5] 6 (tb T) Q := by
  subst hT
  refine ct_of (L0 := [some (rf E 5)]) (by decide +kernel : plainName RX0 = true) (Nat.le_of_ble_eq_true rfl) rfl ?_
  refine rn_aload_n dX0_init_0 rfl ?_
  refine rn_objInit (c0 := 5) mlRX0_3 in_objI in_objC (Nat.le_of_ble_eq_true rfl) dX0_init_1 ?_
  refine rn_aload_n dX0_init_4 rfl ?_
  refine rn_bipush (x := (8 : Int32)) dX0_init_5 (by decide) ?_
  refine rt_newa (n := 6) (t := 100) (N := 8) (atype := .int) (ty := .int) rfl in_aI (by decide) rfl (by intro C h; cases h) rfl (by decide) (by decide) (by decide) rfl (by decide) ⟨Nat.le_of_ble_eq_true rfl, Nat.le_of_ble_eq_true rfl⟩ dX0_init_7 (by simp [hB]) ?_
  rw [List.append_assoc]
  show Rn _ _ _ _ _ _ _ _ _ _ _ (tb (B ++ [[.int 0, .int 0, .null, .null, .null, .null, .int 0, .int 0, .int 0, .null], []]))
  refine rt_putF (i := 0) (ty := (.array .int)) hB rfl flRX0_9 rfl (by decide) rfl rfl (by decide +kernel) rfl rfl dX0_init_9 (Nat.le_of_ble_eq_true rfl) (Nat.le_of_ble_eq_true rfl) ?_
  show Rn _ _ _ _ _ _ _ _ _ _ _ (tb (B ++ [[.int 0, .int 0, rf E 6, .null, .null, .null, .int 0, .int 0, .int 0, .null], []]))
  refine rn_aload_n dX0_init_12 rfl ?_
  refine rn_bipush (x := (8 : Int32)) dX0_init_13 (by decide) ?_
  refine rt_newa (n := 7) (t := 100) (N := 8) (atype := .int) (ty := .int) rfl in_aI (by decide) rfl (by intro C h; cases h) rfl (by decide) (by decide) (by decide) rfl (by decide) ⟨Nat.le_of_ble_eq_true rfl, Nat.le_of_ble_eq_true rfl⟩ dX0_init_15 (by simp [hB]) ?_
  rw [List.append_assoc]
  show Rn _ _ _ _ _ _ _ _ _ _ _ (tb (B ++ [[.int 0, .int 0, rf E 6, .null, .null, .null, .int 0, .int 0, .int 0, .null], [], []]))
  refine rt_putF (i := 0) (ty := (.array .int)) hB rfl flRX0_15 rfl (by decide) rfl rfl (by decide +kernel) rfl rfl dX0_init_17 (Nat.le_of_ble_eq_true rfl) (Nat.le_of_ble_eq_true rfl) ?_
  show Rn _ _ _ _ _ _ _ _ _ _ _ (tb (B ++ [[.int 0, .int 0, rf E 6, rf E 7, .null, .null, .int 0, .int 0, .int 0, .null], [], []]))
  refine rn_aload_n dX0_init_20 rfl ?_
  refine rn_bipush (x := (8 : Int32)) dX0_init_21 (by decide) ?_
  refine rt_newa (n := 8) (t := 100) (N := 8) (atype := .int) (ty := .int) rfl in_aI (by decide) rfl (by intro C h; cases h) rfl (by decide) (by decide) (by decide) rfl (by decide) ⟨Nat.le_of_ble_eq_true rfl, Nat.le_of_ble_eq_true rfl⟩ dX0_init_23 (by simp [hB]) ?_
  rw [List.append_assoc]
  show Rn _ _ _ _ _ _ _ _ _ _ _ (tb (B ++ [[.int 0, .int 0, rf E 6, rf E 7, .null, .null, .int 0, .int 0, .int 0, .null], [], [], []]))
  refine rt_putF (i := 0) (ty := (.array .int)) hB rfl flRX0_18 rfl (by decide) rfl rfl (by decide +kernel) rfl rfl dX0_init_25 (Nat.le_of_ble_eq_true rfl) (Nat.le_of_ble_eq_true rfl) ?_
  show Rn _ _ _ _ _ _ _ _ _ _ _ (tb (B ++ [[.int 0, .int 0, rf E 6, rf E 7, rf E 8, .null, .int 0, .int 0, .int 0, .null], [], [], []]))
  refine rn_aload_n dX0_init_28 rfl ?_
  refine rn_bipush (x := (8 : Int32)) dX0_init_29 (by decide) ?_
  refine rt_newa (n := 9) (t := 100) (N := 8) (atype := .int) (ty := .int) rfl in_aI (by decide) rfl (by intro C h; cases h) rfl (by decide) (by decide) (by decide) rfl (by decide) ⟨Nat.le_of_ble_eq_true rfl, Nat.le_of_ble_eq_true rfl⟩ dX0_init_31 (by simp [hB]) ?_
  rw [List.append_assoc]
  show Rn _ _ _ _ _ _ _ _ _ _ _ (tb (B ++ [[.int 0, .int 0, rf E 6, rf E 7, rf E 8, .null, .int 0, .int 0, .int 0, .null], [], [], [], []]))
  refine rt_putF (i := 0) (ty := (.array .int)) hB rfl flRX0_21 rfl (by decide) rfl rfl (by decide +kernel) rfl rfl dX0_init_33 (Nat.le_of_ble_eq_true rfl) (Nat.le_of_ble_eq_true rfl) ?_
  show Rn _ _ _ _ _ _ _ _ _ _ _ (tb (B ++ [[.int 0, .int 0, rf E 6, rf E 7, rf E 8, rf E 9, .int 0, .int 0, .int 0, .null], [], [], [], []]))
  refine rn_aload_n dX0_init_36 rfl ?_
  refine rn_bipush (x := (10 : Int32)) dX0_init_37 (by decide) ?_
  refine rt_newa (n := 10) (t := 100) (N := 10) (atype := .int) (ty := .int) rfl in_aI (by decide) rfl (by intro C h; cases h) rfl (by decide) (by decide) (by decide) rfl (by decide) ⟨Nat.le_of_ble_eq_true rfl, Nat.le_of_ble_eq_true rfl⟩ dX0_init_39 (by simp [hB]) ?_
  rw [List.append_assoc]
  show Rn _ _ _ _ _ _ _ _ _ _ _ (tb (B ++ [[.int 0, .int 0, rf E 6, rf E 7, rf E 8, rf E 9, .int 0, .int 0, .int 0, .null], [], [], [], [], []]))
  refine rt_putF (i := 0) (ty := (.array .int)) hB rfl flRX0_24 rfl (by decide) rfl rfl (by decide +kernel) rfl rfl dX0_init_41 (Nat.le_of_ble_eq_true rfl) (Nat.le_of_ble_eq_true rfl) ?_
  show Rn _ _ _ _ _ _ _ _ _ _ _ (tb (B ++ [[.int 0, .int 0, rf E 6, rf E 7, rf E 8, rf E 9, .int 0, .int 0, .int 0, rf E 10], [], [], [], [], []]))
  exact rn_vret rfl dX0_init_44 rfl (by decide) hq
set_option maxHeartbeats 4000000 in
set_option maxRecDepth 20000 in
theorem ciX8_init_11 {E : En} {Q : Option Value → Hp → Prop} {T : List (List Value)} (B : List (List Value)) (hB : B.length = 11) (hT : T = B ++ [[.int 0, .int 0, .int 0, .null, .null, .int 0, .null, .null, .int 0, .null, .null, .null, .null, .null, .null]])
    (hq : Q none (tb (B ++ [[.int 20, .int 0, .int 0, rf E 12, rf E 13, .int 0, rf E 14, rf E 15, .int 0, rf E 16, rf E 17, rf E 18, rf E 19, rf E 20, rf E 21], [], [], [], [], [], [], [], [], [], []]))) :
    Ct E mX8_init 10 145 [rf E 11] 12 (tb T) Q := by
  subst hT
  refine ct_of (L0 := [some (rf E 11)]) (by decide +kernel : plainName RX8 = true) (Nat.le_of_ble_eq_true rfl) rfl ?_
  refine rn_aload_n dX8_init_0 rfl ?_
  refine rn_objInit (c0 := 11) mlRX8_3 in_objI in_objC (Nat.le_of_ble_eq_true rfl) dX8_init_1 ?_
  refine rn_aload_n dX8_init_4 rfl ?_
  refine rn_bipush (x := (20 : Int32)) dX8_init_5 (by decide) ?_
  refine rt_put (i := 0) (ty := .int) hB rfl flRX8_9 rfl (by decide) (by decide +kernel) rfl rfl dX8_init_7 (Nat.le_of_ble_eq_true rfl) (Nat.le_of_ble_eq_true rfl) ?_
  show Rn _ _ _ _ _ _ _ _ _ _ _ (tb (B ++ [[.int 20, .int 0, .int 0, .null, .null, .int 0, .null, .null, .int 0, .null, .null, .null, .null, .null, .null]]))
  refine rn_aload_n dX8_init_10 rfl ?_
  refine rn_bipush (x := (20 : Int32)) dX8_init_11 (by decide) ?_
  refine rt_newa (n := 12) (t := 100) (N := 20) (atype := .int) (ty := .int) rfl in_aI (by decide) rfl (by intro C h; cases h) rfl (by decide) (by decide) (by decide) rfl (by decide) ⟨Nat.le_of_ble_eq_true rfl, Nat.le_of_ble_eq_true rfl⟩ dX8_init_13 (by simp [hB]) ?_
  rw [List.append_assoc]
  show Rn _ _ _ _ _ _ _ _ _ _ _ (tb (B ++ [[.int 20, .int 0, .int 0, .null, .null, .int 0, .null, .null, .int 0, .null, .null, .null, .null, .null, .null], []]))
  refine rt_putF (i := 0) (ty := (.array .int)) hB rfl flRX8_15 rfl (by decide) rfl rfl (by decide +kernel) rfl rfl dX8_init_15 (Nat.le_of_ble_eq_true rfl) (Nat.le_of_ble_eq_true rfl) ?_
  show Rn _ _ _ _ _ _ _ _ _ _ _ (tb (B ++ [[.int 20, .int 0, .int 0, rf E 12, .null, .int 0, .null, .null, .int 0, .null, .null, .null, .null, .null, .null], []]))
  refine rn_aload_n dX8_init_18 rfl ?_
  refine rn_bipush (x := (20 : Int32)) dX8_init_19 (by decide) ?_
  refine rt_newa (n := 13) (t := 100) (N := 20) (atype := .int) (ty := .int) rfl in_aI (by decide) rfl (by intro C h; cases h) rfl (by decide) (by decide) (by decide) rfl (by decide) ⟨Nat.le_of_ble_eq_true rfl, Nat.le_of_ble_eq_true rfl⟩ dX8_init_21 (by simp [hB]) ?_
  rw [List.append_assoc]
  show Rn _ _ _ _ _ _ _ _ _ _ _ (tb (B ++ [[.int 20, .int 0, .int 0, rf E 12, .null, .int 0, .null, .null, .int 0, .null, .null, .null, .null, .null, .null], [], []]))
  refine rt_putF (i := 0) (ty := (.array .int)) hB rfl flRX8_19 rfl (by decide) rfl rfl (by decide +kernel) rfl rfl dX8_init_23 (Nat.le_of_ble_eq_true rfl) (Nat.le_of_ble_eq_true rfl) ?_
  show Rn _ _ _ _ _ _ _ _ _ _ _ (tb (B ++ [[.int 20, .int 0, .int 0, rf E 12, rf E 13, .int 0, .null, .null, .int 0, .null, .null, .null, .null, .null, .null], [], []]))
  refine rn_aload_n dX8_init_26 rfl ?_
  refine rn_bipush (x := (6 : Int32)) dX8_init_27 (by decide) ?_
  refine rt_newa (n := 14) (t := 100) (N := 6) (atype := .int) (ty := .int) rfl in_aI (by decide) rfl (by intro C h; cases h) rfl (by decide) (by decide) (by decide) rfl (by decide) ⟨Nat.le_of_ble_eq_true rfl, Nat.le_of_ble_eq_true rfl⟩ dX8_init_29 (by simp [hB]) ?_
  rw [List.append_assoc]
  show Rn _ _ _ _ _ _ _ _ _ _ _ (tb (B ++ [[.int 20, .int 0, .int 0, rf E 12, rf E 13, .int 0, .null, .null, .int 0, .null, .null, .null, .null, .null, .null], [], [], []]))
  refine rt_putF (i := 0) (ty := (.array .int)) hB rfl flRX8_22 rfl (by decide) rfl rfl (by decide +kernel) rfl rfl dX8_init_31 (Nat.le_of_ble_eq_true rfl) (Nat.le_of_ble_eq_true rfl) ?_
  show Rn _ _ _ _ _ _ _ _ _ _ _ (tb (B ++ [[.int 20, .int 0, .int 0, rf E 12, rf E 13, .int 0, rf E 14, .null, .int 0, .null, .null, .null, .null, .null, .null], [], [], []]))
  refine rn_aload_n dX8_init_34 rfl ?_
  refine rn_bipush (x := (6 : Int32)) dX8_init_35 (by decide) ?_
  refine rt_newa (n := 15) (t := 100) (N := 6) (atype := .int) (ty := .int) rfl in_aI (by decide) rfl (by intro C h; cases h) rfl (by decide) (by decide) (by decide) rfl (by decide) ⟨Nat.le_of_ble_eq_true rfl, Nat.le_of_ble_eq_true rfl⟩ dX8_init_37 (by simp [hB]) ?_
  rw [List.append_assoc]
  show Rn _ _ _ _ _ _ _ _ _ _ _ (tb (B ++ [[.int 20, .int 0, .int 0, rf E 12, rf E 13, .int 0, rf E 14, .null, .int 0, .null, .null, .null, .null, .null, .null], [], [], [], []]))
  refine rt_putF (i := 0) (ty := (.array .int)) hB rfl flRX8_25 rfl (by decide) rfl rfl (by decide +kernel) rfl rfl dX8_init_39 (Nat.le_of_ble_eq_true rfl) (Nat.le_of_ble_eq_true rfl) ?_
  show Rn _ _ _ _ _ _ _ _ _ _ _ (tb (B ++ [[.int 20, .int 0, .int 0, rf E 12, rf E 13, .int 0, rf E 14, rf E 15, .int 0, .null, .null, .null, .null, .null, .null], [], [], [], []]))
  refine rn_aload_n dX8_init_42 rfl ?_
  refine rn_bipush (x := (8 : Int32)) dX8_init_43 (by decide) ?_
  refine rt_newa (n := 16) (t := 100) (N := 8) (atype := .int) (ty := .int) rfl in_aI (by decide) rfl (by intro C h; cases h) rfl (by decide) (by decide) (by decide) rfl (by decide) ⟨Nat.le_of_ble_eq_true rfl, Nat.le_of_ble_eq_true rfl⟩ dX8_init_45 (by simp [hB]) ?_
  rw [List.append_assoc]
  show Rn _ _ _ _ _ _ _ _ _ _ _ (tb (B ++ [[.int 20, .int 0, .int 0, rf E 12, rf E 13, .int 0, rf E 14, rf E 15, .int 0, .null, .null, .null, .null, .null, .null], [], [], [], [], []]))
  refine rt_putF (i := 0) (ty := (.array .int)) hB rfl flRX8_28 rfl (by decide) rfl rfl (by decide +kernel) rfl rfl dX8_init_47 (Nat.le_of_ble_eq_true rfl) (Nat.le_of_ble_eq_true rfl) ?_
  show Rn _ _ _ _ _ _ _ _ _ _ _ (tb (B ++ [[.int 20, .int 0, .int 0, rf E 12, rf E 13, .int 0, rf E 14, rf E 15, .int 0, rf E 16, .null, .null, .null, .null, .null], [], [], [], [], []]))
  refine rn_aload_n dX8_init_50 rfl ?_
  refine rn_bipush (x := (8 : Int32)) dX8_init_51 (by decide) ?_
  refine rt_newa (n := 17) (t := 100) (N := 8) (atype := .int) (ty := .int) rfl in_aI (by decide) rfl (by intro C h; cases h) rfl (by decide) (by decide) (by decide) rfl (by decide) ⟨Nat.le_of_ble_eq_true rfl, Nat.le_of_ble_eq_true rfl⟩ dX8_init_53 (by simp [hB]) ?_
  rw [List.append_assoc]
  show Rn _ _ _ _ _ _ _ _ _ _ _ (tb (B ++ [[.int 20, .int 0, .int 0, rf E 12, rf E 13, .int 0, rf E 14, rf E 15, .int 0, rf E 16, .null, .null, .null, .null, .null], [], [], [], [], [], []]))
  refine rt_putF (i := 0) (ty := (.array .int)) hB rfl flRX8_31 rfl (by decide) rfl rfl (by decide +kernel) rfl rfl dX8_init_55 (Nat.le_of_ble_eq_true rfl) (Nat.le_of_ble_eq_true rfl) ?_
  show Rn _ _ _ _ _ _ _ _ _ _ _ (tb (B ++ [[.int 20, .int 0, .int 0, rf E 12, rf E 13, .int 0, rf E 14, rf E 15, .int 0, rf E 16, rf E 17, .null, .null, .null, .null], [], [], [], [], [], []]))
  refine rn_aload_n dX8_init_58 rfl ?_
  refine rn_bipush (x := (8 : Int32)) dX8_init_59 (by decide) ?_
  refine rt_newa (n := 18) (t := 100) (N := 8) (atype := .int) (ty := .int) rfl in_aI (by decide) rfl (by intro C h; cases h) rfl (by decide) (by decide) (by decide) rfl (by decide) ⟨Nat.le_of_ble_eq_true rfl, Nat.le_of_ble_eq_true rfl⟩ dX8_init_61 (by simp [hB]) ?_
  rw [List.append_assoc]
  show Rn _ _ _ _ _ _ _ _ _ _ _ (tb (B ++ [[.int 20, .int 0, .int 0, rf E 12, rf E 13, .int 0, rf E 14, rf E 15, .int 0, rf E 16, rf E 17, .null, .null, .null, .null], [], [], [], [], [], [], []]))
  refine rt_putF (i := 0) (ty := (.array .int)) hB rfl flRX8_34 rfl (by decide) rfl rfl (by decide +kernel) rfl rfl dX8_init_63 (Nat.le_of_ble_eq_true rfl) (Nat.le_of_ble_eq_true rfl) ?_
  show Rn _ _ _ _ _ _ _ _ _ _ _ (tb (B ++ [[.int 20, .int 0, .int 0, rf E 12, rf E 13, .int 0, rf E 14, rf E 15, .int 0, rf E 16, rf E 17, rf E 18, .null, .null, .null], [], [], [], [], [], [], []]))
  refine rn_aload_n dX8_init_66 rfl ?_
  refine rn_bipush (x := (20 : Int32)) dX8_init_67 (by decide) ?_
  refine rt_newa (n := 19) (t := 100) (N := 20) (atype := .int) (ty := .int) rfl in_aI (by decide) rfl (by intro C h; cases h) rfl (by decide) (by decide) (by decide) rfl (by decide) ⟨Nat.le_of_ble_eq_true rfl, Nat.le_of_ble_eq_true rfl⟩ dX8_init_69 (by simp [hB]) ?_
  rw [List.append_assoc]
  show Rn _ _ _ _ _ _ _ _ _ _ _ (tb (B ++ [[.int 20, .int 0, .int 0, rf E 12, rf E 13, .int 0, rf E 14, rf E 15, .int 0, rf E 16, rf E 17, rf E 18, .null, .null, .null], [], [], [], [], [], [], [], []]))
  refine rt_putF (i := 0) (ty := (.array .int)) hB rfl flRX8_37 rfl (by decide) rfl rfl (by decide +kernel) rfl rfl dX8_init_71 (Nat.le_of_ble_eq_true rfl) (Nat.le_of_ble_eq_true rfl) ?_
  show Rn _ _ _ _ _ _ _ _ _ _ _ (tb (B ++ [[.int 20, .int 0, .int 0, rf E 12, rf E 13, .int 0, rf E 14, rf E 15, .int 0, rf E 16, rf E 17, rf E 18, rf E 19, .null, .null], [], [], [], [], [], [], [], []]))
  refine rn_aload_n dX8_init_74 rfl ?_
  refine rn_bipush (x := (25 : Int32)) dX8_init_75 (by decide) ?_
  refine rt_newa (n := 20) (t := 100) (N := 25) (atype := .int) (ty := .int) rfl in_aI (by decide) rfl (by intro C h; cases h) rfl (by decide) (by decide) (by decide) rfl (by decide) ⟨Nat.le_of_ble_eq_true rfl, Nat.le_of_ble_eq_true rfl⟩ dX8_init_77 (by simp [hB]) ?_
  rw [List.append_assoc]
  show Rn _ _ _ _ _ _ _ _ _ _ _ (tb (B ++ [[.int 20, .int 0, .int 0, rf E 12, rf E 13, .int 0, rf E 14, rf E 15, .int 0, rf E 16, rf E 17, rf E 18, rf E 19, .null, .null], [], [], [], [], [], [], [], [], []]))
  refine rt_putF (i := 0) (ty := (.array .int)) hB rfl flRX8_40 rfl (by decide) rfl rfl (by decide +kernel) rfl rfl dX8_init_79 (Nat.le_of_ble_eq_true rfl) (Nat.le_of_ble_eq_true rfl) ?_
  show Rn _ _ _ _ _ _ _ _ _ _ _ (tb (B ++ [[.int 20, .int 0, .int 0, rf E 12, rf E 13, .int 0, rf E 14, rf E 15, .int 0, rf E 16, rf E 17, rf E 18, rf E 19, rf E 20, .null], [], [], [], [], [], [], [], [], []]))
  refine rn_aload_n dX8_init_82 rfl ?_
  refine rn_bipush (x := (24 : Int32)) dX8_init_83 (by decide) ?_
  refine rt_newa (n := 21) (t := 100) (N := 24) (atype := .int) (ty := .int) rfl in_aI (by decide) rfl (by intro C h; cases h) rfl (by decide) (by decide) (by decide) rfl (by decide) ⟨Nat.le_of_ble_eq_true rfl, Nat.le_of_ble_eq_true rfl⟩ dX8_init_85 (by simp [hB]) ?_
  rw [List.append_assoc]
  show Rn _ _ _ _ _ _ _ _ _ _ _ (tb (B ++ [[.int 20, .int 0, .int 0, rf E 12, rf E 13, .int 0, rf E 14, rf E 15, .int 0, rf E 16, rf E 17, rf E 18, rf E 19, rf E 20, .null], [], [], [], [], [], [], [], [], [], []]))
  refine rt_putF (i := 0) (ty := (.array .int)) hB rfl flRX8_43 rfl (by decide) rfl rfl (by decide +kernel) rfl rfl dX8_init_87 (Nat.le_of_ble_eq_true rfl) (Nat.le_of_ble_eq_true rfl) ?_
  show Rn _ _ _ _ _ _ _ _ _ _ _ (tb (B ++ [[.int 20, .int 0, .int 0, rf E 12, rf E 13, .int 0, rf E 14, rf E 15, .int 0, rf E 16, rf E 17, rf E 18, rf E 19, rf E 20, rf E 21], [], [], [], [], [], [], [], [], [], []]))
  exact rn_vret rfl dX8_init_90 rfl (by decide) hq
theorem ciX6_init {E : En} {Q : Option Value → Hp → Prop} {c n : Nat} {h : Hp} (hn : n < 1000) (hq : Q none h) : Ct E mX6_init 0 0 [rf E c] n h Q := by
  refine ct_of (L0 := [some (rf E c)]) (by decide +kernel : plainName RX6 = true) (Nat.le_of_ble_eq_true rfl) rfl ?_
  refine rn_aload_n dX6_init_0 rfl ?_
  refine rn_objInit (c0 := c) mlRX6_1 in_objI in_objC (Nat.le_of_ble_eq_true rfl) dX6_init_1 ?_
  exact rn_vret rfl dX6_init_4 rfl hn hq
set_option maxHeartbeats 4000000 in
set_option maxRecDepth 20000 in
theorem ciX2_init_22 {E : En} {Q : Option Value → Hp → Prop} {T : List (List Value)} (B : List (List Value)) (hB : B.length = 22) (hT : T = B ++ [[.null, .null, .null, .null, .null, .int 0, .null]])
    (hq : Q none (tb (B ++ [[rf E 5, rf E 11, rf E 23, rf E 24, rf E 25, .int 0, rf E 26], [], [rf E 27, rf E 29, rf E 31, rf E 33, rf E 35, rf E 37, rf E 39, rf E 41, rf E 43, rf E 45, rf E 47, rf E 49, rf E 51, rf E 53, rf E 55, rf E 57, rf E 59, rf E 61, rf E 63, rf E 65, rf E 67, rf E 69, rf E 71, rf E 73], [rf E 28, rf E 30, rf E 32, rf E 34, rf E 36, rf E 38, rf E 40, rf E 42, rf E 44, rf E 46, rf E 48, rf E 50, rf E 52, rf E 54, rf E 56, rf E 58, rf E 60, rf E 62, rf E 64, rf E 66, rf E 68, rf E 70, rf E 72, rf E 74], [], [], [], [], [], [], [], [], [], [], [], [], [], [], [], [], [], [], [], [], [], [], [], [], [], [], [], [], [], [], [], [], [], [], [], [], [], [], [], [], [], [], [], [], [], [], [], [], []]))) :
    Ct E mX2_init 52 348 [rf E 22, rf E 5, rf E 11] 23 (tb T) Q := by
  subst hT
  refine ct_of (L0 := [some (rf E 22), some (rf E 5), some (rf E 11), none]) (by decide +kernel : plainName RX2 = true) (Nat.le_of_ble_eq_true rfl) rfl ?_
  refine rn_aload_n dX2_init_0 rfl ?_
  refine rn_objInit (c0 := 22) mlRX2_3 in_objI in_objC (Nat.le_of_ble_eq_true rfl) dX2_init_1 ?_
  refine rn_aload_n dX2_init_4 rfl ?_
  refine rt_new (n := 23) (ci := 6) (N := 6) (l := []) RX6 TX6 tyX6 rfl (by decide) inX6 tyX6_ok clRX2_9 ins6 ini6 rfl (by intro j hj; revert j; decide +kernel) (by decide) ⟨Nat.le_of_ble_eq_true rfl, Nat.le_of_ble_eq_true rfl⟩ dX2_init_5 (by simp [hB]) ?_
  rw [List.append_assoc]
  show Rn _ _ _ _ _ _ _ _ _ _ _ (tb (B ++ [[.null, .null, .null, .null, .null, .int 0, .null], []]))
  refine rn_dup dX2_init_8 rfl ?_
  refine rn_callIN (mc2 := 0) (ms2 := 0) (c0 := 23) (As := []) (st := [rf E 23, rf E 22]) mlRX2_11 rfl mdX6_init (Nat.le_of_ble_eq_true rfl) rfl rfl (Nat.le_of_ble_eq_true rfl) (by decide) ⟨Nat.le_of_ble_eq_true rfl, Nat.le_of_ble_eq_true rfl⟩ dX2_init_9 (ciX6_init (by decide) ?_)
  show Rn _ _ _ _ _ _ _ _ _ [rf E 23, rf E 22] _ _
  refine rt_putF (i := 0) (ty := (.object "SharedPockets$State")) hB rfl flRX2_12 rfl (by decide) rfl rfl (by decide +kernel) rfl rfl dX2_init_12 (Nat.le_of_ble_eq_true rfl) (Nat.le_of_ble_eq_true rfl) ?_
  show Rn _ _ _ _ _ _ _ _ _ _ _ (tb (B ++ [[.null, .null, rf E 23, .null, .null, .int 0, .null], []]))
  refine rn_aload_n dX2_init_15 rfl ?_
  refine rn_bipush (x := (24 : Int32)) dX2_init_16 (by decide) ?_
  refine rt_newq (n := 24) (t := 102) (N := 24) (C0 := RX6) (by decide) rfl clRX2_9 (Or.inl rfl) (by decide) (by decide) (by decide) rfl (by decide) ⟨Nat.le_of_ble_eq_true rfl, Nat.le_of_ble_eq_true rfl⟩ dX2_init_18 (by simp [hB]) ?_
  rw [List.append_assoc]
  show Rn _ _ _ _ _ _ _ _ _ _ _ (tb (B ++ [[.null, .null, rf E 23, .null, .null, .int 0, .null], [], [.int 0, .int 0, .int 0, .int 0, .int 0, .int 0, .int 0, .int 0, .int 0, .int 0, .int 0, .int 0, .int 0, .int 0, .int 0, .int 0, .int 0, .int 0, .int 0, .int 0, .int 0, .int 0, .int 0, .int 0]]))
  refine rt_putF (i := 0) (ty := (.array (.object "SharedPockets$State"))) hB rfl flRX2_18 rfl (by decide) rfl rfl (by decide +kernel) rfl rfl dX2_init_21 (Nat.le_of_ble_eq_true rfl) (Nat.le_of_ble_eq_true rfl) ?_
  show Rn _ _ _ _ _ _ _ _ _ _ _ (tb (B ++ [[.null, .null, rf E 23, rf E 24, .null, .int 0, .null], [], [.int 0, .int 0, .int 0, .int 0, .int 0, .int 0, .int 0, .int 0, .int 0, .int 0, .int 0, .int 0, .int 0, .int 0, .int 0, .int 0, .int 0, .int 0, .int 0, .int 0, .int 0, .int 0, .int 0, .int 0]]))
  refine rn_aload_n dX2_init_24 rfl ?_
  refine rn_bipush (x := (24 : Int32)) dX2_init_25 (by decide) ?_
  refine rt_newq (n := 25) (t := 102) (N := 24) (C0 := RX6) (by decide) rfl clRX2_9 (Or.inl rfl) (by decide) (by decide) (by decide) rfl (by decide) ⟨Nat.le_of_ble_eq_true rfl, Nat.le_of_ble_eq_true rfl⟩ dX2_init_27 (by simp [hB]) ?_
  rw [List.append_assoc]
  show Rn _ _ _ _ _ _ _ _ _ _ _ (tb (B ++ [[.null, .null, rf E 23, rf E 24, .null, .int 0, .null], [], [.int 0, .int 0, .int 0, .int 0, .int 0, .int 0, .int 0, .int 0, .int 0, .int 0, .int 0, .int 0, .int 0, .int 0, .int 0, .int 0, .int 0, .int 0, .int 0, .int 0, .int 0, .int 0, .int 0, .int 0], [.int 0, .int 0, .int 0, .int 0, .int 0, .int 0, .int 0, .int 0, .int 0, .int 0, .int 0, .int 0, .int 0, .int 0, .int 0, .int 0, .int 0, .int 0, .int 0, .int 0, .int 0, .int 0, .int 0, .int 0]]))
  refine rt_putF (i := 0) (ty := (.array (.object "SharedPockets$State"))) hB rfl flRX2_22 rfl (by decide) rfl rfl (by decide +kernel) rfl rfl dX2_init_30 (Nat.le_of_ble_eq_true rfl) (Nat.le_of_ble_eq_true rfl) ?_
  show Rn _ _ _ _ _ _ _ _ _ _ _ (tb (B ++ [[.null, .null, rf E 23, rf E 24, rf E 25, .int 0, .null], [], [.int 0, .int 0, .int 0, .int 0, .int 0, .int 0, .int 0, .int 0, .int 0, .int 0, .int 0, .int 0, .int 0, .int 0, .int 0, .int 0, .int 0, .int 0, .int 0, .int 0, .int 0, .int 0, .int 0, .int 0], [.int 0, .int 0, .int 0, .int 0, .int 0, .int 0, .int 0, .int 0, .int 0, .int 0, .int 0, .int 0, .int 0, .int 0, .int 0, .int 0, .int 0, .int 0, .int 0, .int 0, .int 0, .int 0, .int 0, .int 0]]))
  refine rn_aload_n dX2_init_33 rfl ?_
  refine rt_new (n := 26) (ci := 6) (N := 6) (l := []) RX6 TX6 tyX6 rfl (by decide) inX6 tyX6_ok clRX2_9 ins6 ini6 rfl (by intro j hj; revert j; decide +kernel) (by decide) ⟨Nat.le_of_ble_eq_true rfl, Nat.le_of_ble_eq_true rfl⟩ dX2_init_34 (by simp [hB]) ?_
  rw [List.append_assoc]
  show Rn _ _ _ _ _ _ _ _ _ _ _ (tb (B ++ [[.null, .null, rf E 23, rf E 24, rf E 25, .int 0, .null], [], [.int 0, .int 0, .int 0, .int 0, .int 0, .int 0, .int 0, .int 0, .int 0, .int 0, .int 0, .int 0, .int 0, .int 0, .int 0, .int 0, .int 0, .int 0, .int 0, .int 0, .int 0, .int 0, .int 0, .int 0], [.int 0, .int 0, .int 0, .int 0, .int 0, .int 0, .int 0, .int 0, .int 0, .int 0, .int 0, .int 0, .int 0, .int 0, .int 0, .int 0, .int 0, .int 0, .int 0, .int 0, .int 0, .int 0, .int 0, .int 0], []]))
  refine rn_dup dX2_init_37 rfl ?_
  refine rn_callIN (mc2 := 0) (ms2 := 0) (c0 := 26) (As := []) (st := [rf E 26, rf E 22]) mlRX2_11 rfl mdX6_init (Nat.le_of_ble_eq_true rfl) rfl rfl (Nat.le_of_ble_eq_true rfl) (by decide) ⟨Nat.le_of_ble_eq_true rfl, Nat.le_of_ble_eq_true rfl⟩ dX2_init_38 (ciX6_init (by decide) ?_)
  show Rn _ _ _ _ _ _ _ _ _ [rf E 26, rf E 22] _ _
  refine rt_putF (i := 0) (ty := (.object "SharedPockets$State")) hB rfl flRX2_25 rfl (by decide) rfl rfl (by decide +kernel) rfl rfl dX2_init_41 (Nat.le_of_ble_eq_true rfl) (Nat.le_of_ble_eq_true rfl) ?_
  show Rn _ _ _ _ _ _ _ _ _ _ _ (tb (B ++ [[.null, .null, rf E 23, rf E 24, rf E 25, .int 0, rf E 26], [], [.int 0, .int 0, .int 0, .int 0, .int 0, .int 0, .int 0, .int 0, .int 0, .int 0, .int 0, .int 0, .int 0, .int 0, .int 0, .int 0, .int 0, .int 0, .int 0, .int 0, .int 0, .int 0, .int 0, .int 0], [.int 0, .int 0, .int 0, .int 0, .int 0, .int 0, .int 0, .int 0, .int 0, .int 0, .int 0, .int 0, .int 0, .int 0, .int 0, .int 0, .int 0, .int 0, .int 0, .int 0, .int 0, .int 0, .int 0, .int 0], []]))
  refine rn_aload_n dX2_init_44 rfl ?_
  refine rn_aload_n dX2_init_45 rfl ?_
  refine rt_putF (i := 0) (ty := (.object "SharedPockets$Family")) hB rfl flRX2_28 rfl (by decide) rfl rfl (by decide +kernel) rfl rfl dX2_init_46 (Nat.le_of_ble_eq_true rfl) (Nat.le_of_ble_eq_true rfl) ?_
  show Rn _ _ _ _ _ _ _ _ _ _ _ (tb (B ++ [[rf E 5, .null, rf E 23, rf E 24, rf E 25, .int 0, rf E 26], [], [.int 0, .int 0, .int 0, .int 0, .int 0, .int 0, .int 0, .int 0, .int 0, .int 0, .int 0, .int 0, .int 0, .int 0, .int 0, .int 0, .int 0, .int 0, .int 0, .int 0, .int 0, .int 0, .int 0, .int 0], [.int 0, .int 0, .int 0, .int 0, .int 0, .int 0, .int 0, .int 0, .int 0, .int 0, .int 0, .int 0, .int 0, .int 0, .int 0, .int 0, .int 0, .int 0, .int 0, .int 0, .int 0, .int 0, .int 0, .int 0], []]))
  refine rn_aload_n dX2_init_49 rfl ?_
  refine rn_aload_n dX2_init_50 rfl ?_
  refine rt_putF (i := 0) (ty := (.object "SharedPockets$Told")) hB rfl flRX2_32 rfl (by decide) rfl rfl (by decide +kernel) rfl rfl dX2_init_51 (Nat.le_of_ble_eq_true rfl) (Nat.le_of_ble_eq_true rfl) ?_
  show Rn _ _ _ _ _ _ _ _ _ _ _ (tb (B ++ [[rf E 5, rf E 11, rf E 23, rf E 24, rf E 25, .int 0, rf E 26], [], [.int 0, .int 0, .int 0, .int 0, .int 0, .int 0, .int 0, .int 0, .int 0, .int 0, .int 0, .int 0, .int 0, .int 0, .int 0, .int 0, .int 0, .int 0, .int 0, .int 0, .int 0, .int 0, .int 0, .int 0], [.int 0, .int 0, .int 0, .int 0, .int 0, .int 0, .int 0, .int 0, .int 0, .int 0, .int 0, .int 0, .int 0, .int 0, .int 0, .int 0, .int 0, .int 0, .int 0, .int 0, .int 0, .int 0, .int 0, .int 0], []]))
  refine rn_iconst (x := (0 : Int32)) dX2_init_54 (by decide) ?_
  refine ra_istore_n dX2_init_55 rfl (Nat.le_of_ble_eq_true rfl) ?_
  show Rn _ _ _ _ _ _ _ _ [some (rf E 22), some (rf E 5), some (rf E 11), some (.int 0)] _ _ _
  refine rn_iload_n dX2_init_56 rfl ?_
  refine rn_bipush (x := (24 : Int32)) dX2_init_57 (by decide) ?_
  refine rn_icmp_ge (tgt := 94) dX2_init_59 (by decide) (fun q => absurd q (by decide)) (fun _ => ?_)
  refine rn_aload_n dX2_init_62 rfl ?_
  refine rt_get (i := 0) (w := rf E 24) hB rfl flRX2_18 rfl (by decide) rfl dX2_init_63 ?_
  refine rn_iload_n dX2_init_66 rfl ?_
  refine rt_new (n := 27) (ci := 6) (N := 6) (l := []) RX6 TX6 tyX6 rfl (by decide) inX6 tyX6_ok clRX2_9 ins6 ini6 rfl (by intro j hj; revert j; decide +kernel) (by decide) ⟨Nat.le_of_ble_eq_true rfl, Nat.le_of_ble_eq_true rfl⟩ dX2_init_67 (by simp [hB]) ?_
  rw [List.append_assoc]
  show Rn _ _ _ _ _ _ _ _ _ _ _ (tb (B ++ [[rf E 5, rf E 11, rf E 23, rf E 24, rf E 25, .int 0, rf E 26], [], [.int 0, .int 0, .int 0, .int 0, .int 0, .int 0, .int 0, .int 0, .int 0, .int 0, .int 0, .int 0, .int 0, .int 0, .int 0, .int 0, .int 0, .int 0, .int 0, .int 0, .int 0, .int 0, .int 0, .int 0], [.int 0, .int 0, .int 0, .int 0, .int 0, .int 0, .int 0, .int 0, .int 0, .int 0, .int 0, .int 0, .int 0, .int 0, .int 0, .int 0, .int 0, .int 0, .int 0, .int 0, .int 0, .int 0, .int 0, .int 0], [], []]))
  refine rn_dup dX2_init_70 rfl ?_
  refine rn_callIN (mc2 := 0) (ms2 := 0) (c0 := 27) (As := []) (st := [rf E 27, .int 0, rf E 24]) mlRX2_11 rfl mdX6_init (Nat.le_of_ble_eq_true rfl) rfl rfl (Nat.le_of_ble_eq_true rfl) (by decide) ⟨Nat.le_of_ble_eq_true rfl, Nat.le_of_ble_eq_true rfl⟩ dX2_init_71 (ciX6_init (by decide) ?_)
  show Rn _ _ _ _ _ _ _ _ _ [rf E 27, .int 0, rf E 24] _ _
  refine rt_aast (i := 2) (j := 0) (t := 102) (ci := 6) (r := vwCl.getD 6 ("", TX0, 0)) hB rfl rfl (by decide) (by decide) rfl (by decide) rfl (by decide) rfl (by decide) dX2_init_74 (Nat.le_of_ble_eq_true rfl) (Nat.le_of_ble_eq_true rfl) ?_
  show Rn _ _ _ _ _ _ _ _ _ _ _ (tb (B ++ [[rf E 5, rf E 11, rf E 23, rf E 24, rf E 25, .int 0, rf E 26], [], [rf E 27, .int 0, .int 0, .int 0, .int 0, .int 0, .int 0, .int 0, .int 0, .int 0, .int 0, .int 0, .int 0, .int 0, .int 0, .int 0, .int 0, .int 0, .int 0, .int 0, .int 0, .int 0, .int 0, .int 0], [.int 0, .int 0, .int 0, .int 0, .int 0, .int 0, .int 0, .int 0, .int 0, .int 0, .int 0, .int 0, .int 0, .int 0, .int 0, .int 0, .int 0, .int 0, .int 0, .int 0, .int 0, .int 0, .int 0, .int 0], [], []]))
  refine rn_aload_n dX2_init_75 rfl ?_
  refine rt_get (i := 0) (w := rf E 25) hB rfl flRX2_22 rfl (by decide) rfl dX2_init_76 ?_
  refine rn_iload_n dX2_init_79 rfl ?_
  refine rt_new (n := 28) (ci := 6) (N := 6) (l := []) RX6 TX6 tyX6 rfl (by decide) inX6 tyX6_ok clRX2_9 ins6 ini6 rfl (by intro j hj; revert j; decide +kernel) (by decide) ⟨Nat.le_of_ble_eq_true rfl, Nat.le_of_ble_eq_true rfl⟩ dX2_init_80 (by simp [hB]) ?_
  rw [List.append_assoc]
  show Rn _ _ _ _ _ _ _ _ _ _ _ (tb (B ++ [[rf E 5, rf E 11, rf E 23, rf E 24, rf E 25, .int 0, rf E 26], [], [rf E 27, .int 0, .int 0, .int 0, .int 0, .int 0, .int 0, .int 0, .int 0, .int 0, .int 0, .int 0, .int 0, .int 0, .int 0, .int 0, .int 0, .int 0, .int 0, .int 0, .int 0, .int 0, .int 0, .int 0], [.int 0, .int 0, .int 0, .int 0, .int 0, .int 0, .int 0, .int 0, .int 0, .int 0, .int 0, .int 0, .int 0, .int 0, .int 0, .int 0, .int 0, .int 0, .int 0, .int 0, .int 0, .int 0, .int 0, .int 0], [], [], []]))
  refine rn_dup dX2_init_83 rfl ?_
  refine rn_callIN (mc2 := 0) (ms2 := 0) (c0 := 28) (As := []) (st := [rf E 28, .int 0, rf E 25]) mlRX2_11 rfl mdX6_init (Nat.le_of_ble_eq_true rfl) rfl rfl (Nat.le_of_ble_eq_true rfl) (by decide) ⟨Nat.le_of_ble_eq_true rfl, Nat.le_of_ble_eq_true rfl⟩ dX2_init_84 (ciX6_init (by decide) ?_)
  show Rn _ _ _ _ _ _ _ _ _ [rf E 28, .int 0, rf E 25] _ _
  refine rt_aast (i := 3) (j := 0) (t := 102) (ci := 6) (r := vwCl.getD 6 ("", TX0, 0)) hB rfl rfl (by decide) (by decide) rfl (by decide) rfl (by decide) rfl (by decide) dX2_init_87 (Nat.le_of_ble_eq_true rfl) (Nat.le_of_ble_eq_true rfl) ?_
  show Rn _ _ _ _ _ _ _ _ _ _ _ (tb (B ++ [[rf E 5, rf E 11, rf E 23, rf E 24, rf E 25, .int 0, rf E 26], [], [rf E 27, .int 0, .int 0, .int 0, .int 0, .int 0, .int 0, .int 0, .int 0, .int 0, .int 0, .int 0, .int 0, .int 0, .int 0, .int 0, .int 0, .int 0, .int 0, .int 0, .int 0, .int 0, .int 0, .int 0], [rf E 28, .int 0, .int 0, .int 0, .int 0, .int 0, .int 0, .int 0, .int 0, .int 0, .int 0, .int 0, .int 0, .int 0, .int 0, .int 0, .int 0, .int 0, .int 0, .int 0, .int 0, .int 0, .int 0, .int 0], [], [], []]))
  refine rn_iinc (w := (1 : Int32)) dX2_init_88 rfl (by decide) rfl (Nat.le_of_ble_eq_true rfl) (fun zy ze => ?_)
  obtain rfl : zy = (1 : Int32) := ze.trans (by decide)
  show Rn _ _ _ _ _ _ _ _ [some (rf E 22), some (rf E 5), some (rf E 11), some (.int 1)] _ _ _
  refine rn_goto (tgt := 56) dX2_init_91 (by decide) ?_
  refine rn_iload_n dX2_init_56 rfl ?_
  refine rn_bipush (x := (24 : Int32)) dX2_init_57 (by decide) ?_
  refine rn_icmp_ge (tgt := 94) dX2_init_59 (by decide) (fun q => absurd q (by decide)) (fun _ => ?_)
  refine rn_aload_n dX2_init_62 rfl ?_
  refine rt_get (i := 0) (w := rf E 24) hB rfl flRX2_18 rfl (by decide) rfl dX2_init_63 ?_
  refine rn_iload_n dX2_init_66 rfl ?_
  refine rt_new (n := 29) (ci := 6) (N := 6) (l := []) RX6 TX6 tyX6 rfl (by decide) inX6 tyX6_ok clRX2_9 ins6 ini6 rfl (by intro j hj; revert j; decide +kernel) (by decide) ⟨Nat.le_of_ble_eq_true rfl, Nat.le_of_ble_eq_true rfl⟩ dX2_init_67 (by simp [hB]) ?_
  rw [List.append_assoc]
  show Rn _ _ _ _ _ _ _ _ _ _ _ (tb (B ++ [[rf E 5, rf E 11, rf E 23, rf E 24, rf E 25, .int 0, rf E 26], [], [rf E 27, .int 0, .int 0, .int 0, .int 0, .int 0, .int 0, .int 0, .int 0, .int 0, .int 0, .int 0, .int 0, .int 0, .int 0, .int 0, .int 0, .int 0, .int 0, .int 0, .int 0, .int 0, .int 0, .int 0], [rf E 28, .int 0, .int 0, .int 0, .int 0, .int 0, .int 0, .int 0, .int 0, .int 0, .int 0, .int 0, .int 0, .int 0, .int 0, .int 0, .int 0, .int 0, .int 0, .int 0, .int 0, .int 0, .int 0, .int 0], [], [], [], []]))
  refine rn_dup dX2_init_70 rfl ?_
  refine rn_callIN (mc2 := 0) (ms2 := 0) (c0 := 29) (As := []) (st := [rf E 29, .int 1, rf E 24]) mlRX2_11 rfl mdX6_init (Nat.le_of_ble_eq_true rfl) rfl rfl (Nat.le_of_ble_eq_true rfl) (by decide) ⟨Nat.le_of_ble_eq_true rfl, Nat.le_of_ble_eq_true rfl⟩ dX2_init_71 (ciX6_init (by decide) ?_)
  show Rn _ _ _ _ _ _ _ _ _ [rf E 29, .int 1, rf E 24] _ _
  refine rt_aast (i := 2) (j := 1) (t := 102) (ci := 6) (r := vwCl.getD 6 ("", TX0, 0)) hB rfl rfl (by decide) (by decide) rfl (by decide) rfl (by decide) rfl (by decide) dX2_init_74 (Nat.le_of_ble_eq_true rfl) (Nat.le_of_ble_eq_true rfl) ?_
  show Rn _ _ _ _ _ _ _ _ _ _ _ (tb (B ++ [[rf E 5, rf E 11, rf E 23, rf E 24, rf E 25, .int 0, rf E 26], [], [rf E 27, rf E 29, .int 0, .int 0, .int 0, .int 0, .int 0, .int 0, .int 0, .int 0, .int 0, .int 0, .int 0, .int 0, .int 0, .int 0, .int 0, .int 0, .int 0, .int 0, .int 0, .int 0, .int 0, .int 0], [rf E 28, .int 0, .int 0, .int 0, .int 0, .int 0, .int 0, .int 0, .int 0, .int 0, .int 0, .int 0, .int 0, .int 0, .int 0, .int 0, .int 0, .int 0, .int 0, .int 0, .int 0, .int 0, .int 0, .int 0], [], [], [], []]))
  refine rn_aload_n dX2_init_75 rfl ?_
  refine rt_get (i := 0) (w := rf E 25) hB rfl flRX2_22 rfl (by decide) rfl dX2_init_76 ?_
  refine rn_iload_n dX2_init_79 rfl ?_
  refine rt_new (n := 30) (ci := 6) (N := 6) (l := []) RX6 TX6 tyX6 rfl (by decide) inX6 tyX6_ok clRX2_9 ins6 ini6 rfl (by intro j hj; revert j; decide +kernel) (by decide) ⟨Nat.le_of_ble_eq_true rfl, Nat.le_of_ble_eq_true rfl⟩ dX2_init_80 (by simp [hB]) ?_
  rw [List.append_assoc]
  show Rn _ _ _ _ _ _ _ _ _ _ _ (tb (B ++ [[rf E 5, rf E 11, rf E 23, rf E 24, rf E 25, .int 0, rf E 26], [], [rf E 27, rf E 29, .int 0, .int 0, .int 0, .int 0, .int 0, .int 0, .int 0, .int 0, .int 0, .int 0, .int 0, .int 0, .int 0, .int 0, .int 0, .int 0, .int 0, .int 0, .int 0, .int 0, .int 0, .int 0], [rf E 28, .int 0, .int 0, .int 0, .int 0, .int 0, .int 0, .int 0, .int 0, .int 0, .int 0, .int 0, .int 0, .int 0, .int 0, .int 0, .int 0, .int 0, .int 0, .int 0, .int 0, .int 0, .int 0, .int 0], [], [], [], [], []]))
  refine rn_dup dX2_init_83 rfl ?_
  refine rn_callIN (mc2 := 0) (ms2 := 0) (c0 := 30) (As := []) (st := [rf E 30, .int 1, rf E 25]) mlRX2_11 rfl mdX6_init (Nat.le_of_ble_eq_true rfl) rfl rfl (Nat.le_of_ble_eq_true rfl) (by decide) ⟨Nat.le_of_ble_eq_true rfl, Nat.le_of_ble_eq_true rfl⟩ dX2_init_84 (ciX6_init (by decide) ?_)
  show Rn _ _ _ _ _ _ _ _ _ [rf E 30, .int 1, rf E 25] _ _
  refine rt_aast (i := 3) (j := 1) (t := 102) (ci := 6) (r := vwCl.getD 6 ("", TX0, 0)) hB rfl rfl (by decide) (by decide) rfl (by decide) rfl (by decide) rfl (by decide) dX2_init_87 (Nat.le_of_ble_eq_true rfl) (Nat.le_of_ble_eq_true rfl) ?_
  show Rn _ _ _ _ _ _ _ _ _ _ _ (tb (B ++ [[rf E 5, rf E 11, rf E 23, rf E 24, rf E 25, .int 0, rf E 26], [], [rf E 27, rf E 29, .int 0, .int 0, .int 0, .int 0, .int 0, .int 0, .int 0, .int 0, .int 0, .int 0, .int 0, .int 0, .int 0, .int 0, .int 0, .int 0, .int 0, .int 0, .int 0, .int 0, .int 0, .int 0], [rf E 28, rf E 30, .int 0, .int 0, .int 0, .int 0, .int 0, .int 0, .int 0, .int 0, .int 0, .int 0, .int 0, .int 0, .int 0, .int 0, .int 0, .int 0, .int 0, .int 0, .int 0, .int 0, .int 0, .int 0], [], [], [], [], []]))
  refine rn_iinc (w := (1 : Int32)) dX2_init_88 rfl (by decide) rfl (Nat.le_of_ble_eq_true rfl) (fun zy ze => ?_)
  obtain rfl : zy = (2 : Int32) := ze.trans (by decide)
  show Rn _ _ _ _ _ _ _ _ [some (rf E 22), some (rf E 5), some (rf E 11), some (.int 2)] _ _ _
  refine rn_goto (tgt := 56) dX2_init_91 (by decide) ?_
  refine rn_iload_n dX2_init_56 rfl ?_
  refine rn_bipush (x := (24 : Int32)) dX2_init_57 (by decide) ?_
  refine rn_icmp_ge (tgt := 94) dX2_init_59 (by decide) (fun q => absurd q (by decide)) (fun _ => ?_)
  refine rn_aload_n dX2_init_62 rfl ?_
  refine rt_get (i := 0) (w := rf E 24) hB rfl flRX2_18 rfl (by decide) rfl dX2_init_63 ?_
  refine rn_iload_n dX2_init_66 rfl ?_
  refine rt_new (n := 31) (ci := 6) (N := 6) (l := []) RX6 TX6 tyX6 rfl (by decide) inX6 tyX6_ok clRX2_9 ins6 ini6 rfl (by intro j hj; revert j; decide +kernel) (by decide) ⟨Nat.le_of_ble_eq_true rfl, Nat.le_of_ble_eq_true rfl⟩ dX2_init_67 (by simp [hB]) ?_
  rw [List.append_assoc]
  show Rn _ _ _ _ _ _ _ _ _ _ _ (tb (B ++ [[rf E 5, rf E 11, rf E 23, rf E 24, rf E 25, .int 0, rf E 26], [], [rf E 27, rf E 29, .int 0, .int 0, .int 0, .int 0, .int 0, .int 0, .int 0, .int 0, .int 0, .int 0, .int 0, .int 0, .int 0, .int 0, .int 0, .int 0, .int 0, .int 0, .int 0, .int 0, .int 0, .int 0], [rf E 28, rf E 30, .int 0, .int 0, .int 0, .int 0, .int 0, .int 0, .int 0, .int 0, .int 0, .int 0, .int 0, .int 0, .int 0, .int 0, .int 0, .int 0, .int 0, .int 0, .int 0, .int 0, .int 0, .int 0], [], [], [], [], [], []]))
  refine rn_dup dX2_init_70 rfl ?_
  refine rn_callIN (mc2 := 0) (ms2 := 0) (c0 := 31) (As := []) (st := [rf E 31, .int 2, rf E 24]) mlRX2_11 rfl mdX6_init (Nat.le_of_ble_eq_true rfl) rfl rfl (Nat.le_of_ble_eq_true rfl) (by decide) ⟨Nat.le_of_ble_eq_true rfl, Nat.le_of_ble_eq_true rfl⟩ dX2_init_71 (ciX6_init (by decide) ?_)
  show Rn _ _ _ _ _ _ _ _ _ [rf E 31, .int 2, rf E 24] _ _
  refine rt_aast (i := 2) (j := 2) (t := 102) (ci := 6) (r := vwCl.getD 6 ("", TX0, 0)) hB rfl rfl (by decide) (by decide) rfl (by decide) rfl (by decide) rfl (by decide) dX2_init_74 (Nat.le_of_ble_eq_true rfl) (Nat.le_of_ble_eq_true rfl) ?_
  show Rn _ _ _ _ _ _ _ _ _ _ _ (tb (B ++ [[rf E 5, rf E 11, rf E 23, rf E 24, rf E 25, .int 0, rf E 26], [], [rf E 27, rf E 29, rf E 31, .int 0, .int 0, .int 0, .int 0, .int 0, .int 0, .int 0, .int 0, .int 0, .int 0, .int 0, .int 0, .int 0, .int 0, .int 0, .int 0, .int 0, .int 0, .int 0, .int 0, .int 0], [rf E 28, rf E 30, .int 0, .int 0, .int 0, .int 0, .int 0, .int 0, .int 0, .int 0, .int 0, .int 0, .int 0, .int 0, .int 0, .int 0, .int 0, .int 0, .int 0, .int 0, .int 0, .int 0, .int 0, .int 0], [], [], [], [], [], []]))
  refine rn_aload_n dX2_init_75 rfl ?_
  refine rt_get (i := 0) (w := rf E 25) hB rfl flRX2_22 rfl (by decide) rfl dX2_init_76 ?_
  refine rn_iload_n dX2_init_79 rfl ?_
  refine rt_new (n := 32) (ci := 6) (N := 6) (l := []) RX6 TX6 tyX6 rfl (by decide) inX6 tyX6_ok clRX2_9 ins6 ini6 rfl (by intro j hj; revert j; decide +kernel) (by decide) ⟨Nat.le_of_ble_eq_true rfl, Nat.le_of_ble_eq_true rfl⟩ dX2_init_80 (by simp [hB]) ?_
  rw [List.append_assoc]
  show Rn _ _ _ _ _ _ _ _ _ _ _ (tb (B ++ [[rf E 5, rf E 11, rf E 23, rf E 24, rf E 25, .int 0, rf E 26], [], [rf E 27, rf E 29, rf E 31, .int 0, .int 0, .int 0, .int 0, .int 0, .int 0, .int 0, .int 0, .int 0, .int 0, .int 0, .int 0, .int 0, .int 0, .int 0, .int 0, .int 0, .int 0, .int 0, .int 0, .int 0], [rf E 28, rf E 30, .int 0, .int 0, .int 0, .int 0, .int 0, .int 0, .int 0, .int 0, .int 0, .int 0, .int 0, .int 0, .int 0, .int 0, .int 0, .int 0, .int 0, .int 0, .int 0, .int 0, .int 0, .int 0], [], [], [], [], [], [], []]))
  refine rn_dup dX2_init_83 rfl ?_
  refine rn_callIN (mc2 := 0) (ms2 := 0) (c0 := 32) (As := []) (st := [rf E 32, .int 2, rf E 25]) mlRX2_11 rfl mdX6_init (Nat.le_of_ble_eq_true rfl) rfl rfl (Nat.le_of_ble_eq_true rfl) (by decide) ⟨Nat.le_of_ble_eq_true rfl, Nat.le_of_ble_eq_true rfl⟩ dX2_init_84 (ciX6_init (by decide) ?_)
  show Rn _ _ _ _ _ _ _ _ _ [rf E 32, .int 2, rf E 25] _ _
  refine rt_aast (i := 3) (j := 2) (t := 102) (ci := 6) (r := vwCl.getD 6 ("", TX0, 0)) hB rfl rfl (by decide) (by decide) rfl (by decide) rfl (by decide) rfl (by decide) dX2_init_87 (Nat.le_of_ble_eq_true rfl) (Nat.le_of_ble_eq_true rfl) ?_
  show Rn _ _ _ _ _ _ _ _ _ _ _ (tb (B ++ [[rf E 5, rf E 11, rf E 23, rf E 24, rf E 25, .int 0, rf E 26], [], [rf E 27, rf E 29, rf E 31, .int 0, .int 0, .int 0, .int 0, .int 0, .int 0, .int 0, .int 0, .int 0, .int 0, .int 0, .int 0, .int 0, .int 0, .int 0, .int 0, .int 0, .int 0, .int 0, .int 0, .int 0], [rf E 28, rf E 30, rf E 32, .int 0, .int 0, .int 0, .int 0, .int 0, .int 0, .int 0, .int 0, .int 0, .int 0, .int 0, .int 0, .int 0, .int 0, .int 0, .int 0, .int 0, .int 0, .int 0, .int 0, .int 0], [], [], [], [], [], [], []]))
  refine rn_iinc (w := (1 : Int32)) dX2_init_88 rfl (by decide) rfl (Nat.le_of_ble_eq_true rfl) (fun zy ze => ?_)
  obtain rfl : zy = (3 : Int32) := ze.trans (by decide)
  show Rn _ _ _ _ _ _ _ _ [some (rf E 22), some (rf E 5), some (rf E 11), some (.int 3)] _ _ _
  refine rn_goto (tgt := 56) dX2_init_91 (by decide) ?_
  refine rn_iload_n dX2_init_56 rfl ?_
  refine rn_bipush (x := (24 : Int32)) dX2_init_57 (by decide) ?_
  refine rn_icmp_ge (tgt := 94) dX2_init_59 (by decide) (fun q => absurd q (by decide)) (fun _ => ?_)
  refine rn_aload_n dX2_init_62 rfl ?_
  refine rt_get (i := 0) (w := rf E 24) hB rfl flRX2_18 rfl (by decide) rfl dX2_init_63 ?_
  refine rn_iload_n dX2_init_66 rfl ?_
  refine rt_new (n := 33) (ci := 6) (N := 6) (l := []) RX6 TX6 tyX6 rfl (by decide) inX6 tyX6_ok clRX2_9 ins6 ini6 rfl (by intro j hj; revert j; decide +kernel) (by decide) ⟨Nat.le_of_ble_eq_true rfl, Nat.le_of_ble_eq_true rfl⟩ dX2_init_67 (by simp [hB]) ?_
  rw [List.append_assoc]
  show Rn _ _ _ _ _ _ _ _ _ _ _ (tb (B ++ [[rf E 5, rf E 11, rf E 23, rf E 24, rf E 25, .int 0, rf E 26], [], [rf E 27, rf E 29, rf E 31, .int 0, .int 0, .int 0, .int 0, .int 0, .int 0, .int 0, .int 0, .int 0, .int 0, .int 0, .int 0, .int 0, .int 0, .int 0, .int 0, .int 0, .int 0, .int 0, .int 0, .int 0], [rf E 28, rf E 30, rf E 32, .int 0, .int 0, .int 0, .int 0, .int 0, .int 0, .int 0, .int 0, .int 0, .int 0, .int 0, .int 0, .int 0, .int 0, .int 0, .int 0, .int 0, .int 0, .int 0, .int 0, .int 0], [], [], [], [], [], [], [], []]))
  refine rn_dup dX2_init_70 rfl ?_
  refine rn_callIN (mc2 := 0) (ms2 := 0) (c0 := 33) (As := []) (st := [rf E 33, .int 3, rf E 24]) mlRX2_11 rfl mdX6_init (Nat.le_of_ble_eq_true rfl) rfl rfl (Nat.le_of_ble_eq_true rfl) (by decide) ⟨Nat.le_of_ble_eq_true rfl, Nat.le_of_ble_eq_true rfl⟩ dX2_init_71 (ciX6_init (by decide) ?_)
  show Rn _ _ _ _ _ _ _ _ _ [rf E 33, .int 3, rf E 24] _ _
  refine rt_aast (i := 2) (j := 3) (t := 102) (ci := 6) (r := vwCl.getD 6 ("", TX0, 0)) hB rfl rfl (by decide) (by decide) rfl (by decide) rfl (by decide) rfl (by decide) dX2_init_74 (Nat.le_of_ble_eq_true rfl) (Nat.le_of_ble_eq_true rfl) ?_
  show Rn _ _ _ _ _ _ _ _ _ _ _ (tb (B ++ [[rf E 5, rf E 11, rf E 23, rf E 24, rf E 25, .int 0, rf E 26], [], [rf E 27, rf E 29, rf E 31, rf E 33, .int 0, .int 0, .int 0, .int 0, .int 0, .int 0, .int 0, .int 0, .int 0, .int 0, .int 0, .int 0, .int 0, .int 0, .int 0, .int 0, .int 0, .int 0, .int 0, .int 0], [rf E 28, rf E 30, rf E 32, .int 0, .int 0, .int 0, .int 0, .int 0, .int 0, .int 0, .int 0, .int 0, .int 0, .int 0, .int 0, .int 0, .int 0, .int 0, .int 0, .int 0, .int 0, .int 0, .int 0, .int 0], [], [], [], [], [], [], [], []]))
  refine rn_aload_n dX2_init_75 rfl ?_
  refine rt_get (i := 0) (w := rf E 25) hB rfl flRX2_22 rfl (by decide) rfl dX2_init_76 ?_
  refine rn_iload_n dX2_init_79 rfl ?_
  refine rt_new (n := 34) (ci := 6) (N := 6) (l := []) RX6 TX6 tyX6 rfl (by decide) inX6 tyX6_ok clRX2_9 ins6 ini6 rfl (by intro j hj; revert j; decide +kernel) (by decide) ⟨Nat.le_of_ble_eq_true rfl, Nat.le_of_ble_eq_true rfl⟩ dX2_init_80 (by simp [hB]) ?_
  rw [List.append_assoc]
  show Rn _ _ _ _ _ _ _ _ _ _ _ (tb (B ++ [[rf E 5, rf E 11, rf E 23, rf E 24, rf E 25, .int 0, rf E 26], [], [rf E 27, rf E 29, rf E 31, rf E 33, .int 0, .int 0, .int 0, .int 0, .int 0, .int 0, .int 0, .int 0, .int 0, .int 0, .int 0, .int 0, .int 0, .int 0, .int 0, .int 0, .int 0, .int 0, .int 0, .int 0], [rf E 28, rf E 30, rf E 32, .int 0, .int 0, .int 0, .int 0, .int 0, .int 0, .int 0, .int 0, .int 0, .int 0, .int 0, .int 0, .int 0, .int 0, .int 0, .int 0, .int 0, .int 0, .int 0, .int 0, .int 0], [], [], [], [], [], [], [], [], []]))
  refine rn_dup dX2_init_83 rfl ?_
  refine rn_callIN (mc2 := 0) (ms2 := 0) (c0 := 34) (As := []) (st := [rf E 34, .int 3, rf E 25]) mlRX2_11 rfl mdX6_init (Nat.le_of_ble_eq_true rfl) rfl rfl (Nat.le_of_ble_eq_true rfl) (by decide) ⟨Nat.le_of_ble_eq_true rfl, Nat.le_of_ble_eq_true rfl⟩ dX2_init_84 (ciX6_init (by decide) ?_)
  show Rn _ _ _ _ _ _ _ _ _ [rf E 34, .int 3, rf E 25] _ _
  refine rt_aast (i := 3) (j := 3) (t := 102) (ci := 6) (r := vwCl.getD 6 ("", TX0, 0)) hB rfl rfl (by decide) (by decide) rfl (by decide) rfl (by decide) rfl (by decide) dX2_init_87 (Nat.le_of_ble_eq_true rfl) (Nat.le_of_ble_eq_true rfl) ?_
  show Rn _ _ _ _ _ _ _ _ _ _ _ (tb (B ++ [[rf E 5, rf E 11, rf E 23, rf E 24, rf E 25, .int 0, rf E 26], [], [rf E 27, rf E 29, rf E 31, rf E 33, .int 0, .int 0, .int 0, .int 0, .int 0, .int 0, .int 0, .int 0, .int 0, .int 0, .int 0, .int 0, .int 0, .int 0, .int 0, .int 0, .int 0, .int 0, .int 0, .int 0], [rf E 28, rf E 30, rf E 32, rf E 34, .int 0, .int 0, .int 0, .int 0, .int 0, .int 0, .int 0, .int 0, .int 0, .int 0, .int 0, .int 0, .int 0, .int 0, .int 0, .int 0, .int 0, .int 0, .int 0, .int 0], [], [], [], [], [], [], [], [], []]))
  refine rn_iinc (w := (1 : Int32)) dX2_init_88 rfl (by decide) rfl (Nat.le_of_ble_eq_true rfl) (fun zy ze => ?_)
  obtain rfl : zy = (4 : Int32) := ze.trans (by decide)
  show Rn _ _ _ _ _ _ _ _ [some (rf E 22), some (rf E 5), some (rf E 11), some (.int 4)] _ _ _
  refine rn_goto (tgt := 56) dX2_init_91 (by decide) ?_
  refine rn_iload_n dX2_init_56 rfl ?_
  refine rn_bipush (x := (24 : Int32)) dX2_init_57 (by decide) ?_
  refine rn_icmp_ge (tgt := 94) dX2_init_59 (by decide) (fun q => absurd q (by decide)) (fun _ => ?_)
  refine rn_aload_n dX2_init_62 rfl ?_
  refine rt_get (i := 0) (w := rf E 24) hB rfl flRX2_18 rfl (by decide) rfl dX2_init_63 ?_
  refine rn_iload_n dX2_init_66 rfl ?_
  refine rt_new (n := 35) (ci := 6) (N := 6) (l := []) RX6 TX6 tyX6 rfl (by decide) inX6 tyX6_ok clRX2_9 ins6 ini6 rfl (by intro j hj; revert j; decide +kernel) (by decide) ⟨Nat.le_of_ble_eq_true rfl, Nat.le_of_ble_eq_true rfl⟩ dX2_init_67 (by simp [hB]) ?_
  rw [List.append_assoc]
  show Rn _ _ _ _ _ _ _ _ _ _ _ (tb (B ++ [[rf E 5, rf E 11, rf E 23, rf E 24, rf E 25, .int 0, rf E 26], [], [rf E 27, rf E 29, rf E 31, rf E 33, .int 0, .int 0, .int 0, .int 0, .int 0, .int 0, .int 0, .int 0, .int 0, .int 0, .int 0, .int 0, .int 0, .int 0, .int 0, .int 0, .int 0, .int 0, .int 0, .int 0], [rf E 28, rf E 30, rf E 32, rf E 34, .int 0, .int 0, .int 0, .int 0, .int 0, .int 0, .int 0, .int 0, .int 0, .int 0, .int 0, .int 0, .int 0, .int 0, .int 0, .int 0, .int 0, .int 0, .int 0, .int 0], [], [], [], [], [], [], [], [], [], []]))
  refine rn_dup dX2_init_70 rfl ?_
  refine rn_callIN (mc2 := 0) (ms2 := 0) (c0 := 35) (As := []) (st := [rf E 35, .int 4, rf E 24]) mlRX2_11 rfl mdX6_init (Nat.le_of_ble_eq_true rfl) rfl rfl (Nat.le_of_ble_eq_true rfl) (by decide) ⟨Nat.le_of_ble_eq_true rfl, Nat.le_of_ble_eq_true rfl⟩ dX2_init_71 (ciX6_init (by decide) ?_)
  show Rn _ _ _ _ _ _ _ _ _ [rf E 35, .int 4, rf E 24] _ _
  refine rt_aast (i := 2) (j := 4) (t := 102) (ci := 6) (r := vwCl.getD 6 ("", TX0, 0)) hB rfl rfl (by decide) (by decide) rfl (by decide) rfl (by decide) rfl (by decide) dX2_init_74 (Nat.le_of_ble_eq_true rfl) (Nat.le_of_ble_eq_true rfl) ?_
  show Rn _ _ _ _ _ _ _ _ _ _ _ (tb (B ++ [[rf E 5, rf E 11, rf E 23, rf E 24, rf E 25, .int 0, rf E 26], [], [rf E 27, rf E 29, rf E 31, rf E 33, rf E 35, .int 0, .int 0, .int 0, .int 0, .int 0, .int 0, .int 0, .int 0, .int 0, .int 0, .int 0, .int 0, .int 0, .int 0, .int 0, .int 0, .int 0, .int 0, .int 0], [rf E 28, rf E 30, rf E 32, rf E 34, .int 0, .int 0, .int 0, .int 0, .int 0, .int 0, .int 0, .int 0, .int 0, .int 0, .int 0, .int 0, .int 0, .int 0, .int 0, .int 0, .int 0, .int 0, .int 0, .int 0], [], [], [], [], [], [], [], [], [], []]))
  refine rn_aload_n dX2_init_75 rfl ?_
  refine rt_get (i := 0) (w := rf E 25) hB rfl flRX2_22 rfl (by decide) rfl dX2_init_76 ?_
  refine rn_iload_n dX2_init_79 rfl ?_
  refine rt_new (n := 36) (ci := 6) (N := 6) (l := []) RX6 TX6 tyX6 rfl (by decide) inX6 tyX6_ok clRX2_9 ins6 ini6 rfl (by intro j hj; revert j; decide +kernel) (by decide) ⟨Nat.le_of_ble_eq_true rfl, Nat.le_of_ble_eq_true rfl⟩ dX2_init_80 (by simp [hB]) ?_
  rw [List.append_assoc]
  show Rn _ _ _ _ _ _ _ _ _ _ _ (tb (B ++ [[rf E 5, rf E 11, rf E 23, rf E 24, rf E 25, .int 0, rf E 26], [], [rf E 27, rf E 29, rf E 31, rf E 33, rf E 35, .int 0, .int 0, .int 0, .int 0, .int 0, .int 0, .int 0, .int 0, .int 0, .int 0, .int 0, .int 0, .int 0, .int 0, .int 0, .int 0, .int 0, .int 0, .int 0], [rf E 28, rf E 30, rf E 32, rf E 34, .int 0, .int 0, .int 0, .int 0, .int 0, .int 0, .int 0, .int 0, .int 0, .int 0, .int 0, .int 0, .int 0, .int 0, .int 0, .int 0, .int 0, .int 0, .int 0, .int 0], [], [], [], [], [], [], [], [], [], [], []]))
  refine rn_dup dX2_init_83 rfl ?_
  refine rn_callIN (mc2 := 0) (ms2 := 0) (c0 := 36) (As := []) (st := [rf E 36, .int 4, rf E 25]) mlRX2_11 rfl mdX6_init (Nat.le_of_ble_eq_true rfl) rfl rfl (Nat.le_of_ble_eq_true rfl) (by decide) ⟨Nat.le_of_ble_eq_true rfl, Nat.le_of_ble_eq_true rfl⟩ dX2_init_84 (ciX6_init (by decide) ?_)
  show Rn _ _ _ _ _ _ _ _ _ [rf E 36, .int 4, rf E 25] _ _
  refine rt_aast (i := 3) (j := 4) (t := 102) (ci := 6) (r := vwCl.getD 6 ("", TX0, 0)) hB rfl rfl (by decide) (by decide) rfl (by decide) rfl (by decide) rfl (by decide) dX2_init_87 (Nat.le_of_ble_eq_true rfl) (Nat.le_of_ble_eq_true rfl) ?_
  show Rn _ _ _ _ _ _ _ _ _ _ _ (tb (B ++ [[rf E 5, rf E 11, rf E 23, rf E 24, rf E 25, .int 0, rf E 26], [], [rf E 27, rf E 29, rf E 31, rf E 33, rf E 35, .int 0, .int 0, .int 0, .int 0, .int 0, .int 0, .int 0, .int 0, .int 0, .int 0, .int 0, .int 0, .int 0, .int 0, .int 0, .int 0, .int 0, .int 0, .int 0], [rf E 28, rf E 30, rf E 32, rf E 34, rf E 36, .int 0, .int 0, .int 0, .int 0, .int 0, .int 0, .int 0, .int 0, .int 0, .int 0, .int 0, .int 0, .int 0, .int 0, .int 0, .int 0, .int 0, .int 0, .int 0], [], [], [], [], [], [], [], [], [], [], []]))
  refine rn_iinc (w := (1 : Int32)) dX2_init_88 rfl (by decide) rfl (Nat.le_of_ble_eq_true rfl) (fun zy ze => ?_)
  obtain rfl : zy = (5 : Int32) := ze.trans (by decide)
  show Rn _ _ _ _ _ _ _ _ [some (rf E 22), some (rf E 5), some (rf E 11), some (.int 5)] _ _ _
  refine rn_goto (tgt := 56) dX2_init_91 (by decide) ?_
  refine rn_iload_n dX2_init_56 rfl ?_
  refine rn_bipush (x := (24 : Int32)) dX2_init_57 (by decide) ?_
  refine rn_icmp_ge (tgt := 94) dX2_init_59 (by decide) (fun q => absurd q (by decide)) (fun _ => ?_)
  refine rn_aload_n dX2_init_62 rfl ?_
  refine rt_get (i := 0) (w := rf E 24) hB rfl flRX2_18 rfl (by decide) rfl dX2_init_63 ?_
  refine rn_iload_n dX2_init_66 rfl ?_
  refine rt_new (n := 37) (ci := 6) (N := 6) (l := []) RX6 TX6 tyX6 rfl (by decide) inX6 tyX6_ok clRX2_9 ins6 ini6 rfl (by intro j hj; revert j; decide +kernel) (by decide) ⟨Nat.le_of_ble_eq_true rfl, Nat.le_of_ble_eq_true rfl⟩ dX2_init_67 (by simp [hB]) ?_
  rw [List.append_assoc]
  show Rn _ _ _ _ _ _ _ _ _ _ _ (tb (B ++ [[rf E 5, rf E 11, rf E 23, rf E 24, rf E 25, .int 0, rf E 26], [], [rf E 27, rf E 29, rf E 31, rf E 33, rf E 35, .int 0, .int 0, .int 0, .int 0, .int 0, .int 0, .int 0, .int 0, .int 0, .int 0, .int 0, .int 0, .int 0, .int 0, .int 0, .int 0, .int 0, .int 0, .int 0], [rf E 28, rf E 30, rf E 32, rf E 34, rf E 36, .int 0, .int 0, .int 0, .int 0, .int 0, .int 0, .int 0, .int 0, .int 0, .int 0, .int 0, .int 0, .int 0, .int 0, .int 0, .int 0, .int 0, .int 0, .int 0], [], [], [], [], [], [], [], [], [], [], [], []]))
  refine rn_dup dX2_init_70 rfl ?_
  refine rn_callIN (mc2 := 0) (ms2 := 0) (c0 := 37) (As := []) (st := [rf E 37, .int 5, rf E 24]) mlRX2_11 rfl mdX6_init (Nat.le_of_ble_eq_true rfl) rfl rfl (Nat.le_of_ble_eq_true rfl) (by decide) ⟨Nat.le_of_ble_eq_true rfl, Nat.le_of_ble_eq_true rfl⟩ dX2_init_71 (ciX6_init (by decide) ?_)
  show Rn _ _ _ _ _ _ _ _ _ [rf E 37, .int 5, rf E 24] _ _
  refine rt_aast (i := 2) (j := 5) (t := 102) (ci := 6) (r := vwCl.getD 6 ("", TX0, 0)) hB rfl rfl (by decide) (by decide) rfl (by decide) rfl (by decide) rfl (by decide) dX2_init_74 (Nat.le_of_ble_eq_true rfl) (Nat.le_of_ble_eq_true rfl) ?_
  show Rn _ _ _ _ _ _ _ _ _ _ _ (tb (B ++ [[rf E 5, rf E 11, rf E 23, rf E 24, rf E 25, .int 0, rf E 26], [], [rf E 27, rf E 29, rf E 31, rf E 33, rf E 35, rf E 37, .int 0, .int 0, .int 0, .int 0, .int 0, .int 0, .int 0, .int 0, .int 0, .int 0, .int 0, .int 0, .int 0, .int 0, .int 0, .int 0, .int 0, .int 0], [rf E 28, rf E 30, rf E 32, rf E 34, rf E 36, .int 0, .int 0, .int 0, .int 0, .int 0, .int 0, .int 0, .int 0, .int 0, .int 0, .int 0, .int 0, .int 0, .int 0, .int 0, .int 0, .int 0, .int 0, .int 0], [], [], [], [], [], [], [], [], [], [], [], []]))
  refine rn_aload_n dX2_init_75 rfl ?_
  refine rt_get (i := 0) (w := rf E 25) hB rfl flRX2_22 rfl (by decide) rfl dX2_init_76 ?_
  refine rn_iload_n dX2_init_79 rfl ?_
  refine rt_new (n := 38) (ci := 6) (N := 6) (l := []) RX6 TX6 tyX6 rfl (by decide) inX6 tyX6_ok clRX2_9 ins6 ini6 rfl (by intro j hj; revert j; decide +kernel) (by decide) ⟨Nat.le_of_ble_eq_true rfl, Nat.le_of_ble_eq_true rfl⟩ dX2_init_80 (by simp [hB]) ?_
  rw [List.append_assoc]
  show Rn _ _ _ _ _ _ _ _ _ _ _ (tb (B ++ [[rf E 5, rf E 11, rf E 23, rf E 24, rf E 25, .int 0, rf E 26], [], [rf E 27, rf E 29, rf E 31, rf E 33, rf E 35, rf E 37, .int 0, .int 0, .int 0, .int 0, .int 0, .int 0, .int 0, .int 0, .int 0, .int 0, .int 0, .int 0, .int 0, .int 0, .int 0, .int 0, .int 0, .int 0], [rf E 28, rf E 30, rf E 32, rf E 34, rf E 36, .int 0, .int 0, .int 0, .int 0, .int 0, .int 0, .int 0, .int 0, .int 0, .int 0, .int 0, .int 0, .int 0, .int 0, .int 0, .int 0, .int 0, .int 0, .int 0], [], [], [], [], [], [], [], [], [], [], [], [], []]))
  refine rn_dup dX2_init_83 rfl ?_
  refine rn_callIN (mc2 := 0) (ms2 := 0) (c0 := 38) (As := []) (st := [rf E 38, .int 5, rf E 25]) mlRX2_11 rfl mdX6_init (Nat.le_of_ble_eq_true rfl) rfl rfl (Nat.le_of_ble_eq_true rfl) (by decide) ⟨Nat.le_of_ble_eq_true rfl, Nat.le_of_ble_eq_true rfl⟩ dX2_init_84 (ciX6_init (by decide) ?_)
  show Rn _ _ _ _ _ _ _ _ _ [rf E 38, .int 5, rf E 25] _ _
  refine rt_aast (i := 3) (j := 5) (t := 102) (ci := 6) (r := vwCl.getD 6 ("", TX0, 0)) hB rfl rfl (by decide) (by decide) rfl (by decide) rfl (by decide) rfl (by decide) dX2_init_87 (Nat.le_of_ble_eq_true rfl) (Nat.le_of_ble_eq_true rfl) ?_
  show Rn _ _ _ _ _ _ _ _ _ _ _ (tb (B ++ [[rf E 5, rf E 11, rf E 23, rf E 24, rf E 25, .int 0, rf E 26], [], [rf E 27, rf E 29, rf E 31, rf E 33, rf E 35, rf E 37, .int 0, .int 0, .int 0, .int 0, .int 0, .int 0, .int 0, .int 0, .int 0, .int 0, .int 0, .int 0, .int 0, .int 0, .int 0, .int 0, .int 0, .int 0], [rf E 28, rf E 30, rf E 32, rf E 34, rf E 36, rf E 38, .int 0, .int 0, .int 0, .int 0, .int 0, .int 0, .int 0, .int 0, .int 0, .int 0, .int 0, .int 0, .int 0, .int 0, .int 0, .int 0, .int 0, .int 0], [], [], [], [], [], [], [], [], [], [], [], [], []]))
  refine rn_iinc (w := (1 : Int32)) dX2_init_88 rfl (by decide) rfl (Nat.le_of_ble_eq_true rfl) (fun zy ze => ?_)
  obtain rfl : zy = (6 : Int32) := ze.trans (by decide)
  show Rn _ _ _ _ _ _ _ _ [some (rf E 22), some (rf E 5), some (rf E 11), some (.int 6)] _ _ _
  refine rn_goto (tgt := 56) dX2_init_91 (by decide) ?_
  refine rn_iload_n dX2_init_56 rfl ?_
  refine rn_bipush (x := (24 : Int32)) dX2_init_57 (by decide) ?_
  refine rn_icmp_ge (tgt := 94) dX2_init_59 (by decide) (fun q => absurd q (by decide)) (fun _ => ?_)
  refine rn_aload_n dX2_init_62 rfl ?_
  refine rt_get (i := 0) (w := rf E 24) hB rfl flRX2_18 rfl (by decide) rfl dX2_init_63 ?_
  refine rn_iload_n dX2_init_66 rfl ?_
  refine rt_new (n := 39) (ci := 6) (N := 6) (l := []) RX6 TX6 tyX6 rfl (by decide) inX6 tyX6_ok clRX2_9 ins6 ini6 rfl (by intro j hj; revert j; decide +kernel) (by decide) ⟨Nat.le_of_ble_eq_true rfl, Nat.le_of_ble_eq_true rfl⟩ dX2_init_67 (by simp [hB]) ?_
  rw [List.append_assoc]
  show Rn _ _ _ _ _ _ _ _ _ _ _ (tb (B ++ [[rf E 5, rf E 11, rf E 23, rf E 24, rf E 25, .int 0, rf E 26], [], [rf E 27, rf E 29, rf E 31, rf E 33, rf E 35, rf E 37, .int 0, .int 0, .int 0, .int 0, .int 0, .int 0, .int 0, .int 0, .int 0, .int 0, .int 0, .int 0, .int 0, .int 0, .int 0, .int 0, .int 0, .int 0], [rf E 28, rf E 30, rf E 32, rf E 34, rf E 36, rf E 38, .int 0, .int 0, .int 0, .int 0, .int 0, .int 0, .int 0, .int 0, .int 0, .int 0, .int 0, .int 0, .int 0, .int 0, .int 0, .int 0, .int 0, .int 0], [], [], [], [], [], [], [], [], [], [], [], [], [], []]))
  refine rn_dup dX2_init_70 rfl ?_
  refine rn_callIN (mc2 := 0) (ms2 := 0) (c0 := 39) (As := []) (st := [rf E 39, .int 6, rf E 24]) mlRX2_11 rfl mdX6_init (Nat.le_of_ble_eq_true rfl) rfl rfl (Nat.le_of_ble_eq_true rfl) (by decide) ⟨Nat.le_of_ble_eq_true rfl, Nat.le_of_ble_eq_true rfl⟩ dX2_init_71 (ciX6_init (by decide) ?_)
  show Rn _ _ _ _ _ _ _ _ _ [rf E 39, .int 6, rf E 24] _ _
  refine rt_aast (i := 2) (j := 6) (t := 102) (ci := 6) (r := vwCl.getD 6 ("", TX0, 0)) hB rfl rfl (by decide) (by decide) rfl (by decide) rfl (by decide) rfl (by decide) dX2_init_74 (Nat.le_of_ble_eq_true rfl) (Nat.le_of_ble_eq_true rfl) ?_
  show Rn _ _ _ _ _ _ _ _ _ _ _ (tb (B ++ [[rf E 5, rf E 11, rf E 23, rf E 24, rf E 25, .int 0, rf E 26], [], [rf E 27, rf E 29, rf E 31, rf E 33, rf E 35, rf E 37, rf E 39, .int 0, .int 0, .int 0, .int 0, .int 0, .int 0, .int 0, .int 0, .int 0, .int 0, .int 0, .int 0, .int 0, .int 0, .int 0, .int 0, .int 0], [rf E 28, rf E 30, rf E 32, rf E 34, rf E 36, rf E 38, .int 0, .int 0, .int 0, .int 0, .int 0, .int 0, .int 0, .int 0, .int 0, .int 0, .int 0, .int 0, .int 0, .int 0, .int 0, .int 0, .int 0, .int 0], [], [], [], [], [], [], [], [], [], [], [], [], [], []]))
  refine rn_aload_n dX2_init_75 rfl ?_
  refine rt_get (i := 0) (w := rf E 25) hB rfl flRX2_22 rfl (by decide) rfl dX2_init_76 ?_
  refine rn_iload_n dX2_init_79 rfl ?_
  refine rt_new (n := 40) (ci := 6) (N := 6) (l := []) RX6 TX6 tyX6 rfl (by decide) inX6 tyX6_ok clRX2_9 ins6 ini6 rfl (by intro j hj; revert j; decide +kernel) (by decide) ⟨Nat.le_of_ble_eq_true rfl, Nat.le_of_ble_eq_true rfl⟩ dX2_init_80 (by simp [hB]) ?_
  rw [List.append_assoc]
  show Rn _ _ _ _ _ _ _ _ _ _ _ (tb (B ++ [[rf E 5, rf E 11, rf E 23, rf E 24, rf E 25, .int 0, rf E 26], [], [rf E 27, rf E 29, rf E 31, rf E 33, rf E 35, rf E 37, rf E 39, .int 0, .int 0, .int 0, .int 0, .int 0, .int 0, .int 0, .int 0, .int 0, .int 0, .int 0, .int 0, .int 0, .int 0, .int 0, .int 0, .int 0], [rf E 28, rf E 30, rf E 32, rf E 34, rf E 36, rf E 38, .int 0, .int 0, .int 0, .int 0, .int 0, .int 0, .int 0, .int 0, .int 0, .int 0, .int 0, .int 0, .int 0, .int 0, .int 0, .int 0, .int 0, .int 0], [], [], [], [], [], [], [], [], [], [], [], [], [], [], []]))
  refine rn_dup dX2_init_83 rfl ?_
  refine rn_callIN (mc2 := 0) (ms2 := 0) (c0 := 40) (As := []) (st := [rf E 40, .int 6, rf E 25]) mlRX2_11 rfl mdX6_init (Nat.le_of_ble_eq_true rfl) rfl rfl (Nat.le_of_ble_eq_true rfl) (by decide) ⟨Nat.le_of_ble_eq_true rfl, Nat.le_of_ble_eq_true rfl⟩ dX2_init_84 (ciX6_init (by decide) ?_)
  show Rn _ _ _ _ _ _ _ _ _ [rf E 40, .int 6, rf E 25] _ _
  refine rt_aast (i := 3) (j := 6) (t := 102) (ci := 6) (r := vwCl.getD 6 ("", TX0, 0)) hB rfl rfl (by decide) (by decide) rfl (by decide) rfl (by decide) rfl (by decide) dX2_init_87 (Nat.le_of_ble_eq_true rfl) (Nat.le_of_ble_eq_true rfl) ?_
  show Rn _ _ _ _ _ _ _ _ _ _ _ (tb (B ++ [[rf E 5, rf E 11, rf E 23, rf E 24, rf E 25, .int 0, rf E 26], [], [rf E 27, rf E 29, rf E 31, rf E 33, rf E 35, rf E 37, rf E 39, .int 0, .int 0, .int 0, .int 0, .int 0, .int 0, .int 0, .int 0, .int 0, .int 0, .int 0, .int 0, .int 0, .int 0, .int 0, .int 0, .int 0], [rf E 28, rf E 30, rf E 32, rf E 34, rf E 36, rf E 38, rf E 40, .int 0, .int 0, .int 0, .int 0, .int 0, .int 0, .int 0, .int 0, .int 0, .int 0, .int 0, .int 0, .int 0, .int 0, .int 0, .int 0, .int 0], [], [], [], [], [], [], [], [], [], [], [], [], [], [], []]))
  refine rn_iinc (w := (1 : Int32)) dX2_init_88 rfl (by decide) rfl (Nat.le_of_ble_eq_true rfl) (fun zy ze => ?_)
  obtain rfl : zy = (7 : Int32) := ze.trans (by decide)
  show Rn _ _ _ _ _ _ _ _ [some (rf E 22), some (rf E 5), some (rf E 11), some (.int 7)] _ _ _
  refine rn_goto (tgt := 56) dX2_init_91 (by decide) ?_
  refine rn_iload_n dX2_init_56 rfl ?_
  refine rn_bipush (x := (24 : Int32)) dX2_init_57 (by decide) ?_
  refine rn_icmp_ge (tgt := 94) dX2_init_59 (by decide) (fun q => absurd q (by decide)) (fun _ => ?_)
  refine rn_aload_n dX2_init_62 rfl ?_
  refine rt_get (i := 0) (w := rf E 24) hB rfl flRX2_18 rfl (by decide) rfl dX2_init_63 ?_
  refine rn_iload_n dX2_init_66 rfl ?_
  refine rt_new (n := 41) (ci := 6) (N := 6) (l := []) RX6 TX6 tyX6 rfl (by decide) inX6 tyX6_ok clRX2_9 ins6 ini6 rfl (by intro j hj; revert j; decide +kernel) (by decide) ⟨Nat.le_of_ble_eq_true rfl, Nat.le_of_ble_eq_true rfl⟩ dX2_init_67 (by simp [hB]) ?_
  rw [List.append_assoc]
  show Rn _ _ _ _ _ _ _ _ _ _ _ (tb (B ++ [[rf E 5, rf E 11, rf E 23, rf E 24, rf E 25, .int 0, rf E 26], [], [rf E 27, rf E 29, rf E 31, rf E 33, rf E 35, rf E 37, rf E 39, .int 0, .int 0, .int 0, .int 0, .int 0, .int 0, .int 0, .int 0, .int 0, .int 0, .int 0, .int 0, .int 0, .int 0, .int 0, .int 0, .int 0], [rf E 28, rf E 30, rf E 32, rf E 34, rf E 36, rf E 38, rf E 40, .int 0, .int 0, .int 0, .int 0, .int 0, .int 0, .int 0, .int 0, .int 0, .int 0, .int 0, .int 0, .int 0, .int 0, .int 0, .int 0, .int 0], [], [], [], [], [], [], [], [], [], [], [], [], [], [], [], []]))
  refine rn_dup dX2_init_70 rfl ?_
  refine rn_callIN (mc2 := 0) (ms2 := 0) (c0 := 41) (As := []) (st := [rf E 41, .int 7, rf E 24]) mlRX2_11 rfl mdX6_init (Nat.le_of_ble_eq_true rfl) rfl rfl (Nat.le_of_ble_eq_true rfl) (by decide) ⟨Nat.le_of_ble_eq_true rfl, Nat.le_of_ble_eq_true rfl⟩ dX2_init_71 (ciX6_init (by decide) ?_)
  show Rn _ _ _ _ _ _ _ _ _ [rf E 41, .int 7, rf E 24] _ _
  refine rt_aast (i := 2) (j := 7) (t := 102) (ci := 6) (r := vwCl.getD 6 ("", TX0, 0)) hB rfl rfl (by decide) (by decide) rfl (by decide) rfl (by decide) rfl (by decide) dX2_init_74 (Nat.le_of_ble_eq_true rfl) (Nat.le_of_ble_eq_true rfl) ?_
  show Rn _ _ _ _ _ _ _ _ _ _ _ (tb (B ++ [[rf E 5, rf E 11, rf E 23, rf E 24, rf E 25, .int 0, rf E 26], [], [rf E 27, rf E 29, rf E 31, rf E 33, rf E 35, rf E 37, rf E 39, rf E 41, .int 0, .int 0, .int 0, .int 0, .int 0, .int 0, .int 0, .int 0, .int 0, .int 0, .int 0, .int 0, .int 0, .int 0, .int 0, .int 0], [rf E 28, rf E 30, rf E 32, rf E 34, rf E 36, rf E 38, rf E 40, .int 0, .int 0, .int 0, .int 0, .int 0, .int 0, .int 0, .int 0, .int 0, .int 0, .int 0, .int 0, .int 0, .int 0, .int 0, .int 0, .int 0], [], [], [], [], [], [], [], [], [], [], [], [], [], [], [], []]))
  refine rn_aload_n dX2_init_75 rfl ?_
  refine rt_get (i := 0) (w := rf E 25) hB rfl flRX2_22 rfl (by decide) rfl dX2_init_76 ?_
  refine rn_iload_n dX2_init_79 rfl ?_
  refine rt_new (n := 42) (ci := 6) (N := 6) (l := []) RX6 TX6 tyX6 rfl (by decide) inX6 tyX6_ok clRX2_9 ins6 ini6 rfl (by intro j hj; revert j; decide +kernel) (by decide) ⟨Nat.le_of_ble_eq_true rfl, Nat.le_of_ble_eq_true rfl⟩ dX2_init_80 (by simp [hB]) ?_
  rw [List.append_assoc]
  show Rn _ _ _ _ _ _ _ _ _ _ _ (tb (B ++ [[rf E 5, rf E 11, rf E 23, rf E 24, rf E 25, .int 0, rf E 26], [], [rf E 27, rf E 29, rf E 31, rf E 33, rf E 35, rf E 37, rf E 39, rf E 41, .int 0, .int 0, .int 0, .int 0, .int 0, .int 0, .int 0, .int 0, .int 0, .int 0, .int 0, .int 0, .int 0, .int 0, .int 0, .int 0], [rf E 28, rf E 30, rf E 32, rf E 34, rf E 36, rf E 38, rf E 40, .int 0, .int 0, .int 0, .int 0, .int 0, .int 0, .int 0, .int 0, .int 0, .int 0, .int 0, .int 0, .int 0, .int 0, .int 0, .int 0, .int 0], [], [], [], [], [], [], [], [], [], [], [], [], [], [], [], [], []]))
  refine rn_dup dX2_init_83 rfl ?_
  refine rn_callIN (mc2 := 0) (ms2 := 0) (c0 := 42) (As := []) (st := [rf E 42, .int 7, rf E 25]) mlRX2_11 rfl mdX6_init (Nat.le_of_ble_eq_true rfl) rfl rfl (Nat.le_of_ble_eq_true rfl) (by decide) ⟨Nat.le_of_ble_eq_true rfl, Nat.le_of_ble_eq_true rfl⟩ dX2_init_84 (ciX6_init (by decide) ?_)
  show Rn _ _ _ _ _ _ _ _ _ [rf E 42, .int 7, rf E 25] _ _
  refine rt_aast (i := 3) (j := 7) (t := 102) (ci := 6) (r := vwCl.getD 6 ("", TX0, 0)) hB rfl rfl (by decide) (by decide) rfl (by decide) rfl (by decide) rfl (by decide) dX2_init_87 (Nat.le_of_ble_eq_true rfl) (Nat.le_of_ble_eq_true rfl) ?_
  show Rn _ _ _ _ _ _ _ _ _ _ _ (tb (B ++ [[rf E 5, rf E 11, rf E 23, rf E 24, rf E 25, .int 0, rf E 26], [], [rf E 27, rf E 29, rf E 31, rf E 33, rf E 35, rf E 37, rf E 39, rf E 41, .int 0, .int 0, .int 0, .int 0, .int 0, .int 0, .int 0, .int 0, .int 0, .int 0, .int 0, .int 0, .int 0, .int 0, .int 0, .int 0], [rf E 28, rf E 30, rf E 32, rf E 34, rf E 36, rf E 38, rf E 40, rf E 42, .int 0, .int 0, .int 0, .int 0, .int 0, .int 0, .int 0, .int 0, .int 0, .int 0, .int 0, .int 0, .int 0, .int 0, .int 0, .int 0], [], [], [], [], [], [], [], [], [], [], [], [], [], [], [], [], []]))
  refine rn_iinc (w := (1 : Int32)) dX2_init_88 rfl (by decide) rfl (Nat.le_of_ble_eq_true rfl) (fun zy ze => ?_)
  obtain rfl : zy = (8 : Int32) := ze.trans (by decide)
  show Rn _ _ _ _ _ _ _ _ [some (rf E 22), some (rf E 5), some (rf E 11), some (.int 8)] _ _ _
  refine rn_goto (tgt := 56) dX2_init_91 (by decide) ?_
  refine rn_iload_n dX2_init_56 rfl ?_
  refine rn_bipush (x := (24 : Int32)) dX2_init_57 (by decide) ?_
  refine rn_icmp_ge (tgt := 94) dX2_init_59 (by decide) (fun q => absurd q (by decide)) (fun _ => ?_)
  refine rn_aload_n dX2_init_62 rfl ?_
  refine rt_get (i := 0) (w := rf E 24) hB rfl flRX2_18 rfl (by decide) rfl dX2_init_63 ?_
  refine rn_iload_n dX2_init_66 rfl ?_
  refine rt_new (n := 43) (ci := 6) (N := 6) (l := []) RX6 TX6 tyX6 rfl (by decide) inX6 tyX6_ok clRX2_9 ins6 ini6 rfl (by intro j hj; revert j; decide +kernel) (by decide) ⟨Nat.le_of_ble_eq_true rfl, Nat.le_of_ble_eq_true rfl⟩ dX2_init_67 (by simp [hB]) ?_
  rw [List.append_assoc]
  show Rn _ _ _ _ _ _ _ _ _ _ _ (tb (B ++ [[rf E 5, rf E 11, rf E 23, rf E 24, rf E 25, .int 0, rf E 26], [], [rf E 27, rf E 29, rf E 31, rf E 33, rf E 35, rf E 37, rf E 39, rf E 41, .int 0, .int 0, .int 0, .int 0, .int 0, .int 0, .int 0, .int 0, .int 0, .int 0, .int 0, .int 0, .int 0, .int 0, .int 0, .int 0], [rf E 28, rf E 30, rf E 32, rf E 34, rf E 36, rf E 38, rf E 40, rf E 42, .int 0, .int 0, .int 0, .int 0, .int 0, .int 0, .int 0, .int 0, .int 0, .int 0, .int 0, .int 0, .int 0, .int 0, .int 0, .int 0], [], [], [], [], [], [], [], [], [], [], [], [], [], [], [], [], [], []]))
  refine rn_dup dX2_init_70 rfl ?_
  refine rn_callIN (mc2 := 0) (ms2 := 0) (c0 := 43) (As := []) (st := [rf E 43, .int 8, rf E 24]) mlRX2_11 rfl mdX6_init (Nat.le_of_ble_eq_true rfl) rfl rfl (Nat.le_of_ble_eq_true rfl) (by decide) ⟨Nat.le_of_ble_eq_true rfl, Nat.le_of_ble_eq_true rfl⟩ dX2_init_71 (ciX6_init (by decide) ?_)
  show Rn _ _ _ _ _ _ _ _ _ [rf E 43, .int 8, rf E 24] _ _
  refine rt_aast (i := 2) (j := 8) (t := 102) (ci := 6) (r := vwCl.getD 6 ("", TX0, 0)) hB rfl rfl (by decide) (by decide) rfl (by decide) rfl (by decide) rfl (by decide) dX2_init_74 (Nat.le_of_ble_eq_true rfl) (Nat.le_of_ble_eq_true rfl) ?_
  show Rn _ _ _ _ _ _ _ _ _ _ _ (tb (B ++ [[rf E 5, rf E 11, rf E 23, rf E 24, rf E 25, .int 0, rf E 26], [], [rf E 27, rf E 29, rf E 31, rf E 33, rf E 35, rf E 37, rf E 39, rf E 41, rf E 43, .int 0, .int 0, .int 0, .int 0, .int 0, .int 0, .int 0, .int 0, .int 0, .int 0, .int 0, .int 0, .int 0, .int 0, .int 0], [rf E 28, rf E 30, rf E 32, rf E 34, rf E 36, rf E 38, rf E 40, rf E 42, .int 0, .int 0, .int 0, .int 0, .int 0, .int 0, .int 0, .int 0, .int 0, .int 0, .int 0, .int 0, .int 0, .int 0, .int 0, .int 0], [], [], [], [], [], [], [], [], [], [], [], [], [], [], [], [], [], []]))
  refine rn_aload_n dX2_init_75 rfl ?_
  refine rt_get (i := 0) (w := rf E 25) hB rfl flRX2_22 rfl (by decide) rfl dX2_init_76 ?_
  refine rn_iload_n dX2_init_79 rfl ?_
  refine rt_new (n := 44) (ci := 6) (N := 6) (l := []) RX6 TX6 tyX6 rfl (by decide) inX6 tyX6_ok clRX2_9 ins6 ini6 rfl (by intro j hj; revert j; decide +kernel) (by decide) ⟨Nat.le_of_ble_eq_true rfl, Nat.le_of_ble_eq_true rfl⟩ dX2_init_80 (by simp [hB]) ?_
  rw [List.append_assoc]
  show Rn _ _ _ _ _ _ _ _ _ _ _ (tb (B ++ [[rf E 5, rf E 11, rf E 23, rf E 24, rf E 25, .int 0, rf E 26], [], [rf E 27, rf E 29, rf E 31, rf E 33, rf E 35, rf E 37, rf E 39, rf E 41, rf E 43, .int 0, .int 0, .int 0, .int 0, .int 0, .int 0, .int 0, .int 0, .int 0, .int 0, .int 0, .int 0, .int 0, .int 0, .int 0], [rf E 28, rf E 30, rf E 32, rf E 34, rf E 36, rf E 38, rf E 40, rf E 42, .int 0, .int 0, .int 0, .int 0, .int 0, .int 0, .int 0, .int 0, .int 0, .int 0, .int 0, .int 0, .int 0, .int 0, .int 0, .int 0], [], [], [], [], [], [], [], [], [], [], [], [], [], [], [], [], [], [], []]))
  refine rn_dup dX2_init_83 rfl ?_
  refine rn_callIN (mc2 := 0) (ms2 := 0) (c0 := 44) (As := []) (st := [rf E 44, .int 8, rf E 25]) mlRX2_11 rfl mdX6_init (Nat.le_of_ble_eq_true rfl) rfl rfl (Nat.le_of_ble_eq_true rfl) (by decide) ⟨Nat.le_of_ble_eq_true rfl, Nat.le_of_ble_eq_true rfl⟩ dX2_init_84 (ciX6_init (by decide) ?_)
  show Rn _ _ _ _ _ _ _ _ _ [rf E 44, .int 8, rf E 25] _ _
  refine rt_aast (i := 3) (j := 8) (t := 102) (ci := 6) (r := vwCl.getD 6 ("", TX0, 0)) hB rfl rfl (by decide) (by decide) rfl (by decide) rfl (by decide) rfl (by decide) dX2_init_87 (Nat.le_of_ble_eq_true rfl) (Nat.le_of_ble_eq_true rfl) ?_
  show Rn _ _ _ _ _ _ _ _ _ _ _ (tb (B ++ [[rf E 5, rf E 11, rf E 23, rf E 24, rf E 25, .int 0, rf E 26], [], [rf E 27, rf E 29, rf E 31, rf E 33, rf E 35, rf E 37, rf E 39, rf E 41, rf E 43, .int 0, .int 0, .int 0, .int 0, .int 0, .int 0, .int 0, .int 0, .int 0, .int 0, .int 0, .int 0, .int 0, .int 0, .int 0], [rf E 28, rf E 30, rf E 32, rf E 34, rf E 36, rf E 38, rf E 40, rf E 42, rf E 44, .int 0, .int 0, .int 0, .int 0, .int 0, .int 0, .int 0, .int 0, .int 0, .int 0, .int 0, .int 0, .int 0, .int 0, .int 0], [], [], [], [], [], [], [], [], [], [], [], [], [], [], [], [], [], [], []]))
  refine rn_iinc (w := (1 : Int32)) dX2_init_88 rfl (by decide) rfl (Nat.le_of_ble_eq_true rfl) (fun zy ze => ?_)
  obtain rfl : zy = (9 : Int32) := ze.trans (by decide)
  show Rn _ _ _ _ _ _ _ _ [some (rf E 22), some (rf E 5), some (rf E 11), some (.int 9)] _ _ _
  refine rn_goto (tgt := 56) dX2_init_91 (by decide) ?_
  refine rn_iload_n dX2_init_56 rfl ?_
  refine rn_bipush (x := (24 : Int32)) dX2_init_57 (by decide) ?_
  refine rn_icmp_ge (tgt := 94) dX2_init_59 (by decide) (fun q => absurd q (by decide)) (fun _ => ?_)
  refine rn_aload_n dX2_init_62 rfl ?_
  refine rt_get (i := 0) (w := rf E 24) hB rfl flRX2_18 rfl (by decide) rfl dX2_init_63 ?_
  refine rn_iload_n dX2_init_66 rfl ?_
  refine rt_new (n := 45) (ci := 6) (N := 6) (l := []) RX6 TX6 tyX6 rfl (by decide) inX6 tyX6_ok clRX2_9 ins6 ini6 rfl (by intro j hj; revert j; decide +kernel) (by decide) ⟨Nat.le_of_ble_eq_true rfl, Nat.le_of_ble_eq_true rfl⟩ dX2_init_67 (by simp [hB]) ?_
  rw [List.append_assoc]
  show Rn _ _ _ _ _ _ _ _ _ _ _ (tb (B ++ [[rf E 5, rf E 11, rf E 23, rf E 24, rf E 25, .int 0, rf E 26], [], [rf E 27, rf E 29, rf E 31, rf E 33, rf E 35, rf E 37, rf E 39, rf E 41, rf E 43, .int 0, .int 0, .int 0, .int 0, .int 0, .int 0, .int 0, .int 0, .int 0, .int 0, .int 0, .int 0, .int 0, .int 0, .int 0], [rf E 28, rf E 30, rf E 32, rf E 34, rf E 36, rf E 38, rf E 40, rf E 42, rf E 44, .int 0, .int 0, .int 0, .int 0, .int 0, .int 0, .int 0, .int 0, .int 0, .int 0, .int 0, .int 0, .int 0, .int 0, .int 0], [], [], [], [], [], [], [], [], [], [], [], [], [], [], [], [], [], [], [], []]))
  refine rn_dup dX2_init_70 rfl ?_
  refine rn_callIN (mc2 := 0) (ms2 := 0) (c0 := 45) (As := []) (st := [rf E 45, .int 9, rf E 24]) mlRX2_11 rfl mdX6_init (Nat.le_of_ble_eq_true rfl) rfl rfl (Nat.le_of_ble_eq_true rfl) (by decide) ⟨Nat.le_of_ble_eq_true rfl, Nat.le_of_ble_eq_true rfl⟩ dX2_init_71 (ciX6_init (by decide) ?_)
  show Rn _ _ _ _ _ _ _ _ _ [rf E 45, .int 9, rf E 24] _ _
  refine rt_aast (i := 2) (j := 9) (t := 102) (ci := 6) (r := vwCl.getD 6 ("", TX0, 0)) hB rfl rfl (by decide) (by decide) rfl (by decide) rfl (by decide) rfl (by decide) dX2_init_74 (Nat.le_of_ble_eq_true rfl) (Nat.le_of_ble_eq_true rfl) ?_
  show Rn _ _ _ _ _ _ _ _ _ _ _ (tb (B ++ [[rf E 5, rf E 11, rf E 23, rf E 24, rf E 25, .int 0, rf E 26], [], [rf E 27, rf E 29, rf E 31, rf E 33, rf E 35, rf E 37, rf E 39, rf E 41, rf E 43, rf E 45, .int 0, .int 0, .int 0, .int 0, .int 0, .int 0, .int 0, .int 0, .int 0, .int 0, .int 0, .int 0, .int 0, .int 0], [rf E 28, rf E 30, rf E 32, rf E 34, rf E 36, rf E 38, rf E 40, rf E 42, rf E 44, .int 0, .int 0, .int 0, .int 0, .int 0, .int 0, .int 0, .int 0, .int 0, .int 0, .int 0, .int 0, .int 0, .int 0, .int 0], [], [], [], [], [], [], [], [], [], [], [], [], [], [], [], [], [], [], [], []]))
  refine rn_aload_n dX2_init_75 rfl ?_
  refine rt_get (i := 0) (w := rf E 25) hB rfl flRX2_22 rfl (by decide) rfl dX2_init_76 ?_
  refine rn_iload_n dX2_init_79 rfl ?_
  refine rt_new (n := 46) (ci := 6) (N := 6) (l := []) RX6 TX6 tyX6 rfl (by decide) inX6 tyX6_ok clRX2_9 ins6 ini6 rfl (by intro j hj; revert j; decide +kernel) (by decide) ⟨Nat.le_of_ble_eq_true rfl, Nat.le_of_ble_eq_true rfl⟩ dX2_init_80 (by simp [hB]) ?_
  rw [List.append_assoc]
  show Rn _ _ _ _ _ _ _ _ _ _ _ (tb (B ++ [[rf E 5, rf E 11, rf E 23, rf E 24, rf E 25, .int 0, rf E 26], [], [rf E 27, rf E 29, rf E 31, rf E 33, rf E 35, rf E 37, rf E 39, rf E 41, rf E 43, rf E 45, .int 0, .int 0, .int 0, .int 0, .int 0, .int 0, .int 0, .int 0, .int 0, .int 0, .int 0, .int 0, .int 0, .int 0], [rf E 28, rf E 30, rf E 32, rf E 34, rf E 36, rf E 38, rf E 40, rf E 42, rf E 44, .int 0, .int 0, .int 0, .int 0, .int 0, .int 0, .int 0, .int 0, .int 0, .int 0, .int 0, .int 0, .int 0, .int 0, .int 0], [], [], [], [], [], [], [], [], [], [], [], [], [], [], [], [], [], [], [], [], []]))
  refine rn_dup dX2_init_83 rfl ?_
  refine rn_callIN (mc2 := 0) (ms2 := 0) (c0 := 46) (As := []) (st := [rf E 46, .int 9, rf E 25]) mlRX2_11 rfl mdX6_init (Nat.le_of_ble_eq_true rfl) rfl rfl (Nat.le_of_ble_eq_true rfl) (by decide) ⟨Nat.le_of_ble_eq_true rfl, Nat.le_of_ble_eq_true rfl⟩ dX2_init_84 (ciX6_init (by decide) ?_)
  show Rn _ _ _ _ _ _ _ _ _ [rf E 46, .int 9, rf E 25] _ _
  refine rt_aast (i := 3) (j := 9) (t := 102) (ci := 6) (r := vwCl.getD 6 ("", TX0, 0)) hB rfl rfl (by decide) (by decide) rfl (by decide) rfl (by decide) rfl (by decide) dX2_init_87 (Nat.le_of_ble_eq_true rfl) (Nat.le_of_ble_eq_true rfl) ?_
  show Rn _ _ _ _ _ _ _ _ _ _ _ (tb (B ++ [[rf E 5, rf E 11, rf E 23, rf E 24, rf E 25, .int 0, rf E 26], [], [rf E 27, rf E 29, rf E 31, rf E 33, rf E 35, rf E 37, rf E 39, rf E 41, rf E 43, rf E 45, .int 0, .int 0, .int 0, .int 0, .int 0, .int 0, .int 0, .int 0, .int 0, .int 0, .int 0, .int 0, .int 0, .int 0], [rf E 28, rf E 30, rf E 32, rf E 34, rf E 36, rf E 38, rf E 40, rf E 42, rf E 44, rf E 46, .int 0, .int 0, .int 0, .int 0, .int 0, .int 0, .int 0, .int 0, .int 0, .int 0, .int 0, .int 0, .int 0, .int 0], [], [], [], [], [], [], [], [], [], [], [], [], [], [], [], [], [], [], [], [], []]))
  refine rn_iinc (w := (1 : Int32)) dX2_init_88 rfl (by decide) rfl (Nat.le_of_ble_eq_true rfl) (fun zy ze => ?_)
  obtain rfl : zy = (10 : Int32) := ze.trans (by decide)
  show Rn _ _ _ _ _ _ _ _ [some (rf E 22), some (rf E 5), some (rf E 11), some (.int 10)] _ _ _
  refine rn_goto (tgt := 56) dX2_init_91 (by decide) ?_
  refine rn_iload_n dX2_init_56 rfl ?_
  refine rn_bipush (x := (24 : Int32)) dX2_init_57 (by decide) ?_
  refine rn_icmp_ge (tgt := 94) dX2_init_59 (by decide) (fun q => absurd q (by decide)) (fun _ => ?_)
  refine rn_aload_n dX2_init_62 rfl ?_
  refine rt_get (i := 0) (w := rf E 24) hB rfl flRX2_18 rfl (by decide) rfl dX2_init_63 ?_
  refine rn_iload_n dX2_init_66 rfl ?_
  refine rt_new (n := 47) (ci := 6) (N := 6) (l := []) RX6 TX6 tyX6 rfl (by decide) inX6 tyX6_ok clRX2_9 ins6 ini6 rfl (by intro j hj; revert j; decide +kernel) (by decide) ⟨Nat.le_of_ble_eq_true rfl, Nat.le_of_ble_eq_true rfl⟩ dX2_init_67 (by simp [hB]) ?_
  rw [List.append_assoc]
  show Rn _ _ _ _ _ _ _ _ _ _ _ (tb (B ++ [[rf E 5, rf E 11, rf E 23, rf E 24, rf E 25, .int 0, rf E 26], [], [rf E 27, rf E 29, rf E 31, rf E 33, rf E 35, rf E 37, rf E 39, rf E 41, rf E 43, rf E 45, .int 0, .int 0, .int 0, .int 0, .int 0, .int 0, .int 0, .int 0, .int 0, .int 0, .int 0, .int 0, .int 0, .int 0], [rf E 28, rf E 30, rf E 32, rf E 34, rf E 36, rf E 38, rf E 40, rf E 42, rf E 44, rf E 46, .int 0, .int 0, .int 0, .int 0, .int 0, .int 0, .int 0, .int 0, .int 0, .int 0, .int 0, .int 0, .int 0, .int 0], [], [], [], [], [], [], [], [], [], [], [], [], [], [], [], [], [], [], [], [], [], []]))
  refine rn_dup dX2_init_70 rfl ?_
  refine rn_callIN (mc2 := 0) (ms2 := 0) (c0 := 47) (As := []) (st := [rf E 47, .int 10, rf E 24]) mlRX2_11 rfl mdX6_init (Nat.le_of_ble_eq_true rfl) rfl rfl (Nat.le_of_ble_eq_true rfl) (by decide) ⟨Nat.le_of_ble_eq_true rfl, Nat.le_of_ble_eq_true rfl⟩ dX2_init_71 (ciX6_init (by decide) ?_)
  show Rn _ _ _ _ _ _ _ _ _ [rf E 47, .int 10, rf E 24] _ _
  refine rt_aast (i := 2) (j := 10) (t := 102) (ci := 6) (r := vwCl.getD 6 ("", TX0, 0)) hB rfl rfl (by decide) (by decide) rfl (by decide) rfl (by decide) rfl (by decide) dX2_init_74 (Nat.le_of_ble_eq_true rfl) (Nat.le_of_ble_eq_true rfl) ?_
  show Rn _ _ _ _ _ _ _ _ _ _ _ (tb (B ++ [[rf E 5, rf E 11, rf E 23, rf E 24, rf E 25, .int 0, rf E 26], [], [rf E 27, rf E 29, rf E 31, rf E 33, rf E 35, rf E 37, rf E 39, rf E 41, rf E 43, rf E 45, rf E 47, .int 0, .int 0, .int 0, .int 0, .int 0, .int 0, .int 0, .int 0, .int 0, .int 0, .int 0, .int 0, .int 0], [rf E 28, rf E 30, rf E 32, rf E 34, rf E 36, rf E 38, rf E 40, rf E 42, rf E 44, rf E 46, .int 0, .int 0, .int 0, .int 0, .int 0, .int 0, .int 0, .int 0, .int 0, .int 0, .int 0, .int 0, .int 0, .int 0], [], [], [], [], [], [], [], [], [], [], [], [], [], [], [], [], [], [], [], [], [], []]))
  refine rn_aload_n dX2_init_75 rfl ?_
  refine rt_get (i := 0) (w := rf E 25) hB rfl flRX2_22 rfl (by decide) rfl dX2_init_76 ?_
  refine rn_iload_n dX2_init_79 rfl ?_
  refine rt_new (n := 48) (ci := 6) (N := 6) (l := []) RX6 TX6 tyX6 rfl (by decide) inX6 tyX6_ok clRX2_9 ins6 ini6 rfl (by intro j hj; revert j; decide +kernel) (by decide) ⟨Nat.le_of_ble_eq_true rfl, Nat.le_of_ble_eq_true rfl⟩ dX2_init_80 (by simp [hB]) ?_
  rw [List.append_assoc]
  show Rn _ _ _ _ _ _ _ _ _ _ _ (tb (B ++ [[rf E 5, rf E 11, rf E 23, rf E 24, rf E 25, .int 0, rf E 26], [], [rf E 27, rf E 29, rf E 31, rf E 33, rf E 35, rf E 37, rf E 39, rf E 41, rf E 43, rf E 45, rf E 47, .int 0, .int 0, .int 0, .int 0, .int 0, .int 0, .int 0, .int 0, .int 0, .int 0, .int 0, .int 0, .int 0], [rf E 28, rf E 30, rf E 32, rf E 34, rf E 36, rf E 38, rf E 40, rf E 42, rf E 44, rf E 46, .int 0, .int 0, .int 0, .int 0, .int 0, .int 0, .int 0, .int 0, .int 0, .int 0, .int 0, .int 0, .int 0, .int 0], [], [], [], [], [], [], [], [], [], [], [], [], [], [], [], [], [], [], [], [], [], [], []]))
  refine rn_dup dX2_init_83 rfl ?_
  refine rn_callIN (mc2 := 0) (ms2 := 0) (c0 := 48) (As := []) (st := [rf E 48, .int 10, rf E 25]) mlRX2_11 rfl mdX6_init (Nat.le_of_ble_eq_true rfl) rfl rfl (Nat.le_of_ble_eq_true rfl) (by decide) ⟨Nat.le_of_ble_eq_true rfl, Nat.le_of_ble_eq_true rfl⟩ dX2_init_84 (ciX6_init (by decide) ?_)
  show Rn _ _ _ _ _ _ _ _ _ [rf E 48, .int 10, rf E 25] _ _
  refine rt_aast (i := 3) (j := 10) (t := 102) (ci := 6) (r := vwCl.getD 6 ("", TX0, 0)) hB rfl rfl (by decide) (by decide) rfl (by decide) rfl (by decide) rfl (by decide) dX2_init_87 (Nat.le_of_ble_eq_true rfl) (Nat.le_of_ble_eq_true rfl) ?_
  show Rn _ _ _ _ _ _ _ _ _ _ _ (tb (B ++ [[rf E 5, rf E 11, rf E 23, rf E 24, rf E 25, .int 0, rf E 26], [], [rf E 27, rf E 29, rf E 31, rf E 33, rf E 35, rf E 37, rf E 39, rf E 41, rf E 43, rf E 45, rf E 47, .int 0, .int 0, .int 0, .int 0, .int 0, .int 0, .int 0, .int 0, .int 0, .int 0, .int 0, .int 0, .int 0], [rf E 28, rf E 30, rf E 32, rf E 34, rf E 36, rf E 38, rf E 40, rf E 42, rf E 44, rf E 46, rf E 48, .int 0, .int 0, .int 0, .int 0, .int 0, .int 0, .int 0, .int 0, .int 0, .int 0, .int 0, .int 0, .int 0], [], [], [], [], [], [], [], [], [], [], [], [], [], [], [], [], [], [], [], [], [], [], []]))
  refine rn_iinc (w := (1 : Int32)) dX2_init_88 rfl (by decide) rfl (Nat.le_of_ble_eq_true rfl) (fun zy ze => ?_)
  obtain rfl : zy = (11 : Int32) := ze.trans (by decide)
  show Rn _ _ _ _ _ _ _ _ [some (rf E 22), some (rf E 5), some (rf E 11), some (.int 11)] _ _ _
  refine rn_goto (tgt := 56) dX2_init_91 (by decide) ?_
  refine rn_iload_n dX2_init_56 rfl ?_
  refine rn_bipush (x := (24 : Int32)) dX2_init_57 (by decide) ?_
  refine rn_icmp_ge (tgt := 94) dX2_init_59 (by decide) (fun q => absurd q (by decide)) (fun _ => ?_)
  refine rn_aload_n dX2_init_62 rfl ?_
  refine rt_get (i := 0) (w := rf E 24) hB rfl flRX2_18 rfl (by decide) rfl dX2_init_63 ?_
  refine rn_iload_n dX2_init_66 rfl ?_
  refine rt_new (n := 49) (ci := 6) (N := 6) (l := []) RX6 TX6 tyX6 rfl (by decide) inX6 tyX6_ok clRX2_9 ins6 ini6 rfl (by intro j hj; revert j; decide +kernel) (by decide) ⟨Nat.le_of_ble_eq_true rfl, Nat.le_of_ble_eq_true rfl⟩ dX2_init_67 (by simp [hB]) ?_
  rw [List.append_assoc]
  show Rn _ _ _ _ _ _ _ _ _ _ _ (tb (B ++ [[rf E 5, rf E 11, rf E 23, rf E 24, rf E 25, .int 0, rf E 26], [], [rf E 27, rf E 29, rf E 31, rf E 33, rf E 35, rf E 37, rf E 39, rf E 41, rf E 43, rf E 45, rf E 47, .int 0, .int 0, .int 0, .int 0, .int 0, .int 0, .int 0, .int 0, .int 0, .int 0, .int 0, .int 0, .int 0], [rf E 28, rf E 30, rf E 32, rf E 34, rf E 36, rf E 38, rf E 40, rf E 42, rf E 44, rf E 46, rf E 48, .int 0, .int 0, .int 0, .int 0, .int 0, .int 0, .int 0, .int 0, .int 0, .int 0, .int 0, .int 0, .int 0], [], [], [], [], [], [], [], [], [], [], [], [], [], [], [], [], [], [], [], [], [], [], [], []]))
  refine rn_dup dX2_init_70 rfl ?_
  refine rn_callIN (mc2 := 0) (ms2 := 0) (c0 := 49) (As := []) (st := [rf E 49, .int 11, rf E 24]) mlRX2_11 rfl mdX6_init (Nat.le_of_ble_eq_true rfl) rfl rfl (Nat.le_of_ble_eq_true rfl) (by decide) ⟨Nat.le_of_ble_eq_true rfl, Nat.le_of_ble_eq_true rfl⟩ dX2_init_71 (ciX6_init (by decide) ?_)
  show Rn _ _ _ _ _ _ _ _ _ [rf E 49, .int 11, rf E 24] _ _
  refine rt_aast (i := 2) (j := 11) (t := 102) (ci := 6) (r := vwCl.getD 6 ("", TX0, 0)) hB rfl rfl (by decide) (by decide) rfl (by decide) rfl (by decide) rfl (by decide) dX2_init_74 (Nat.le_of_ble_eq_true rfl) (Nat.le_of_ble_eq_true rfl) ?_
  show Rn _ _ _ _ _ _ _ _ _ _ _ (tb (B ++ [[rf E 5, rf E 11, rf E 23, rf E 24, rf E 25, .int 0, rf E 26], [], [rf E 27, rf E 29, rf E 31, rf E 33, rf E 35, rf E 37, rf E 39, rf E 41, rf E 43, rf E 45, rf E 47, rf E 49, .int 0, .int 0, .int 0, .int 0, .int 0, .int 0, .int 0, .int 0, .int 0, .int 0, .int 0, .int 0], [rf E 28, rf E 30, rf E 32, rf E 34, rf E 36, rf E 38, rf E 40, rf E 42, rf E 44, rf E 46, rf E 48, .int 0, .int 0, .int 0, .int 0, .int 0, .int 0, .int 0, .int 0, .int 0, .int 0, .int 0, .int 0, .int 0], [], [], [], [], [], [], [], [], [], [], [], [], [], [], [], [], [], [], [], [], [], [], [], []]))
  refine rn_aload_n dX2_init_75 rfl ?_
  refine rt_get (i := 0) (w := rf E 25) hB rfl flRX2_22 rfl (by decide) rfl dX2_init_76 ?_
  refine rn_iload_n dX2_init_79 rfl ?_
  refine rt_new (n := 50) (ci := 6) (N := 6) (l := []) RX6 TX6 tyX6 rfl (by decide) inX6 tyX6_ok clRX2_9 ins6 ini6 rfl (by intro j hj; revert j; decide +kernel) (by decide) ⟨Nat.le_of_ble_eq_true rfl, Nat.le_of_ble_eq_true rfl⟩ dX2_init_80 (by simp [hB]) ?_
  rw [List.append_assoc]
  show Rn _ _ _ _ _ _ _ _ _ _ _ (tb (B ++ [[rf E 5, rf E 11, rf E 23, rf E 24, rf E 25, .int 0, rf E 26], [], [rf E 27, rf E 29, rf E 31, rf E 33, rf E 35, rf E 37, rf E 39, rf E 41, rf E 43, rf E 45, rf E 47, rf E 49, .int 0, .int 0, .int 0, .int 0, .int 0, .int 0, .int 0, .int 0, .int 0, .int 0, .int 0, .int 0], [rf E 28, rf E 30, rf E 32, rf E 34, rf E 36, rf E 38, rf E 40, rf E 42, rf E 44, rf E 46, rf E 48, .int 0, .int 0, .int 0, .int 0, .int 0, .int 0, .int 0, .int 0, .int 0, .int 0, .int 0, .int 0, .int 0], [], [], [], [], [], [], [], [], [], [], [], [], [], [], [], [], [], [], [], [], [], [], [], [], []]))
  refine rn_dup dX2_init_83 rfl ?_
  refine rn_callIN (mc2 := 0) (ms2 := 0) (c0 := 50) (As := []) (st := [rf E 50, .int 11, rf E 25]) mlRX2_11 rfl mdX6_init (Nat.le_of_ble_eq_true rfl) rfl rfl (Nat.le_of_ble_eq_true rfl) (by decide) ⟨Nat.le_of_ble_eq_true rfl, Nat.le_of_ble_eq_true rfl⟩ dX2_init_84 (ciX6_init (by decide) ?_)
  show Rn _ _ _ _ _ _ _ _ _ [rf E 50, .int 11, rf E 25] _ _
  refine rt_aast (i := 3) (j := 11) (t := 102) (ci := 6) (r := vwCl.getD 6 ("", TX0, 0)) hB rfl rfl (by decide) (by decide) rfl (by decide) rfl (by decide) rfl (by decide) dX2_init_87 (Nat.le_of_ble_eq_true rfl) (Nat.le_of_ble_eq_true rfl) ?_
  show Rn _ _ _ _ _ _ _ _ _ _ _ (tb (B ++ [[rf E 5, rf E 11, rf E 23, rf E 24, rf E 25, .int 0, rf E 26], [], [rf E 27, rf E 29, rf E 31, rf E 33, rf E 35, rf E 37, rf E 39, rf E 41, rf E 43, rf E 45, rf E 47, rf E 49, .int 0, .int 0, .int 0, .int 0, .int 0, .int 0, .int 0, .int 0, .int 0, .int 0, .int 0, .int 0], [rf E 28, rf E 30, rf E 32, rf E 34, rf E 36, rf E 38, rf E 40, rf E 42, rf E 44, rf E 46, rf E 48, rf E 50, .int 0, .int 0, .int 0, .int 0, .int 0, .int 0, .int 0, .int 0, .int 0, .int 0, .int 0, .int 0], [], [], [], [], [], [], [], [], [], [], [], [], [], [], [], [], [], [], [], [], [], [], [], [], []]))
  refine rn_iinc (w := (1 : Int32)) dX2_init_88 rfl (by decide) rfl (Nat.le_of_ble_eq_true rfl) (fun zy ze => ?_)
  obtain rfl : zy = (12 : Int32) := ze.trans (by decide)
  show Rn _ _ _ _ _ _ _ _ [some (rf E 22), some (rf E 5), some (rf E 11), some (.int 12)] _ _ _
  refine rn_goto (tgt := 56) dX2_init_91 (by decide) ?_
  refine rn_iload_n dX2_init_56 rfl ?_
  refine rn_bipush (x := (24 : Int32)) dX2_init_57 (by decide) ?_
  refine rn_icmp_ge (tgt := 94) dX2_init_59 (by decide) (fun q => absurd q (by decide)) (fun _ => ?_)
  refine rn_aload_n dX2_init_62 rfl ?_
  refine rt_get (i := 0) (w := rf E 24) hB rfl flRX2_18 rfl (by decide) rfl dX2_init_63 ?_
  refine rn_iload_n dX2_init_66 rfl ?_
  refine rt_new (n := 51) (ci := 6) (N := 6) (l := []) RX6 TX6 tyX6 rfl (by decide) inX6 tyX6_ok clRX2_9 ins6 ini6 rfl (by intro j hj; revert j; decide +kernel) (by decide) ⟨Nat.le_of_ble_eq_true rfl, Nat.le_of_ble_eq_true rfl⟩ dX2_init_67 (by simp [hB]) ?_
  rw [List.append_assoc]
  show Rn _ _ _ _ _ _ _ _ _ _ _ (tb (B ++ [[rf E 5, rf E 11, rf E 23, rf E 24, rf E 25, .int 0, rf E 26], [], [rf E 27, rf E 29, rf E 31, rf E 33, rf E 35, rf E 37, rf E 39, rf E 41, rf E 43, rf E 45, rf E 47, rf E 49, .int 0, .int 0, .int 0, .int 0, .int 0, .int 0, .int 0, .int 0, .int 0, .int 0, .int 0, .int 0], [rf E 28, rf E 30, rf E 32, rf E 34, rf E 36, rf E 38, rf E 40, rf E 42, rf E 44, rf E 46, rf E 48, rf E 50, .int 0, .int 0, .int 0, .int 0, .int 0, .int 0, .int 0, .int 0, .int 0, .int 0, .int 0, .int 0], [], [], [], [], [], [], [], [], [], [], [], [], [], [], [], [], [], [], [], [], [], [], [], [], [], []]))
  refine rn_dup dX2_init_70 rfl ?_
  refine rn_callIN (mc2 := 0) (ms2 := 0) (c0 := 51) (As := []) (st := [rf E 51, .int 12, rf E 24]) mlRX2_11 rfl mdX6_init (Nat.le_of_ble_eq_true rfl) rfl rfl (Nat.le_of_ble_eq_true rfl) (by decide) ⟨Nat.le_of_ble_eq_true rfl, Nat.le_of_ble_eq_true rfl⟩ dX2_init_71 (ciX6_init (by decide) ?_)
  show Rn _ _ _ _ _ _ _ _ _ [rf E 51, .int 12, rf E 24] _ _
  refine rt_aast (i := 2) (j := 12) (t := 102) (ci := 6) (r := vwCl.getD 6 ("", TX0, 0)) hB rfl rfl (by decide) (by decide) rfl (by decide) rfl (by decide) rfl (by decide) dX2_init_74 (Nat.le_of_ble_eq_true rfl) (Nat.le_of_ble_eq_true rfl) ?_
  show Rn _ _ _ _ _ _ _ _ _ _ _ (tb (B ++ [[rf E 5, rf E 11, rf E 23, rf E 24, rf E 25, .int 0, rf E 26], [], [rf E 27, rf E 29, rf E 31, rf E 33, rf E 35, rf E 37, rf E 39, rf E 41, rf E 43, rf E 45, rf E 47, rf E 49, rf E 51, .int 0, .int 0, .int 0, .int 0, .int 0, .int 0, .int 0, .int 0, .int 0, .int 0, .int 0], [rf E 28, rf E 30, rf E 32, rf E 34, rf E 36, rf E 38, rf E 40, rf E 42, rf E 44, rf E 46, rf E 48, rf E 50, .int 0, .int 0, .int 0, .int 0, .int 0, .int 0, .int 0, .int 0, .int 0, .int 0, .int 0, .int 0], [], [], [], [], [], [], [], [], [], [], [], [], [], [], [], [], [], [], [], [], [], [], [], [], [], []]))
  refine rn_aload_n dX2_init_75 rfl ?_
  refine rt_get (i := 0) (w := rf E 25) hB rfl flRX2_22 rfl (by decide) rfl dX2_init_76 ?_
  refine rn_iload_n dX2_init_79 rfl ?_
  refine rt_new (n := 52) (ci := 6) (N := 6) (l := []) RX6 TX6 tyX6 rfl (by decide) inX6 tyX6_ok clRX2_9 ins6 ini6 rfl (by intro j hj; revert j; decide +kernel) (by decide) ⟨Nat.le_of_ble_eq_true rfl, Nat.le_of_ble_eq_true rfl⟩ dX2_init_80 (by simp [hB]) ?_
  rw [List.append_assoc]
  show Rn _ _ _ _ _ _ _ _ _ _ _ (tb (B ++ [[rf E 5, rf E 11, rf E 23, rf E 24, rf E 25, .int 0, rf E 26], [], [rf E 27, rf E 29, rf E 31, rf E 33, rf E 35, rf E 37, rf E 39, rf E 41, rf E 43, rf E 45, rf E 47, rf E 49, rf E 51, .int 0, .int 0, .int 0, .int 0, .int 0, .int 0, .int 0, .int 0, .int 0, .int 0, .int 0], [rf E 28, rf E 30, rf E 32, rf E 34, rf E 36, rf E 38, rf E 40, rf E 42, rf E 44, rf E 46, rf E 48, rf E 50, .int 0, .int 0, .int 0, .int 0, .int 0, .int 0, .int 0, .int 0, .int 0, .int 0, .int 0, .int 0], [], [], [], [], [], [], [], [], [], [], [], [], [], [], [], [], [], [], [], [], [], [], [], [], [], [], []]))
  refine rn_dup dX2_init_83 rfl ?_
  refine rn_callIN (mc2 := 0) (ms2 := 0) (c0 := 52) (As := []) (st := [rf E 52, .int 12, rf E 25]) mlRX2_11 rfl mdX6_init (Nat.le_of_ble_eq_true rfl) rfl rfl (Nat.le_of_ble_eq_true rfl) (by decide) ⟨Nat.le_of_ble_eq_true rfl, Nat.le_of_ble_eq_true rfl⟩ dX2_init_84 (ciX6_init (by decide) ?_)
  show Rn _ _ _ _ _ _ _ _ _ [rf E 52, .int 12, rf E 25] _ _
  refine rt_aast (i := 3) (j := 12) (t := 102) (ci := 6) (r := vwCl.getD 6 ("", TX0, 0)) hB rfl rfl (by decide) (by decide) rfl (by decide) rfl (by decide) rfl (by decide) dX2_init_87 (Nat.le_of_ble_eq_true rfl) (Nat.le_of_ble_eq_true rfl) ?_
  show Rn _ _ _ _ _ _ _ _ _ _ _ (tb (B ++ [[rf E 5, rf E 11, rf E 23, rf E 24, rf E 25, .int 0, rf E 26], [], [rf E 27, rf E 29, rf E 31, rf E 33, rf E 35, rf E 37, rf E 39, rf E 41, rf E 43, rf E 45, rf E 47, rf E 49, rf E 51, .int 0, .int 0, .int 0, .int 0, .int 0, .int 0, .int 0, .int 0, .int 0, .int 0, .int 0], [rf E 28, rf E 30, rf E 32, rf E 34, rf E 36, rf E 38, rf E 40, rf E 42, rf E 44, rf E 46, rf E 48, rf E 50, rf E 52, .int 0, .int 0, .int 0, .int 0, .int 0, .int 0, .int 0, .int 0, .int 0, .int 0, .int 0], [], [], [], [], [], [], [], [], [], [], [], [], [], [], [], [], [], [], [], [], [], [], [], [], [], [], []]))
  refine rn_iinc (w := (1 : Int32)) dX2_init_88 rfl (by decide) rfl (Nat.le_of_ble_eq_true rfl) (fun zy ze => ?_)
  obtain rfl : zy = (13 : Int32) := ze.trans (by decide)
  show Rn _ _ _ _ _ _ _ _ [some (rf E 22), some (rf E 5), some (rf E 11), some (.int 13)] _ _ _
  refine rn_goto (tgt := 56) dX2_init_91 (by decide) ?_
  refine rn_iload_n dX2_init_56 rfl ?_
  refine rn_bipush (x := (24 : Int32)) dX2_init_57 (by decide) ?_
  refine rn_icmp_ge (tgt := 94) dX2_init_59 (by decide) (fun q => absurd q (by decide)) (fun _ => ?_)
  refine rn_aload_n dX2_init_62 rfl ?_
  refine rt_get (i := 0) (w := rf E 24) hB rfl flRX2_18 rfl (by decide) rfl dX2_init_63 ?_
  refine rn_iload_n dX2_init_66 rfl ?_
  refine rt_new (n := 53) (ci := 6) (N := 6) (l := []) RX6 TX6 tyX6 rfl (by decide) inX6 tyX6_ok clRX2_9 ins6 ini6 rfl (by intro j hj; revert j; decide +kernel) (by decide) ⟨Nat.le_of_ble_eq_true rfl, Nat.le_of_ble_eq_true rfl⟩ dX2_init_67 (by simp [hB]) ?_
  rw [List.append_assoc]
  show Rn _ _ _ _ _ _ _ _ _ _ _ (tb (B ++ [[rf E 5, rf E 11, rf E 23, rf E 24, rf E 25, .int 0, rf E 26], [], [rf E 27, rf E 29, rf E 31, rf E 33, rf E 35, rf E 37, rf E 39, rf E 41, rf E 43, rf E 45, rf E 47, rf E 49, rf E 51, .int 0, .int 0, .int 0, .int 0, .int 0, .int 0, .int 0, .int 0, .int 0, .int 0, .int 0], [rf E 28, rf E 30, rf E 32, rf E 34, rf E 36, rf E 38, rf E 40, rf E 42, rf E 44, rf E 46, rf E 48, rf E 50, rf E 52, .int 0, .int 0, .int 0, .int 0, .int 0, .int 0, .int 0, .int 0, .int 0, .int 0, .int 0], [], [], [], [], [], [], [], [], [], [], [], [], [], [], [], [], [], [], [], [], [], [], [], [], [], [], [], []]))
  refine rn_dup dX2_init_70 rfl ?_
  refine rn_callIN (mc2 := 0) (ms2 := 0) (c0 := 53) (As := []) (st := [rf E 53, .int 13, rf E 24]) mlRX2_11 rfl mdX6_init (Nat.le_of_ble_eq_true rfl) rfl rfl (Nat.le_of_ble_eq_true rfl) (by decide) ⟨Nat.le_of_ble_eq_true rfl, Nat.le_of_ble_eq_true rfl⟩ dX2_init_71 (ciX6_init (by decide) ?_)
  show Rn _ _ _ _ _ _ _ _ _ [rf E 53, .int 13, rf E 24] _ _
  refine rt_aast (i := 2) (j := 13) (t := 102) (ci := 6) (r := vwCl.getD 6 ("", TX0, 0)) hB rfl rfl (by decide) (by decide) rfl (by decide) rfl (by decide) rfl (by decide) dX2_init_74 (Nat.le_of_ble_eq_true rfl) (Nat.le_of_ble_eq_true rfl) ?_
  show Rn _ _ _ _ _ _ _ _ _ _ _ (tb (B ++ [[rf E 5, rf E 11, rf E 23, rf E 24, rf E 25, .int 0, rf E 26], [], [rf E 27, rf E 29, rf E 31, rf E 33, rf E 35, rf E 37, rf E 39, rf E 41, rf E 43, rf E 45, rf E 47, rf E 49, rf E 51, rf E 53, .int 0, .int 0, .int 0, .int 0, .int 0, .int 0, .int 0, .int 0, .int 0, .int 0], [rf E 28, rf E 30, rf E 32, rf E 34, rf E 36, rf E 38, rf E 40, rf E 42, rf E 44, rf E 46, rf E 48, rf E 50, rf E 52, .int 0, .int 0, .int 0, .int 0, .int 0, .int 0, .int 0, .int 0, .int 0, .int 0, .int 0], [], [], [], [], [], [], [], [], [], [], [], [], [], [], [], [], [], [], [], [], [], [], [], [], [], [], [], []]))
  refine rn_aload_n dX2_init_75 rfl ?_
  refine rt_get (i := 0) (w := rf E 25) hB rfl flRX2_22 rfl (by decide) rfl dX2_init_76 ?_
  refine rn_iload_n dX2_init_79 rfl ?_
  refine rt_new (n := 54) (ci := 6) (N := 6) (l := []) RX6 TX6 tyX6 rfl (by decide) inX6 tyX6_ok clRX2_9 ins6 ini6 rfl (by intro j hj; revert j; decide +kernel) (by decide) ⟨Nat.le_of_ble_eq_true rfl, Nat.le_of_ble_eq_true rfl⟩ dX2_init_80 (by simp [hB]) ?_
  rw [List.append_assoc]
  show Rn _ _ _ _ _ _ _ _ _ _ _ (tb (B ++ [[rf E 5, rf E 11, rf E 23, rf E 24, rf E 25, .int 0, rf E 26], [], [rf E 27, rf E 29, rf E 31, rf E 33, rf E 35, rf E 37, rf E 39, rf E 41, rf E 43, rf E 45, rf E 47, rf E 49, rf E 51, rf E 53, .int 0, .int 0, .int 0, .int 0, .int 0, .int 0, .int 0, .int 0, .int 0, .int 0], [rf E 28, rf E 30, rf E 32, rf E 34, rf E 36, rf E 38, rf E 40, rf E 42, rf E 44, rf E 46, rf E 48, rf E 50, rf E 52, .int 0, .int 0, .int 0, .int 0, .int 0, .int 0, .int 0, .int 0, .int 0, .int 0, .int 0], [], [], [], [], [], [], [], [], [], [], [], [], [], [], [], [], [], [], [], [], [], [], [], [], [], [], [], [], []]))
  refine rn_dup dX2_init_83 rfl ?_
  refine rn_callIN (mc2 := 0) (ms2 := 0) (c0 := 54) (As := []) (st := [rf E 54, .int 13, rf E 25]) mlRX2_11 rfl mdX6_init (Nat.le_of_ble_eq_true rfl) rfl rfl (Nat.le_of_ble_eq_true rfl) (by decide) ⟨Nat.le_of_ble_eq_true rfl, Nat.le_of_ble_eq_true rfl⟩ dX2_init_84 (ciX6_init (by decide) ?_)
  show Rn _ _ _ _ _ _ _ _ _ [rf E 54, .int 13, rf E 25] _ _
  refine rt_aast (i := 3) (j := 13) (t := 102) (ci := 6) (r := vwCl.getD 6 ("", TX0, 0)) hB rfl rfl (by decide) (by decide) rfl (by decide) rfl (by decide) rfl (by decide) dX2_init_87 (Nat.le_of_ble_eq_true rfl) (Nat.le_of_ble_eq_true rfl) ?_
  show Rn _ _ _ _ _ _ _ _ _ _ _ (tb (B ++ [[rf E 5, rf E 11, rf E 23, rf E 24, rf E 25, .int 0, rf E 26], [], [rf E 27, rf E 29, rf E 31, rf E 33, rf E 35, rf E 37, rf E 39, rf E 41, rf E 43, rf E 45, rf E 47, rf E 49, rf E 51, rf E 53, .int 0, .int 0, .int 0, .int 0, .int 0, .int 0, .int 0, .int 0, .int 0, .int 0], [rf E 28, rf E 30, rf E 32, rf E 34, rf E 36, rf E 38, rf E 40, rf E 42, rf E 44, rf E 46, rf E 48, rf E 50, rf E 52, rf E 54, .int 0, .int 0, .int 0, .int 0, .int 0, .int 0, .int 0, .int 0, .int 0, .int 0], [], [], [], [], [], [], [], [], [], [], [], [], [], [], [], [], [], [], [], [], [], [], [], [], [], [], [], [], []]))
  refine rn_iinc (w := (1 : Int32)) dX2_init_88 rfl (by decide) rfl (Nat.le_of_ble_eq_true rfl) (fun zy ze => ?_)
  obtain rfl : zy = (14 : Int32) := ze.trans (by decide)
  show Rn _ _ _ _ _ _ _ _ [some (rf E 22), some (rf E 5), some (rf E 11), some (.int 14)] _ _ _
  refine rn_goto (tgt := 56) dX2_init_91 (by decide) ?_
  refine rn_iload_n dX2_init_56 rfl ?_
  refine rn_bipush (x := (24 : Int32)) dX2_init_57 (by decide) ?_
  refine rn_icmp_ge (tgt := 94) dX2_init_59 (by decide) (fun q => absurd q (by decide)) (fun _ => ?_)
  refine rn_aload_n dX2_init_62 rfl ?_
  refine rt_get (i := 0) (w := rf E 24) hB rfl flRX2_18 rfl (by decide) rfl dX2_init_63 ?_
  refine rn_iload_n dX2_init_66 rfl ?_
  refine rt_new (n := 55) (ci := 6) (N := 6) (l := []) RX6 TX6 tyX6 rfl (by decide) inX6 tyX6_ok clRX2_9 ins6 ini6 rfl (by intro j hj; revert j; decide +kernel) (by decide) ⟨Nat.le_of_ble_eq_true rfl, Nat.le_of_ble_eq_true rfl⟩ dX2_init_67 (by simp [hB]) ?_
  rw [List.append_assoc]
  show Rn _ _ _ _ _ _ _ _ _ _ _ (tb (B ++ [[rf E 5, rf E 11, rf E 23, rf E 24, rf E 25, .int 0, rf E 26], [], [rf E 27, rf E 29, rf E 31, rf E 33, rf E 35, rf E 37, rf E 39, rf E 41, rf E 43, rf E 45, rf E 47, rf E 49, rf E 51, rf E 53, .int 0, .int 0, .int 0, .int 0, .int 0, .int 0, .int 0, .int 0, .int 0, .int 0], [rf E 28, rf E 30, rf E 32, rf E 34, rf E 36, rf E 38, rf E 40, rf E 42, rf E 44, rf E 46, rf E 48, rf E 50, rf E 52, rf E 54, .int 0, .int 0, .int 0, .int 0, .int 0, .int 0, .int 0, .int 0, .int 0, .int 0], [], [], [], [], [], [], [], [], [], [], [], [], [], [], [], [], [], [], [], [], [], [], [], [], [], [], [], [], [], []]))
  refine rn_dup dX2_init_70 rfl ?_
  refine rn_callIN (mc2 := 0) (ms2 := 0) (c0 := 55) (As := []) (st := [rf E 55, .int 14, rf E 24]) mlRX2_11 rfl mdX6_init (Nat.le_of_ble_eq_true rfl) rfl rfl (Nat.le_of_ble_eq_true rfl) (by decide) ⟨Nat.le_of_ble_eq_true rfl, Nat.le_of_ble_eq_true rfl⟩ dX2_init_71 (ciX6_init (by decide) ?_)
  show Rn _ _ _ _ _ _ _ _ _ [rf E 55, .int 14, rf E 24] _ _
  refine rt_aast (i := 2) (j := 14) (t := 102) (ci := 6) (r := vwCl.getD 6 ("", TX0, 0)) hB rfl rfl (by decide) (by decide) rfl (by decide) rfl (by decide) rfl (by decide) dX2_init_74 (Nat.le_of_ble_eq_true rfl) (Nat.le_of_ble_eq_true rfl) ?_
  show Rn _ _ _ _ _ _ _ _ _ _ _ (tb (B ++ [[rf E 5, rf E 11, rf E 23, rf E 24, rf E 25, .int 0, rf E 26], [], [rf E 27, rf E 29, rf E 31, rf E 33, rf E 35, rf E 37, rf E 39, rf E 41, rf E 43, rf E 45, rf E 47, rf E 49, rf E 51, rf E 53, rf E 55, .int 0, .int 0, .int 0, .int 0, .int 0, .int 0, .int 0, .int 0, .int 0], [rf E 28, rf E 30, rf E 32, rf E 34, rf E 36, rf E 38, rf E 40, rf E 42, rf E 44, rf E 46, rf E 48, rf E 50, rf E 52, rf E 54, .int 0, .int 0, .int 0, .int 0, .int 0, .int 0, .int 0, .int 0, .int 0, .int 0], [], [], [], [], [], [], [], [], [], [], [], [], [], [], [], [], [], [], [], [], [], [], [], [], [], [], [], [], [], []]))
  refine rn_aload_n dX2_init_75 rfl ?_
  refine rt_get (i := 0) (w := rf E 25) hB rfl flRX2_22 rfl (by decide) rfl dX2_init_76 ?_
  refine rn_iload_n dX2_init_79 rfl ?_
  refine rt_new (n := 56) (ci := 6) (N := 6) (l := []) RX6 TX6 tyX6 rfl (by decide) inX6 tyX6_ok clRX2_9 ins6 ini6 rfl (by intro j hj; revert j; decide +kernel) (by decide) ⟨Nat.le_of_ble_eq_true rfl, Nat.le_of_ble_eq_true rfl⟩ dX2_init_80 (by simp [hB]) ?_
  rw [List.append_assoc]
  show Rn _ _ _ _ _ _ _ _ _ _ _ (tb (B ++ [[rf E 5, rf E 11, rf E 23, rf E 24, rf E 25, .int 0, rf E 26], [], [rf E 27, rf E 29, rf E 31, rf E 33, rf E 35, rf E 37, rf E 39, rf E 41, rf E 43, rf E 45, rf E 47, rf E 49, rf E 51, rf E 53, rf E 55, .int 0, .int 0, .int 0, .int 0, .int 0, .int 0, .int 0, .int 0, .int 0], [rf E 28, rf E 30, rf E 32, rf E 34, rf E 36, rf E 38, rf E 40, rf E 42, rf E 44, rf E 46, rf E 48, rf E 50, rf E 52, rf E 54, .int 0, .int 0, .int 0, .int 0, .int 0, .int 0, .int 0, .int 0, .int 0, .int 0], [], [], [], [], [], [], [], [], [], [], [], [], [], [], [], [], [], [], [], [], [], [], [], [], [], [], [], [], [], [], []]))
  refine rn_dup dX2_init_83 rfl ?_
  refine rn_callIN (mc2 := 0) (ms2 := 0) (c0 := 56) (As := []) (st := [rf E 56, .int 14, rf E 25]) mlRX2_11 rfl mdX6_init (Nat.le_of_ble_eq_true rfl) rfl rfl (Nat.le_of_ble_eq_true rfl) (by decide) ⟨Nat.le_of_ble_eq_true rfl, Nat.le_of_ble_eq_true rfl⟩ dX2_init_84 (ciX6_init (by decide) ?_)
  show Rn _ _ _ _ _ _ _ _ _ [rf E 56, .int 14, rf E 25] _ _
  refine rt_aast (i := 3) (j := 14) (t := 102) (ci := 6) (r := vwCl.getD 6 ("", TX0, 0)) hB rfl rfl (by decide) (by decide) rfl (by decide) rfl (by decide) rfl (by decide) dX2_init_87 (Nat.le_of_ble_eq_true rfl) (Nat.le_of_ble_eq_true rfl) ?_
  show Rn _ _ _ _ _ _ _ _ _ _ _ (tb (B ++ [[rf E 5, rf E 11, rf E 23, rf E 24, rf E 25, .int 0, rf E 26], [], [rf E 27, rf E 29, rf E 31, rf E 33, rf E 35, rf E 37, rf E 39, rf E 41, rf E 43, rf E 45, rf E 47, rf E 49, rf E 51, rf E 53, rf E 55, .int 0, .int 0, .int 0, .int 0, .int 0, .int 0, .int 0, .int 0, .int 0], [rf E 28, rf E 30, rf E 32, rf E 34, rf E 36, rf E 38, rf E 40, rf E 42, rf E 44, rf E 46, rf E 48, rf E 50, rf E 52, rf E 54, rf E 56, .int 0, .int 0, .int 0, .int 0, .int 0, .int 0, .int 0, .int 0, .int 0], [], [], [], [], [], [], [], [], [], [], [], [], [], [], [], [], [], [], [], [], [], [], [], [], [], [], [], [], [], [], []]))
  refine rn_iinc (w := (1 : Int32)) dX2_init_88 rfl (by decide) rfl (Nat.le_of_ble_eq_true rfl) (fun zy ze => ?_)
  obtain rfl : zy = (15 : Int32) := ze.trans (by decide)
  show Rn _ _ _ _ _ _ _ _ [some (rf E 22), some (rf E 5), some (rf E 11), some (.int 15)] _ _ _
  refine rn_goto (tgt := 56) dX2_init_91 (by decide) ?_
  refine rn_iload_n dX2_init_56 rfl ?_
  refine rn_bipush (x := (24 : Int32)) dX2_init_57 (by decide) ?_
  refine rn_icmp_ge (tgt := 94) dX2_init_59 (by decide) (fun q => absurd q (by decide)) (fun _ => ?_)
  refine rn_aload_n dX2_init_62 rfl ?_
  refine rt_get (i := 0) (w := rf E 24) hB rfl flRX2_18 rfl (by decide) rfl dX2_init_63 ?_
  refine rn_iload_n dX2_init_66 rfl ?_
  refine rt_new (n := 57) (ci := 6) (N := 6) (l := []) RX6 TX6 tyX6 rfl (by decide) inX6 tyX6_ok clRX2_9 ins6 ini6 rfl (by intro j hj; revert j; decide +kernel) (by decide) ⟨Nat.le_of_ble_eq_true rfl, Nat.le_of_ble_eq_true rfl⟩ dX2_init_67 (by simp [hB]) ?_
  rw [List.append_assoc]
  show Rn _ _ _ _ _ _ _ _ _ _ _ (tb (B ++ [[rf E 5, rf E 11, rf E 23, rf E 24, rf E 25, .int 0, rf E 26], [], [rf E 27, rf E 29, rf E 31, rf E 33, rf E 35, rf E 37, rf E 39, rf E 41, rf E 43, rf E 45, rf E 47, rf E 49, rf E 51, rf E 53, rf E 55, .int 0, .int 0, .int 0, .int 0, .int 0, .int 0, .int 0, .int 0, .int 0], [rf E 28, rf E 30, rf E 32, rf E 34, rf E 36, rf E 38, rf E 40, rf E 42, rf E 44, rf E 46, rf E 48, rf E 50, rf E 52, rf E 54, rf E 56, .int 0, .int 0, .int 0, .int 0, .int 0, .int 0, .int 0, .int 0, .int 0], [], [], [], [], [], [], [], [], [], [], [], [], [], [], [], [], [], [], [], [], [], [], [], [], [], [], [], [], [], [], [], []]))
  refine rn_dup dX2_init_70 rfl ?_
  refine rn_callIN (mc2 := 0) (ms2 := 0) (c0 := 57) (As := []) (st := [rf E 57, .int 15, rf E 24]) mlRX2_11 rfl mdX6_init (Nat.le_of_ble_eq_true rfl) rfl rfl (Nat.le_of_ble_eq_true rfl) (by decide) ⟨Nat.le_of_ble_eq_true rfl, Nat.le_of_ble_eq_true rfl⟩ dX2_init_71 (ciX6_init (by decide) ?_)
  show Rn _ _ _ _ _ _ _ _ _ [rf E 57, .int 15, rf E 24] _ _
  refine rt_aast (i := 2) (j := 15) (t := 102) (ci := 6) (r := vwCl.getD 6 ("", TX0, 0)) hB rfl rfl (by decide) (by decide) rfl (by decide) rfl (by decide) rfl (by decide) dX2_init_74 (Nat.le_of_ble_eq_true rfl) (Nat.le_of_ble_eq_true rfl) ?_
  show Rn _ _ _ _ _ _ _ _ _ _ _ (tb (B ++ [[rf E 5, rf E 11, rf E 23, rf E 24, rf E 25, .int 0, rf E 26], [], [rf E 27, rf E 29, rf E 31, rf E 33, rf E 35, rf E 37, rf E 39, rf E 41, rf E 43, rf E 45, rf E 47, rf E 49, rf E 51, rf E 53, rf E 55, rf E 57, .int 0, .int 0, .int 0, .int 0, .int 0, .int 0, .int 0, .int 0], [rf E 28, rf E 30, rf E 32, rf E 34, rf E 36, rf E 38, rf E 40, rf E 42, rf E 44, rf E 46, rf E 48, rf E 50, rf E 52, rf E 54, rf E 56, .int 0, .int 0, .int 0, .int 0, .int 0, .int 0, .int 0, .int 0, .int 0], [], [], [], [], [], [], [], [], [], [], [], [], [], [], [], [], [], [], [], [], [], [], [], [], [], [], [], [], [], [], [], []]))
  refine rn_aload_n dX2_init_75 rfl ?_
  refine rt_get (i := 0) (w := rf E 25) hB rfl flRX2_22 rfl (by decide) rfl dX2_init_76 ?_
  refine rn_iload_n dX2_init_79 rfl ?_
  refine rt_new (n := 58) (ci := 6) (N := 6) (l := []) RX6 TX6 tyX6 rfl (by decide) inX6 tyX6_ok clRX2_9 ins6 ini6 rfl (by intro j hj; revert j; decide +kernel) (by decide) ⟨Nat.le_of_ble_eq_true rfl, Nat.le_of_ble_eq_true rfl⟩ dX2_init_80 (by simp [hB]) ?_
  rw [List.append_assoc]
  show Rn _ _ _ _ _ _ _ _ _ _ _ (tb (B ++ [[rf E 5, rf E 11, rf E 23, rf E 24, rf E 25, .int 0, rf E 26], [], [rf E 27, rf E 29, rf E 31, rf E 33, rf E 35, rf E 37, rf E 39, rf E 41, rf E 43, rf E 45, rf E 47, rf E 49, rf E 51, rf E 53, rf E 55, rf E 57, .int 0, .int 0, .int 0, .int 0, .int 0, .int 0, .int 0, .int 0], [rf E 28, rf E 30, rf E 32, rf E 34, rf E 36, rf E 38, rf E 40, rf E 42, rf E 44, rf E 46, rf E 48, rf E 50, rf E 52, rf E 54, rf E 56, .int 0, .int 0, .int 0, .int 0, .int 0, .int 0, .int 0, .int 0, .int 0], [], [], [], [], [], [], [], [], [], [], [], [], [], [], [], [], [], [], [], [], [], [], [], [], [], [], [], [], [], [], [], [], []]))
  refine rn_dup dX2_init_83 rfl ?_
  refine rn_callIN (mc2 := 0) (ms2 := 0) (c0 := 58) (As := []) (st := [rf E 58, .int 15, rf E 25]) mlRX2_11 rfl mdX6_init (Nat.le_of_ble_eq_true rfl) rfl rfl (Nat.le_of_ble_eq_true rfl) (by decide) ⟨Nat.le_of_ble_eq_true rfl, Nat.le_of_ble_eq_true rfl⟩ dX2_init_84 (ciX6_init (by decide) ?_)
  show Rn _ _ _ _ _ _ _ _ _ [rf E 58, .int 15, rf E 25] _ _
  refine rt_aast (i := 3) (j := 15) (t := 102) (ci := 6) (r := vwCl.getD 6 ("", TX0, 0)) hB rfl rfl (by decide) (by decide) rfl (by decide) rfl (by decide) rfl (by decide) dX2_init_87 (Nat.le_of_ble_eq_true rfl) (Nat.le_of_ble_eq_true rfl) ?_
  show Rn _ _ _ _ _ _ _ _ _ _ _ (tb (B ++ [[rf E 5, rf E 11, rf E 23, rf E 24, rf E 25, .int 0, rf E 26], [], [rf E 27, rf E 29, rf E 31, rf E 33, rf E 35, rf E 37, rf E 39, rf E 41, rf E 43, rf E 45, rf E 47, rf E 49, rf E 51, rf E 53, rf E 55, rf E 57, .int 0, .int 0, .int 0, .int 0, .int 0, .int 0, .int 0, .int 0], [rf E 28, rf E 30, rf E 32, rf E 34, rf E 36, rf E 38, rf E 40, rf E 42, rf E 44, rf E 46, rf E 48, rf E 50, rf E 52, rf E 54, rf E 56, rf E 58, .int 0, .int 0, .int 0, .int 0, .int 0, .int 0, .int 0, .int 0], [], [], [], [], [], [], [], [], [], [], [], [], [], [], [], [], [], [], [], [], [], [], [], [], [], [], [], [], [], [], [], [], []]))
  refine rn_iinc (w := (1 : Int32)) dX2_init_88 rfl (by decide) rfl (Nat.le_of_ble_eq_true rfl) (fun zy ze => ?_)
  obtain rfl : zy = (16 : Int32) := ze.trans (by decide)
  show Rn _ _ _ _ _ _ _ _ [some (rf E 22), some (rf E 5), some (rf E 11), some (.int 16)] _ _ _
  refine rn_goto (tgt := 56) dX2_init_91 (by decide) ?_
  refine rn_iload_n dX2_init_56 rfl ?_
  refine rn_bipush (x := (24 : Int32)) dX2_init_57 (by decide) ?_
  refine rn_icmp_ge (tgt := 94) dX2_init_59 (by decide) (fun q => absurd q (by decide)) (fun _ => ?_)
  refine rn_aload_n dX2_init_62 rfl ?_
  refine rt_get (i := 0) (w := rf E 24) hB rfl flRX2_18 rfl (by decide) rfl dX2_init_63 ?_
  refine rn_iload_n dX2_init_66 rfl ?_
  refine rt_new (n := 59) (ci := 6) (N := 6) (l := []) RX6 TX6 tyX6 rfl (by decide) inX6 tyX6_ok clRX2_9 ins6 ini6 rfl (by intro j hj; revert j; decide +kernel) (by decide) ⟨Nat.le_of_ble_eq_true rfl, Nat.le_of_ble_eq_true rfl⟩ dX2_init_67 (by simp [hB]) ?_
  rw [List.append_assoc]
  show Rn _ _ _ _ _ _ _ _ _ _ _ (tb (B ++ [[rf E 5, rf E 11, rf E 23, rf E 24, rf E 25, .int 0, rf E 26], [], [rf E 27, rf E 29, rf E 31, rf E 33, rf E 35, rf E 37, rf E 39, rf E 41, rf E 43, rf E 45, rf E 47, rf E 49, rf E 51, rf E 53, rf E 55, rf E 57, .int 0, .int 0, .int 0, .int 0, .int 0, .int 0, .int 0, .int 0], [rf E 28, rf E 30, rf E 32, rf E 34, rf E 36, rf E 38, rf E 40, rf E 42, rf E 44, rf E 46, rf E 48, rf E 50, rf E 52, rf E 54, rf E 56, rf E 58, .int 0, .int 0, .int 0, .int 0, .int 0, .int 0, .int 0, .int 0], [], [], [], [], [], [], [], [], [], [], [], [], [], [], [], [], [], [], [], [], [], [], [], [], [], [], [], [], [], [], [], [], [], []]))
  refine rn_dup dX2_init_70 rfl ?_
  refine rn_callIN (mc2 := 0) (ms2 := 0) (c0 := 59) (As := []) (st := [rf E 59, .int 16, rf E 24]) mlRX2_11 rfl mdX6_init (Nat.le_of_ble_eq_true rfl) rfl rfl (Nat.le_of_ble_eq_true rfl) (by decide) ⟨Nat.le_of_ble_eq_true rfl, Nat.le_of_ble_eq_true rfl⟩ dX2_init_71 (ciX6_init (by decide) ?_)
  show Rn _ _ _ _ _ _ _ _ _ [rf E 59, .int 16, rf E 24] _ _
  refine rt_aast (i := 2) (j := 16) (t := 102) (ci := 6) (r := vwCl.getD 6 ("", TX0, 0)) hB rfl rfl (by decide) (by decide) rfl (by decide) rfl (by decide) rfl (by decide) dX2_init_74 (Nat.le_of_ble_eq_true rfl) (Nat.le_of_ble_eq_true rfl) ?_
  show Rn _ _ _ _ _ _ _ _ _ _ _ (tb (B ++ [[rf E 5, rf E 11, rf E 23, rf E 24, rf E 25, .int 0, rf E 26], [], [rf E 27, rf E 29, rf E 31, rf E 33, rf E 35, rf E 37, rf E 39, rf E 41, rf E 43, rf E 45, rf E 47, rf E 49, rf E 51, rf E 53, rf E 55, rf E 57, rf E 59, .int 0, .int 0, .int 0, .int 0, .int 0, .int 0, .int 0], [rf E 28, rf E 30, rf E 32, rf E 34, rf E 36, rf E 38, rf E 40, rf E 42, rf E 44, rf E 46, rf E 48, rf E 50, rf E 52, rf E 54, rf E 56, rf E 58, .int 0, .int 0, .int 0, .int 0, .int 0, .int 0, .int 0, .int 0], [], [], [], [], [], [], [], [], [], [], [], [], [], [], [], [], [], [], [], [], [], [], [], [], [], [], [], [], [], [], [], [], [], []]))
  refine rn_aload_n dX2_init_75 rfl ?_
  refine rt_get (i := 0) (w := rf E 25) hB rfl flRX2_22 rfl (by decide) rfl dX2_init_76 ?_
  refine rn_iload_n dX2_init_79 rfl ?_
  refine rt_new (n := 60) (ci := 6) (N := 6) (l := []) RX6 TX6 tyX6 rfl (by decide) inX6 tyX6_ok clRX2_9 ins6 ini6 rfl (by intro j hj; revert j; decide +kernel) (by decide) ⟨Nat.le_of_ble_eq_true rfl, Nat.le_of_ble_eq_true rfl⟩ dX2_init_80 (by simp [hB]) ?_
  rw [List.append_assoc]
  show Rn _ _ _ _ _ _ _ _ _ _ _ (tb (B ++ [[rf E 5, rf E 11, rf E 23, rf E 24, rf E 25, .int 0, rf E 26], [], [rf E 27, rf E 29, rf E 31, rf E 33, rf E 35, rf E 37, rf E 39, rf E 41, rf E 43, rf E 45, rf E 47, rf E 49, rf E 51, rf E 53, rf E 55, rf E 57, rf E 59, .int 0, .int 0, .int 0, .int 0, .int 0, .int 0, .int 0], [rf E 28, rf E 30, rf E 32, rf E 34, rf E 36, rf E 38, rf E 40, rf E 42, rf E 44, rf E 46, rf E 48, rf E 50, rf E 52, rf E 54, rf E 56, rf E 58, .int 0, .int 0, .int 0, .int 0, .int 0, .int 0, .int 0, .int 0], [], [], [], [], [], [], [], [], [], [], [], [], [], [], [], [], [], [], [], [], [], [], [], [], [], [], [], [], [], [], [], [], [], [], []]))
  refine rn_dup dX2_init_83 rfl ?_
  refine rn_callIN (mc2 := 0) (ms2 := 0) (c0 := 60) (As := []) (st := [rf E 60, .int 16, rf E 25]) mlRX2_11 rfl mdX6_init (Nat.le_of_ble_eq_true rfl) rfl rfl (Nat.le_of_ble_eq_true rfl) (by decide) ⟨Nat.le_of_ble_eq_true rfl, Nat.le_of_ble_eq_true rfl⟩ dX2_init_84 (ciX6_init (by decide) ?_)
  show Rn _ _ _ _ _ _ _ _ _ [rf E 60, .int 16, rf E 25] _ _
  refine rt_aast (i := 3) (j := 16) (t := 102) (ci := 6) (r := vwCl.getD 6 ("", TX0, 0)) hB rfl rfl (by decide) (by decide) rfl (by decide) rfl (by decide) rfl (by decide) dX2_init_87 (Nat.le_of_ble_eq_true rfl) (Nat.le_of_ble_eq_true rfl) ?_
  show Rn _ _ _ _ _ _ _ _ _ _ _ (tb (B ++ [[rf E 5, rf E 11, rf E 23, rf E 24, rf E 25, .int 0, rf E 26], [], [rf E 27, rf E 29, rf E 31, rf E 33, rf E 35, rf E 37, rf E 39, rf E 41, rf E 43, rf E 45, rf E 47, rf E 49, rf E 51, rf E 53, rf E 55, rf E 57, rf E 59, .int 0, .int 0, .int 0, .int 0, .int 0, .int 0, .int 0], [rf E 28, rf E 30, rf E 32, rf E 34, rf E 36, rf E 38, rf E 40, rf E 42, rf E 44, rf E 46, rf E 48, rf E 50, rf E 52, rf E 54, rf E 56, rf E 58, rf E 60, .int 0, .int 0, .int 0, .int 0, .int 0, .int 0, .int 0], [], [], [], [], [], [], [], [], [], [], [], [], [], [], [], [], [], [], [], [], [], [], [], [], [], [], [], [], [], [], [], [], [], [], []]))
  refine rn_iinc (w := (1 : Int32)) dX2_init_88 rfl (by decide) rfl (Nat.le_of_ble_eq_true rfl) (fun zy ze => ?_)
  obtain rfl : zy = (17 : Int32) := ze.trans (by decide)
  show Rn _ _ _ _ _ _ _ _ [some (rf E 22), some (rf E 5), some (rf E 11), some (.int 17)] _ _ _
  refine rn_goto (tgt := 56) dX2_init_91 (by decide) ?_
  refine rn_iload_n dX2_init_56 rfl ?_
  refine rn_bipush (x := (24 : Int32)) dX2_init_57 (by decide) ?_
  refine rn_icmp_ge (tgt := 94) dX2_init_59 (by decide) (fun q => absurd q (by decide)) (fun _ => ?_)
  refine rn_aload_n dX2_init_62 rfl ?_
  refine rt_get (i := 0) (w := rf E 24) hB rfl flRX2_18 rfl (by decide) rfl dX2_init_63 ?_
  refine rn_iload_n dX2_init_66 rfl ?_
  refine rt_new (n := 61) (ci := 6) (N := 6) (l := []) RX6 TX6 tyX6 rfl (by decide) inX6 tyX6_ok clRX2_9 ins6 ini6 rfl (by intro j hj; revert j; decide +kernel) (by decide) ⟨Nat.le_of_ble_eq_true rfl, Nat.le_of_ble_eq_true rfl⟩ dX2_init_67 (by simp [hB]) ?_
  rw [List.append_assoc]
  show Rn _ _ _ _ _ _ _ _ _ _ _ (tb (B ++ [[rf E 5, rf E 11, rf E 23, rf E 24, rf E 25, .int 0, rf E 26], [], [rf E 27, rf E 29, rf E 31, rf E 33, rf E 35, rf E 37, rf E 39, rf E 41, rf E 43, rf E 45, rf E 47, rf E 49, rf E 51, rf E 53, rf E 55, rf E 57, rf E 59, .int 0, .int 0, .int 0, .int 0, .int 0, .int 0, .int 0], [rf E 28, rf E 30, rf E 32, rf E 34, rf E 36, rf E 38, rf E 40, rf E 42, rf E 44, rf E 46, rf E 48, rf E 50, rf E 52, rf E 54, rf E 56, rf E 58, rf E 60, .int 0, .int 0, .int 0, .int 0, .int 0, .int 0, .int 0], [], [], [], [], [], [], [], [], [], [], [], [], [], [], [], [], [], [], [], [], [], [], [], [], [], [], [], [], [], [], [], [], [], [], [], []]))
  refine rn_dup dX2_init_70 rfl ?_
  refine rn_callIN (mc2 := 0) (ms2 := 0) (c0 := 61) (As := []) (st := [rf E 61, .int 17, rf E 24]) mlRX2_11 rfl mdX6_init (Nat.le_of_ble_eq_true rfl) rfl rfl (Nat.le_of_ble_eq_true rfl) (by decide) ⟨Nat.le_of_ble_eq_true rfl, Nat.le_of_ble_eq_true rfl⟩ dX2_init_71 (ciX6_init (by decide) ?_)
  show Rn _ _ _ _ _ _ _ _ _ [rf E 61, .int 17, rf E 24] _ _
  refine rt_aast (i := 2) (j := 17) (t := 102) (ci := 6) (r := vwCl.getD 6 ("", TX0, 0)) hB rfl rfl (by decide) (by decide) rfl (by decide) rfl (by decide) rfl (by decide) dX2_init_74 (Nat.le_of_ble_eq_true rfl) (Nat.le_of_ble_eq_true rfl) ?_
  show Rn _ _ _ _ _ _ _ _ _ _ _ (tb (B ++ [[rf E 5, rf E 11, rf E 23, rf E 24, rf E 25, .int 0, rf E 26], [], [rf E 27, rf E 29, rf E 31, rf E 33, rf E 35, rf E 37, rf E 39, rf E 41, rf E 43, rf E 45, rf E 47, rf E 49, rf E 51, rf E 53, rf E 55, rf E 57, rf E 59, rf E 61, .int 0, .int 0, .int 0, .int 0, .int 0, .int 0], [rf E 28, rf E 30, rf E 32, rf E 34, rf E 36, rf E 38, rf E 40, rf E 42, rf E 44, rf E 46, rf E 48, rf E 50, rf E 52, rf E 54, rf E 56, rf E 58, rf E 60, .int 0, .int 0, .int 0, .int 0, .int 0, .int 0, .int 0], [], [], [], [], [], [], [], [], [], [], [], [], [], [], [], [], [], [], [], [], [], [], [], [], [], [], [], [], [], [], [], [], [], [], [], []]))
  refine rn_aload_n dX2_init_75 rfl ?_
  refine rt_get (i := 0) (w := rf E 25) hB rfl flRX2_22 rfl (by decide) rfl dX2_init_76 ?_
  refine rn_iload_n dX2_init_79 rfl ?_
  refine rt_new (n := 62) (ci := 6) (N := 6) (l := []) RX6 TX6 tyX6 rfl (by decide) inX6 tyX6_ok clRX2_9 ins6 ini6 rfl (by intro j hj; revert j; decide +kernel) (by decide) ⟨Nat.le_of_ble_eq_true rfl, Nat.le_of_ble_eq_true rfl⟩ dX2_init_80 (by simp [hB]) ?_
  rw [List.append_assoc]
  show Rn _ _ _ _ _ _ _ _ _ _ _ (tb (B ++ [[rf E 5, rf E 11, rf E 23, rf E 24, rf E 25, .int 0, rf E 26], [], [rf E 27, rf E 29, rf E 31, rf E 33, rf E 35, rf E 37, rf E 39, rf E 41, rf E 43, rf E 45, rf E 47, rf E 49, rf E 51, rf E 53, rf E 55, rf E 57, rf E 59, rf E 61, .int 0, .int 0, .int 0, .int 0, .int 0, .int 0], [rf E 28, rf E 30, rf E 32, rf E 34, rf E 36, rf E 38, rf E 40, rf E 42, rf E 44, rf E 46, rf E 48, rf E 50, rf E 52, rf E 54, rf E 56, rf E 58, rf E 60, .int 0, .int 0, .int 0, .int 0, .int 0, .int 0, .int 0], [], [], [], [], [], [], [], [], [], [], [], [], [], [], [], [], [], [], [], [], [], [], [], [], [], [], [], [], [], [], [], [], [], [], [], [], []]))
  refine rn_dup dX2_init_83 rfl ?_
  refine rn_callIN (mc2 := 0) (ms2 := 0) (c0 := 62) (As := []) (st := [rf E 62, .int 17, rf E 25]) mlRX2_11 rfl mdX6_init (Nat.le_of_ble_eq_true rfl) rfl rfl (Nat.le_of_ble_eq_true rfl) (by decide) ⟨Nat.le_of_ble_eq_true rfl, Nat.le_of_ble_eq_true rfl⟩ dX2_init_84 (ciX6_init (by decide) ?_)
  show Rn _ _ _ _ _ _ _ _ _ [rf E 62, .int 17, rf E 25] _ _
  refine rt_aast (i := 3) (j := 17) (t := 102) (ci := 6) (r := vwCl.getD 6 ("", TX0, 0)) hB rfl rfl (by decide) (by decide) rfl (by decide) rfl (by decide) rfl (by decide) dX2_init_87 (Nat.le_of_ble_eq_true rfl) (Nat.le_of_ble_eq_true rfl) ?_
  show Rn _ _ _ _ _ _ _ _ _ _ _ (tb (B ++ [[rf E 5, rf E 11, rf E 23, rf E 24, rf E 25, .int 0, rf E 26], [], [rf E 27, rf E 29, rf E 31, rf E 33, rf E 35, rf E 37, rf E 39, rf E 41, rf E 43, rf E 45, rf E 47, rf E 49, rf E 51, rf E 53, rf E 55, rf E 57, rf E 59, rf E 61, .int 0, .int 0, .int 0, .int 0, .int 0, .int 0], [rf E 28, rf E 30, rf E 32, rf E 34, rf E 36, rf E 38, rf E 40, rf E 42, rf E 44, rf E 46, rf E 48, rf E 50, rf E 52, rf E 54, rf E 56, rf E 58, rf E 60, rf E 62, .int 0, .int 0, .int 0, .int 0, .int 0, .int 0], [], [], [], [], [], [], [], [], [], [], [], [], [], [], [], [], [], [], [], [], [], [], [], [], [], [], [], [], [], [], [], [], [], [], [], [], []]))
  refine rn_iinc (w := (1 : Int32)) dX2_init_88 rfl (by decide) rfl (Nat.le_of_ble_eq_true rfl) (fun zy ze => ?_)
  obtain rfl : zy = (18 : Int32) := ze.trans (by decide)
  show Rn _ _ _ _ _ _ _ _ [some (rf E 22), some (rf E 5), some (rf E 11), some (.int 18)] _ _ _
  refine rn_goto (tgt := 56) dX2_init_91 (by decide) ?_
  refine rn_iload_n dX2_init_56 rfl ?_
  refine rn_bipush (x := (24 : Int32)) dX2_init_57 (by decide) ?_
  refine rn_icmp_ge (tgt := 94) dX2_init_59 (by decide) (fun q => absurd q (by decide)) (fun _ => ?_)
  refine rn_aload_n dX2_init_62 rfl ?_
  refine rt_get (i := 0) (w := rf E 24) hB rfl flRX2_18 rfl (by decide) rfl dX2_init_63 ?_
  refine rn_iload_n dX2_init_66 rfl ?_
  refine rt_new (n := 63) (ci := 6) (N := 6) (l := []) RX6 TX6 tyX6 rfl (by decide) inX6 tyX6_ok clRX2_9 ins6 ini6 rfl (by intro j hj; revert j; decide +kernel) (by decide) ⟨Nat.le_of_ble_eq_true rfl, Nat.le_of_ble_eq_true rfl⟩ dX2_init_67 (by simp [hB]) ?_
  rw [List.append_assoc]
  show Rn _ _ _ _ _ _ _ _ _ _ _ (tb (B ++ [[rf E 5, rf E 11, rf E 23, rf E 24, rf E 25, .int 0, rf E 26], [], [rf E 27, rf E 29, rf E 31, rf E 33, rf E 35, rf E 37, rf E 39, rf E 41, rf E 43, rf E 45, rf E 47, rf E 49, rf E 51, rf E 53, rf E 55, rf E 57, rf E 59, rf E 61, .int 0, .int 0, .int 0, .int 0, .int 0, .int 0], [rf E 28, rf E 30, rf E 32, rf E 34, rf E 36, rf E 38, rf E 40, rf E 42, rf E 44, rf E 46, rf E 48, rf E 50, rf E 52, rf E 54, rf E 56, rf E 58, rf E 60, rf E 62, .int 0, .int 0, .int 0, .int 0, .int 0, .int 0], [], [], [], [], [], [], [], [], [], [], [], [], [], [], [], [], [], [], [], [], [], [], [], [], [], [], [], [], [], [], [], [], [], [], [], [], [], []]))
  refine rn_dup dX2_init_70 rfl ?_
  refine rn_callIN (mc2 := 0) (ms2 := 0) (c0 := 63) (As := []) (st := [rf E 63, .int 18, rf E 24]) mlRX2_11 rfl mdX6_init (Nat.le_of_ble_eq_true rfl) rfl rfl (Nat.le_of_ble_eq_true rfl) (by decide) ⟨Nat.le_of_ble_eq_true rfl, Nat.le_of_ble_eq_true rfl⟩ dX2_init_71 (ciX6_init (by decide) ?_)
  show Rn _ _ _ _ _ _ _ _ _ [rf E 63, .int 18, rf E 24] _ _
  refine rt_aast (i := 2) (j := 18) (t := 102) (ci := 6) (r := vwCl.getD 6 ("", TX0, 0)) hB rfl rfl (by decide) (by decide) rfl (by decide) rfl (by decide) rfl (by decide) dX2_init_74 (Nat.le_of_ble_eq_true rfl) (Nat.le_of_ble_eq_true rfl) ?_
  show Rn _ _ _ _ _ _ _ _ _ _ _ (tb (B ++ [[rf E 5, rf E 11, rf E 23, rf E 24, rf E 25, .int 0, rf E 26], [], [rf E 27, rf E 29, rf E 31, rf E 33, rf E 35, rf E 37, rf E 39, rf E 41, rf E 43, rf E 45, rf E 47, rf E 49, rf E 51, rf E 53, rf E 55, rf E 57, rf E 59, rf E 61, rf E 63, .int 0, .int 0, .int 0, .int 0, .int 0], [rf E 28, rf E 30, rf E 32, rf E 34, rf E 36, rf E 38, rf E 40, rf E 42, rf E 44, rf E 46, rf E 48, rf E 50, rf E 52, rf E 54, rf E 56, rf E 58, rf E 60, rf E 62, .int 0, .int 0, .int 0, .int 0, .int 0, .int 0], [], [], [], [], [], [], [], [], [], [], [], [], [], [], [], [], [], [], [], [], [], [], [], [], [], [], [], [], [], [], [], [], [], [], [], [], [], []]))
  refine rn_aload_n dX2_init_75 rfl ?_
  refine rt_get (i := 0) (w := rf E 25) hB rfl flRX2_22 rfl (by decide) rfl dX2_init_76 ?_
  refine rn_iload_n dX2_init_79 rfl ?_
  refine rt_new (n := 64) (ci := 6) (N := 6) (l := []) RX6 TX6 tyX6 rfl (by decide) inX6 tyX6_ok clRX2_9 ins6 ini6 rfl (by intro j hj; revert j; decide +kernel) (by decide) ⟨Nat.le_of_ble_eq_true rfl, Nat.le_of_ble_eq_true rfl⟩ dX2_init_80 (by simp [hB]) ?_
  rw [List.append_assoc]
  show Rn _ _ _ _ _ _ _ _ _ _ _ (tb (B ++ [[rf E 5, rf E 11, rf E 23, rf E 24, rf E 25, .int 0, rf E 26], [], [rf E 27, rf E 29, rf E 31, rf E 33, rf E 35, rf E 37, rf E 39, rf E 41, rf E 43, rf E 45, rf E 47, rf E 49, rf E 51, rf E 53, rf E 55, rf E 57, rf E 59, rf E 61, rf E 63, .int 0, .int 0, .int 0, .int 0, .int 0], [rf E 28, rf E 30, rf E 32, rf E 34, rf E 36, rf E 38, rf E 40, rf E 42, rf E 44, rf E 46, rf E 48, rf E 50, rf E 52, rf E 54, rf E 56, rf E 58, rf E 60, rf E 62, .int 0, .int 0, .int 0, .int 0, .int 0, .int 0], [], [], [], [], [], [], [], [], [], [], [], [], [], [], [], [], [], [], [], [], [], [], [], [], [], [], [], [], [], [], [], [], [], [], [], [], [], [], []]))
  refine rn_dup dX2_init_83 rfl ?_
  refine rn_callIN (mc2 := 0) (ms2 := 0) (c0 := 64) (As := []) (st := [rf E 64, .int 18, rf E 25]) mlRX2_11 rfl mdX6_init (Nat.le_of_ble_eq_true rfl) rfl rfl (Nat.le_of_ble_eq_true rfl) (by decide) ⟨Nat.le_of_ble_eq_true rfl, Nat.le_of_ble_eq_true rfl⟩ dX2_init_84 (ciX6_init (by decide) ?_)
  show Rn _ _ _ _ _ _ _ _ _ [rf E 64, .int 18, rf E 25] _ _
  refine rt_aast (i := 3) (j := 18) (t := 102) (ci := 6) (r := vwCl.getD 6 ("", TX0, 0)) hB rfl rfl (by decide) (by decide) rfl (by decide) rfl (by decide) rfl (by decide) dX2_init_87 (Nat.le_of_ble_eq_true rfl) (Nat.le_of_ble_eq_true rfl) ?_
  show Rn _ _ _ _ _ _ _ _ _ _ _ (tb (B ++ [[rf E 5, rf E 11, rf E 23, rf E 24, rf E 25, .int 0, rf E 26], [], [rf E 27, rf E 29, rf E 31, rf E 33, rf E 35, rf E 37, rf E 39, rf E 41, rf E 43, rf E 45, rf E 47, rf E 49, rf E 51, rf E 53, rf E 55, rf E 57, rf E 59, rf E 61, rf E 63, .int 0, .int 0, .int 0, .int 0, .int 0], [rf E 28, rf E 30, rf E 32, rf E 34, rf E 36, rf E 38, rf E 40, rf E 42, rf E 44, rf E 46, rf E 48, rf E 50, rf E 52, rf E 54, rf E 56, rf E 58, rf E 60, rf E 62, rf E 64, .int 0, .int 0, .int 0, .int 0, .int 0], [], [], [], [], [], [], [], [], [], [], [], [], [], [], [], [], [], [], [], [], [], [], [], [], [], [], [], [], [], [], [], [], [], [], [], [], [], [], []]))
  refine rn_iinc (w := (1 : Int32)) dX2_init_88 rfl (by decide) rfl (Nat.le_of_ble_eq_true rfl) (fun zy ze => ?_)
  obtain rfl : zy = (19 : Int32) := ze.trans (by decide)
  show Rn _ _ _ _ _ _ _ _ [some (rf E 22), some (rf E 5), some (rf E 11), some (.int 19)] _ _ _
  refine rn_goto (tgt := 56) dX2_init_91 (by decide) ?_
  refine rn_iload_n dX2_init_56 rfl ?_
  refine rn_bipush (x := (24 : Int32)) dX2_init_57 (by decide) ?_
  refine rn_icmp_ge (tgt := 94) dX2_init_59 (by decide) (fun q => absurd q (by decide)) (fun _ => ?_)
  refine rn_aload_n dX2_init_62 rfl ?_
  refine rt_get (i := 0) (w := rf E 24) hB rfl flRX2_18 rfl (by decide) rfl dX2_init_63 ?_
  refine rn_iload_n dX2_init_66 rfl ?_
  refine rt_new (n := 65) (ci := 6) (N := 6) (l := []) RX6 TX6 tyX6 rfl (by decide) inX6 tyX6_ok clRX2_9 ins6 ini6 rfl (by intro j hj; revert j; decide +kernel) (by decide) ⟨Nat.le_of_ble_eq_true rfl, Nat.le_of_ble_eq_true rfl⟩ dX2_init_67 (by simp [hB]) ?_
  rw [List.append_assoc]
  show Rn _ _ _ _ _ _ _ _ _ _ _ (tb (B ++ [[rf E 5, rf E 11, rf E 23, rf E 24, rf E 25, .int 0, rf E 26], [], [rf E 27, rf E 29, rf E 31, rf E 33, rf E 35, rf E 37, rf E 39, rf E 41, rf E 43, rf E 45, rf E 47, rf E 49, rf E 51, rf E 53, rf E 55, rf E 57, rf E 59, rf E 61, rf E 63, .int 0, .int 0, .int 0, .int 0, .int 0], [rf E 28, rf E 30, rf E 32, rf E 34, rf E 36, rf E 38, rf E 40, rf E 42, rf E 44, rf E 46, rf E 48, rf E 50, rf E 52, rf E 54, rf E 56, rf E 58, rf E 60, rf E 62, rf E 64, .int 0, .int 0, .int 0, .int 0, .int 0], [], [], [], [], [], [], [], [], [], [], [], [], [], [], [], [], [], [], [], [], [], [], [], [], [], [], [], [], [], [], [], [], [], [], [], [], [], [], [], []]))
  refine rn_dup dX2_init_70 rfl ?_
  refine rn_callIN (mc2 := 0) (ms2 := 0) (c0 := 65) (As := []) (st := [rf E 65, .int 19, rf E 24]) mlRX2_11 rfl mdX6_init (Nat.le_of_ble_eq_true rfl) rfl rfl (Nat.le_of_ble_eq_true rfl) (by decide) ⟨Nat.le_of_ble_eq_true rfl, Nat.le_of_ble_eq_true rfl⟩ dX2_init_71 (ciX6_init (by decide) ?_)
  show Rn _ _ _ _ _ _ _ _ _ [rf E 65, .int 19, rf E 24] _ _
  refine rt_aast (i := 2) (j := 19) (t := 102) (ci := 6) (r := vwCl.getD 6 ("", TX0, 0)) hB rfl rfl (by decide) (by decide) rfl (by decide) rfl (by decide) rfl (by decide) dX2_init_74 (Nat.le_of_ble_eq_true rfl) (Nat.le_of_ble_eq_true rfl) ?_
  show Rn _ _ _ _ _ _ _ _ _ _ _ (tb (B ++ [[rf E 5, rf E 11, rf E 23, rf E 24, rf E 25, .int 0, rf E 26], [], [rf E 27, rf E 29, rf E 31, rf E 33, rf E 35, rf E 37, rf E 39, rf E 41, rf E 43, rf E 45, rf E 47, rf E 49, rf E 51, rf E 53, rf E 55, rf E 57, rf E 59, rf E 61, rf E 63, rf E 65, .int 0, .int 0, .int 0, .int 0], [rf E 28, rf E 30, rf E 32, rf E 34, rf E 36, rf E 38, rf E 40, rf E 42, rf E 44, rf E 46, rf E 48, rf E 50, rf E 52, rf E 54, rf E 56, rf E 58, rf E 60, rf E 62, rf E 64, .int 0, .int 0, .int 0, .int 0, .int 0], [], [], [], [], [], [], [], [], [], [], [], [], [], [], [], [], [], [], [], [], [], [], [], [], [], [], [], [], [], [], [], [], [], [], [], [], [], [], [], []]))
  refine rn_aload_n dX2_init_75 rfl ?_
  refine rt_get (i := 0) (w := rf E 25) hB rfl flRX2_22 rfl (by decide) rfl dX2_init_76 ?_
  refine rn_iload_n dX2_init_79 rfl ?_
  refine rt_new (n := 66) (ci := 6) (N := 6) (l := []) RX6 TX6 tyX6 rfl (by decide) inX6 tyX6_ok clRX2_9 ins6 ini6 rfl (by intro j hj; revert j; decide +kernel) (by decide) ⟨Nat.le_of_ble_eq_true rfl, Nat.le_of_ble_eq_true rfl⟩ dX2_init_80 (by simp [hB]) ?_
  rw [List.append_assoc]
  show Rn _ _ _ _ _ _ _ _ _ _ _ (tb (B ++ [[rf E 5, rf E 11, rf E 23, rf E 24, rf E 25, .int 0, rf E 26], [], [rf E 27, rf E 29, rf E 31, rf E 33, rf E 35, rf E 37, rf E 39, rf E 41, rf E 43, rf E 45, rf E 47, rf E 49, rf E 51, rf E 53, rf E 55, rf E 57, rf E 59, rf E 61, rf E 63, rf E 65, .int 0, .int 0, .int 0, .int 0], [rf E 28, rf E 30, rf E 32, rf E 34, rf E 36, rf E 38, rf E 40, rf E 42, rf E 44, rf E 46, rf E 48, rf E 50, rf E 52, rf E 54, rf E 56, rf E 58, rf E 60, rf E 62, rf E 64, .int 0, .int 0, .int 0, .int 0, .int 0], [], [], [], [], [], [], [], [], [], [], [], [], [], [], [], [], [], [], [], [], [], [], [], [], [], [], [], [], [], [], [], [], [], [], [], [], [], [], [], [], []]))
  refine rn_dup dX2_init_83 rfl ?_
  refine rn_callIN (mc2 := 0) (ms2 := 0) (c0 := 66) (As := []) (st := [rf E 66, .int 19, rf E 25]) mlRX2_11 rfl mdX6_init (Nat.le_of_ble_eq_true rfl) rfl rfl (Nat.le_of_ble_eq_true rfl) (by decide) ⟨Nat.le_of_ble_eq_true rfl, Nat.le_of_ble_eq_true rfl⟩ dX2_init_84 (ciX6_init (by decide) ?_)
  show Rn _ _ _ _ _ _ _ _ _ [rf E 66, .int 19, rf E 25] _ _
  refine rt_aast (i := 3) (j := 19) (t := 102) (ci := 6) (r := vwCl.getD 6 ("", TX0, 0)) hB rfl rfl (by decide) (by decide) rfl (by decide) rfl (by decide) rfl (by decide) dX2_init_87 (Nat.le_of_ble_eq_true rfl) (Nat.le_of_ble_eq_true rfl) ?_
  show Rn _ _ _ _ _ _ _ _ _ _ _ (tb (B ++ [[rf E 5, rf E 11, rf E 23, rf E 24, rf E 25, .int 0, rf E 26], [], [rf E 27, rf E 29, rf E 31, rf E 33, rf E 35, rf E 37, rf E 39, rf E 41, rf E 43, rf E 45, rf E 47, rf E 49, rf E 51, rf E 53, rf E 55, rf E 57, rf E 59, rf E 61, rf E 63, rf E 65, .int 0, .int 0, .int 0, .int 0], [rf E 28, rf E 30, rf E 32, rf E 34, rf E 36, rf E 38, rf E 40, rf E 42, rf E 44, rf E 46, rf E 48, rf E 50, rf E 52, rf E 54, rf E 56, rf E 58, rf E 60, rf E 62, rf E 64, rf E 66, .int 0, .int 0, .int 0, .int 0], [], [], [], [], [], [], [], [], [], [], [], [], [], [], [], [], [], [], [], [], [], [], [], [], [], [], [], [], [], [], [], [], [], [], [], [], [], [], [], [], []]))
  refine rn_iinc (w := (1 : Int32)) dX2_init_88 rfl (by decide) rfl (Nat.le_of_ble_eq_true rfl) (fun zy ze => ?_)
  obtain rfl : zy = (20 : Int32) := ze.trans (by decide)
  show Rn _ _ _ _ _ _ _ _ [some (rf E 22), some (rf E 5), some (rf E 11), some (.int 20)] _ _ _
  refine rn_goto (tgt := 56) dX2_init_91 (by decide) ?_
  refine rn_iload_n dX2_init_56 rfl ?_
  refine rn_bipush (x := (24 : Int32)) dX2_init_57 (by decide) ?_
  refine rn_icmp_ge (tgt := 94) dX2_init_59 (by decide) (fun q => absurd q (by decide)) (fun _ => ?_)
  refine rn_aload_n dX2_init_62 rfl ?_
  refine rt_get (i := 0) (w := rf E 24) hB rfl flRX2_18 rfl (by decide) rfl dX2_init_63 ?_
  refine rn_iload_n dX2_init_66 rfl ?_
  refine rt_new (n := 67) (ci := 6) (N := 6) (l := []) RX6 TX6 tyX6 rfl (by decide) inX6 tyX6_ok clRX2_9 ins6 ini6 rfl (by intro j hj; revert j; decide +kernel) (by decide) ⟨Nat.le_of_ble_eq_true rfl, Nat.le_of_ble_eq_true rfl⟩ dX2_init_67 (by simp [hB]) ?_
  rw [List.append_assoc]
  show Rn _ _ _ _ _ _ _ _ _ _ _ (tb (B ++ [[rf E 5, rf E 11, rf E 23, rf E 24, rf E 25, .int 0, rf E 26], [], [rf E 27, rf E 29, rf E 31, rf E 33, rf E 35, rf E 37, rf E 39, rf E 41, rf E 43, rf E 45, rf E 47, rf E 49, rf E 51, rf E 53, rf E 55, rf E 57, rf E 59, rf E 61, rf E 63, rf E 65, .int 0, .int 0, .int 0, .int 0], [rf E 28, rf E 30, rf E 32, rf E 34, rf E 36, rf E 38, rf E 40, rf E 42, rf E 44, rf E 46, rf E 48, rf E 50, rf E 52, rf E 54, rf E 56, rf E 58, rf E 60, rf E 62, rf E 64, rf E 66, .int 0, .int 0, .int 0, .int 0], [], [], [], [], [], [], [], [], [], [], [], [], [], [], [], [], [], [], [], [], [], [], [], [], [], [], [], [], [], [], [], [], [], [], [], [], [], [], [], [], [], []]))
  refine rn_dup dX2_init_70 rfl ?_
  refine rn_callIN (mc2 := 0) (ms2 := 0) (c0 := 67) (As := []) (st := [rf E 67, .int 20, rf E 24]) mlRX2_11 rfl mdX6_init (Nat.le_of_ble_eq_true rfl) rfl rfl (Nat.le_of_ble_eq_true rfl) (by decide) ⟨Nat.le_of_ble_eq_true rfl, Nat.le_of_ble_eq_true rfl⟩ dX2_init_71 (ciX6_init (by decide) ?_)
  show Rn _ _ _ _ _ _ _ _ _ [rf E 67, .int 20, rf E 24] _ _
  refine rt_aast (i := 2) (j := 20) (t := 102) (ci := 6) (r := vwCl.getD 6 ("", TX0, 0)) hB rfl rfl (by decide) (by decide) rfl (by decide) rfl (by decide) rfl (by decide) dX2_init_74 (Nat.le_of_ble_eq_true rfl) (Nat.le_of_ble_eq_true rfl) ?_
  show Rn _ _ _ _ _ _ _ _ _ _ _ (tb (B ++ [[rf E 5, rf E 11, rf E 23, rf E 24, rf E 25, .int 0, rf E 26], [], [rf E 27, rf E 29, rf E 31, rf E 33, rf E 35, rf E 37, rf E 39, rf E 41, rf E 43, rf E 45, rf E 47, rf E 49, rf E 51, rf E 53, rf E 55, rf E 57, rf E 59, rf E 61, rf E 63, rf E 65, rf E 67, .int 0, .int 0, .int 0], [rf E 28, rf E 30, rf E 32, rf E 34, rf E 36, rf E 38, rf E 40, rf E 42, rf E 44, rf E 46, rf E 48, rf E 50, rf E 52, rf E 54, rf E 56, rf E 58, rf E 60, rf E 62, rf E 64, rf E 66, .int 0, .int 0, .int 0, .int 0], [], [], [], [], [], [], [], [], [], [], [], [], [], [], [], [], [], [], [], [], [], [], [], [], [], [], [], [], [], [], [], [], [], [], [], [], [], [], [], [], [], []]))
  refine rn_aload_n dX2_init_75 rfl ?_
  refine rt_get (i := 0) (w := rf E 25) hB rfl flRX2_22 rfl (by decide) rfl dX2_init_76 ?_
  refine rn_iload_n dX2_init_79 rfl ?_
  refine rt_new (n := 68) (ci := 6) (N := 6) (l := []) RX6 TX6 tyX6 rfl (by decide) inX6 tyX6_ok clRX2_9 ins6 ini6 rfl (by intro j hj; revert j; decide +kernel) (by decide) ⟨Nat.le_of_ble_eq_true rfl, Nat.le_of_ble_eq_true rfl⟩ dX2_init_80 (by simp [hB]) ?_
  rw [List.append_assoc]
  show Rn _ _ _ _ _ _ _ _ _ _ _ (tb (B ++ [[rf E 5, rf E 11, rf E 23, rf E 24, rf E 25, .int 0, rf E 26], [], [rf E 27, rf E 29, rf E 31, rf E 33, rf E 35, rf E 37, rf E 39, rf E 41, rf E 43, rf E 45, rf E 47, rf E 49, rf E 51, rf E 53, rf E 55, rf E 57, rf E 59, rf E 61, rf E 63, rf E 65, rf E 67, .int 0, .int 0, .int 0], [rf E 28, rf E 30, rf E 32, rf E 34, rf E 36, rf E 38, rf E 40, rf E 42, rf E 44, rf E 46, rf E 48, rf E 50, rf E 52, rf E 54, rf E 56, rf E 58, rf E 60, rf E 62, rf E 64, rf E 66, .int 0, .int 0, .int 0, .int 0], [], [], [], [], [], [], [], [], [], [], [], [], [], [], [], [], [], [], [], [], [], [], [], [], [], [], [], [], [], [], [], [], [], [], [], [], [], [], [], [], [], [], []]))
  refine rn_dup dX2_init_83 rfl ?_
  refine rn_callIN (mc2 := 0) (ms2 := 0) (c0 := 68) (As := []) (st := [rf E 68, .int 20, rf E 25]) mlRX2_11 rfl mdX6_init (Nat.le_of_ble_eq_true rfl) rfl rfl (Nat.le_of_ble_eq_true rfl) (by decide) ⟨Nat.le_of_ble_eq_true rfl, Nat.le_of_ble_eq_true rfl⟩ dX2_init_84 (ciX6_init (by decide) ?_)
  show Rn _ _ _ _ _ _ _ _ _ [rf E 68, .int 20, rf E 25] _ _
  refine rt_aast (i := 3) (j := 20) (t := 102) (ci := 6) (r := vwCl.getD 6 ("", TX0, 0)) hB rfl rfl (by decide) (by decide) rfl (by decide) rfl (by decide) rfl (by decide) dX2_init_87 (Nat.le_of_ble_eq_true rfl) (Nat.le_of_ble_eq_true rfl) ?_
  show Rn _ _ _ _ _ _ _ _ _ _ _ (tb (B ++ [[rf E 5, rf E 11, rf E 23, rf E 24, rf E 25, .int 0, rf E 26], [], [rf E 27, rf E 29, rf E 31, rf E 33, rf E 35, rf E 37, rf E 39, rf E 41, rf E 43, rf E 45, rf E 47, rf E 49, rf E 51, rf E 53, rf E 55, rf E 57, rf E 59, rf E 61, rf E 63, rf E 65, rf E 67, .int 0, .int 0, .int 0], [rf E 28, rf E 30, rf E 32, rf E 34, rf E 36, rf E 38, rf E 40, rf E 42, rf E 44, rf E 46, rf E 48, rf E 50, rf E 52, rf E 54, rf E 56, rf E 58, rf E 60, rf E 62, rf E 64, rf E 66, rf E 68, .int 0, .int 0, .int 0], [], [], [], [], [], [], [], [], [], [], [], [], [], [], [], [], [], [], [], [], [], [], [], [], [], [], [], [], [], [], [], [], [], [], [], [], [], [], [], [], [], [], []]))
  refine rn_iinc (w := (1 : Int32)) dX2_init_88 rfl (by decide) rfl (Nat.le_of_ble_eq_true rfl) (fun zy ze => ?_)
  obtain rfl : zy = (21 : Int32) := ze.trans (by decide)
  show Rn _ _ _ _ _ _ _ _ [some (rf E 22), some (rf E 5), some (rf E 11), some (.int 21)] _ _ _
  refine rn_goto (tgt := 56) dX2_init_91 (by decide) ?_
  refine rn_iload_n dX2_init_56 rfl ?_
  refine rn_bipush (x := (24 : Int32)) dX2_init_57 (by decide) ?_
  refine rn_icmp_ge (tgt := 94) dX2_init_59 (by decide) (fun q => absurd q (by decide)) (fun _ => ?_)
  refine rn_aload_n dX2_init_62 rfl ?_
  refine rt_get (i := 0) (w := rf E 24) hB rfl flRX2_18 rfl (by decide) rfl dX2_init_63 ?_
  refine rn_iload_n dX2_init_66 rfl ?_
  refine rt_new (n := 69) (ci := 6) (N := 6) (l := []) RX6 TX6 tyX6 rfl (by decide) inX6 tyX6_ok clRX2_9 ins6 ini6 rfl (by intro j hj; revert j; decide +kernel) (by decide) ⟨Nat.le_of_ble_eq_true rfl, Nat.le_of_ble_eq_true rfl⟩ dX2_init_67 (by simp [hB]) ?_
  rw [List.append_assoc]
  show Rn _ _ _ _ _ _ _ _ _ _ _ (tb (B ++ [[rf E 5, rf E 11, rf E 23, rf E 24, rf E 25, .int 0, rf E 26], [], [rf E 27, rf E 29, rf E 31, rf E 33, rf E 35, rf E 37, rf E 39, rf E 41, rf E 43, rf E 45, rf E 47, rf E 49, rf E 51, rf E 53, rf E 55, rf E 57, rf E 59, rf E 61, rf E 63, rf E 65, rf E 67, .int 0, .int 0, .int 0], [rf E 28, rf E 30, rf E 32, rf E 34, rf E 36, rf E 38, rf E 40, rf E 42, rf E 44, rf E 46, rf E 48, rf E 50, rf E 52, rf E 54, rf E 56, rf E 58, rf E 60, rf E 62, rf E 64, rf E 66, rf E 68, .int 0, .int 0, .int 0], [], [], [], [], [], [], [], [], [], [], [], [], [], [], [], [], [], [], [], [], [], [], [], [], [], [], [], [], [], [], [], [], [], [], [], [], [], [], [], [], [], [], [], []]))
  refine rn_dup dX2_init_70 rfl ?_
  refine rn_callIN (mc2 := 0) (ms2 := 0) (c0 := 69) (As := []) (st := [rf E 69, .int 21, rf E 24]) mlRX2_11 rfl mdX6_init (Nat.le_of_ble_eq_true rfl) rfl rfl (Nat.le_of_ble_eq_true rfl) (by decide) ⟨Nat.le_of_ble_eq_true rfl, Nat.le_of_ble_eq_true rfl⟩ dX2_init_71 (ciX6_init (by decide) ?_)
  show Rn _ _ _ _ _ _ _ _ _ [rf E 69, .int 21, rf E 24] _ _
  refine rt_aast (i := 2) (j := 21) (t := 102) (ci := 6) (r := vwCl.getD 6 ("", TX0, 0)) hB rfl rfl (by decide) (by decide) rfl (by decide) rfl (by decide) rfl (by decide) dX2_init_74 (Nat.le_of_ble_eq_true rfl) (Nat.le_of_ble_eq_true rfl) ?_
  show Rn _ _ _ _ _ _ _ _ _ _ _ (tb (B ++ [[rf E 5, rf E 11, rf E 23, rf E 24, rf E 25, .int 0, rf E 26], [], [rf E 27, rf E 29, rf E 31, rf E 33, rf E 35, rf E 37, rf E 39, rf E 41, rf E 43, rf E 45, rf E 47, rf E 49, rf E 51, rf E 53, rf E 55, rf E 57, rf E 59, rf E 61, rf E 63, rf E 65, rf E 67, rf E 69, .int 0, .int 0], [rf E 28, rf E 30, rf E 32, rf E 34, rf E 36, rf E 38, rf E 40, rf E 42, rf E 44, rf E 46, rf E 48, rf E 50, rf E 52, rf E 54, rf E 56, rf E 58, rf E 60, rf E 62, rf E 64, rf E 66, rf E 68, .int 0, .int 0, .int 0], [], [], [], [], [], [], [], [], [], [], [], [], [], [], [], [], [], [], [], [], [], [], [], [], [], [], [], [], [], [], [], [], [], [], [], [], [], [], [], [], [], [], [], []]))
  refine rn_aload_n dX2_init_75 rfl ?_
  refine rt_get (i := 0) (w := rf E 25) hB rfl flRX2_22 rfl (by decide) rfl dX2_init_76 ?_
  refine rn_iload_n dX2_init_79 rfl ?_
  refine rt_new (n := 70) (ci := 6) (N := 6) (l := []) RX6 TX6 tyX6 rfl (by decide) inX6 tyX6_ok clRX2_9 ins6 ini6 rfl (by intro j hj; revert j; decide +kernel) (by decide) ⟨Nat.le_of_ble_eq_true rfl, Nat.le_of_ble_eq_true rfl⟩ dX2_init_80 (by simp [hB]) ?_
  rw [List.append_assoc]
  show Rn _ _ _ _ _ _ _ _ _ _ _ (tb (B ++ [[rf E 5, rf E 11, rf E 23, rf E 24, rf E 25, .int 0, rf E 26], [], [rf E 27, rf E 29, rf E 31, rf E 33, rf E 35, rf E 37, rf E 39, rf E 41, rf E 43, rf E 45, rf E 47, rf E 49, rf E 51, rf E 53, rf E 55, rf E 57, rf E 59, rf E 61, rf E 63, rf E 65, rf E 67, rf E 69, .int 0, .int 0], [rf E 28, rf E 30, rf E 32, rf E 34, rf E 36, rf E 38, rf E 40, rf E 42, rf E 44, rf E 46, rf E 48, rf E 50, rf E 52, rf E 54, rf E 56, rf E 58, rf E 60, rf E 62, rf E 64, rf E 66, rf E 68, .int 0, .int 0, .int 0], [], [], [], [], [], [], [], [], [], [], [], [], [], [], [], [], [], [], [], [], [], [], [], [], [], [], [], [], [], [], [], [], [], [], [], [], [], [], [], [], [], [], [], [], []]))
  refine rn_dup dX2_init_83 rfl ?_
  refine rn_callIN (mc2 := 0) (ms2 := 0) (c0 := 70) (As := []) (st := [rf E 70, .int 21, rf E 25]) mlRX2_11 rfl mdX6_init (Nat.le_of_ble_eq_true rfl) rfl rfl (Nat.le_of_ble_eq_true rfl) (by decide) ⟨Nat.le_of_ble_eq_true rfl, Nat.le_of_ble_eq_true rfl⟩ dX2_init_84 (ciX6_init (by decide) ?_)
  show Rn _ _ _ _ _ _ _ _ _ [rf E 70, .int 21, rf E 25] _ _
  refine rt_aast (i := 3) (j := 21) (t := 102) (ci := 6) (r := vwCl.getD 6 ("", TX0, 0)) hB rfl rfl (by decide) (by decide) rfl (by decide) rfl (by decide) rfl (by decide) dX2_init_87 (Nat.le_of_ble_eq_true rfl) (Nat.le_of_ble_eq_true rfl) ?_
  show Rn _ _ _ _ _ _ _ _ _ _ _ (tb (B ++ [[rf E 5, rf E 11, rf E 23, rf E 24, rf E 25, .int 0, rf E 26], [], [rf E 27, rf E 29, rf E 31, rf E 33, rf E 35, rf E 37, rf E 39, rf E 41, rf E 43, rf E 45, rf E 47, rf E 49, rf E 51, rf E 53, rf E 55, rf E 57, rf E 59, rf E 61, rf E 63, rf E 65, rf E 67, rf E 69, .int 0, .int 0], [rf E 28, rf E 30, rf E 32, rf E 34, rf E 36, rf E 38, rf E 40, rf E 42, rf E 44, rf E 46, rf E 48, rf E 50, rf E 52, rf E 54, rf E 56, rf E 58, rf E 60, rf E 62, rf E 64, rf E 66, rf E 68, rf E 70, .int 0, .int 0], [], [], [], [], [], [], [], [], [], [], [], [], [], [], [], [], [], [], [], [], [], [], [], [], [], [], [], [], [], [], [], [], [], [], [], [], [], [], [], [], [], [], [], [], []]))
  refine rn_iinc (w := (1 : Int32)) dX2_init_88 rfl (by decide) rfl (Nat.le_of_ble_eq_true rfl) (fun zy ze => ?_)
  obtain rfl : zy = (22 : Int32) := ze.trans (by decide)
  show Rn _ _ _ _ _ _ _ _ [some (rf E 22), some (rf E 5), some (rf E 11), some (.int 22)] _ _ _
  refine rn_goto (tgt := 56) dX2_init_91 (by decide) ?_
  refine rn_iload_n dX2_init_56 rfl ?_
  refine rn_bipush (x := (24 : Int32)) dX2_init_57 (by decide) ?_
  refine rn_icmp_ge (tgt := 94) dX2_init_59 (by decide) (fun q => absurd q (by decide)) (fun _ => ?_)
  refine rn_aload_n dX2_init_62 rfl ?_
  refine rt_get (i := 0) (w := rf E 24) hB rfl flRX2_18 rfl (by decide) rfl dX2_init_63 ?_
  refine rn_iload_n dX2_init_66 rfl ?_
  refine rt_new (n := 71) (ci := 6) (N := 6) (l := []) RX6 TX6 tyX6 rfl (by decide) inX6 tyX6_ok clRX2_9 ins6 ini6 rfl (by intro j hj; revert j; decide +kernel) (by decide) ⟨Nat.le_of_ble_eq_true rfl, Nat.le_of_ble_eq_true rfl⟩ dX2_init_67 (by simp [hB]) ?_
  rw [List.append_assoc]
  show Rn _ _ _ _ _ _ _ _ _ _ _ (tb (B ++ [[rf E 5, rf E 11, rf E 23, rf E 24, rf E 25, .int 0, rf E 26], [], [rf E 27, rf E 29, rf E 31, rf E 33, rf E 35, rf E 37, rf E 39, rf E 41, rf E 43, rf E 45, rf E 47, rf E 49, rf E 51, rf E 53, rf E 55, rf E 57, rf E 59, rf E 61, rf E 63, rf E 65, rf E 67, rf E 69, .int 0, .int 0], [rf E 28, rf E 30, rf E 32, rf E 34, rf E 36, rf E 38, rf E 40, rf E 42, rf E 44, rf E 46, rf E 48, rf E 50, rf E 52, rf E 54, rf E 56, rf E 58, rf E 60, rf E 62, rf E 64, rf E 66, rf E 68, rf E 70, .int 0, .int 0], [], [], [], [], [], [], [], [], [], [], [], [], [], [], [], [], [], [], [], [], [], [], [], [], [], [], [], [], [], [], [], [], [], [], [], [], [], [], [], [], [], [], [], [], [], []]))
  refine rn_dup dX2_init_70 rfl ?_
  refine rn_callIN (mc2 := 0) (ms2 := 0) (c0 := 71) (As := []) (st := [rf E 71, .int 22, rf E 24]) mlRX2_11 rfl mdX6_init (Nat.le_of_ble_eq_true rfl) rfl rfl (Nat.le_of_ble_eq_true rfl) (by decide) ⟨Nat.le_of_ble_eq_true rfl, Nat.le_of_ble_eq_true rfl⟩ dX2_init_71 (ciX6_init (by decide) ?_)
  show Rn _ _ _ _ _ _ _ _ _ [rf E 71, .int 22, rf E 24] _ _
  refine rt_aast (i := 2) (j := 22) (t := 102) (ci := 6) (r := vwCl.getD 6 ("", TX0, 0)) hB rfl rfl (by decide) (by decide) rfl (by decide) rfl (by decide) rfl (by decide) dX2_init_74 (Nat.le_of_ble_eq_true rfl) (Nat.le_of_ble_eq_true rfl) ?_
  show Rn _ _ _ _ _ _ _ _ _ _ _ (tb (B ++ [[rf E 5, rf E 11, rf E 23, rf E 24, rf E 25, .int 0, rf E 26], [], [rf E 27, rf E 29, rf E 31, rf E 33, rf E 35, rf E 37, rf E 39, rf E 41, rf E 43, rf E 45, rf E 47, rf E 49, rf E 51, rf E 53, rf E 55, rf E 57, rf E 59, rf E 61, rf E 63, rf E 65, rf E 67, rf E 69, rf E 71, .int 0], [rf E 28, rf E 30, rf E 32, rf E 34, rf E 36, rf E 38, rf E 40, rf E 42, rf E 44, rf E 46, rf E 48, rf E 50, rf E 52, rf E 54, rf E 56, rf E 58, rf E 60, rf E 62, rf E 64, rf E 66, rf E 68, rf E 70, .int 0, .int 0], [], [], [], [], [], [], [], [], [], [], [], [], [], [], [], [], [], [], [], [], [], [], [], [], [], [], [], [], [], [], [], [], [], [], [], [], [], [], [], [], [], [], [], [], [], []]))
  refine rn_aload_n dX2_init_75 rfl ?_
  refine rt_get (i := 0) (w := rf E 25) hB rfl flRX2_22 rfl (by decide) rfl dX2_init_76 ?_
  refine rn_iload_n dX2_init_79 rfl ?_
  refine rt_new (n := 72) (ci := 6) (N := 6) (l := []) RX6 TX6 tyX6 rfl (by decide) inX6 tyX6_ok clRX2_9 ins6 ini6 rfl (by intro j hj; revert j; decide +kernel) (by decide) ⟨Nat.le_of_ble_eq_true rfl, Nat.le_of_ble_eq_true rfl⟩ dX2_init_80 (by simp [hB]) ?_
  rw [List.append_assoc]
  show Rn _ _ _ _ _ _ _ _ _ _ _ (tb (B ++ [[rf E 5, rf E 11, rf E 23, rf E 24, rf E 25, .int 0, rf E 26], [], [rf E 27, rf E 29, rf E 31, rf E 33, rf E 35, rf E 37, rf E 39, rf E 41, rf E 43, rf E 45, rf E 47, rf E 49, rf E 51, rf E 53, rf E 55, rf E 57, rf E 59, rf E 61, rf E 63, rf E 65, rf E 67, rf E 69, rf E 71, .int 0], [rf E 28, rf E 30, rf E 32, rf E 34, rf E 36, rf E 38, rf E 40, rf E 42, rf E 44, rf E 46, rf E 48, rf E 50, rf E 52, rf E 54, rf E 56, rf E 58, rf E 60, rf E 62, rf E 64, rf E 66, rf E 68, rf E 70, .int 0, .int 0], [], [], [], [], [], [], [], [], [], [], [], [], [], [], [], [], [], [], [], [], [], [], [], [], [], [], [], [], [], [], [], [], [], [], [], [], [], [], [], [], [], [], [], [], [], [], []]))
  refine rn_dup dX2_init_83 rfl ?_
  refine rn_callIN (mc2 := 0) (ms2 := 0) (c0 := 72) (As := []) (st := [rf E 72, .int 22, rf E 25]) mlRX2_11 rfl mdX6_init (Nat.le_of_ble_eq_true rfl) rfl rfl (Nat.le_of_ble_eq_true rfl) (by decide) ⟨Nat.le_of_ble_eq_true rfl, Nat.le_of_ble_eq_true rfl⟩ dX2_init_84 (ciX6_init (by decide) ?_)
  show Rn _ _ _ _ _ _ _ _ _ [rf E 72, .int 22, rf E 25] _ _
  refine rt_aast (i := 3) (j := 22) (t := 102) (ci := 6) (r := vwCl.getD 6 ("", TX0, 0)) hB rfl rfl (by decide) (by decide) rfl (by decide) rfl (by decide) rfl (by decide) dX2_init_87 (Nat.le_of_ble_eq_true rfl) (Nat.le_of_ble_eq_true rfl) ?_
  show Rn _ _ _ _ _ _ _ _ _ _ _ (tb (B ++ [[rf E 5, rf E 11, rf E 23, rf E 24, rf E 25, .int 0, rf E 26], [], [rf E 27, rf E 29, rf E 31, rf E 33, rf E 35, rf E 37, rf E 39, rf E 41, rf E 43, rf E 45, rf E 47, rf E 49, rf E 51, rf E 53, rf E 55, rf E 57, rf E 59, rf E 61, rf E 63, rf E 65, rf E 67, rf E 69, rf E 71, .int 0], [rf E 28, rf E 30, rf E 32, rf E 34, rf E 36, rf E 38, rf E 40, rf E 42, rf E 44, rf E 46, rf E 48, rf E 50, rf E 52, rf E 54, rf E 56, rf E 58, rf E 60, rf E 62, rf E 64, rf E 66, rf E 68, rf E 70, rf E 72, .int 0], [], [], [], [], [], [], [], [], [], [], [], [], [], [], [], [], [], [], [], [], [], [], [], [], [], [], [], [], [], [], [], [], [], [], [], [], [], [], [], [], [], [], [], [], [], [], []]))
  refine rn_iinc (w := (1 : Int32)) dX2_init_88 rfl (by decide) rfl (Nat.le_of_ble_eq_true rfl) (fun zy ze => ?_)
  obtain rfl : zy = (23 : Int32) := ze.trans (by decide)
  show Rn _ _ _ _ _ _ _ _ [some (rf E 22), some (rf E 5), some (rf E 11), some (.int 23)] _ _ _
  refine rn_goto (tgt := 56) dX2_init_91 (by decide) ?_
  refine rn_iload_n dX2_init_56 rfl ?_
  refine rn_bipush (x := (24 : Int32)) dX2_init_57 (by decide) ?_
  refine rn_icmp_ge (tgt := 94) dX2_init_59 (by decide) (fun q => absurd q (by decide)) (fun _ => ?_)
  refine rn_aload_n dX2_init_62 rfl ?_
  refine rt_get (i := 0) (w := rf E 24) hB rfl flRX2_18 rfl (by decide) rfl dX2_init_63 ?_
  refine rn_iload_n dX2_init_66 rfl ?_
  refine rt_new (n := 73) (ci := 6) (N := 6) (l := []) RX6 TX6 tyX6 rfl (by decide) inX6 tyX6_ok clRX2_9 ins6 ini6 rfl (by intro j hj; revert j; decide +kernel) (by decide) ⟨Nat.le_of_ble_eq_true rfl, Nat.le_of_ble_eq_true rfl⟩ dX2_init_67 (by simp [hB]) ?_
  rw [List.append_assoc]
  show Rn _ _ _ _ _ _ _ _ _ _ _ (tb (B ++ [[rf E 5, rf E 11, rf E 23, rf E 24, rf E 25, .int 0, rf E 26], [], [rf E 27, rf E 29, rf E 31, rf E 33, rf E 35, rf E 37, rf E 39, rf E 41, rf E 43, rf E 45, rf E 47, rf E 49, rf E 51, rf E 53, rf E 55, rf E 57, rf E 59, rf E 61, rf E 63, rf E 65, rf E 67, rf E 69, rf E 71, .int 0], [rf E 28, rf E 30, rf E 32, rf E 34, rf E 36, rf E 38, rf E 40, rf E 42, rf E 44, rf E 46, rf E 48, rf E 50, rf E 52, rf E 54, rf E 56, rf E 58, rf E 60, rf E 62, rf E 64, rf E 66, rf E 68, rf E 70, rf E 72, .int 0], [], [], [], [], [], [], [], [], [], [], [], [], [], [], [], [], [], [], [], [], [], [], [], [], [], [], [], [], [], [], [], [], [], [], [], [], [], [], [], [], [], [], [], [], [], [], [], []]))
  refine rn_dup dX2_init_70 rfl ?_
  refine rn_callIN (mc2 := 0) (ms2 := 0) (c0 := 73) (As := []) (st := [rf E 73, .int 23, rf E 24]) mlRX2_11 rfl mdX6_init (Nat.le_of_ble_eq_true rfl) rfl rfl (Nat.le_of_ble_eq_true rfl) (by decide) ⟨Nat.le_of_ble_eq_true rfl, Nat.le_of_ble_eq_true rfl⟩ dX2_init_71 (ciX6_init (by decide) ?_)
  show Rn _ _ _ _ _ _ _ _ _ [rf E 73, .int 23, rf E 24] _ _
  refine rt_aast (i := 2) (j := 23) (t := 102) (ci := 6) (r := vwCl.getD 6 ("", TX0, 0)) hB rfl rfl (by decide) (by decide) rfl (by decide) rfl (by decide) rfl (by decide) dX2_init_74 (Nat.le_of_ble_eq_true rfl) (Nat.le_of_ble_eq_true rfl) ?_
  show Rn _ _ _ _ _ _ _ _ _ _ _ (tb (B ++ [[rf E 5, rf E 11, rf E 23, rf E 24, rf E 25, .int 0, rf E 26], [], [rf E 27, rf E 29, rf E 31, rf E 33, rf E 35, rf E 37, rf E 39, rf E 41, rf E 43, rf E 45, rf E 47, rf E 49, rf E 51, rf E 53, rf E 55, rf E 57, rf E 59, rf E 61, rf E 63, rf E 65, rf E 67, rf E 69, rf E 71, rf E 73], [rf E 28, rf E 30, rf E 32, rf E 34, rf E 36, rf E 38, rf E 40, rf E 42, rf E 44, rf E 46, rf E 48, rf E 50, rf E 52, rf E 54, rf E 56, rf E 58, rf E 60, rf E 62, rf E 64, rf E 66, rf E 68, rf E 70, rf E 72, .int 0], [], [], [], [], [], [], [], [], [], [], [], [], [], [], [], [], [], [], [], [], [], [], [], [], [], [], [], [], [], [], [], [], [], [], [], [], [], [], [], [], [], [], [], [], [], [], [], []]))
  refine rn_aload_n dX2_init_75 rfl ?_
  refine rt_get (i := 0) (w := rf E 25) hB rfl flRX2_22 rfl (by decide) rfl dX2_init_76 ?_
  refine rn_iload_n dX2_init_79 rfl ?_
  refine rt_new (n := 74) (ci := 6) (N := 6) (l := []) RX6 TX6 tyX6 rfl (by decide) inX6 tyX6_ok clRX2_9 ins6 ini6 rfl (by intro j hj; revert j; decide +kernel) (by decide) ⟨Nat.le_of_ble_eq_true rfl, Nat.le_of_ble_eq_true rfl⟩ dX2_init_80 (by simp [hB]) ?_
  rw [List.append_assoc]
  show Rn _ _ _ _ _ _ _ _ _ _ _ (tb (B ++ [[rf E 5, rf E 11, rf E 23, rf E 24, rf E 25, .int 0, rf E 26], [], [rf E 27, rf E 29, rf E 31, rf E 33, rf E 35, rf E 37, rf E 39, rf E 41, rf E 43, rf E 45, rf E 47, rf E 49, rf E 51, rf E 53, rf E 55, rf E 57, rf E 59, rf E 61, rf E 63, rf E 65, rf E 67, rf E 69, rf E 71, rf E 73], [rf E 28, rf E 30, rf E 32, rf E 34, rf E 36, rf E 38, rf E 40, rf E 42, rf E 44, rf E 46, rf E 48, rf E 50, rf E 52, rf E 54, rf E 56, rf E 58, rf E 60, rf E 62, rf E 64, rf E 66, rf E 68, rf E 70, rf E 72, .int 0], [], [], [], [], [], [], [], [], [], [], [], [], [], [], [], [], [], [], [], [], [], [], [], [], [], [], [], [], [], [], [], [], [], [], [], [], [], [], [], [], [], [], [], [], [], [], [], [], []]))
  refine rn_dup dX2_init_83 rfl ?_
  refine rn_callIN (mc2 := 0) (ms2 := 0) (c0 := 74) (As := []) (st := [rf E 74, .int 23, rf E 25]) mlRX2_11 rfl mdX6_init (Nat.le_of_ble_eq_true rfl) rfl rfl (Nat.le_of_ble_eq_true rfl) (by decide) ⟨Nat.le_of_ble_eq_true rfl, Nat.le_of_ble_eq_true rfl⟩ dX2_init_84 (ciX6_init (by decide) ?_)
  show Rn _ _ _ _ _ _ _ _ _ [rf E 74, .int 23, rf E 25] _ _
  refine rt_aast (i := 3) (j := 23) (t := 102) (ci := 6) (r := vwCl.getD 6 ("", TX0, 0)) hB rfl rfl (by decide) (by decide) rfl (by decide) rfl (by decide) rfl (by decide) dX2_init_87 (Nat.le_of_ble_eq_true rfl) (Nat.le_of_ble_eq_true rfl) ?_
  show Rn _ _ _ _ _ _ _ _ _ _ _ (tb (B ++ [[rf E 5, rf E 11, rf E 23, rf E 24, rf E 25, .int 0, rf E 26], [], [rf E 27, rf E 29, rf E 31, rf E 33, rf E 35, rf E 37, rf E 39, rf E 41, rf E 43, rf E 45, rf E 47, rf E 49, rf E 51, rf E 53, rf E 55, rf E 57, rf E 59, rf E 61, rf E 63, rf E 65, rf E 67, rf E 69, rf E 71, rf E 73], [rf E 28, rf E 30, rf E 32, rf E 34, rf E 36, rf E 38, rf E 40, rf E 42, rf E 44, rf E 46, rf E 48, rf E 50, rf E 52, rf E 54, rf E 56, rf E 58, rf E 60, rf E 62, rf E 64, rf E 66, rf E 68, rf E 70, rf E 72, rf E 74], [], [], [], [], [], [], [], [], [], [], [], [], [], [], [], [], [], [], [], [], [], [], [], [], [], [], [], [], [], [], [], [], [], [], [], [], [], [], [], [], [], [], [], [], [], [], [], [], []]))
  refine rn_iinc (w := (1 : Int32)) dX2_init_88 rfl (by decide) rfl (Nat.le_of_ble_eq_true rfl) (fun zy ze => ?_)
  obtain rfl : zy = (24 : Int32) := ze.trans (by decide)
  show Rn _ _ _ _ _ _ _ _ [some (rf E 22), some (rf E 5), some (rf E 11), some (.int 24)] _ _ _
  refine rn_goto (tgt := 56) dX2_init_91 (by decide) ?_
  refine rn_iload_n dX2_init_56 rfl ?_
  refine rn_bipush (x := (24 : Int32)) dX2_init_57 (by decide) ?_
  refine rn_icmp_ge (tgt := 94) dX2_init_59 (by decide) (fun _ => ?_) (fun q => absurd q (by decide))
  exact rn_vret rfl dX2_init_94 rfl (by decide) hq
theorem ciX4_init {E : En} {Q : Option Value → Hp → Prop} {c n : Nat} {h : Hp} (hn : n < 1000) (hq : Q none h) : Ct E mX4_init 0 0 [rf E c] n h Q := by
  refine ct_of (L0 := [some (rf E c)]) (by decide +kernel : plainName RX4 = true) (Nat.le_of_ble_eq_true rfl) rfl ?_
  refine rn_aload_n dX4_init_0 rfl ?_
  refine rn_objInit (c0 := c) mlRX4_3 in_objI in_objC (Nat.le_of_ble_eq_true rfl) dX4_init_1 ?_
  exact rn_vret rfl dX4_init_4 rfl hn hq
set_option maxHeartbeats 4000000 in
set_option maxRecDepth 20000 in
theorem ciX3_init_75 {E : En} {Q : Option Value → Hp → Prop} {T : List (List Value)} (B : List (List Value)) (hB : B.length = 75) (hT : T = B ++ [[.null, .null, .null, .null, .null, .int 0, .int 0, .null, .int 0, .null]])
    (hq : Q none (tb (B ++ [[rf E 5, rf E 11, rf E 22, rf E 76, rf E 77, .int (-1), .int (-1), rf E 78, .int 0, rf E 79], [], [], [rf E 80, rf E 81, rf E 82, rf E 83, rf E 84, rf E 85], [], [], [], [], [], [], []]))) :
    Ct E mX3_init 10 72 [rf E 75, rf E 5, rf E 11, rf E 22] 76 (tb T) Q := by
  subst hT
  refine ct_of (L0 := [some (rf E 75), some (rf E 5), some (rf E 11), some (rf E 22), none]) (by decide +kernel : plainName RX3 = true) (Nat.le_of_ble_eq_true rfl) rfl ?_
  refine rn_aload_n dX3_init_0 rfl ?_
  refine rn_objInit (c0 := 75) mlRX3_3 in_objI in_objC (Nat.le_of_ble_eq_true rfl) dX3_init_1 ?_
  refine rn_aload_n dX3_init_4 rfl ?_
  refine rt_new (n := 76) (ci := 4) (N := 3) (l := []) RX4 TX4 tyX4 rfl (by decide) inX4 tyX4_ok clRX3_9 ins4 ini4 rfl (by intro j hj; revert j; decide +kernel) (by decide) ⟨Nat.le_of_ble_eq_true rfl, Nat.le_of_ble_eq_true rfl⟩ dX3_init_5 (by simp [hB]) ?_
  rw [List.append_assoc]
  show Rn _ _ _ _ _ _ _ _ _ _ _ (tb (B ++ [[.null, .null, .null, .null, .null, .int 0, .int 0, .null, .int 0, .null], []]))
  refine rn_dup dX3_init_8 rfl ?_
  refine rn_callIN (mc2 := 0) (ms2 := 0) (c0 := 76) (As := []) (st := [rf E 76, rf E 75]) mlRX3_11 rfl mdX4_init (Nat.le_of_ble_eq_true rfl) rfl rfl (Nat.le_of_ble_eq_true rfl) (by decide) ⟨Nat.le_of_ble_eq_true rfl, Nat.le_of_ble_eq_true rfl⟩ dX3_init_9 (ciX4_init (by decide) ?_)
  show Rn _ _ _ _ _ _ _ _ _ [rf E 76, rf E 75] _ _
  refine rt_putF (i := 0) (ty := (.object "SharedPockets$Row")) hB rfl flRX3_12 rfl (by decide) rfl rfl (by decide +kernel) rfl rfl dX3_init_12 (Nat.le_of_ble_eq_true rfl) (Nat.le_of_ble_eq_true rfl) ?_
  show Rn _ _ _ _ _ _ _ _ _ _ _ (tb (B ++ [[.null, .null, .null, rf E 76, .null, .int 0, .int 0, .null, .int 0, .null], []]))
  refine rn_aload_n dX3_init_15 rfl ?_
  refine rt_new (n := 77) (ci := 4) (N := 3) (l := []) RX4 TX4 tyX4 rfl (by decide) inX4 tyX4_ok clRX3_9 ins4 ini4 rfl (by intro j hj; revert j; decide +kernel) (by decide) ⟨Nat.le_of_ble_eq_true rfl, Nat.le_of_ble_eq_true rfl⟩ dX3_init_16 (by simp [hB]) ?_
  rw [List.append_assoc]
  show Rn _ _ _ _ _ _ _ _ _ _ _ (tb (B ++ [[.null, .null, .null, rf E 76, .null, .int 0, .int 0, .null, .int 0, .null], [], []]))
  refine rn_dup dX3_init_19 rfl ?_
  refine rn_callIN (mc2 := 0) (ms2 := 0) (c0 := 77) (As := []) (st := [rf E 77, rf E 75]) mlRX3_11 rfl mdX4_init (Nat.le_of_ble_eq_true rfl) rfl rfl (Nat.le_of_ble_eq_true rfl) (by decide) ⟨Nat.le_of_ble_eq_true rfl, Nat.le_of_ble_eq_true rfl⟩ dX3_init_20 (ciX4_init (by decide) ?_)
  show Rn _ _ _ _ _ _ _ _ _ [rf E 77, rf E 75] _ _
  refine rt_putF (i := 0) (ty := (.object "SharedPockets$Row")) hB rfl flRX3_18 rfl (by decide) rfl rfl (by decide +kernel) rfl rfl dX3_init_23 (Nat.le_of_ble_eq_true rfl) (Nat.le_of_ble_eq_true rfl) ?_
  show Rn _ _ _ _ _ _ _ _ _ _ _ (tb (B ++ [[.null, .null, .null, rf E 76, rf E 77, .int 0, .int 0, .null, .int 0, .null], [], []]))
  refine rn_aload_n dX3_init_26 rfl ?_
  refine rn_iconst (x := (-1 : Int32)) dX3_init_27 (by decide) ?_
  refine rt_put (i := 0) (ty := .int) hB rfl flRX3_21 rfl (by decide) (by decide +kernel) rfl rfl dX3_init_28 (Nat.le_of_ble_eq_true rfl) (Nat.le_of_ble_eq_true rfl) ?_
  show Rn _ _ _ _ _ _ _ _ _ _ _ (tb (B ++ [[.null, .null, .null, rf E 76, rf E 77, .int (-1), .int 0, .null, .int 0, .null], [], []]))
  refine rn_aload_n dX3_init_31 rfl ?_
  refine rn_iconst (x := (-1 : Int32)) dX3_init_32 (by decide) ?_
  refine rt_put (i := 0) (ty := .int) hB rfl flRX3_25 rfl (by decide) (by decide +kernel) rfl rfl dX3_init_33 (Nat.le_of_ble_eq_true rfl) (Nat.le_of_ble_eq_true rfl) ?_
  show Rn _ _ _ _ _ _ _ _ _ _ _ (tb (B ++ [[.null, .null, .null, rf E 76, rf E 77, .int (-1), .int (-1), .null, .int 0, .null], [], []]))
  refine rn_aload_n dX3_init_36 rfl ?_
  refine rn_bipush (x := (6 : Int32)) dX3_init_37 (by decide) ?_
  refine rt_newq (n := 78) (t := 102) (N := 6) (C0 := RX6) (by decide) rfl clRX3_28 (Or.inl rfl) (by decide) (by decide) (by decide) rfl (by decide) ⟨Nat.le_of_ble_eq_true rfl, Nat.le_of_ble_eq_true rfl⟩ dX3_init_39 (by simp [hB]) ?_
  rw [List.append_assoc]
  show Rn _ _ _ _ _ _ _ _ _ _ _ (tb (B ++ [[.null, .null, .null, rf E 76, rf E 77, .int (-1), .int (-1), .null, .int 0, .null], [], [], [.int 0, .int 0, .int 0, .int 0, .int 0, .int 0]]))
  refine rt_putF (i := 0) (ty := (.array (.object "SharedPockets$State"))) hB rfl flRX3_30 rfl (by decide) rfl rfl (by decide +kernel) rfl rfl dX3_init_42 (Nat.le_of_ble_eq_true rfl) (Nat.le_of_ble_eq_true rfl) ?_
  show Rn _ _ _ _ _ _ _ _ _ _ _ (tb (B ++ [[.null, .null, .null, rf E 76, rf E 77, .int (-1), .int (-1), rf E 78, .int 0, .null], [], [], [.int 0, .int 0, .int 0, .int 0, .int 0, .int 0]]))
  refine rn_aload_n dX3_init_45 rfl ?_
  refine rn_bipush (x := (24 : Int32)) dX3_init_46 (by decide) ?_
  refine rt_newa (n := 79) (t := 100) (N := 24) (atype := .int) (ty := .int) rfl in_aI (by decide) rfl (by intro C h; cases h) rfl (by decide) (by decide) (by decide) rfl (by decide) ⟨Nat.le_of_ble_eq_true rfl, Nat.le_of_ble_eq_true rfl⟩ dX3_init_48 (by simp [hB]) ?_
  rw [List.append_assoc]
  show Rn _ _ _ _ _ _ _ _ _ _ _ (tb (B ++ [[.null, .null, .null, rf E 76, rf E 77, .int (-1), .int (-1), rf E 78, .int 0, .null], [], [], [.int 0, .int 0, .int 0, .int 0, .int 0, .int 0], []]))
  refine rt_putF (i := 0) (ty := (.array .int)) hB rfl flRX3_34 rfl (by decide) rfl rfl (by decide +kernel) rfl rfl dX3_init_50 (Nat.le_of_ble_eq_true rfl) (Nat.le_of_ble_eq_true rfl) ?_
  show Rn _ _ _ _ _ _ _ _ _ _ _ (tb (B ++ [[.null, .null, .null, rf E 76, rf E 77, .int (-1), .int (-1), rf E 78, .int 0, rf E 79], [], [], [.int 0, .int 0, .int 0, .int 0, .int 0, .int 0], []]))
  refine rn_aload_n dX3_init_53 rfl ?_
  refine rn_aload_n dX3_init_54 rfl ?_
  refine rt_putF (i := 0) (ty := (.object "SharedPockets$Family")) hB rfl flRX3_38 rfl (by decide) rfl rfl (by decide +kernel) rfl rfl dX3_init_55 (Nat.le_of_ble_eq_true rfl) (Nat.le_of_ble_eq_true rfl) ?_
  show Rn _ _ _ _ _ _ _ _ _ _ _ (tb (B ++ [[rf E 5, .null, .null, rf E 76, rf E 77, .int (-1), .int (-1), rf E 78, .int 0, rf E 79], [], [], [.int 0, .int 0, .int 0, .int 0, .int 0, .int 0], []]))
  refine rn_aload_n dX3_init_58 rfl ?_
  refine rn_aload_n dX3_init_59 rfl ?_
  refine rt_putF (i := 0) (ty := (.object "SharedPockets$Told")) hB rfl flRX3_42 rfl (by decide) rfl rfl (by decide +kernel) rfl rfl dX3_init_60 (Nat.le_of_ble_eq_true rfl) (Nat.le_of_ble_eq_true rfl) ?_
  show Rn _ _ _ _ _ _ _ _ _ _ _ (tb (B ++ [[rf E 5, rf E 11, .null, rf E 76, rf E 77, .int (-1), .int (-1), rf E 78, .int 0, rf E 79], [], [], [.int 0, .int 0, .int 0, .int 0, .int 0, .int 0], []]))
  refine rn_aload_n dX3_init_63 rfl ?_
  refine rn_aload_n dX3_init_64 rfl ?_
  refine rt_putF (i := 0) (ty := (.object "SharedPockets$Hours")) hB rfl flRX3_46 rfl (by decide) rfl rfl (by decide +kernel) rfl rfl dX3_init_65 (Nat.le_of_ble_eq_true rfl) (Nat.le_of_ble_eq_true rfl) ?_
  show Rn _ _ _ _ _ _ _ _ _ _ _ (tb (B ++ [[rf E 5, rf E 11, rf E 22, rf E 76, rf E 77, .int (-1), .int (-1), rf E 78, .int 0, rf E 79], [], [], [.int 0, .int 0, .int 0, .int 0, .int 0, .int 0], []]))
  refine rn_iconst (x := (0 : Int32)) dX3_init_68 (by decide) ?_
  refine ra_istore dX3_init_69 rfl (Nat.le_of_ble_eq_true rfl) ?_
  show Rn _ _ _ _ _ _ _ _ [some (rf E 75), some (rf E 5), some (rf E 11), some (rf E 22), some (.int 0)] _ _ _
  refine rn_iload dX3_init_71 rfl ?_
  refine rn_aload_n dX3_init_73 rfl ?_
  refine rt_get (i := 0) (w := rf E 78) hB rfl flRX3_30 rfl (by decide) rfl dX3_init_74 ?_
  refine rn_alen (ty := .object RX6) (x := (6 : Int32)) rfl (by decide) (by decide) rfl (by decide) dX3_init_77 ?_
  refine rn_icmp_ge (tgt := 101) dX3_init_78 (by decide) (fun q => absurd q (by decide)) (fun _ => ?_)
  refine rn_aload_n dX3_init_81 rfl ?_
  refine rt_get (i := 0) (w := rf E 78) hB rfl flRX3_30 rfl (by decide) rfl dX3_init_82 ?_
  refine rn_iload dX3_init_85 rfl ?_
  refine rt_new (n := 80) (ci := 6) (N := 6) (l := []) RX6 TX6 tyX6 rfl (by decide) inX6 tyX6_ok clRX3_28 ins6 ini6 rfl (by intro j hj; revert j; decide +kernel) (by decide) ⟨Nat.le_of_ble_eq_true rfl, Nat.le_of_ble_eq_true rfl⟩ dX3_init_87 (by simp [hB]) ?_
  rw [List.append_assoc]
  show Rn _ _ _ _ _ _ _ _ _ _ _ (tb (B ++ [[rf E 5, rf E 11, rf E 22, rf E 76, rf E 77, .int (-1), .int (-1), rf E 78, .int 0, rf E 79], [], [], [.int 0, .int 0, .int 0, .int 0, .int 0, .int 0], [], []]))
  refine rn_dup dX3_init_90 rfl ?_
  refine rn_callIN (mc2 := 0) (ms2 := 0) (c0 := 80) (As := []) (st := [rf E 80, .int 0, rf E 78]) mlRX3_50 rfl mdX6_init (Nat.le_of_ble_eq_true rfl) rfl rfl (Nat.le_of_ble_eq_true rfl) (by decide) ⟨Nat.le_of_ble_eq_true rfl, Nat.le_of_ble_eq_true rfl⟩ dX3_init_91 (ciX6_init (by decide) ?_)
  show Rn _ _ _ _ _ _ _ _ _ [rf E 80, .int 0, rf E 78] _ _
  refine rt_aast (i := 3) (j := 0) (t := 102) (ci := 6) (r := vwCl.getD 6 ("", TX0, 0)) hB rfl rfl (by decide) (by decide) rfl (by decide) rfl (by decide) rfl (by decide) dX3_init_94 (Nat.le_of_ble_eq_true rfl) (Nat.le_of_ble_eq_true rfl) ?_
  show Rn _ _ _ _ _ _ _ _ _ _ _ (tb (B ++ [[rf E 5, rf E 11, rf E 22, rf E 76, rf E 77, .int (-1), .int (-1), rf E 78, .int 0, rf E 79], [], [], [rf E 80, .int 0, .int 0, .int 0, .int 0, .int 0], [], []]))
  refine rn_iinc (w := (1 : Int32)) dX3_init_95 rfl (by decide) rfl (Nat.le_of_ble_eq_true rfl) (fun zy ze => ?_)
  obtain rfl : zy = (1 : Int32) := ze.trans (by decide)
  show Rn _ _ _ _ _ _ _ _ [some (rf E 75), some (rf E 5), some (rf E 11), some (rf E 22), some (.int 1)] _ _ _
  refine rn_goto (tgt := 71) dX3_init_98 (by decide) ?_
  refine rn_iload dX3_init_71 rfl ?_
  refine rn_aload_n dX3_init_73 rfl ?_
  refine rt_get (i := 0) (w := rf E 78) hB rfl flRX3_30 rfl (by decide) rfl dX3_init_74 ?_
  refine rn_alen (ty := .object RX6) (x := (6 : Int32)) rfl (by decide) (by decide) rfl (by decide) dX3_init_77 ?_
  refine rn_icmp_ge (tgt := 101) dX3_init_78 (by decide) (fun q => absurd q (by decide)) (fun _ => ?_)
  refine rn_aload_n dX3_init_81 rfl ?_
  refine rt_get (i := 0) (w := rf E 78) hB rfl flRX3_30 rfl (by decide) rfl dX3_init_82 ?_
  refine rn_iload dX3_init_85 rfl ?_
  refine rt_new (n := 81) (ci := 6) (N := 6) (l := []) RX6 TX6 tyX6 rfl (by decide) inX6 tyX6_ok clRX3_28 ins6 ini6 rfl (by intro j hj; revert j; decide +kernel) (by decide) ⟨Nat.le_of_ble_eq_true rfl, Nat.le_of_ble_eq_true rfl⟩ dX3_init_87 (by simp [hB]) ?_
  rw [List.append_assoc]
  show Rn _ _ _ _ _ _ _ _ _ _ _ (tb (B ++ [[rf E 5, rf E 11, rf E 22, rf E 76, rf E 77, .int (-1), .int (-1), rf E 78, .int 0, rf E 79], [], [], [rf E 80, .int 0, .int 0, .int 0, .int 0, .int 0], [], [], []]))
  refine rn_dup dX3_init_90 rfl ?_
  refine rn_callIN (mc2 := 0) (ms2 := 0) (c0 := 81) (As := []) (st := [rf E 81, .int 1, rf E 78]) mlRX3_50 rfl mdX6_init (Nat.le_of_ble_eq_true rfl) rfl rfl (Nat.le_of_ble_eq_true rfl) (by decide) ⟨Nat.le_of_ble_eq_true rfl, Nat.le_of_ble_eq_true rfl⟩ dX3_init_91 (ciX6_init (by decide) ?_)
  show Rn _ _ _ _ _ _ _ _ _ [rf E 81, .int 1, rf E 78] _ _
  refine rt_aast (i := 3) (j := 1) (t := 102) (ci := 6) (r := vwCl.getD 6 ("", TX0, 0)) hB rfl rfl (by decide) (by decide) rfl (by decide) rfl (by decide) rfl (by decide) dX3_init_94 (Nat.le_of_ble_eq_true rfl) (Nat.le_of_ble_eq_true rfl) ?_
  show Rn _ _ _ _ _ _ _ _ _ _ _ (tb (B ++ [[rf E 5, rf E 11, rf E 22, rf E 76, rf E 77, .int (-1), .int (-1), rf E 78, .int 0, rf E 79], [], [], [rf E 80, rf E 81, .int 0, .int 0, .int 0, .int 0], [], [], []]))
  refine rn_iinc (w := (1 : Int32)) dX3_init_95 rfl (by decide) rfl (Nat.le_of_ble_eq_true rfl) (fun zy ze => ?_)
  obtain rfl : zy = (2 : Int32) := ze.trans (by decide)
  show Rn _ _ _ _ _ _ _ _ [some (rf E 75), some (rf E 5), some (rf E 11), some (rf E 22), some (.int 2)] _ _ _
  refine rn_goto (tgt := 71) dX3_init_98 (by decide) ?_
  refine rn_iload dX3_init_71 rfl ?_
  refine rn_aload_n dX3_init_73 rfl ?_
  refine rt_get (i := 0) (w := rf E 78) hB rfl flRX3_30 rfl (by decide) rfl dX3_init_74 ?_
  refine rn_alen (ty := .object RX6) (x := (6 : Int32)) rfl (by decide) (by decide) rfl (by decide) dX3_init_77 ?_
  refine rn_icmp_ge (tgt := 101) dX3_init_78 (by decide) (fun q => absurd q (by decide)) (fun _ => ?_)
  refine rn_aload_n dX3_init_81 rfl ?_
  refine rt_get (i := 0) (w := rf E 78) hB rfl flRX3_30 rfl (by decide) rfl dX3_init_82 ?_
  refine rn_iload dX3_init_85 rfl ?_
  refine rt_new (n := 82) (ci := 6) (N := 6) (l := []) RX6 TX6 tyX6 rfl (by decide) inX6 tyX6_ok clRX3_28 ins6 ini6 rfl (by intro j hj; revert j; decide +kernel) (by decide) ⟨Nat.le_of_ble_eq_true rfl, Nat.le_of_ble_eq_true rfl⟩ dX3_init_87 (by simp [hB]) ?_
  rw [List.append_assoc]
  show Rn _ _ _ _ _ _ _ _ _ _ _ (tb (B ++ [[rf E 5, rf E 11, rf E 22, rf E 76, rf E 77, .int (-1), .int (-1), rf E 78, .int 0, rf E 79], [], [], [rf E 80, rf E 81, .int 0, .int 0, .int 0, .int 0], [], [], [], []]))
  refine rn_dup dX3_init_90 rfl ?_
  refine rn_callIN (mc2 := 0) (ms2 := 0) (c0 := 82) (As := []) (st := [rf E 82, .int 2, rf E 78]) mlRX3_50 rfl mdX6_init (Nat.le_of_ble_eq_true rfl) rfl rfl (Nat.le_of_ble_eq_true rfl) (by decide) ⟨Nat.le_of_ble_eq_true rfl, Nat.le_of_ble_eq_true rfl⟩ dX3_init_91 (ciX6_init (by decide) ?_)
  show Rn _ _ _ _ _ _ _ _ _ [rf E 82, .int 2, rf E 78] _ _
  refine rt_aast (i := 3) (j := 2) (t := 102) (ci := 6) (r := vwCl.getD 6 ("", TX0, 0)) hB rfl rfl (by decide) (by decide) rfl (by decide) rfl (by decide) rfl (by decide) dX3_init_94 (Nat.le_of_ble_eq_true rfl) (Nat.le_of_ble_eq_true rfl) ?_
  show Rn _ _ _ _ _ _ _ _ _ _ _ (tb (B ++ [[rf E 5, rf E 11, rf E 22, rf E 76, rf E 77, .int (-1), .int (-1), rf E 78, .int 0, rf E 79], [], [], [rf E 80, rf E 81, rf E 82, .int 0, .int 0, .int 0], [], [], [], []]))
  refine rn_iinc (w := (1 : Int32)) dX3_init_95 rfl (by decide) rfl (Nat.le_of_ble_eq_true rfl) (fun zy ze => ?_)
  obtain rfl : zy = (3 : Int32) := ze.trans (by decide)
  show Rn _ _ _ _ _ _ _ _ [some (rf E 75), some (rf E 5), some (rf E 11), some (rf E 22), some (.int 3)] _ _ _
  refine rn_goto (tgt := 71) dX3_init_98 (by decide) ?_
  refine rn_iload dX3_init_71 rfl ?_
  refine rn_aload_n dX3_init_73 rfl ?_
  refine rt_get (i := 0) (w := rf E 78) hB rfl flRX3_30 rfl (by decide) rfl dX3_init_74 ?_
  refine rn_alen (ty := .object RX6) (x := (6 : Int32)) rfl (by decide) (by decide) rfl (by decide) dX3_init_77 ?_
  refine rn_icmp_ge (tgt := 101) dX3_init_78 (by decide) (fun q => absurd q (by decide)) (fun _ => ?_)
  refine rn_aload_n dX3_init_81 rfl ?_
  refine rt_get (i := 0) (w := rf E 78) hB rfl flRX3_30 rfl (by decide) rfl dX3_init_82 ?_
  refine rn_iload dX3_init_85 rfl ?_
  refine rt_new (n := 83) (ci := 6) (N := 6) (l := []) RX6 TX6 tyX6 rfl (by decide) inX6 tyX6_ok clRX3_28 ins6 ini6 rfl (by intro j hj; revert j; decide +kernel) (by decide) ⟨Nat.le_of_ble_eq_true rfl, Nat.le_of_ble_eq_true rfl⟩ dX3_init_87 (by simp [hB]) ?_
  rw [List.append_assoc]
  show Rn _ _ _ _ _ _ _ _ _ _ _ (tb (B ++ [[rf E 5, rf E 11, rf E 22, rf E 76, rf E 77, .int (-1), .int (-1), rf E 78, .int 0, rf E 79], [], [], [rf E 80, rf E 81, rf E 82, .int 0, .int 0, .int 0], [], [], [], [], []]))
  refine rn_dup dX3_init_90 rfl ?_
  refine rn_callIN (mc2 := 0) (ms2 := 0) (c0 := 83) (As := []) (st := [rf E 83, .int 3, rf E 78]) mlRX3_50 rfl mdX6_init (Nat.le_of_ble_eq_true rfl) rfl rfl (Nat.le_of_ble_eq_true rfl) (by decide) ⟨Nat.le_of_ble_eq_true rfl, Nat.le_of_ble_eq_true rfl⟩ dX3_init_91 (ciX6_init (by decide) ?_)
  show Rn _ _ _ _ _ _ _ _ _ [rf E 83, .int 3, rf E 78] _ _
  refine rt_aast (i := 3) (j := 3) (t := 102) (ci := 6) (r := vwCl.getD 6 ("", TX0, 0)) hB rfl rfl (by decide) (by decide) rfl (by decide) rfl (by decide) rfl (by decide) dX3_init_94 (Nat.le_of_ble_eq_true rfl) (Nat.le_of_ble_eq_true rfl) ?_
  show Rn _ _ _ _ _ _ _ _ _ _ _ (tb (B ++ [[rf E 5, rf E 11, rf E 22, rf E 76, rf E 77, .int (-1), .int (-1), rf E 78, .int 0, rf E 79], [], [], [rf E 80, rf E 81, rf E 82, rf E 83, .int 0, .int 0], [], [], [], [], []]))
  refine rn_iinc (w := (1 : Int32)) dX3_init_95 rfl (by decide) rfl (Nat.le_of_ble_eq_true rfl) (fun zy ze => ?_)
  obtain rfl : zy = (4 : Int32) := ze.trans (by decide)
  show Rn _ _ _ _ _ _ _ _ [some (rf E 75), some (rf E 5), some (rf E 11), some (rf E 22), some (.int 4)] _ _ _
  refine rn_goto (tgt := 71) dX3_init_98 (by decide) ?_
  refine rn_iload dX3_init_71 rfl ?_
  refine rn_aload_n dX3_init_73 rfl ?_
  refine rt_get (i := 0) (w := rf E 78) hB rfl flRX3_30 rfl (by decide) rfl dX3_init_74 ?_
  refine rn_alen (ty := .object RX6) (x := (6 : Int32)) rfl (by decide) (by decide) rfl (by decide) dX3_init_77 ?_
  refine rn_icmp_ge (tgt := 101) dX3_init_78 (by decide) (fun q => absurd q (by decide)) (fun _ => ?_)
  refine rn_aload_n dX3_init_81 rfl ?_
  refine rt_get (i := 0) (w := rf E 78) hB rfl flRX3_30 rfl (by decide) rfl dX3_init_82 ?_
  refine rn_iload dX3_init_85 rfl ?_
  refine rt_new (n := 84) (ci := 6) (N := 6) (l := []) RX6 TX6 tyX6 rfl (by decide) inX6 tyX6_ok clRX3_28 ins6 ini6 rfl (by intro j hj; revert j; decide +kernel) (by decide) ⟨Nat.le_of_ble_eq_true rfl, Nat.le_of_ble_eq_true rfl⟩ dX3_init_87 (by simp [hB]) ?_
  rw [List.append_assoc]
  show Rn _ _ _ _ _ _ _ _ _ _ _ (tb (B ++ [[rf E 5, rf E 11, rf E 22, rf E 76, rf E 77, .int (-1), .int (-1), rf E 78, .int 0, rf E 79], [], [], [rf E 80, rf E 81, rf E 82, rf E 83, .int 0, .int 0], [], [], [], [], [], []]))
  refine rn_dup dX3_init_90 rfl ?_
  refine rn_callIN (mc2 := 0) (ms2 := 0) (c0 := 84) (As := []) (st := [rf E 84, .int 4, rf E 78]) mlRX3_50 rfl mdX6_init (Nat.le_of_ble_eq_true rfl) rfl rfl (Nat.le_of_ble_eq_true rfl) (by decide) ⟨Nat.le_of_ble_eq_true rfl, Nat.le_of_ble_eq_true rfl⟩ dX3_init_91 (ciX6_init (by decide) ?_)
  show Rn _ _ _ _ _ _ _ _ _ [rf E 84, .int 4, rf E 78] _ _
  refine rt_aast (i := 3) (j := 4) (t := 102) (ci := 6) (r := vwCl.getD 6 ("", TX0, 0)) hB rfl rfl (by decide) (by decide) rfl (by decide) rfl (by decide) rfl (by decide) dX3_init_94 (Nat.le_of_ble_eq_true rfl) (Nat.le_of_ble_eq_true rfl) ?_
  show Rn _ _ _ _ _ _ _ _ _ _ _ (tb (B ++ [[rf E 5, rf E 11, rf E 22, rf E 76, rf E 77, .int (-1), .int (-1), rf E 78, .int 0, rf E 79], [], [], [rf E 80, rf E 81, rf E 82, rf E 83, rf E 84, .int 0], [], [], [], [], [], []]))
  refine rn_iinc (w := (1 : Int32)) dX3_init_95 rfl (by decide) rfl (Nat.le_of_ble_eq_true rfl) (fun zy ze => ?_)
  obtain rfl : zy = (5 : Int32) := ze.trans (by decide)
  show Rn _ _ _ _ _ _ _ _ [some (rf E 75), some (rf E 5), some (rf E 11), some (rf E 22), some (.int 5)] _ _ _
  refine rn_goto (tgt := 71) dX3_init_98 (by decide) ?_
  refine rn_iload dX3_init_71 rfl ?_
  refine rn_aload_n dX3_init_73 rfl ?_
  refine rt_get (i := 0) (w := rf E 78) hB rfl flRX3_30 rfl (by decide) rfl dX3_init_74 ?_
  refine rn_alen (ty := .object RX6) (x := (6 : Int32)) rfl (by decide) (by decide) rfl (by decide) dX3_init_77 ?_
  refine rn_icmp_ge (tgt := 101) dX3_init_78 (by decide) (fun q => absurd q (by decide)) (fun _ => ?_)
  refine rn_aload_n dX3_init_81 rfl ?_
  refine rt_get (i := 0) (w := rf E 78) hB rfl flRX3_30 rfl (by decide) rfl dX3_init_82 ?_
  refine rn_iload dX3_init_85 rfl ?_
  refine rt_new (n := 85) (ci := 6) (N := 6) (l := []) RX6 TX6 tyX6 rfl (by decide) inX6 tyX6_ok clRX3_28 ins6 ini6 rfl (by intro j hj; revert j; decide +kernel) (by decide) ⟨Nat.le_of_ble_eq_true rfl, Nat.le_of_ble_eq_true rfl⟩ dX3_init_87 (by simp [hB]) ?_
  rw [List.append_assoc]
  show Rn _ _ _ _ _ _ _ _ _ _ _ (tb (B ++ [[rf E 5, rf E 11, rf E 22, rf E 76, rf E 77, .int (-1), .int (-1), rf E 78, .int 0, rf E 79], [], [], [rf E 80, rf E 81, rf E 82, rf E 83, rf E 84, .int 0], [], [], [], [], [], [], []]))
  refine rn_dup dX3_init_90 rfl ?_
  refine rn_callIN (mc2 := 0) (ms2 := 0) (c0 := 85) (As := []) (st := [rf E 85, .int 5, rf E 78]) mlRX3_50 rfl mdX6_init (Nat.le_of_ble_eq_true rfl) rfl rfl (Nat.le_of_ble_eq_true rfl) (by decide) ⟨Nat.le_of_ble_eq_true rfl, Nat.le_of_ble_eq_true rfl⟩ dX3_init_91 (ciX6_init (by decide) ?_)
  show Rn _ _ _ _ _ _ _ _ _ [rf E 85, .int 5, rf E 78] _ _
  refine rt_aast (i := 3) (j := 5) (t := 102) (ci := 6) (r := vwCl.getD 6 ("", TX0, 0)) hB rfl rfl (by decide) (by decide) rfl (by decide) rfl (by decide) rfl (by decide) dX3_init_94 (Nat.le_of_ble_eq_true rfl) (Nat.le_of_ble_eq_true rfl) ?_
  show Rn _ _ _ _ _ _ _ _ _ _ _ (tb (B ++ [[rf E 5, rf E 11, rf E 22, rf E 76, rf E 77, .int (-1), .int (-1), rf E 78, .int 0, rf E 79], [], [], [rf E 80, rf E 81, rf E 82, rf E 83, rf E 84, rf E 85], [], [], [], [], [], [], []]))
  refine rn_iinc (w := (1 : Int32)) dX3_init_95 rfl (by decide) rfl (Nat.le_of_ble_eq_true rfl) (fun zy ze => ?_)
  obtain rfl : zy = (6 : Int32) := ze.trans (by decide)
  show Rn _ _ _ _ _ _ _ _ [some (rf E 75), some (rf E 5), some (rf E 11), some (rf E 22), some (.int 6)] _ _ _
  refine rn_goto (tgt := 71) dX3_init_98 (by decide) ?_
  refine rn_iload dX3_init_71 rfl ?_
  refine rn_aload_n dX3_init_73 rfl ?_
  refine rt_get (i := 0) (w := rf E 78) hB rfl flRX3_30 rfl (by decide) rfl dX3_init_74 ?_
  refine rn_alen (ty := .object RX6) (x := (6 : Int32)) rfl (by decide) (by decide) rfl (by decide) dX3_init_77 ?_
  refine rn_icmp_ge (tgt := 101) dX3_init_78 (by decide) (fun _ => ?_) (fun q => absurd q (by decide))
  exact rn_vret rfl dX3_init_101 rfl (by decide) hq
set_option maxHeartbeats 4000000 in
set_option maxRecDepth 20000 in
theorem ciX1_init_86 {E : En} {Q : Option Value → Hp → Prop} {T : List (List Value)} (B : List (List Value)) (hB : B.length = 86) (hT : T = B ++ [[.null, .null, .null, .null, .null, .null]])
    (hq : Q none (tb (B ++ [[rf E 5, rf E 11, rf E 22, rf E 87, rf E 88, rf E 89], [], [], []]))) :
    Ct E mX1_init 3 54 [rf E 86, rf E 5, rf E 11, rf E 22] 87 (tb T) Q := by
  subst hT
  refine ct_of (L0 := [some (rf E 86), some (rf E 5), some (rf E 11), some (rf E 22)]) (by decide +kernel : plainName RX1 = true) (Nat.le_of_ble_eq_true rfl) rfl ?_
  refine rn_aload_n dX1_init_0 rfl ?_
  refine rn_objInit (c0 := 86) mlRX1_3 in_objI in_objC (Nat.le_of_ble_eq_true rfl) dX1_init_1 ?_
  refine rn_aload_n dX1_init_4 rfl ?_
  refine rt_new (n := 87) (ci := 6) (N := 6) (l := []) RX6 TX6 tyX6 rfl (by decide) inX6 tyX6_ok clRX1_9 ins6 ini6 rfl (by intro j hj; revert j; decide +kernel) (by decide) ⟨Nat.le_of_ble_eq_true rfl, Nat.le_of_ble_eq_true rfl⟩ dX1_init_5 (by simp [hB]) ?_
  rw [List.append_assoc]
  show Rn _ _ _ _ _ _ _ _ _ _ _ (tb (B ++ [[.null, .null, .null, .null, .null, .null], []]))
  refine rn_dup dX1_init_8 rfl ?_
  refine rn_callIN (mc2 := 0) (ms2 := 0) (c0 := 87) (As := []) (st := [rf E 87, rf E 86]) mlRX1_11 rfl mdX6_init (Nat.le_of_ble_eq_true rfl) rfl rfl (Nat.le_of_ble_eq_true rfl) (by decide) ⟨Nat.le_of_ble_eq_true rfl, Nat.le_of_ble_eq_true rfl⟩ dX1_init_9 (ciX6_init (by decide) ?_)
  show Rn _ _ _ _ _ _ _ _ _ [rf E 87, rf E 86] _ _
  refine rt_putF (i := 0) (ty := (.object "SharedPockets$State")) hB rfl flRX1_12 rfl (by decide) rfl rfl (by decide +kernel) rfl rfl dX1_init_12 (Nat.le_of_ble_eq_true rfl) (Nat.le_of_ble_eq_true rfl) ?_
  show Rn _ _ _ _ _ _ _ _ _ _ _ (tb (B ++ [[.null, .null, .null, rf E 87, .null, .null], []]))
  refine rn_aload_n dX1_init_15 rfl ?_
  refine rn_bipush (x := (24 : Int32)) dX1_init_16 (by decide) ?_
  refine rt_newa (n := 88) (t := 100) (N := 24) (atype := .int) (ty := .int) rfl in_aI (by decide) rfl (by intro C h; cases h) rfl (by decide) (by decide) (by decide) rfl (by decide) ⟨Nat.le_of_ble_eq_true rfl, Nat.le_of_ble_eq_true rfl⟩ dX1_init_18 (by simp [hB]) ?_
  rw [List.append_assoc]
  show Rn _ _ _ _ _ _ _ _ _ _ _ (tb (B ++ [[.null, .null, .null, rf E 87, .null, .null], [], []]))
  refine rt_putF (i := 0) (ty := (.array .int)) hB rfl flRX1_18 rfl (by decide) rfl rfl (by decide +kernel) rfl rfl dX1_init_20 (Nat.le_of_ble_eq_true rfl) (Nat.le_of_ble_eq_true rfl) ?_
  show Rn _ _ _ _ _ _ _ _ _ _ _ (tb (B ++ [[.null, .null, .null, rf E 87, rf E 88, .null], [], []]))
  refine rn_aload_n dX1_init_23 rfl ?_
  refine rn_bipush (x := (24 : Int32)) dX1_init_24 (by decide) ?_
  refine rt_newa (n := 89) (t := 100) (N := 24) (atype := .int) (ty := .int) rfl in_aI (by decide) rfl (by intro C h; cases h) rfl (by decide) (by decide) (by decide) rfl (by decide) ⟨Nat.le_of_ble_eq_true rfl, Nat.le_of_ble_eq_true rfl⟩ dX1_init_26 (by simp [hB]) ?_
  rw [List.append_assoc]
  show Rn _ _ _ _ _ _ _ _ _ _ _ (tb (B ++ [[.null, .null, .null, rf E 87, rf E 88, .null], [], [], []]))
  refine rt_putF (i := 0) (ty := (.array .int)) hB rfl flRX1_22 rfl (by decide) rfl rfl (by decide +kernel) rfl rfl dX1_init_28 (Nat.le_of_ble_eq_true rfl) (Nat.le_of_ble_eq_true rfl) ?_
  show Rn _ _ _ _ _ _ _ _ _ _ _ (tb (B ++ [[.null, .null, .null, rf E 87, rf E 88, rf E 89], [], [], []]))
  refine rn_aload_n dX1_init_31 rfl ?_
  refine rn_aload_n dX1_init_32 rfl ?_
  refine rt_putF (i := 0) (ty := (.object "SharedPockets$Family")) hB rfl flRX1_25 rfl (by decide) rfl rfl (by decide +kernel) rfl rfl dX1_init_33 (Nat.le_of_ble_eq_true rfl) (Nat.le_of_ble_eq_true rfl) ?_
  show Rn _ _ _ _ _ _ _ _ _ _ _ (tb (B ++ [[rf E 5, .null, .null, rf E 87, rf E 88, rf E 89], [], [], []]))
  refine rn_aload_n dX1_init_36 rfl ?_
  refine rn_aload_n dX1_init_37 rfl ?_
  refine rt_putF (i := 0) (ty := (.object "SharedPockets$Told")) hB rfl flRX1_29 rfl (by decide) rfl rfl (by decide +kernel) rfl rfl dX1_init_38 (Nat.le_of_ble_eq_true rfl) (Nat.le_of_ble_eq_true rfl) ?_
  show Rn _ _ _ _ _ _ _ _ _ _ _ (tb (B ++ [[rf E 5, rf E 11, .null, rf E 87, rf E 88, rf E 89], [], [], []]))
  refine rn_aload_n dX1_init_41 rfl ?_
  refine rn_aload_n dX1_init_42 rfl ?_
  refine rt_putF (i := 0) (ty := (.object "SharedPockets$Hours")) hB rfl flRX1_33 rfl (by decide) rfl rfl (by decide +kernel) rfl rfl dX1_init_43 (Nat.le_of_ble_eq_true rfl) (Nat.le_of_ble_eq_true rfl) ?_
  show Rn _ _ _ _ _ _ _ _ _ _ _ (tb (B ++ [[rf E 5, rf E 11, rf E 22, rf E 87, rf E 88, rf E 89], [], [], []]))
  exact rn_vret rfl dX1_init_46 rfl (by decide) hq
set_option maxHeartbeats 4000000 in
set_option maxRecDepth 20000 in
theorem ciX5_init_91 {E : En} {Q : Option Value → Hp → Prop} {T : List (List Value)} (B : List (List Value)) (hB : B.length = 91) (hT : T = B ++ [[.int 0, .int 0, .null]])
    (hq : Q none (tb (B ++ [[.int 0, .int (-1), rf E 92], []]))) :
    Ct E mX5_init 1 60 [rf E 91] 92 (tb T) Q := by
  subst hT
  refine ct_of (L0 := [some (rf E 91)]) (by decide +kernel : plainName RX5 = true) (Nat.le_of_ble_eq_true rfl) rfl ?_
  refine rn_aload_n dX5_init_0 rfl ?_
  refine rn_objInit (c0 := 91) mlRX5_3 in_objI in_objC (Nat.le_of_ble_eq_true rfl) dX5_init_1 ?_
  refine rn_aload_n dX5_init_4 rfl ?_
  refine rn_iconst (x := (-1 : Int32)) dX5_init_5 (by decide) ?_
  refine rt_put (i := 0) (ty := .int) hB rfl flRX5_9 rfl (by decide) (by decide +kernel) rfl rfl dX5_init_6 (Nat.le_of_ble_eq_true rfl) (Nat.le_of_ble_eq_true rfl) ?_
  show Rn _ _ _ _ _ _ _ _ _ _ _ (tb (B ++ [[.int 0, .int (-1), .null]]))
  refine rn_aload_n dX5_init_9 rfl ?_
  refine rn_bipush (x := (60 : Int32)) dX5_init_10 (by decide) ?_
  refine rt_newa (n := 92) (t := 100) (N := 60) (atype := .int) (ty := .int) rfl in_aI (by decide) rfl (by intro C h; cases h) rfl (by decide) (by decide) (by decide) rfl (by decide) ⟨Nat.le_of_ble_eq_true rfl, Nat.le_of_ble_eq_true rfl⟩ dX5_init_12 (by simp [hB]) ?_
  rw [List.append_assoc]
  show Rn _ _ _ _ _ _ _ _ _ _ _ (tb (B ++ [[.int 0, .int (-1), .null], []]))
  refine rt_putF (i := 0) (ty := (.array .int)) hB rfl flRX5_15 rfl (by decide) rfl rfl (by decide +kernel) rfl rfl dX5_init_14 (Nat.le_of_ble_eq_true rfl) (Nat.le_of_ble_eq_true rfl) ?_
  show Rn _ _ _ _ _ _ _ _ _ _ _ (tb (B ++ [[.int 0, .int (-1), rf E 92], []]))
  exact rn_vret rfl dX5_init_17 rfl (by decide) hq
set_option maxHeartbeats 4000000 in
set_option maxRecDepth 20000 in
theorem ciX5_init_93 {E : En} {Q : Option Value → Hp → Prop} {T : List (List Value)} (B : List (List Value)) (hB : B.length = 93) (hT : T = B ++ [[.int 0, .int 0, .null]])
    (hq : Q none (tb (B ++ [[.int 0, .int (-1), rf E 94], []]))) :
    Ct E mX5_init 1 60 [rf E 93] 94 (tb T) Q := by
  subst hT
  refine ct_of (L0 := [some (rf E 93)]) (by decide +kernel : plainName RX5 = true) (Nat.le_of_ble_eq_true rfl) rfl ?_
  refine rn_aload_n dX5_init_0 rfl ?_
  refine rn_objInit (c0 := 93) mlRX5_3 in_objI in_objC (Nat.le_of_ble_eq_true rfl) dX5_init_1 ?_
  refine rn_aload_n dX5_init_4 rfl ?_
  refine rn_iconst (x := (-1 : Int32)) dX5_init_5 (by decide) ?_
  refine rt_put (i := 0) (ty := .int) hB rfl flRX5_9 rfl (by decide) (by decide +kernel) rfl rfl dX5_init_6 (Nat.le_of_ble_eq_true rfl) (Nat.le_of_ble_eq_true rfl) ?_
  show Rn _ _ _ _ _ _ _ _ _ _ _ (tb (B ++ [[.int 0, .int (-1), .null]]))
  refine rn_aload_n dX5_init_9 rfl ?_
  refine rn_bipush (x := (60 : Int32)) dX5_init_10 (by decide) ?_
  refine rt_newa (n := 94) (t := 100) (N := 60) (atype := .int) (ty := .int) rfl in_aI (by decide) rfl (by intro C h; cases h) rfl (by decide) (by decide) (by decide) rfl (by decide) ⟨Nat.le_of_ble_eq_true rfl, Nat.le_of_ble_eq_true rfl⟩ dX5_init_12 (by simp [hB]) ?_
  rw [List.append_assoc]
  show Rn _ _ _ _ _ _ _ _ _ _ _ (tb (B ++ [[.int 0, .int (-1), .null], []]))
  refine rt_putF (i := 0) (ty := (.array .int)) hB rfl flRX5_15 rfl (by decide) rfl rfl (by decide +kernel) rfl rfl dX5_init_14 (Nat.le_of_ble_eq_true rfl) (Nat.le_of_ble_eq_true rfl) ?_
  show Rn _ _ _ _ _ _ _ _ _ _ _ (tb (B ++ [[.int 0, .int (-1), rf E 94], []]))
  exact rn_vret rfl dX5_init_17 rfl (by decide) hq
set_option maxHeartbeats 4000000 in
set_option maxRecDepth 20000 in
theorem ciX5_init_95 {E : En} {Q : Option Value → Hp → Prop} {T : List (List Value)} (B : List (List Value)) (hB : B.length = 95) (hT : T = B ++ [[.int 0, .int 0, .null]])
    (hq : Q none (tb (B ++ [[.int 0, .int (-1), rf E 96], []]))) :
    Ct E mX5_init 1 60 [rf E 95] 96 (tb T) Q := by
  subst hT
  refine ct_of (L0 := [some (rf E 95)]) (by decide +kernel : plainName RX5 = true) (Nat.le_of_ble_eq_true rfl) rfl ?_
  refine rn_aload_n dX5_init_0 rfl ?_
  refine rn_objInit (c0 := 95) mlRX5_3 in_objI in_objC (Nat.le_of_ble_eq_true rfl) dX5_init_1 ?_
  refine rn_aload_n dX5_init_4 rfl ?_
  refine rn_iconst (x := (-1 : Int32)) dX5_init_5 (by decide) ?_
  refine rt_put (i := 0) (ty := .int) hB rfl flRX5_9 rfl (by decide) (by decide +kernel) rfl rfl dX5_init_6 (Nat.le_of_ble_eq_true rfl) (Nat.le_of_ble_eq_true rfl) ?_
  show Rn _ _ _ _ _ _ _ _ _ _ _ (tb (B ++ [[.int 0, .int (-1), .null]]))
  refine rn_aload_n dX5_init_9 rfl ?_
  refine rn_bipush (x := (60 : Int32)) dX5_init_10 (by decide) ?_
  refine rt_newa (n := 96) (t := 100) (N := 60) (atype := .int) (ty := .int) rfl in_aI (by decide) rfl (by intro C h; cases h) rfl (by decide) (by decide) (by decide) rfl (by decide) ⟨Nat.le_of_ble_eq_true rfl, Nat.le_of_ble_eq_true rfl⟩ dX5_init_12 (by simp [hB]) ?_
  rw [List.append_assoc]
  show Rn _ _ _ _ _ _ _ _ _ _ _ (tb (B ++ [[.int 0, .int (-1), .null], []]))
  refine rt_putF (i := 0) (ty := (.array .int)) hB rfl flRX5_15 rfl (by decide) rfl rfl (by decide +kernel) rfl rfl dX5_init_14 (Nat.le_of_ble_eq_true rfl) (Nat.le_of_ble_eq_true rfl) ?_
  show Rn _ _ _ _ _ _ _ _ _ _ _ (tb (B ++ [[.int 0, .int (-1), rf E 96], []]))
  exact rn_vret rfl dX5_init_17 rfl (by decide) hq
set_option maxHeartbeats 4000000 in
set_option maxRecDepth 20000 in
theorem ciX5_init_97 {E : En} {Q : Option Value → Hp → Prop} {T : List (List Value)} (B : List (List Value)) (hB : B.length = 97) (hT : T = B ++ [[.int 0, .int 0, .null]])
    (hq : Q none (tb (B ++ [[.int 0, .int (-1), rf E 98], []]))) :
    Ct E mX5_init 1 60 [rf E 97] 98 (tb T) Q := by
  subst hT
  refine ct_of (L0 := [some (rf E 97)]) (by decide +kernel : plainName RX5 = true) (Nat.le_of_ble_eq_true rfl) rfl ?_
  refine rn_aload_n dX5_init_0 rfl ?_
  refine rn_objInit (c0 := 97) mlRX5_3 in_objI in_objC (Nat.le_of_ble_eq_true rfl) dX5_init_1 ?_
  refine rn_aload_n dX5_init_4 rfl ?_
  refine rn_iconst (x := (-1 : Int32)) dX5_init_5 (by decide) ?_
  refine rt_put (i := 0) (ty := .int) hB rfl flRX5_9 rfl (by decide) (by decide +kernel) rfl rfl dX5_init_6 (Nat.le_of_ble_eq_true rfl) (Nat.le_of_ble_eq_true rfl) ?_
  show Rn _ _ _ _ _ _ _ _ _ _ _ (tb (B ++ [[.int 0, .int (-1), .null]]))
  refine rn_aload_n dX5_init_9 rfl ?_
  refine rn_bipush (x := (60 : Int32)) dX5_init_10 (by decide) ?_
  refine rt_newa (n := 98) (t := 100) (N := 60) (atype := .int) (ty := .int) rfl in_aI (by decide) rfl (by intro C h; cases h) rfl (by decide) (by decide) (by decide) rfl (by decide) ⟨Nat.le_of_ble_eq_true rfl, Nat.le_of_ble_eq_true rfl⟩ dX5_init_12 (by simp [hB]) ?_
  rw [List.append_assoc]
  show Rn _ _ _ _ _ _ _ _ _ _ _ (tb (B ++ [[.int 0, .int (-1), .null], []]))
  refine rt_putF (i := 0) (ty := (.array .int)) hB rfl flRX5_15 rfl (by decide) rfl rfl (by decide +kernel) rfl rfl dX5_init_14 (Nat.le_of_ble_eq_true rfl) (Nat.le_of_ble_eq_true rfl) ?_
  show Rn _ _ _ _ _ _ _ _ _ _ _ (tb (B ++ [[.int 0, .int (-1), rf E 98], []]))
  exact rn_vret rfl dX5_init_17 rfl (by decide) hq
set_option maxHeartbeats 4000000 in
set_option maxRecDepth 20000 in
theorem ciX9_init_0 {E : En} {Q : Option Value → Hp → Prop} {T : List (List Value)} (B : List (List Value)) (hB : B.length = 0) (hT : T = B ++ [[.null, .null, .null, .null, .null, .null, .null, .null, .int 0, .int 0]])
    (hq : Q none (tb (B ++ [[rf E 1, rf E 3, rf E 5, rf E 11, rf E 22, rf E 75, rf E 86, rf E 90, .int 0, .int 1], [rf E 2, rf E (1000 + 0), rf E (1000 + 1), rf E (1000 + 2), .int 3, .int 0], [], [rf E 4, rf E (1000 + 3), rf E (1000 + 4), rf E (1000 + 5), .int 2, .int 0], [], [.int 0, .int 0, rf E 6, rf E 7, rf E 8, rf E 9, .int 0, .int 0, .int 0, rf E 10], [], [], [], [], [], [.int 20, .int 0, .int 0, rf E 12, rf E 13, .int 0, rf E 14, rf E 15, .int 0, rf E 16, rf E 17, rf E 18, rf E 19, rf E 20, rf E 21], [], [], [], [], [], [], [], [], [], [], [rf E 5, rf E 11, rf E 23, rf E 24, rf E 25, .int 0, rf E 26], [], [rf E 27, rf E 29, rf E 31, rf E 33, rf E 35, rf E 37, rf E 39, rf E 41, rf E 43, rf E 45, rf E 47, rf E 49, rf E 51, rf E 53, rf E 55, rf E 57, rf E 59, rf E 61, rf E 63, rf E 65, rf E 67, rf E 69, rf E 71, rf E 73], [rf E 28, rf E 30, rf E 32, rf E 34, rf E 36, rf E 38, rf E 40, rf E 42, rf E 44, rf E 46, rf E 48, rf E 50, rf E 52, rf E 54, rf E 56, rf E 58, rf E 60, rf E 62, rf E 64, rf E 66, rf E 68, rf E 70, rf E 72, rf E 74], [], [], [], [], [], [], [], [], [], [], [], [], [], [], [], [], [], [], [], [], [], [], [], [], [], [], [], [], [], [], [], [], [], [], [], [], [], [], [], [], [], [], [], [], [], [], [], [], [], [rf E 5, rf E 11, rf E 22, rf E 76, rf E 77, .int (-1), .int (-1), rf E 78, .int 0, rf E 79], [], [], [rf E 80, rf E 81, rf E 82, rf E 83, rf E 84, rf E 85], [], [], [], [], [], [], [], [rf E 5, rf E 11, rf E 22, rf E 87, rf E 88, rf E 89], [], [], [], [rf E 91, rf E 93, rf E 95, rf E 97], [.int 0, .int (-1), rf E 92], [], [.int 0, .int (-1), rf E 94], [], [.int 0, .int (-1), rf E 96], [], [.int 0, .int (-1), rf E 98], []]))) :
    Ct E mX9_init 98 1031 [rf E 0] 1 (tb T) Q := by
  subst hT
  refine ct_of (L0 := [some (rf E 0), none]) (by decide +kernel : plainName RX9 = true) (Nat.le_of_ble_eq_true rfl) rfl ?_
  refine rn_aload_n dX9_init_0 rfl ?_
  refine rn_objInit (c0 := 0) mlRX9_1 in_objI in_objC (Nat.le_of_ble_eq_true rfl) dX9_init_1 ?_
  refine rn_aload_n dX9_init_4 rfl ?_
  refine rt_new (n := 1) (ci := 7) (N := 6) (l := [.null, .null, .null, .null, .int 0, .int 0]) RX7 TX7 tyX7 rfl (by decide) inX7 tyX7_ok clRX9_7 ins7 ini7 rfl (by intro j hj; revert j; decide +kernel) (by decide) ⟨Nat.le_of_ble_eq_true rfl, Nat.le_of_ble_eq_true rfl⟩ dX9_init_5 (by simp [hB]) ?_
  rw [List.append_assoc]
  show Rn _ _ _ _ _ _ _ _ _ _ _ (tb (B ++ [[.null, .null, .null, .null, .null, .null, .null, .null, .int 0, .int 0], [.null, .null, .null, .null, .int 0, .int 0]]))
  refine rn_dup dX9_init_8 rfl ?_
  refine rn_bipush (x := (31 : Int32)) dX9_init_9 (by decide) ?_
  refine rn_ldcS (j := 0) (by decide) rfl rfl dX9_init_11 ?_
  refine rn_ldcS (j := 1) (by decide) rfl rfl dX9_init_13 ?_
  refine rn_ldcS (j := 2) (by decide) rfl rfl dX9_init_15 ?_
  refine rn_callI (mc2 := 1) (ms2 := 31) (c0 := 1) (As := [.int 31, rf E (1000 + 0), rf E (1000 + 1), rf E (1000 + 2)]) (st := [rf E 1, rf E 0]) mlRX9_15 rfl mdX7_init (Nat.le_of_ble_eq_true rfl) rfl rfl (Nat.le_of_ble_eq_true rfl) (by decide) ⟨Nat.le_of_ble_eq_true rfl, Nat.le_of_ble_eq_true rfl⟩ dX9_init_17 (ciX7_init_1 (B ++ [[.null, .null, .null, .null, .null, .null, .null, .null, .int 0, .int 0]]) (by simp [hB]) (by rw [List.append_assoc]; rfl) ?_)
  show Rn _ _ _ _ _ _ _ _ _ [rf E 1, rf E 0] _ _
  rw [List.append_assoc]
  show Rn _ _ _ _ _ _ _ _ _ _ _ (tb (B ++ [[.null, .null, .null, .null, .null, .null, .null, .null, .int 0, .int 0], [rf E 2, rf E (1000 + 0), rf E (1000 + 1), rf E (1000 + 2), .int 3, .int 0], []]))
  refine rt_putF (i := 0) (ty := (.object "SharedPockets$Text")) hB rfl flRX9_18 rfl (by decide) rfl rfl (by decide +kernel) rfl rfl dX9_init_20 (Nat.le_of_ble_eq_true rfl) (Nat.le_of_ble_eq_true rfl) ?_
  show Rn _ _ _ _ _ _ _ _ _ _ _ (tb (B ++ [[rf E 1, .null, .null, .null, .null, .null, .null, .null, .int 0, .int 0], [rf E 2, rf E (1000 + 0), rf E (1000 + 1), rf E (1000 + 2), .int 3, .int 0], []]))
  refine rn_aload_n dX9_init_23 rfl ?_
  refine rt_new (n := 3) (ci := 7) (N := 6) (l := [.null, .null, .null, .null, .int 0, .int 0]) RX7 TX7 tyX7 rfl (by decide) inX7 tyX7_ok clRX9_7 ins7 ini7 rfl (by intro j hj; revert j; decide +kernel) (by decide) ⟨Nat.le_of_ble_eq_true rfl, Nat.le_of_ble_eq_true rfl⟩ dX9_init_24 (by simp [hB]) ?_
  rw [List.append_assoc]
  show Rn _ _ _ _ _ _ _ _ _ _ _ (tb (B ++ [[rf E 1, .null, .null, .null, .null, .null, .null, .null, .int 0, .int 0], [rf E 2, rf E (1000 + 0), rf E (1000 + 1), rf E (1000 + 2), .int 3, .int 0], [], [.null, .null, .null, .null, .int 0, .int 0]]))
  refine rn_dup dX9_init_27 rfl ?_
  refine rn_bipush (x := (23 : Int32)) dX9_init_28 (by decide) ?_
  refine rn_ldcS (j := 3) (by decide) rfl rfl dX9_init_30 ?_
  refine rn_ldcS (j := 4) (by decide) rfl rfl dX9_init_32 ?_
  refine rn_ldcS (j := 5) (by decide) rfl rfl dX9_init_34 ?_
  refine rn_callI (mc2 := 1) (ms2 := 23) (c0 := 3) (As := [.int 23, rf E (1000 + 3), rf E (1000 + 4), rf E (1000 + 5)]) (st := [rf E 3, rf E 0]) mlRX9_15 rfl mdX7_init (Nat.le_of_ble_eq_true rfl) rfl rfl (Nat.le_of_ble_eq_true rfl) (by decide) ⟨Nat.le_of_ble_eq_true rfl, Nat.le_of_ble_eq_true rfl⟩ dX9_init_36 (ciX7_init_3 (B ++ [[rf E 1, .null, .null, .null, .null, .null, .null, .null, .int 0, .int 0], [rf E 2, rf E (1000 + 0), rf E (1000 + 1), rf E (1000 + 2), .int 3, .int 0], []]) (by simp [hB]) (by rw [List.append_assoc]; rfl) ?_)
  show Rn _ _ _ _ _ _ _ _ _ [rf E 3, rf E 0] _ _
  rw [List.append_assoc]
  show Rn _ _ _ _ _ _ _ _ _ _ _ (tb (B ++ [[rf E 1, .null, .null, .null, .null, .null, .null, .null, .int 0, .int 0], [rf E 2, rf E (1000 + 0), rf E (1000 + 1), rf E (1000 + 2), .int 3, .int 0], [], [rf E 4, rf E (1000 + 3), rf E (1000 + 4), rf E (1000 + 5), .int 2, .int 0], []]))
  refine rt_putF (i := 0) (ty := (.object "SharedPockets$Text")) hB rfl flRX9_30 rfl (by decide) rfl rfl (by decide +kernel) rfl rfl dX9_init_39 (Nat.le_of_ble_eq_true rfl) (Nat.le_of_ble_eq_true rfl) ?_
  show Rn _ _ _ _ _ _ _ _ _ _ _ (tb (B ++ [[rf E 1, rf E 3, .null, .null, .null, .null, .null, .null, .int 0, .int 0], [rf E 2, rf E (1000 + 0), rf E (1000 + 1), rf E (1000 + 2), .int 3, .int 0], [], [rf E 4, rf E (1000 + 3), rf E (1000 + 4), rf E (1000 + 5), .int 2, .int 0], []]))
  refine rn_aload_n dX9_init_42 rfl ?_
  refine rt_new (n := 5) (ci := 0) (N := 10) (l := [.int 0, .int 0, .null, .null, .null, .null, .int 0, .int 0, .int 0, .null]) RX0 TX0 tyX0 rfl (by decide) inX0 tyX0_ok clRX9_33 ins0 ini0 rfl (by intro j hj; revert j; decide +kernel) (by decide) ⟨Nat.le_of_ble_eq_true rfl, Nat.le_of_ble_eq_true rfl⟩ dX9_init_43 (by simp [hB]) ?_
  rw [List.append_assoc]
  show Rn _ _ _ _ _ _ _ _ _ _ _ (tb (B ++ [[rf E 1, rf E 3, .null, .null, .null, .null, .null, .null, .int 0, .int 0], [rf E 2, rf E (1000 + 0), rf E (1000 + 1), rf E (1000 + 2), .int 3, .int 0], [], [rf E 4, rf E (1000 + 3), rf E (1000 + 4), rf E (1000 + 5), .int 2, .int 0], [], [.int 0, .int 0, .null, .null, .null, .null, .int 0, .int 0, .int 0, .null]]))
  refine rn_dup dX9_init_46 rfl ?_
  refine rn_callIN (mc2 := 5) (ms2 := 42) (c0 := 5) (As := []) (st := [rf E 5, rf E 0]) mlRX9_35 rfl mdX0_init (Nat.le_of_ble_eq_true rfl) rfl rfl (Nat.le_of_ble_eq_true rfl) (by decide) ⟨Nat.le_of_ble_eq_true rfl, Nat.le_of_ble_eq_true rfl⟩ dX9_init_47 (ciX0_init_5 (B ++ [[rf E 1, rf E 3, .null, .null, .null, .null, .null, .null, .int 0, .int 0], [rf E 2, rf E (1000 + 0), rf E (1000 + 1), rf E (1000 + 2), .int 3, .int 0], [], [rf E 4, rf E (1000 + 3), rf E (1000 + 4), rf E (1000 + 5), .int 2, .int 0], []]) (by simp [hB]) (by rw [List.append_assoc]; rfl) ?_)
  show Rn _ _ _ _ _ _ _ _ _ [rf E 5, rf E 0] _ _
  rw [List.append_assoc]
  show Rn _ _ _ _ _ _ _ _ _ _ _ (tb (B ++ [[rf E 1, rf E 3, .null, .null, .null, .null, .null, .null, .int 0, .int 0], [rf E 2, rf E (1000 + 0), rf E (1000 + 1), rf E (1000 + 2), .int 3, .int 0], [], [rf E 4, rf E (1000 + 3), rf E (1000 + 4), rf E (1000 + 5), .int 2, .int 0], [], [.int 0, .int 0, rf E 6, rf E 7, rf E 8, rf E 9, .int 0, .int 0, .int 0, rf E 10], [], [], [], [], []]))
  refine rt_putF (i := 0) (ty := (.object "SharedPockets$Family")) hB rfl flRX9_36 rfl (by decide) rfl rfl (by decide +kernel) rfl rfl dX9_init_50 (Nat.le_of_ble_eq_true rfl) (Nat.le_of_ble_eq_true rfl) ?_
  show Rn _ _ _ _ _ _ _ _ _ _ _ (tb (B ++ [[rf E 1, rf E 3, rf E 5, .null, .null, .null, .null, .null, .int 0, .int 0], [rf E 2, rf E (1000 + 0), rf E (1000 + 1), rf E (1000 + 2), .int 3, .int 0], [], [rf E 4, rf E (1000 + 3), rf E (1000 + 4), rf E (1000 + 5), .int 2, .int 0], [], [.int 0, .int 0, rf E 6, rf E 7, rf E 8, rf E 9, .int 0, .int 0, .int 0, rf E 10], [], [], [], [], []]))
  refine rn_aload_n dX9_init_53 rfl ?_
  refine rt_new (n := 11) (ci := 8) (N := 15) (l := [.int 0, .int 0, .int 0, .null, .null, .int 0, .null, .null, .int 0, .null, .null, .null, .null, .null, .null]) RX8 TX8 tyX8 rfl (by decide) inX8 tyX8_ok clRX9_40 ins8 ini8 rfl (by intro j hj; revert j; decide +kernel) (by decide) ⟨Nat.le_of_ble_eq_true rfl, Nat.le_of_ble_eq_true rfl⟩ dX9_init_54 (by simp [hB]) ?_
  rw [List.append_assoc]
  show Rn _ _ _ _ _ _ _ _ _ _ _ (tb (B ++ [[rf E 1, rf E 3, rf E 5, .null, .null, .null, .null, .null, .int 0, .int 0], [rf E 2, rf E (1000 + 0), rf E (1000 + 1), rf E (1000 + 2), .int 3, .int 0], [], [rf E 4, rf E (1000 + 3), rf E (1000 + 4), rf E (1000 + 5), .int 2, .int 0], [], [.int 0, .int 0, rf E 6, rf E 7, rf E 8, rf E 9, .int 0, .int 0, .int 0, rf E 10], [], [], [], [], [], [.int 0, .int 0, .int 0, .null, .null, .int 0, .null, .null, .int 0, .null, .null, .null, .null, .null, .null]]))
  refine rn_dup dX9_init_57 rfl ?_
  refine rn_callIN (mc2 := 10) (ms2 := 145) (c0 := 11) (As := []) (st := [rf E 11, rf E 0]) mlRX9_42 rfl mdX8_init (Nat.le_of_ble_eq_true rfl) rfl rfl (Nat.le_of_ble_eq_true rfl) (by decide) ⟨Nat.le_of_ble_eq_true rfl, Nat.le_of_ble_eq_true rfl⟩ dX9_init_58 (ciX8_init_11 (B ++ [[rf E 1, rf E 3, rf E 5, .null, .null, .null, .null, .null, .int 0, .int 0], [rf E 2, rf E (1000 + 0), rf E (1000 + 1), rf E (1000 + 2), .int 3, .int 0], [], [rf E 4, rf E (1000 + 3), rf E (1000 + 4), rf E (1000 + 5), .int 2, .int 0], [], [.int 0, .int 0, rf E 6, rf E 7, rf E 8, rf E 9, .int 0, .int 0, .int 0, rf E 10], [], [], [], [], []]) (by simp [hB]) (by rw [List.append_assoc]; rfl) ?_)
  show Rn _ _ _ _ _ _ _ _ _ [rf E 11, rf E 0] _ _
  rw [List.append_assoc]
  show Rn _ _ _ _ _ _ _ _ _ _ _ (tb (B ++ [[rf E 1, rf E 3, rf E 5, .null, .null, .null, .null, .null, .int 0, .int 0], [rf E 2, rf E (1000 + 0), rf E (1000 + 1), rf E (1000 + 2), .int 3, .int 0], [], [rf E 4, rf E (1000 + 3), rf E (1000 + 4), rf E (1000 + 5), .int 2, .int 0], [], [.int 0, .int 0, rf E 6, rf E 7, rf E 8, rf E 9, .int 0, .int 0, .int 0, rf E 10], [], [], [], [], [], [.int 20, .int 0, .int 0, rf E 12, rf E 13, .int 0, rf E 14, rf E 15, .int 0, rf E 16, rf E 17, rf E 18, rf E 19, rf E 20, rf E 21], [], [], [], [], [], [], [], [], [], []]))
  refine rt_putF (i := 0) (ty := (.object "SharedPockets$Told")) hB rfl flRX9_43 rfl (by decide) rfl rfl (by decide +kernel) rfl rfl dX9_init_61 (Nat.le_of_ble_eq_true rfl) (Nat.le_of_ble_eq_true rfl) ?_
  show Rn _ _ _ _ _ _ _ _ _ _ _ (tb (B ++ [[rf E 1, rf E 3, rf E 5, rf E 11, .null, .null, .null, .null, .int 0, .int 0], [rf E 2, rf E (1000 + 0), rf E (1000 + 1), rf E (1000 + 2), .int 3, .int 0], [], [rf E 4, rf E (1000 + 3), rf E (1000 + 4), rf E (1000 + 5), .int 2, .int 0], [], [.int 0, .int 0, rf E 6, rf E 7, rf E 8, rf E 9, .int 0, .int 0, .int 0, rf E 10], [], [], [], [], [], [.int 20, .int 0, .int 0, rf E 12, rf E 13, .int 0, rf E 14, rf E 15, .int 0, rf E 16, rf E 17, rf E 18, rf E 19, rf E 20, rf E 21], [], [], [], [], [], [], [], [], [], []]))
  refine rn_aload_n dX9_init_64 rfl ?_
  refine rt_new (n := 22) (ci := 2) (N := 7) (l := [.null, .null, .null, .null, .null, .int 0, .null]) RX2 TX2 tyX2 rfl (by decide) inX2 tyX2_ok clRX9_47 ins2 ini2 rfl (by intro j hj; revert j; decide +kernel) (by decide) ⟨Nat.le_of_ble_eq_true rfl, Nat.le_of_ble_eq_true rfl⟩ dX9_init_65 (by simp [hB]) ?_
  rw [List.append_assoc]
  show Rn _ _ _ _ _ _ _ _ _ _ _ (tb (B ++ [[rf E 1, rf E 3, rf E 5, rf E 11, .null, .null, .null, .null, .int 0, .int 0], [rf E 2, rf E (1000 + 0), rf E (1000 + 1), rf E (1000 + 2), .int 3, .int 0], [], [rf E 4, rf E (1000 + 3), rf E (1000 + 4), rf E (1000 + 5), .int 2, .int 0], [], [.int 0, .int 0, rf E 6, rf E 7, rf E 8, rf E 9, .int 0, .int 0, .int 0, rf E 10], [], [], [], [], [], [.int 20, .int 0, .int 0, rf E 12, rf E 13, .int 0, rf E 14, rf E 15, .int 0, rf E 16, rf E 17, rf E 18, rf E 19, rf E 20, rf E 21], [], [], [], [], [], [], [], [], [], [], [.null, .null, .null, .null, .null, .int 0, .null]]))
  refine rn_dup dX9_init_68 rfl ?_
  refine rn_aload_n dX9_init_69 rfl ?_
  refine rt_get (i := 0) (w := rf E 5) hB rfl flRX9_36 rfl (by decide) rfl dX9_init_70 ?_
  refine rn_aload_n dX9_init_73 rfl ?_
  refine rt_get (i := 0) (w := rf E 11) hB rfl flRX9_43 rfl (by decide) rfl dX9_init_74 ?_
  refine rn_callI (mc2 := 52) (ms2 := 348) (c0 := 22) (As := [rf E 5, rf E 11]) (st := [rf E 22, rf E 0]) mlRX9_49 rfl mdX2_init (Nat.le_of_ble_eq_true rfl) rfl rfl (Nat.le_of_ble_eq_true rfl) (by decide) ⟨Nat.le_of_ble_eq_true rfl, Nat.le_of_ble_eq_true rfl⟩ dX9_init_77 (ciX2_init_22 (B ++ [[rf E 1, rf E 3, rf E 5, rf E 11, .null, .null, .null, .null, .int 0, .int 0], [rf E 2, rf E (1000 + 0), rf E (1000 + 1), rf E (1000 + 2), .int 3, .int 0], [], [rf E 4, rf E (1000 + 3), rf E (1000 + 4), rf E (1000 + 5), .int 2, .int 0], [], [.int 0, .int 0, rf E 6, rf E 7, rf E 8, rf E 9, .int 0, .int 0, .int 0, rf E 10], [], [], [], [], [], [.int 20, .int 0, .int 0, rf E 12, rf E 13, .int 0, rf E 14, rf E 15, .int 0, rf E 16, rf E 17, rf E 18, rf E 19, rf E 20, rf E 21], [], [], [], [], [], [], [], [], [], []]) (by simp [hB]) (by rw [List.append_assoc]; rfl) ?_)
  show Rn _ _ _ _ _ _ _ _ _ [rf E 22, rf E 0] _ _
  rw [List.append_assoc]
  show Rn _ _ _ _ _ _ _ _ _ _ _ (tb (B ++ [[rf E 1, rf E 3, rf E 5, rf E 11, .null, .null, .null, .null, .int 0, .int 0], [rf E 2, rf E (1000 + 0), rf E (1000 + 1), rf E (1000 + 2), .int 3, .int 0], [], [rf E 4, rf E (1000 + 3), rf E (1000 + 4), rf E (1000 + 5), .int 2, .int 0], [], [.int 0, .int 0, rf E 6, rf E 7, rf E 8, rf E 9, .int 0, .int 0, .int 0, rf E 10], [], [], [], [], [], [.int 20, .int 0, .int 0, rf E 12, rf E 13, .int 0, rf E 14, rf E 15, .int 0, rf E 16, rf E 17, rf E 18, rf E 19, rf E 20, rf E 21], [], [], [], [], [], [], [], [], [], [], [rf E 5, rf E 11, rf E 23, rf E 24, rf E 25, .int 0, rf E 26], [], [rf E 27, rf E 29, rf E 31, rf E 33, rf E 35, rf E 37, rf E 39, rf E 41, rf E 43, rf E 45, rf E 47, rf E 49, rf E 51, rf E 53, rf E 55, rf E 57, rf E 59, rf E 61, rf E 63, rf E 65, rf E 67, rf E 69, rf E 71, rf E 73], [rf E 28, rf E 30, rf E 32, rf E 34, rf E 36, rf E 38, rf E 40, rf E 42, rf E 44, rf E 46, rf E 48, rf E 50, rf E 52, rf E 54, rf E 56, rf E 58, rf E 60, rf E 62, rf E 64, rf E 66, rf E 68, rf E 70, rf E 72, rf E 74], [], [], [], [], [], [], [], [], [], [], [], [], [], [], [], [], [], [], [], [], [], [], [], [], [], [], [], [], [], [], [], [], [], [], [], [], [], [], [], [], [], [], [], [], [], [], [], [], []]))
  refine rt_putF (i := 0) (ty := (.object "SharedPockets$Hours")) hB rfl flRX9_52 rfl (by decide) rfl rfl (by decide +kernel) rfl rfl dX9_init_80 (Nat.le_of_ble_eq_true rfl) (Nat.le_of_ble_eq_true rfl) ?_
  show Rn _ _ _ _ _ _ _ _ _ _ _ (tb (B ++ [[rf E 1, rf E 3, rf E 5, rf E 11, rf E 22, .null, .null, .null, .int 0, .int 0], [rf E 2, rf E (1000 + 0), rf E (1000 + 1), rf E (1000 + 2), .int 3, .int 0], [], [rf E 4, rf E (1000 + 3), rf E (1000 + 4), rf E (1000 + 5), .int 2, .int 0], [], [.int 0, .int 0, rf E 6, rf E 7, rf E 8, rf E 9, .int 0, .int 0, .int 0, rf E 10], [], [], [], [], [], [.int 20, .int 0, .int 0, rf E 12, rf E 13, .int 0, rf E 14, rf E 15, .int 0, rf E 16, rf E 17, rf E 18, rf E 19, rf E 20, rf E 21], [], [], [], [], [], [], [], [], [], [], [rf E 5, rf E 11, rf E 23, rf E 24, rf E 25, .int 0, rf E 26], [], [rf E 27, rf E 29, rf E 31, rf E 33, rf E 35, rf E 37, rf E 39, rf E 41, rf E 43, rf E 45, rf E 47, rf E 49, rf E 51, rf E 53, rf E 55, rf E 57, rf E 59, rf E 61, rf E 63, rf E 65, rf E 67, rf E 69, rf E 71, rf E 73], [rf E 28, rf E 30, rf E 32, rf E 34, rf E 36, rf E 38, rf E 40, rf E 42, rf E 44, rf E 46, rf E 48, rf E 50, rf E 52, rf E 54, rf E 56, rf E 58, rf E 60, rf E 62, rf E 64, rf E 66, rf E 68, rf E 70, rf E 72, rf E 74], [], [], [], [], [], [], [], [], [], [], [], [], [], [], [], [], [], [], [], [], [], [], [], [], [], [], [], [], [], [], [], [], [], [], [], [], [], [], [], [], [], [], [], [], [], [], [], [], []]))
  refine rn_aload_n dX9_init_83 rfl ?_
  refine rt_new (n := 75) (ci := 3) (N := 10) (l := [.null, .null, .null, .null, .null, .int 0, .int 0, .null, .int 0, .null]) RX3 TX3 tyX3 rfl (by decide) inX3 tyX3_ok clRX9_56 ins3 ini3 rfl (by intro j hj; revert j; decide +kernel) (by decide) ⟨Nat.le_of_ble_eq_true rfl, Nat.le_of_ble_eq_true rfl⟩ dX9_init_84 (by simp [hB]) ?_
  rw [List.append_assoc]
  show Rn _ _ _ _ _ _ _ _ _ _ _ (tb (B ++ [[rf E 1, rf E 3, rf E 5, rf E 11, rf E 22, .null, .null, .null, .int 0, .int 0], [rf E 2, rf E (1000 + 0), rf E (1000 + 1), rf E (1000 + 2), .int 3, .int 0], [], [rf E 4, rf E (1000 + 3), rf E (1000 + 4), rf E (1000 + 5), .int 2, .int 0], [], [.int 0, .int 0, rf E 6, rf E 7, rf E 8, rf E 9, .int 0, .int 0, .int 0, rf E 10], [], [], [], [], [], [.int 20, .int 0, .int 0, rf E 12, rf E 13, .int 0, rf E 14, rf E 15, .int 0, rf E 16, rf E 17, rf E 18, rf E 19, rf E 20, rf E 21], [], [], [], [], [], [], [], [], [], [], [rf E 5, rf E 11, rf E 23, rf E 24, rf E 25, .int 0, rf E 26], [], [rf E 27, rf E 29, rf E 31, rf E 33, rf E 35, rf E 37, rf E 39, rf E 41, rf E 43, rf E 45, rf E 47, rf E 49, rf E 51, rf E 53, rf E 55, rf E 57, rf E 59, rf E 61, rf E 63, rf E 65, rf E 67, rf E 69, rf E 71, rf E 73], [rf E 28, rf E 30, rf E 32, rf E 34, rf E 36, rf E 38, rf E 40, rf E 42, rf E 44, rf E 46, rf E 48, rf E 50, rf E 52, rf E 54, rf E 56, rf E 58, rf E 60, rf E 62, rf E 64, rf E 66, rf E 68, rf E 70, rf E 72, rf E 74], [], [], [], [], [], [], [], [], [], [], [], [], [], [], [], [], [], [], [], [], [], [], [], [], [], [], [], [], [], [], [], [], [], [], [], [], [], [], [], [], [], [], [], [], [], [], [], [], [], [.null, .null, .null, .null, .null, .int 0, .int 0, .null, .int 0, .null]]))
  refine rn_dup dX9_init_87 rfl ?_
  refine rn_aload_n dX9_init_88 rfl ?_
  refine rt_get (i := 0) (w := rf E 5) hB rfl flRX9_36 rfl (by decide) rfl dX9_init_89 ?_
  refine rn_aload_n dX9_init_92 rfl ?_
  refine rt_get (i := 0) (w := rf E 11) hB rfl flRX9_43 rfl (by decide) rfl dX9_init_93 ?_
  refine rn_aload_n dX9_init_96 rfl ?_
  refine rt_get (i := 0) (w := rf E 22) hB rfl flRX9_52 rfl (by decide) rfl dX9_init_97 ?_
  refine rn_callI (mc2 := 10) (ms2 := 72) (c0 := 75) (As := [rf E 5, rf E 11, rf E 22]) (st := [rf E 75, rf E 0]) mlRX9_58 rfl mdX3_init (Nat.le_of_ble_eq_true rfl) rfl rfl (Nat.le_of_ble_eq_true rfl) (by decide) ⟨Nat.le_of_ble_eq_true rfl, Nat.le_of_ble_eq_true rfl⟩ dX9_init_100 (ciX3_init_75 (B ++ [[rf E 1, rf E 3, rf E 5, rf E 11, rf E 22, .null, .null, .null, .int 0, .int 0], [rf E 2, rf E (1000 + 0), rf E (1000 + 1), rf E (1000 + 2), .int 3, .int 0], [], [rf E 4, rf E (1000 + 3), rf E (1000 + 4), rf E (1000 + 5), .int 2, .int 0], [], [.int 0, .int 0, rf E 6, rf E 7, rf E 8, rf E 9, .int 0, .int 0, .int 0, rf E 10], [], [], [], [], [], [.int 20, .int 0, .int 0, rf E 12, rf E 13, .int 0, rf E 14, rf E 15, .int 0, rf E 16, rf E 17, rf E 18, rf E 19, rf E 20, rf E 21], [], [], [], [], [], [], [], [], [], [], [rf E 5, rf E 11, rf E 23, rf E 24, rf E 25, .int 0, rf E 26], [], [rf E 27, rf E 29, rf E 31, rf E 33, rf E 35, rf E 37, rf E 39, rf E 41, rf E 43, rf E 45, rf E 47, rf E 49, rf E 51, rf E 53, rf E 55, rf E 57, rf E 59, rf E 61, rf E 63, rf E 65, rf E 67, rf E 69, rf E 71, rf E 73], [rf E 28, rf E 30, rf E 32, rf E 34, rf E 36, rf E 38, rf E 40, rf E 42, rf E 44, rf E 46, rf E 48, rf E 50, rf E 52, rf E 54, rf E 56, rf E 58, rf E 60, rf E 62, rf E 64, rf E 66, rf E 68, rf E 70, rf E 72, rf E 74], [], [], [], [], [], [], [], [], [], [], [], [], [], [], [], [], [], [], [], [], [], [], [], [], [], [], [], [], [], [], [], [], [], [], [], [], [], [], [], [], [], [], [], [], [], [], [], [], []]) (by simp [hB]) (by rw [List.append_assoc]; rfl) ?_)
  show Rn _ _ _ _ _ _ _ _ _ [rf E 75, rf E 0] _ _
  rw [List.append_assoc]
  show Rn _ _ _ _ _ _ _ _ _ _ _ (tb (B ++ [[rf E 1, rf E 3, rf E 5, rf E 11, rf E 22, .null, .null, .null, .int 0, .int 0], [rf E 2, rf E (1000 + 0), rf E (1000 + 1), rf E (1000 + 2), .int 3, .int 0], [], [rf E 4, rf E (1000 + 3), rf E (1000 + 4), rf E (1000 + 5), .int 2, .int 0], [], [.int 0, .int 0, rf E 6, rf E 7, rf E 8, rf E 9, .int 0, .int 0, .int 0, rf E 10], [], [], [], [], [], [.int 20, .int 0, .int 0, rf E 12, rf E 13, .int 0, rf E 14, rf E 15, .int 0, rf E 16, rf E 17, rf E 18, rf E 19, rf E 20, rf E 21], [], [], [], [], [], [], [], [], [], [], [rf E 5, rf E 11, rf E 23, rf E 24, rf E 25, .int 0, rf E 26], [], [rf E 27, rf E 29, rf E 31, rf E 33, rf E 35, rf E 37, rf E 39, rf E 41, rf E 43, rf E 45, rf E 47, rf E 49, rf E 51, rf E 53, rf E 55, rf E 57, rf E 59, rf E 61, rf E 63, rf E 65, rf E 67, rf E 69, rf E 71, rf E 73], [rf E 28, rf E 30, rf E 32, rf E 34, rf E 36, rf E 38, rf E 40, rf E 42, rf E 44, rf E 46, rf E 48, rf E 50, rf E 52, rf E 54, rf E 56, rf E 58, rf E 60, rf E 62, rf E 64, rf E 66, rf E 68, rf E 70, rf E 72, rf E 74], [], [], [], [], [], [], [], [], [], [], [], [], [], [], [], [], [], [], [], [], [], [], [], [], [], [], [], [], [], [], [], [], [], [], [], [], [], [], [], [], [], [], [], [], [], [], [], [], [], [rf E 5, rf E 11, rf E 22, rf E 76, rf E 77, .int (-1), .int (-1), rf E 78, .int 0, rf E 79], [], [], [rf E 80, rf E 81, rf E 82, rf E 83, rf E 84, rf E 85], [], [], [], [], [], [], []]))
  refine rt_putF (i := 0) (ty := (.object "SharedPockets$Plans")) hB rfl flRX9_61 rfl (by decide) rfl rfl (by decide +kernel) rfl rfl dX9_init_103 (Nat.le_of_ble_eq_true rfl) (Nat.le_of_ble_eq_true rfl) ?_
  show Rn _ _ _ _ _ _ _ _ _ _ _ (tb (B ++ [[rf E 1, rf E 3, rf E 5, rf E 11, rf E 22, rf E 75, .null, .null, .int 0, .int 0], [rf E 2, rf E (1000 + 0), rf E (1000 + 1), rf E (1000 + 2), .int 3, .int 0], [], [rf E 4, rf E (1000 + 3), rf E (1000 + 4), rf E (1000 + 5), .int 2, .int 0], [], [.int 0, .int 0, rf E 6, rf E 7, rf E 8, rf E 9, .int 0, .int 0, .int 0, rf E 10], [], [], [], [], [], [.int 20, .int 0, .int 0, rf E 12, rf E 13, .int 0, rf E 14, rf E 15, .int 0, rf E 16, rf E 17, rf E 18, rf E 19, rf E 20, rf E 21], [], [], [], [], [], [], [], [], [], [], [rf E 5, rf E 11, rf E 23, rf E 24, rf E 25, .int 0, rf E 26], [], [rf E 27, rf E 29, rf E 31, rf E 33, rf E 35, rf E 37, rf E 39, rf E 41, rf E 43, rf E 45, rf E 47, rf E 49, rf E 51, rf E 53, rf E 55, rf E 57, rf E 59, rf E 61, rf E 63, rf E 65, rf E 67, rf E 69, rf E 71, rf E 73], [rf E 28, rf E 30, rf E 32, rf E 34, rf E 36, rf E 38, rf E 40, rf E 42, rf E 44, rf E 46, rf E 48, rf E 50, rf E 52, rf E 54, rf E 56, rf E 58, rf E 60, rf E 62, rf E 64, rf E 66, rf E 68, rf E 70, rf E 72, rf E 74], [], [], [], [], [], [], [], [], [], [], [], [], [], [], [], [], [], [], [], [], [], [], [], [], [], [], [], [], [], [], [], [], [], [], [], [], [], [], [], [], [], [], [], [], [], [], [], [], [], [rf E 5, rf E 11, rf E 22, rf E 76, rf E 77, .int (-1), .int (-1), rf E 78, .int 0, rf E 79], [], [], [rf E 80, rf E 81, rf E 82, rf E 83, rf E 84, rf E 85], [], [], [], [], [], [], []]))
  refine rn_aload_n dX9_init_106 rfl ?_
  refine rt_new (n := 86) (ci := 1) (N := 6) (l := [.null, .null, .null, .null, .null, .null]) RX1 TX1 tyX1 rfl (by decide) inX1 tyX1_ok clRX9_65 ins1 ini1 rfl (by intro j hj; revert j; decide +kernel) (by decide) ⟨Nat.le_of_ble_eq_true rfl, Nat.le_of_ble_eq_true rfl⟩ dX9_init_107 (by simp [hB]) ?_
  rw [List.append_assoc]
  show Rn _ _ _ _ _ _ _ _ _ _ _ (tb (B ++ [[rf E 1, rf E 3, rf E 5, rf E 11, rf E 22, rf E 75, .null, .null, .int 0, .int 0], [rf E 2, rf E (1000 + 0), rf E (1000 + 1), rf E (1000 + 2), .int 3, .int 0], [], [rf E 4, rf E (1000 + 3), rf E (1000 + 4), rf E (1000 + 5), .int 2, .int 0], [], [.int 0, .int 0, rf E 6, rf E 7, rf E 8, rf E 9, .int 0, .int 0, .int 0, rf E 10], [], [], [], [], [], [.int 20, .int 0, .int 0, rf E 12, rf E 13, .int 0, rf E 14, rf E 15, .int 0, rf E 16, rf E 17, rf E 18, rf E 19, rf E 20, rf E 21], [], [], [], [], [], [], [], [], [], [], [rf E 5, rf E 11, rf E 23, rf E 24, rf E 25, .int 0, rf E 26], [], [rf E 27, rf E 29, rf E 31, rf E 33, rf E 35, rf E 37, rf E 39, rf E 41, rf E 43, rf E 45, rf E 47, rf E 49, rf E 51, rf E 53, rf E 55, rf E 57, rf E 59, rf E 61, rf E 63, rf E 65, rf E 67, rf E 69, rf E 71, rf E 73], [rf E 28, rf E 30, rf E 32, rf E 34, rf E 36, rf E 38, rf E 40, rf E 42, rf E 44, rf E 46, rf E 48, rf E 50, rf E 52, rf E 54, rf E 56, rf E 58, rf E 60, rf E 62, rf E 64, rf E 66, rf E 68, rf E 70, rf E 72, rf E 74], [], [], [], [], [], [], [], [], [], [], [], [], [], [], [], [], [], [], [], [], [], [], [], [], [], [], [], [], [], [], [], [], [], [], [], [], [], [], [], [], [], [], [], [], [], [], [], [], [], [rf E 5, rf E 11, rf E 22, rf E 76, rf E 77, .int (-1), .int (-1), rf E 78, .int 0, rf E 79], [], [], [rf E 80, rf E 81, rf E 82, rf E 83, rf E 84, rf E 85], [], [], [], [], [], [], [], [.null, .null, .null, .null, .null, .null]]))
  refine rn_dup dX9_init_110 rfl ?_
  refine rn_aload_n dX9_init_111 rfl ?_
  refine rt_get (i := 0) (w := rf E 5) hB rfl flRX9_36 rfl (by decide) rfl dX9_init_112 ?_
  refine rn_aload_n dX9_init_115 rfl ?_
  refine rt_get (i := 0) (w := rf E 11) hB rfl flRX9_43 rfl (by decide) rfl dX9_init_116 ?_
  refine rn_aload_n dX9_init_119 rfl ?_
  refine rt_get (i := 0) (w := rf E 22) hB rfl flRX9_52 rfl (by decide) rfl dX9_init_120 ?_
  refine rn_callI (mc2 := 3) (ms2 := 54) (c0 := 86) (As := [rf E 5, rf E 11, rf E 22]) (st := [rf E 86, rf E 0]) mlRX9_67 rfl mdX1_init (Nat.le_of_ble_eq_true rfl) rfl rfl (Nat.le_of_ble_eq_true rfl) (by decide) ⟨Nat.le_of_ble_eq_true rfl, Nat.le_of_ble_eq_true rfl⟩ dX9_init_123 (ciX1_init_86 (B ++ [[rf E 1, rf E 3, rf E 5, rf E 11, rf E 22, rf E 75, .null, .null, .int 0, .int 0], [rf E 2, rf E (1000 + 0), rf E (1000 + 1), rf E (1000 + 2), .int 3, .int 0], [], [rf E 4, rf E (1000 + 3), rf E (1000 + 4), rf E (1000 + 5), .int 2, .int 0], [], [.int 0, .int 0, rf E 6, rf E 7, rf E 8, rf E 9, .int 0, .int 0, .int 0, rf E 10], [], [], [], [], [], [.int 20, .int 0, .int 0, rf E 12, rf E 13, .int 0, rf E 14, rf E 15, .int 0, rf E 16, rf E 17, rf E 18, rf E 19, rf E 20, rf E 21], [], [], [], [], [], [], [], [], [], [], [rf E 5, rf E 11, rf E 23, rf E 24, rf E 25, .int 0, rf E 26], [], [rf E 27, rf E 29, rf E 31, rf E 33, rf E 35, rf E 37, rf E 39, rf E 41, rf E 43, rf E 45, rf E 47, rf E 49, rf E 51, rf E 53, rf E 55, rf E 57, rf E 59, rf E 61, rf E 63, rf E 65, rf E 67, rf E 69, rf E 71, rf E 73], [rf E 28, rf E 30, rf E 32, rf E 34, rf E 36, rf E 38, rf E 40, rf E 42, rf E 44, rf E 46, rf E 48, rf E 50, rf E 52, rf E 54, rf E 56, rf E 58, rf E 60, rf E 62, rf E 64, rf E 66, rf E 68, rf E 70, rf E 72, rf E 74], [], [], [], [], [], [], [], [], [], [], [], [], [], [], [], [], [], [], [], [], [], [], [], [], [], [], [], [], [], [], [], [], [], [], [], [], [], [], [], [], [], [], [], [], [], [], [], [], [], [rf E 5, rf E 11, rf E 22, rf E 76, rf E 77, .int (-1), .int (-1), rf E 78, .int 0, rf E 79], [], [], [rf E 80, rf E 81, rf E 82, rf E 83, rf E 84, rf E 85], [], [], [], [], [], [], []]) (by simp [hB]) (by rw [List.append_assoc]; rfl) ?_)
  show Rn _ _ _ _ _ _ _ _ _ [rf E 86, rf E 0] _ _
  rw [List.append_assoc]
  show Rn _ _ _ _ _ _ _ _ _ _ _ (tb (B ++ [[rf E 1, rf E 3, rf E 5, rf E 11, rf E 22, rf E 75, .null, .null, .int 0, .int 0], [rf E 2, rf E (1000 + 0), rf E (1000 + 1), rf E (1000 + 2), .int 3, .int 0], [], [rf E 4, rf E (1000 + 3), rf E (1000 + 4), rf E (1000 + 5), .int 2, .int 0], [], [.int 0, .int 0, rf E 6, rf E 7, rf E 8, rf E 9, .int 0, .int 0, .int 0, rf E 10], [], [], [], [], [], [.int 20, .int 0, .int 0, rf E 12, rf E 13, .int 0, rf E 14, rf E 15, .int 0, rf E 16, rf E 17, rf E 18, rf E 19, rf E 20, rf E 21], [], [], [], [], [], [], [], [], [], [], [rf E 5, rf E 11, rf E 23, rf E 24, rf E 25, .int 0, rf E 26], [], [rf E 27, rf E 29, rf E 31, rf E 33, rf E 35, rf E 37, rf E 39, rf E 41, rf E 43, rf E 45, rf E 47, rf E 49, rf E 51, rf E 53, rf E 55, rf E 57, rf E 59, rf E 61, rf E 63, rf E 65, rf E 67, rf E 69, rf E 71, rf E 73], [rf E 28, rf E 30, rf E 32, rf E 34, rf E 36, rf E 38, rf E 40, rf E 42, rf E 44, rf E 46, rf E 48, rf E 50, rf E 52, rf E 54, rf E 56, rf E 58, rf E 60, rf E 62, rf E 64, rf E 66, rf E 68, rf E 70, rf E 72, rf E 74], [], [], [], [], [], [], [], [], [], [], [], [], [], [], [], [], [], [], [], [], [], [], [], [], [], [], [], [], [], [], [], [], [], [], [], [], [], [], [], [], [], [], [], [], [], [], [], [], [], [rf E 5, rf E 11, rf E 22, rf E 76, rf E 77, .int (-1), .int (-1), rf E 78, .int 0, rf E 79], [], [], [rf E 80, rf E 81, rf E 82, rf E 83, rf E 84, rf E 85], [], [], [], [], [], [], [], [rf E 5, rf E 11, rf E 22, rf E 87, rf E 88, rf E 89], [], [], []]))
  refine rt_putF (i := 0) (ty := (.object "SharedPockets$Guesses")) hB rfl flRX9_68 rfl (by decide) rfl rfl (by decide +kernel) rfl rfl dX9_init_126 (Nat.le_of_ble_eq_true rfl) (Nat.le_of_ble_eq_true rfl) ?_
  show Rn _ _ _ _ _ _ _ _ _ _ _ (tb (B ++ [[rf E 1, rf E 3, rf E 5, rf E 11, rf E 22, rf E 75, rf E 86, .null, .int 0, .int 0], [rf E 2, rf E (1000 + 0), rf E (1000 + 1), rf E (1000 + 2), .int 3, .int 0], [], [rf E 4, rf E (1000 + 3), rf E (1000 + 4), rf E (1000 + 5), .int 2, .int 0], [], [.int 0, .int 0, rf E 6, rf E 7, rf E 8, rf E 9, .int 0, .int 0, .int 0, rf E 10], [], [], [], [], [], [.int 20, .int 0, .int 0, rf E 12, rf E 13, .int 0, rf E 14, rf E 15, .int 0, rf E 16, rf E 17, rf E 18, rf E 19, rf E 20, rf E 21], [], [], [], [], [], [], [], [], [], [], [rf E 5, rf E 11, rf E 23, rf E 24, rf E 25, .int 0, rf E 26], [], [rf E 27, rf E 29, rf E 31, rf E 33, rf E 35, rf E 37, rf E 39, rf E 41, rf E 43, rf E 45, rf E 47, rf E 49, rf E 51, rf E 53, rf E 55, rf E 57, rf E 59, rf E 61, rf E 63, rf E 65, rf E 67, rf E 69, rf E 71, rf E 73], [rf E 28, rf E 30, rf E 32, rf E 34, rf E 36, rf E 38, rf E 40, rf E 42, rf E 44, rf E 46, rf E 48, rf E 50, rf E 52, rf E 54, rf E 56, rf E 58, rf E 60, rf E 62, rf E 64, rf E 66, rf E 68, rf E 70, rf E 72, rf E 74], [], [], [], [], [], [], [], [], [], [], [], [], [], [], [], [], [], [], [], [], [], [], [], [], [], [], [], [], [], [], [], [], [], [], [], [], [], [], [], [], [], [], [], [], [], [], [], [], [], [rf E 5, rf E 11, rf E 22, rf E 76, rf E 77, .int (-1), .int (-1), rf E 78, .int 0, rf E 79], [], [], [rf E 80, rf E 81, rf E 82, rf E 83, rf E 84, rf E 85], [], [], [], [], [], [], [], [rf E 5, rf E 11, rf E 22, rf E 87, rf E 88, rf E 89], [], [], []]))
  refine rn_aload_n dX9_init_129 rfl ?_
  refine rn_iconst (x := (4 : Int32)) dX9_init_130 (by decide) ?_
  refine rt_newq (n := 90) (t := 103) (N := 4) (C0 := RX5) (by decide) rfl clRX9_72 (Or.inr rfl) (by decide) (by decide) (by decide) rfl (by decide) ⟨Nat.le_of_ble_eq_true rfl, Nat.le_of_ble_eq_true rfl⟩ dX9_init_131 (by simp [hB]) ?_
  rw [List.append_assoc]
  show Rn _ _ _ _ _ _ _ _ _ _ _ (tb (B ++ [[rf E 1, rf E 3, rf E 5, rf E 11, rf E 22, rf E 75, rf E 86, .null, .int 0, .int 0], [rf E 2, rf E (1000 + 0), rf E (1000 + 1), rf E (1000 + 2), .int 3, .int 0], [], [rf E 4, rf E (1000 + 3), rf E (1000 + 4), rf E (1000 + 5), .int 2, .int 0], [], [.int 0, .int 0, rf E 6, rf E 7, rf E 8, rf E 9, .int 0, .int 0, .int 0, rf E 10], [], [], [], [], [], [.int 20, .int 0, .int 0, rf E 12, rf E 13, .int 0, rf E 14, rf E 15, .int 0, rf E 16, rf E 17, rf E 18, rf E 19, rf E 20, rf E 21], [], [], [], [], [], [], [], [], [], [], [rf E 5, rf E 11, rf E 23, rf E 24, rf E 25, .int 0, rf E 26], [], [rf E 27, rf E 29, rf E 31, rf E 33, rf E 35, rf E 37, rf E 39, rf E 41, rf E 43, rf E 45, rf E 47, rf E 49, rf E 51, rf E 53, rf E 55, rf E 57, rf E 59, rf E 61, rf E 63, rf E 65, rf E 67, rf E 69, rf E 71, rf E 73], [rf E 28, rf E 30, rf E 32, rf E 34, rf E 36, rf E 38, rf E 40, rf E 42, rf E 44, rf E 46, rf E 48, rf E 50, rf E 52, rf E 54, rf E 56, rf E 58, rf E 60, rf E 62, rf E 64, rf E 66, rf E 68, rf E 70, rf E 72, rf E 74], [], [], [], [], [], [], [], [], [], [], [], [], [], [], [], [], [], [], [], [], [], [], [], [], [], [], [], [], [], [], [], [], [], [], [], [], [], [], [], [], [], [], [], [], [], [], [], [], [], [rf E 5, rf E 11, rf E 22, rf E 76, rf E 77, .int (-1), .int (-1), rf E 78, .int 0, rf E 79], [], [], [rf E 80, rf E 81, rf E 82, rf E 83, rf E 84, rf E 85], [], [], [], [], [], [], [], [rf E 5, rf E 11, rf E 22, rf E 87, rf E 88, rf E 89], [], [], [], [.int 0, .int 0, .int 0, .int 0]]))
  refine rt_putF (i := 0) (ty := (.array (.object "SharedPockets$Sheet"))) hB rfl flRX9_74 rfl (by decide) rfl rfl (by decide +kernel) rfl rfl dX9_init_134 (Nat.le_of_ble_eq_true rfl) (Nat.le_of_ble_eq_true rfl) ?_
  show Rn _ _ _ _ _ _ _ _ _ _ _ (tb (B ++ [[rf E 1, rf E 3, rf E 5, rf E 11, rf E 22, rf E 75, rf E 86, rf E 90, .int 0, .int 0], [rf E 2, rf E (1000 + 0), rf E (1000 + 1), rf E (1000 + 2), .int 3, .int 0], [], [rf E 4, rf E (1000 + 3), rf E (1000 + 4), rf E (1000 + 5), .int 2, .int 0], [], [.int 0, .int 0, rf E 6, rf E 7, rf E 8, rf E 9, .int 0, .int 0, .int 0, rf E 10], [], [], [], [], [], [.int 20, .int 0, .int 0, rf E 12, rf E 13, .int 0, rf E 14, rf E 15, .int 0, rf E 16, rf E 17, rf E 18, rf E 19, rf E 20, rf E 21], [], [], [], [], [], [], [], [], [], [], [rf E 5, rf E 11, rf E 23, rf E 24, rf E 25, .int 0, rf E 26], [], [rf E 27, rf E 29, rf E 31, rf E 33, rf E 35, rf E 37, rf E 39, rf E 41, rf E 43, rf E 45, rf E 47, rf E 49, rf E 51, rf E 53, rf E 55, rf E 57, rf E 59, rf E 61, rf E 63, rf E 65, rf E 67, rf E 69, rf E 71, rf E 73], [rf E 28, rf E 30, rf E 32, rf E 34, rf E 36, rf E 38, rf E 40, rf E 42, rf E 44, rf E 46, rf E 48, rf E 50, rf E 52, rf E 54, rf E 56, rf E 58, rf E 60, rf E 62, rf E 64, rf E 66, rf E 68, rf E 70, rf E 72, rf E 74], [], [], [], [], [], [], [], [], [], [], [], [], [], [], [], [], [], [], [], [], [], [], [], [], [], [], [], [], [], [], [], [], [], [], [], [], [], [], [], [], [], [], [], [], [], [], [], [], [], [rf E 5, rf E 11, rf E 22, rf E 76, rf E 77, .int (-1), .int (-1), rf E 78, .int 0, rf E 79], [], [], [rf E 80, rf E 81, rf E 82, rf E 83, rf E 84, rf E 85], [], [], [], [], [], [], [], [rf E 5, rf E 11, rf E 22, rf E 87, rf E 88, rf E 89], [], [], [], [.int 0, .int 0, .int 0, .int 0]]))
  refine rn_iconst (x := (0 : Int32)) dX9_init_137 (by decide) ?_
  refine ra_istore_n dX9_init_138 rfl (Nat.le_of_ble_eq_true rfl) ?_
  show Rn _ _ _ _ _ _ _ _ [some (rf E 0), some (.int 0)] _ _ _
  refine rn_iload_n dX9_init_139 rfl ?_
  refine rn_aload_n dX9_init_140 rfl ?_
  refine rt_get (i := 0) (w := rf E 90) hB rfl flRX9_74 rfl (by decide) rfl dX9_init_141 ?_
  refine rn_alen (ty := .object RX5) (x := (4 : Int32)) rfl (by decide) (by decide) rfl (by decide) dX9_init_144 ?_
  refine rn_icmp_ge (tgt := 167) dX9_init_145 (by decide) (fun q => absurd q (by decide)) (fun _ => ?_)
  refine rn_aload_n dX9_init_148 rfl ?_
  refine rt_get (i := 0) (w := rf E 90) hB rfl flRX9_74 rfl (by decide) rfl dX9_init_149 ?_
  refine rn_iload_n dX9_init_152 rfl ?_
  refine rt_new (n := 91) (ci := 5) (N := 3) (l := [.int 0, .int 0, .null]) RX5 TX5 tyX5 rfl (by decide) inX5 tyX5_ok clRX9_72 ins5 ini5 rfl (by intro j hj; revert j; decide +kernel) (by decide) ⟨Nat.le_of_ble_eq_true rfl, Nat.le_of_ble_eq_true rfl⟩ dX9_init_153 (by simp [hB]) ?_
  rw [List.append_assoc]
  show Rn _ _ _ _ _ _ _ _ _ _ _ (tb (B ++ [[rf E 1, rf E 3, rf E 5, rf E 11, rf E 22, rf E 75, rf E 86, rf E 90, .int 0, .int 0], [rf E 2, rf E (1000 + 0), rf E (1000 + 1), rf E (1000 + 2), .int 3, .int 0], [], [rf E 4, rf E (1000 + 3), rf E (1000 + 4), rf E (1000 + 5), .int 2, .int 0], [], [.int 0, .int 0, rf E 6, rf E 7, rf E 8, rf E 9, .int 0, .int 0, .int 0, rf E 10], [], [], [], [], [], [.int 20, .int 0, .int 0, rf E 12, rf E 13, .int 0, rf E 14, rf E 15, .int 0, rf E 16, rf E 17, rf E 18, rf E 19, rf E 20, rf E 21], [], [], [], [], [], [], [], [], [], [], [rf E 5, rf E 11, rf E 23, rf E 24, rf E 25, .int 0, rf E 26], [], [rf E 27, rf E 29, rf E 31, rf E 33, rf E 35, rf E 37, rf E 39, rf E 41, rf E 43, rf E 45, rf E 47, rf E 49, rf E 51, rf E 53, rf E 55, rf E 57, rf E 59, rf E 61, rf E 63, rf E 65, rf E 67, rf E 69, rf E 71, rf E 73], [rf E 28, rf E 30, rf E 32, rf E 34, rf E 36, rf E 38, rf E 40, rf E 42, rf E 44, rf E 46, rf E 48, rf E 50, rf E 52, rf E 54, rf E 56, rf E 58, rf E 60, rf E 62, rf E 64, rf E 66, rf E 68, rf E 70, rf E 72, rf E 74], [], [], [], [], [], [], [], [], [], [], [], [], [], [], [], [], [], [], [], [], [], [], [], [], [], [], [], [], [], [], [], [], [], [], [], [], [], [], [], [], [], [], [], [], [], [], [], [], [], [rf E 5, rf E 11, rf E 22, rf E 76, rf E 77, .int (-1), .int (-1), rf E 78, .int 0, rf E 79], [], [], [rf E 80, rf E 81, rf E 82, rf E 83, rf E 84, rf E 85], [], [], [], [], [], [], [], [rf E 5, rf E 11, rf E 22, rf E 87, rf E 88, rf E 89], [], [], [], [.int 0, .int 0, .int 0, .int 0], [.int 0, .int 0, .null]]))
  refine rn_dup dX9_init_156 rfl ?_
  refine rn_callIN (mc2 := 1) (ms2 := 60) (c0 := 91) (As := []) (st := [rf E 91, .int 0, rf E 90]) mlRX9_78 rfl mdX5_init (Nat.le_of_ble_eq_true rfl) rfl rfl (Nat.le_of_ble_eq_true rfl) (by decide) ⟨Nat.le_of_ble_eq_true rfl, Nat.le_of_ble_eq_true rfl⟩ dX9_init_157 (ciX5_init_91 (B ++ [[rf E 1, rf E 3, rf E 5, rf E 11, rf E 22, rf E 75, rf E 86, rf E 90, .int 0, .int 0], [rf E 2, rf E (1000 + 0), rf E (1000 + 1), rf E (1000 + 2), .int 3, .int 0], [], [rf E 4, rf E (1000 + 3), rf E (1000 + 4), rf E (1000 + 5), .int 2, .int 0], [], [.int 0, .int 0, rf E 6, rf E 7, rf E 8, rf E 9, .int 0, .int 0, .int 0, rf E 10], [], [], [], [], [], [.int 20, .int 0, .int 0, rf E 12, rf E 13, .int 0, rf E 14, rf E 15, .int 0, rf E 16, rf E 17, rf E 18, rf E 19, rf E 20, rf E 21], [], [], [], [], [], [], [], [], [], [], [rf E 5, rf E 11, rf E 23, rf E 24, rf E 25, .int 0, rf E 26], [], [rf E 27, rf E 29, rf E 31, rf E 33, rf E 35, rf E 37, rf E 39, rf E 41, rf E 43, rf E 45, rf E 47, rf E 49, rf E 51, rf E 53, rf E 55, rf E 57, rf E 59, rf E 61, rf E 63, rf E 65, rf E 67, rf E 69, rf E 71, rf E 73], [rf E 28, rf E 30, rf E 32, rf E 34, rf E 36, rf E 38, rf E 40, rf E 42, rf E 44, rf E 46, rf E 48, rf E 50, rf E 52, rf E 54, rf E 56, rf E 58, rf E 60, rf E 62, rf E 64, rf E 66, rf E 68, rf E 70, rf E 72, rf E 74], [], [], [], [], [], [], [], [], [], [], [], [], [], [], [], [], [], [], [], [], [], [], [], [], [], [], [], [], [], [], [], [], [], [], [], [], [], [], [], [], [], [], [], [], [], [], [], [], [], [rf E 5, rf E 11, rf E 22, rf E 76, rf E 77, .int (-1), .int (-1), rf E 78, .int 0, rf E 79], [], [], [rf E 80, rf E 81, rf E 82, rf E 83, rf E 84, rf E 85], [], [], [], [], [], [], [], [rf E 5, rf E 11, rf E 22, rf E 87, rf E 88, rf E 89], [], [], [], [.int 0, .int 0, .int 0, .int 0]]) (by simp [hB]) (by rw [List.append_assoc]; rfl) ?_)
  show Rn _ _ _ _ _ _ _ _ _ [rf E 91, .int 0, rf E 90] _ _
  rw [List.append_assoc]
  show Rn _ _ _ _ _ _ _ _ _ _ _ (tb (B ++ [[rf E 1, rf E 3, rf E 5, rf E 11, rf E 22, rf E 75, rf E 86, rf E 90, .int 0, .int 0], [rf E 2, rf E (1000 + 0), rf E (1000 + 1), rf E (1000 + 2), .int 3, .int 0], [], [rf E 4, rf E (1000 + 3), rf E (1000 + 4), rf E (1000 + 5), .int 2, .int 0], [], [.int 0, .int 0, rf E 6, rf E 7, rf E 8, rf E 9, .int 0, .int 0, .int 0, rf E 10], [], [], [], [], [], [.int 20, .int 0, .int 0, rf E 12, rf E 13, .int 0, rf E 14, rf E 15, .int 0, rf E 16, rf E 17, rf E 18, rf E 19, rf E 20, rf E 21], [], [], [], [], [], [], [], [], [], [], [rf E 5, rf E 11, rf E 23, rf E 24, rf E 25, .int 0, rf E 26], [], [rf E 27, rf E 29, rf E 31, rf E 33, rf E 35, rf E 37, rf E 39, rf E 41, rf E 43, rf E 45, rf E 47, rf E 49, rf E 51, rf E 53, rf E 55, rf E 57, rf E 59, rf E 61, rf E 63, rf E 65, rf E 67, rf E 69, rf E 71, rf E 73], [rf E 28, rf E 30, rf E 32, rf E 34, rf E 36, rf E 38, rf E 40, rf E 42, rf E 44, rf E 46, rf E 48, rf E 50, rf E 52, rf E 54, rf E 56, rf E 58, rf E 60, rf E 62, rf E 64, rf E 66, rf E 68, rf E 70, rf E 72, rf E 74], [], [], [], [], [], [], [], [], [], [], [], [], [], [], [], [], [], [], [], [], [], [], [], [], [], [], [], [], [], [], [], [], [], [], [], [], [], [], [], [], [], [], [], [], [], [], [], [], [], [rf E 5, rf E 11, rf E 22, rf E 76, rf E 77, .int (-1), .int (-1), rf E 78, .int 0, rf E 79], [], [], [rf E 80, rf E 81, rf E 82, rf E 83, rf E 84, rf E 85], [], [], [], [], [], [], [], [rf E 5, rf E 11, rf E 22, rf E 87, rf E 88, rf E 89], [], [], [], [.int 0, .int 0, .int 0, .int 0], [.int 0, .int (-1), rf E 92], []]))
  refine rt_aast (i := 90) (j := 0) (t := 103) (ci := 5) (r := vwCl.getD 5 ("", TX0, 0)) hB rfl rfl (by decide) (by decide) rfl (by decide) rfl (by decide) rfl (by decide) dX9_init_160 (Nat.le_of_ble_eq_true rfl) (Nat.le_of_ble_eq_true rfl) ?_
  show Rn _ _ _ _ _ _ _ _ _ _ _ (tb (B ++ [[rf E 1, rf E 3, rf E 5, rf E 11, rf E 22, rf E 75, rf E 86, rf E 90, .int 0, .int 0], [rf E 2, rf E (1000 + 0), rf E (1000 + 1), rf E (1000 + 2), .int 3, .int 0], [], [rf E 4, rf E (1000 + 3), rf E (1000 + 4), rf E (1000 + 5), .int 2, .int 0], [], [.int 0, .int 0, rf E 6, rf E 7, rf E 8, rf E 9, .int 0, .int 0, .int 0, rf E 10], [], [], [], [], [], [.int 20, .int 0, .int 0, rf E 12, rf E 13, .int 0, rf E 14, rf E 15, .int 0, rf E 16, rf E 17, rf E 18, rf E 19, rf E 20, rf E 21], [], [], [], [], [], [], [], [], [], [], [rf E 5, rf E 11, rf E 23, rf E 24, rf E 25, .int 0, rf E 26], [], [rf E 27, rf E 29, rf E 31, rf E 33, rf E 35, rf E 37, rf E 39, rf E 41, rf E 43, rf E 45, rf E 47, rf E 49, rf E 51, rf E 53, rf E 55, rf E 57, rf E 59, rf E 61, rf E 63, rf E 65, rf E 67, rf E 69, rf E 71, rf E 73], [rf E 28, rf E 30, rf E 32, rf E 34, rf E 36, rf E 38, rf E 40, rf E 42, rf E 44, rf E 46, rf E 48, rf E 50, rf E 52, rf E 54, rf E 56, rf E 58, rf E 60, rf E 62, rf E 64, rf E 66, rf E 68, rf E 70, rf E 72, rf E 74], [], [], [], [], [], [], [], [], [], [], [], [], [], [], [], [], [], [], [], [], [], [], [], [], [], [], [], [], [], [], [], [], [], [], [], [], [], [], [], [], [], [], [], [], [], [], [], [], [], [rf E 5, rf E 11, rf E 22, rf E 76, rf E 77, .int (-1), .int (-1), rf E 78, .int 0, rf E 79], [], [], [rf E 80, rf E 81, rf E 82, rf E 83, rf E 84, rf E 85], [], [], [], [], [], [], [], [rf E 5, rf E 11, rf E 22, rf E 87, rf E 88, rf E 89], [], [], [], [rf E 91, .int 0, .int 0, .int 0], [.int 0, .int (-1), rf E 92], []]))
  refine rn_iinc (w := (1 : Int32)) dX9_init_161 rfl (by decide) rfl (Nat.le_of_ble_eq_true rfl) (fun zy ze => ?_)
  obtain rfl : zy = (1 : Int32) := ze.trans (by decide)
  show Rn _ _ _ _ _ _ _ _ [some (rf E 0), some (.int 1)] _ _ _
  refine rn_goto (tgt := 139) dX9_init_164 (by decide) ?_
  refine rn_iload_n dX9_init_139 rfl ?_
  refine rn_aload_n dX9_init_140 rfl ?_
  refine rt_get (i := 0) (w := rf E 90) hB rfl flRX9_74 rfl (by decide) rfl dX9_init_141 ?_
  refine rn_alen (ty := .object RX5) (x := (4 : Int32)) rfl (by decide) (by decide) rfl (by decide) dX9_init_144 ?_
  refine rn_icmp_ge (tgt := 167) dX9_init_145 (by decide) (fun q => absurd q (by decide)) (fun _ => ?_)
  refine rn_aload_n dX9_init_148 rfl ?_
  refine rt_get (i := 0) (w := rf E 90) hB rfl flRX9_74 rfl (by decide) rfl dX9_init_149 ?_
  refine rn_iload_n dX9_init_152 rfl ?_
  refine rt_new (n := 93) (ci := 5) (N := 3) (l := [.int 0, .int 0, .null]) RX5 TX5 tyX5 rfl (by decide) inX5 tyX5_ok clRX9_72 ins5 ini5 rfl (by intro j hj; revert j; decide +kernel) (by decide) ⟨Nat.le_of_ble_eq_true rfl, Nat.le_of_ble_eq_true rfl⟩ dX9_init_153 (by simp [hB]) ?_
  rw [List.append_assoc]
  show Rn _ _ _ _ _ _ _ _ _ _ _ (tb (B ++ [[rf E 1, rf E 3, rf E 5, rf E 11, rf E 22, rf E 75, rf E 86, rf E 90, .int 0, .int 0], [rf E 2, rf E (1000 + 0), rf E (1000 + 1), rf E (1000 + 2), .int 3, .int 0], [], [rf E 4, rf E (1000 + 3), rf E (1000 + 4), rf E (1000 + 5), .int 2, .int 0], [], [.int 0, .int 0, rf E 6, rf E 7, rf E 8, rf E 9, .int 0, .int 0, .int 0, rf E 10], [], [], [], [], [], [.int 20, .int 0, .int 0, rf E 12, rf E 13, .int 0, rf E 14, rf E 15, .int 0, rf E 16, rf E 17, rf E 18, rf E 19, rf E 20, rf E 21], [], [], [], [], [], [], [], [], [], [], [rf E 5, rf E 11, rf E 23, rf E 24, rf E 25, .int 0, rf E 26], [], [rf E 27, rf E 29, rf E 31, rf E 33, rf E 35, rf E 37, rf E 39, rf E 41, rf E 43, rf E 45, rf E 47, rf E 49, rf E 51, rf E 53, rf E 55, rf E 57, rf E 59, rf E 61, rf E 63, rf E 65, rf E 67, rf E 69, rf E 71, rf E 73], [rf E 28, rf E 30, rf E 32, rf E 34, rf E 36, rf E 38, rf E 40, rf E 42, rf E 44, rf E 46, rf E 48, rf E 50, rf E 52, rf E 54, rf E 56, rf E 58, rf E 60, rf E 62, rf E 64, rf E 66, rf E 68, rf E 70, rf E 72, rf E 74], [], [], [], [], [], [], [], [], [], [], [], [], [], [], [], [], [], [], [], [], [], [], [], [], [], [], [], [], [], [], [], [], [], [], [], [], [], [], [], [], [], [], [], [], [], [], [], [], [], [rf E 5, rf E 11, rf E 22, rf E 76, rf E 77, .int (-1), .int (-1), rf E 78, .int 0, rf E 79], [], [], [rf E 80, rf E 81, rf E 82, rf E 83, rf E 84, rf E 85], [], [], [], [], [], [], [], [rf E 5, rf E 11, rf E 22, rf E 87, rf E 88, rf E 89], [], [], [], [rf E 91, .int 0, .int 0, .int 0], [.int 0, .int (-1), rf E 92], [], [.int 0, .int 0, .null]]))
  refine rn_dup dX9_init_156 rfl ?_
  refine rn_callIN (mc2 := 1) (ms2 := 60) (c0 := 93) (As := []) (st := [rf E 93, .int 1, rf E 90]) mlRX9_78 rfl mdX5_init (Nat.le_of_ble_eq_true rfl) rfl rfl (Nat.le_of_ble_eq_true rfl) (by decide) ⟨Nat.le_of_ble_eq_true rfl, Nat.le_of_ble_eq_true rfl⟩ dX9_init_157 (ciX5_init_93 (B ++ [[rf E 1, rf E 3, rf E 5, rf E 11, rf E 22, rf E 75, rf E 86, rf E 90, .int 0, .int 0], [rf E 2, rf E (1000 + 0), rf E (1000 + 1), rf E (1000 + 2), .int 3, .int 0], [], [rf E 4, rf E (1000 + 3), rf E (1000 + 4), rf E (1000 + 5), .int 2, .int 0], [], [.int 0, .int 0, rf E 6, rf E 7, rf E 8, rf E 9, .int 0, .int 0, .int 0, rf E 10], [], [], [], [], [], [.int 20, .int 0, .int 0, rf E 12, rf E 13, .int 0, rf E 14, rf E 15, .int 0, rf E 16, rf E 17, rf E 18, rf E 19, rf E 20, rf E 21], [], [], [], [], [], [], [], [], [], [], [rf E 5, rf E 11, rf E 23, rf E 24, rf E 25, .int 0, rf E 26], [], [rf E 27, rf E 29, rf E 31, rf E 33, rf E 35, rf E 37, rf E 39, rf E 41, rf E 43, rf E 45, rf E 47, rf E 49, rf E 51, rf E 53, rf E 55, rf E 57, rf E 59, rf E 61, rf E 63, rf E 65, rf E 67, rf E 69, rf E 71, rf E 73], [rf E 28, rf E 30, rf E 32, rf E 34, rf E 36, rf E 38, rf E 40, rf E 42, rf E 44, rf E 46, rf E 48, rf E 50, rf E 52, rf E 54, rf E 56, rf E 58, rf E 60, rf E 62, rf E 64, rf E 66, rf E 68, rf E 70, rf E 72, rf E 74], [], [], [], [], [], [], [], [], [], [], [], [], [], [], [], [], [], [], [], [], [], [], [], [], [], [], [], [], [], [], [], [], [], [], [], [], [], [], [], [], [], [], [], [], [], [], [], [], [], [rf E 5, rf E 11, rf E 22, rf E 76, rf E 77, .int (-1), .int (-1), rf E 78, .int 0, rf E 79], [], [], [rf E 80, rf E 81, rf E 82, rf E 83, rf E 84, rf E 85], [], [], [], [], [], [], [], [rf E 5, rf E 11, rf E 22, rf E 87, rf E 88, rf E 89], [], [], [], [rf E 91, .int 0, .int 0, .int 0], [.int 0, .int (-1), rf E 92], []]) (by simp [hB]) (by rw [List.append_assoc]; rfl) ?_)
  show Rn _ _ _ _ _ _ _ _ _ [rf E 93, .int 1, rf E 90] _ _
  rw [List.append_assoc]
  show Rn _ _ _ _ _ _ _ _ _ _ _ (tb (B ++ [[rf E 1, rf E 3, rf E 5, rf E 11, rf E 22, rf E 75, rf E 86, rf E 90, .int 0, .int 0], [rf E 2, rf E (1000 + 0), rf E (1000 + 1), rf E (1000 + 2), .int 3, .int 0], [], [rf E 4, rf E (1000 + 3), rf E (1000 + 4), rf E (1000 + 5), .int 2, .int 0], [], [.int 0, .int 0, rf E 6, rf E 7, rf E 8, rf E 9, .int 0, .int 0, .int 0, rf E 10], [], [], [], [], [], [.int 20, .int 0, .int 0, rf E 12, rf E 13, .int 0, rf E 14, rf E 15, .int 0, rf E 16, rf E 17, rf E 18, rf E 19, rf E 20, rf E 21], [], [], [], [], [], [], [], [], [], [], [rf E 5, rf E 11, rf E 23, rf E 24, rf E 25, .int 0, rf E 26], [], [rf E 27, rf E 29, rf E 31, rf E 33, rf E 35, rf E 37, rf E 39, rf E 41, rf E 43, rf E 45, rf E 47, rf E 49, rf E 51, rf E 53, rf E 55, rf E 57, rf E 59, rf E 61, rf E 63, rf E 65, rf E 67, rf E 69, rf E 71, rf E 73], [rf E 28, rf E 30, rf E 32, rf E 34, rf E 36, rf E 38, rf E 40, rf E 42, rf E 44, rf E 46, rf E 48, rf E 50, rf E 52, rf E 54, rf E 56, rf E 58, rf E 60, rf E 62, rf E 64, rf E 66, rf E 68, rf E 70, rf E 72, rf E 74], [], [], [], [], [], [], [], [], [], [], [], [], [], [], [], [], [], [], [], [], [], [], [], [], [], [], [], [], [], [], [], [], [], [], [], [], [], [], [], [], [], [], [], [], [], [], [], [], [], [rf E 5, rf E 11, rf E 22, rf E 76, rf E 77, .int (-1), .int (-1), rf E 78, .int 0, rf E 79], [], [], [rf E 80, rf E 81, rf E 82, rf E 83, rf E 84, rf E 85], [], [], [], [], [], [], [], [rf E 5, rf E 11, rf E 22, rf E 87, rf E 88, rf E 89], [], [], [], [rf E 91, .int 0, .int 0, .int 0], [.int 0, .int (-1), rf E 92], [], [.int 0, .int (-1), rf E 94], []]))
  refine rt_aast (i := 90) (j := 1) (t := 103) (ci := 5) (r := vwCl.getD 5 ("", TX0, 0)) hB rfl rfl (by decide) (by decide) rfl (by decide) rfl (by decide) rfl (by decide) dX9_init_160 (Nat.le_of_ble_eq_true rfl) (Nat.le_of_ble_eq_true rfl) ?_
  show Rn _ _ _ _ _ _ _ _ _ _ _ (tb (B ++ [[rf E 1, rf E 3, rf E 5, rf E 11, rf E 22, rf E 75, rf E 86, rf E 90, .int 0, .int 0], [rf E 2, rf E (1000 + 0), rf E (1000 + 1), rf E (1000 + 2), .int 3, .int 0], [], [rf E 4, rf E (1000 + 3), rf E (1000 + 4), rf E (1000 + 5), .int 2, .int 0], [], [.int 0, .int 0, rf E 6, rf E 7, rf E 8, rf E 9, .int 0, .int 0, .int 0, rf E 10], [], [], [], [], [], [.int 20, .int 0, .int 0, rf E 12, rf E 13, .int 0, rf E 14, rf E 15, .int 0, rf E 16, rf E 17, rf E 18, rf E 19, rf E 20, rf E 21], [], [], [], [], [], [], [], [], [], [], [rf E 5, rf E 11, rf E 23, rf E 24, rf E 25, .int 0, rf E 26], [], [rf E 27, rf E 29, rf E 31, rf E 33, rf E 35, rf E 37, rf E 39, rf E 41, rf E 43, rf E 45, rf E 47, rf E 49, rf E 51, rf E 53, rf E 55, rf E 57, rf E 59, rf E 61, rf E 63, rf E 65, rf E 67, rf E 69, rf E 71, rf E 73], [rf E 28, rf E 30, rf E 32, rf E 34, rf E 36, rf E 38, rf E 40, rf E 42, rf E 44, rf E 46, rf E 48, rf E 50, rf E 52, rf E 54, rf E 56, rf E 58, rf E 60, rf E 62, rf E 64, rf E 66, rf E 68, rf E 70, rf E 72, rf E 74], [], [], [], [], [], [], [], [], [], [], [], [], [], [], [], [], [], [], [], [], [], [], [], [], [], [], [], [], [], [], [], [], [], [], [], [], [], [], [], [], [], [], [], [], [], [], [], [], [], [rf E 5, rf E 11, rf E 22, rf E 76, rf E 77, .int (-1), .int (-1), rf E 78, .int 0, rf E 79], [], [], [rf E 80, rf E 81, rf E 82, rf E 83, rf E 84, rf E 85], [], [], [], [], [], [], [], [rf E 5, rf E 11, rf E 22, rf E 87, rf E 88, rf E 89], [], [], [], [rf E 91, rf E 93, .int 0, .int 0], [.int 0, .int (-1), rf E 92], [], [.int 0, .int (-1), rf E 94], []]))
  refine rn_iinc (w := (1 : Int32)) dX9_init_161 rfl (by decide) rfl (Nat.le_of_ble_eq_true rfl) (fun zy ze => ?_)
  obtain rfl : zy = (2 : Int32) := ze.trans (by decide)
  show Rn _ _ _ _ _ _ _ _ [some (rf E 0), some (.int 2)] _ _ _
  refine rn_goto (tgt := 139) dX9_init_164 (by decide) ?_
  refine rn_iload_n dX9_init_139 rfl ?_
  refine rn_aload_n dX9_init_140 rfl ?_
  refine rt_get (i := 0) (w := rf E 90) hB rfl flRX9_74 rfl (by decide) rfl dX9_init_141 ?_
  refine rn_alen (ty := .object RX5) (x := (4 : Int32)) rfl (by decide) (by decide) rfl (by decide) dX9_init_144 ?_
  refine rn_icmp_ge (tgt := 167) dX9_init_145 (by decide) (fun q => absurd q (by decide)) (fun _ => ?_)
  refine rn_aload_n dX9_init_148 rfl ?_
  refine rt_get (i := 0) (w := rf E 90) hB rfl flRX9_74 rfl (by decide) rfl dX9_init_149 ?_
  refine rn_iload_n dX9_init_152 rfl ?_
  refine rt_new (n := 95) (ci := 5) (N := 3) (l := [.int 0, .int 0, .null]) RX5 TX5 tyX5 rfl (by decide) inX5 tyX5_ok clRX9_72 ins5 ini5 rfl (by intro j hj; revert j; decide +kernel) (by decide) ⟨Nat.le_of_ble_eq_true rfl, Nat.le_of_ble_eq_true rfl⟩ dX9_init_153 (by simp [hB]) ?_
  rw [List.append_assoc]
  show Rn _ _ _ _ _ _ _ _ _ _ _ (tb (B ++ [[rf E 1, rf E 3, rf E 5, rf E 11, rf E 22, rf E 75, rf E 86, rf E 90, .int 0, .int 0], [rf E 2, rf E (1000 + 0), rf E (1000 + 1), rf E (1000 + 2), .int 3, .int 0], [], [rf E 4, rf E (1000 + 3), rf E (1000 + 4), rf E (1000 + 5), .int 2, .int 0], [], [.int 0, .int 0, rf E 6, rf E 7, rf E 8, rf E 9, .int 0, .int 0, .int 0, rf E 10], [], [], [], [], [], [.int 20, .int 0, .int 0, rf E 12, rf E 13, .int 0, rf E 14, rf E 15, .int 0, rf E 16, rf E 17, rf E 18, rf E 19, rf E 20, rf E 21], [], [], [], [], [], [], [], [], [], [], [rf E 5, rf E 11, rf E 23, rf E 24, rf E 25, .int 0, rf E 26], [], [rf E 27, rf E 29, rf E 31, rf E 33, rf E 35, rf E 37, rf E 39, rf E 41, rf E 43, rf E 45, rf E 47, rf E 49, rf E 51, rf E 53, rf E 55, rf E 57, rf E 59, rf E 61, rf E 63, rf E 65, rf E 67, rf E 69, rf E 71, rf E 73], [rf E 28, rf E 30, rf E 32, rf E 34, rf E 36, rf E 38, rf E 40, rf E 42, rf E 44, rf E 46, rf E 48, rf E 50, rf E 52, rf E 54, rf E 56, rf E 58, rf E 60, rf E 62, rf E 64, rf E 66, rf E 68, rf E 70, rf E 72, rf E 74], [], [], [], [], [], [], [], [], [], [], [], [], [], [], [], [], [], [], [], [], [], [], [], [], [], [], [], [], [], [], [], [], [], [], [], [], [], [], [], [], [], [], [], [], [], [], [], [], [], [rf E 5, rf E 11, rf E 22, rf E 76, rf E 77, .int (-1), .int (-1), rf E 78, .int 0, rf E 79], [], [], [rf E 80, rf E 81, rf E 82, rf E 83, rf E 84, rf E 85], [], [], [], [], [], [], [], [rf E 5, rf E 11, rf E 22, rf E 87, rf E 88, rf E 89], [], [], [], [rf E 91, rf E 93, .int 0, .int 0], [.int 0, .int (-1), rf E 92], [], [.int 0, .int (-1), rf E 94], [], [.int 0, .int 0, .null]]))
  refine rn_dup dX9_init_156 rfl ?_
  refine rn_callIN (mc2 := 1) (ms2 := 60) (c0 := 95) (As := []) (st := [rf E 95, .int 2, rf E 90]) mlRX9_78 rfl mdX5_init (Nat.le_of_ble_eq_true rfl) rfl rfl (Nat.le_of_ble_eq_true rfl) (by decide) ⟨Nat.le_of_ble_eq_true rfl, Nat.le_of_ble_eq_true rfl⟩ dX9_init_157 (ciX5_init_95 (B ++ [[rf E 1, rf E 3, rf E 5, rf E 11, rf E 22, rf E 75, rf E 86, rf E 90, .int 0, .int 0], [rf E 2, rf E (1000 + 0), rf E (1000 + 1), rf E (1000 + 2), .int 3, .int 0], [], [rf E 4, rf E (1000 + 3), rf E (1000 + 4), rf E (1000 + 5), .int 2, .int 0], [], [.int 0, .int 0, rf E 6, rf E 7, rf E 8, rf E 9, .int 0, .int 0, .int 0, rf E 10], [], [], [], [], [], [.int 20, .int 0, .int 0, rf E 12, rf E 13, .int 0, rf E 14, rf E 15, .int 0, rf E 16, rf E 17, rf E 18, rf E 19, rf E 20, rf E 21], [], [], [], [], [], [], [], [], [], [], [rf E 5, rf E 11, rf E 23, rf E 24, rf E 25, .int 0, rf E 26], [], [rf E 27, rf E 29, rf E 31, rf E 33, rf E 35, rf E 37, rf E 39, rf E 41, rf E 43, rf E 45, rf E 47, rf E 49, rf E 51, rf E 53, rf E 55, rf E 57, rf E 59, rf E 61, rf E 63, rf E 65, rf E 67, rf E 69, rf E 71, rf E 73], [rf E 28, rf E 30, rf E 32, rf E 34, rf E 36, rf E 38, rf E 40, rf E 42, rf E 44, rf E 46, rf E 48, rf E 50, rf E 52, rf E 54, rf E 56, rf E 58, rf E 60, rf E 62, rf E 64, rf E 66, rf E 68, rf E 70, rf E 72, rf E 74], [], [], [], [], [], [], [], [], [], [], [], [], [], [], [], [], [], [], [], [], [], [], [], [], [], [], [], [], [], [], [], [], [], [], [], [], [], [], [], [], [], [], [], [], [], [], [], [], [], [rf E 5, rf E 11, rf E 22, rf E 76, rf E 77, .int (-1), .int (-1), rf E 78, .int 0, rf E 79], [], [], [rf E 80, rf E 81, rf E 82, rf E 83, rf E 84, rf E 85], [], [], [], [], [], [], [], [rf E 5, rf E 11, rf E 22, rf E 87, rf E 88, rf E 89], [], [], [], [rf E 91, rf E 93, .int 0, .int 0], [.int 0, .int (-1), rf E 92], [], [.int 0, .int (-1), rf E 94], []]) (by simp [hB]) (by rw [List.append_assoc]; rfl) ?_)
  show Rn _ _ _ _ _ _ _ _ _ [rf E 95, .int 2, rf E 90] _ _
  rw [List.append_assoc]
  show Rn _ _ _ _ _ _ _ _ _ _ _ (tb (B ++ [[rf E 1, rf E 3, rf E 5, rf E 11, rf E 22, rf E 75, rf E 86, rf E 90, .int 0, .int 0], [rf E 2, rf E (1000 + 0), rf E (1000 + 1), rf E (1000 + 2), .int 3, .int 0], [], [rf E 4, rf E (1000 + 3), rf E (1000 + 4), rf E (1000 + 5), .int 2, .int 0], [], [.int 0, .int 0, rf E 6, rf E 7, rf E 8, rf E 9, .int 0, .int 0, .int 0, rf E 10], [], [], [], [], [], [.int 20, .int 0, .int 0, rf E 12, rf E 13, .int 0, rf E 14, rf E 15, .int 0, rf E 16, rf E 17, rf E 18, rf E 19, rf E 20, rf E 21], [], [], [], [], [], [], [], [], [], [], [rf E 5, rf E 11, rf E 23, rf E 24, rf E 25, .int 0, rf E 26], [], [rf E 27, rf E 29, rf E 31, rf E 33, rf E 35, rf E 37, rf E 39, rf E 41, rf E 43, rf E 45, rf E 47, rf E 49, rf E 51, rf E 53, rf E 55, rf E 57, rf E 59, rf E 61, rf E 63, rf E 65, rf E 67, rf E 69, rf E 71, rf E 73], [rf E 28, rf E 30, rf E 32, rf E 34, rf E 36, rf E 38, rf E 40, rf E 42, rf E 44, rf E 46, rf E 48, rf E 50, rf E 52, rf E 54, rf E 56, rf E 58, rf E 60, rf E 62, rf E 64, rf E 66, rf E 68, rf E 70, rf E 72, rf E 74], [], [], [], [], [], [], [], [], [], [], [], [], [], [], [], [], [], [], [], [], [], [], [], [], [], [], [], [], [], [], [], [], [], [], [], [], [], [], [], [], [], [], [], [], [], [], [], [], [], [rf E 5, rf E 11, rf E 22, rf E 76, rf E 77, .int (-1), .int (-1), rf E 78, .int 0, rf E 79], [], [], [rf E 80, rf E 81, rf E 82, rf E 83, rf E 84, rf E 85], [], [], [], [], [], [], [], [rf E 5, rf E 11, rf E 22, rf E 87, rf E 88, rf E 89], [], [], [], [rf E 91, rf E 93, .int 0, .int 0], [.int 0, .int (-1), rf E 92], [], [.int 0, .int (-1), rf E 94], [], [.int 0, .int (-1), rf E 96], []]))
  refine rt_aast (i := 90) (j := 2) (t := 103) (ci := 5) (r := vwCl.getD 5 ("", TX0, 0)) hB rfl rfl (by decide) (by decide) rfl (by decide) rfl (by decide) rfl (by decide) dX9_init_160 (Nat.le_of_ble_eq_true rfl) (Nat.le_of_ble_eq_true rfl) ?_
  show Rn _ _ _ _ _ _ _ _ _ _ _ (tb (B ++ [[rf E 1, rf E 3, rf E 5, rf E 11, rf E 22, rf E 75, rf E 86, rf E 90, .int 0, .int 0], [rf E 2, rf E (1000 + 0), rf E (1000 + 1), rf E (1000 + 2), .int 3, .int 0], [], [rf E 4, rf E (1000 + 3), rf E (1000 + 4), rf E (1000 + 5), .int 2, .int 0], [], [.int 0, .int 0, rf E 6, rf E 7, rf E 8, rf E 9, .int 0, .int 0, .int 0, rf E 10], [], [], [], [], [], [.int 20, .int 0, .int 0, rf E 12, rf E 13, .int 0, rf E 14, rf E 15, .int 0, rf E 16, rf E 17, rf E 18, rf E 19, rf E 20, rf E 21], [], [], [], [], [], [], [], [], [], [], [rf E 5, rf E 11, rf E 23, rf E 24, rf E 25, .int 0, rf E 26], [], [rf E 27, rf E 29, rf E 31, rf E 33, rf E 35, rf E 37, rf E 39, rf E 41, rf E 43, rf E 45, rf E 47, rf E 49, rf E 51, rf E 53, rf E 55, rf E 57, rf E 59, rf E 61, rf E 63, rf E 65, rf E 67, rf E 69, rf E 71, rf E 73], [rf E 28, rf E 30, rf E 32, rf E 34, rf E 36, rf E 38, rf E 40, rf E 42, rf E 44, rf E 46, rf E 48, rf E 50, rf E 52, rf E 54, rf E 56, rf E 58, rf E 60, rf E 62, rf E 64, rf E 66, rf E 68, rf E 70, rf E 72, rf E 74], [], [], [], [], [], [], [], [], [], [], [], [], [], [], [], [], [], [], [], [], [], [], [], [], [], [], [], [], [], [], [], [], [], [], [], [], [], [], [], [], [], [], [], [], [], [], [], [], [], [rf E 5, rf E 11, rf E 22, rf E 76, rf E 77, .int (-1), .int (-1), rf E 78, .int 0, rf E 79], [], [], [rf E 80, rf E 81, rf E 82, rf E 83, rf E 84, rf E 85], [], [], [], [], [], [], [], [rf E 5, rf E 11, rf E 22, rf E 87, rf E 88, rf E 89], [], [], [], [rf E 91, rf E 93, rf E 95, .int 0], [.int 0, .int (-1), rf E 92], [], [.int 0, .int (-1), rf E 94], [], [.int 0, .int (-1), rf E 96], []]))
  refine rn_iinc (w := (1 : Int32)) dX9_init_161 rfl (by decide) rfl (Nat.le_of_ble_eq_true rfl) (fun zy ze => ?_)
  obtain rfl : zy = (3 : Int32) := ze.trans (by decide)
  show Rn _ _ _ _ _ _ _ _ [some (rf E 0), some (.int 3)] _ _ _
  refine rn_goto (tgt := 139) dX9_init_164 (by decide) ?_
  refine rn_iload_n dX9_init_139 rfl ?_
  refine rn_aload_n dX9_init_140 rfl ?_
  refine rt_get (i := 0) (w := rf E 90) hB rfl flRX9_74 rfl (by decide) rfl dX9_init_141 ?_
  refine rn_alen (ty := .object RX5) (x := (4 : Int32)) rfl (by decide) (by decide) rfl (by decide) dX9_init_144 ?_
  refine rn_icmp_ge (tgt := 167) dX9_init_145 (by decide) (fun q => absurd q (by decide)) (fun _ => ?_)
  refine rn_aload_n dX9_init_148 rfl ?_
  refine rt_get (i := 0) (w := rf E 90) hB rfl flRX9_74 rfl (by decide) rfl dX9_init_149 ?_
  refine rn_iload_n dX9_init_152 rfl ?_
  refine rt_new (n := 97) (ci := 5) (N := 3) (l := [.int 0, .int 0, .null]) RX5 TX5 tyX5 rfl (by decide) inX5 tyX5_ok clRX9_72 ins5 ini5 rfl (by intro j hj; revert j; decide +kernel) (by decide) ⟨Nat.le_of_ble_eq_true rfl, Nat.le_of_ble_eq_true rfl⟩ dX9_init_153 (by simp [hB]) ?_
  rw [List.append_assoc]
  show Rn _ _ _ _ _ _ _ _ _ _ _ (tb (B ++ [[rf E 1, rf E 3, rf E 5, rf E 11, rf E 22, rf E 75, rf E 86, rf E 90, .int 0, .int 0], [rf E 2, rf E (1000 + 0), rf E (1000 + 1), rf E (1000 + 2), .int 3, .int 0], [], [rf E 4, rf E (1000 + 3), rf E (1000 + 4), rf E (1000 + 5), .int 2, .int 0], [], [.int 0, .int 0, rf E 6, rf E 7, rf E 8, rf E 9, .int 0, .int 0, .int 0, rf E 10], [], [], [], [], [], [.int 20, .int 0, .int 0, rf E 12, rf E 13, .int 0, rf E 14, rf E 15, .int 0, rf E 16, rf E 17, rf E 18, rf E 19, rf E 20, rf E 21], [], [], [], [], [], [], [], [], [], [], [rf E 5, rf E 11, rf E 23, rf E 24, rf E 25, .int 0, rf E 26], [], [rf E 27, rf E 29, rf E 31, rf E 33, rf E 35, rf E 37, rf E 39, rf E 41, rf E 43, rf E 45, rf E 47, rf E 49, rf E 51, rf E 53, rf E 55, rf E 57, rf E 59, rf E 61, rf E 63, rf E 65, rf E 67, rf E 69, rf E 71, rf E 73], [rf E 28, rf E 30, rf E 32, rf E 34, rf E 36, rf E 38, rf E 40, rf E 42, rf E 44, rf E 46, rf E 48, rf E 50, rf E 52, rf E 54, rf E 56, rf E 58, rf E 60, rf E 62, rf E 64, rf E 66, rf E 68, rf E 70, rf E 72, rf E 74], [], [], [], [], [], [], [], [], [], [], [], [], [], [], [], [], [], [], [], [], [], [], [], [], [], [], [], [], [], [], [], [], [], [], [], [], [], [], [], [], [], [], [], [], [], [], [], [], [], [rf E 5, rf E 11, rf E 22, rf E 76, rf E 77, .int (-1), .int (-1), rf E 78, .int 0, rf E 79], [], [], [rf E 80, rf E 81, rf E 82, rf E 83, rf E 84, rf E 85], [], [], [], [], [], [], [], [rf E 5, rf E 11, rf E 22, rf E 87, rf E 88, rf E 89], [], [], [], [rf E 91, rf E 93, rf E 95, .int 0], [.int 0, .int (-1), rf E 92], [], [.int 0, .int (-1), rf E 94], [], [.int 0, .int (-1), rf E 96], [], [.int 0, .int 0, .null]]))
  refine rn_dup dX9_init_156 rfl ?_
  refine rn_callIN (mc2 := 1) (ms2 := 60) (c0 := 97) (As := []) (st := [rf E 97, .int 3, rf E 90]) mlRX9_78 rfl mdX5_init (Nat.le_of_ble_eq_true rfl) rfl rfl (Nat.le_of_ble_eq_true rfl) (by decide) ⟨Nat.le_of_ble_eq_true rfl, Nat.le_of_ble_eq_true rfl⟩ dX9_init_157 (ciX5_init_97 (B ++ [[rf E 1, rf E 3, rf E 5, rf E 11, rf E 22, rf E 75, rf E 86, rf E 90, .int 0, .int 0], [rf E 2, rf E (1000 + 0), rf E (1000 + 1), rf E (1000 + 2), .int 3, .int 0], [], [rf E 4, rf E (1000 + 3), rf E (1000 + 4), rf E (1000 + 5), .int 2, .int 0], [], [.int 0, .int 0, rf E 6, rf E 7, rf E 8, rf E 9, .int 0, .int 0, .int 0, rf E 10], [], [], [], [], [], [.int 20, .int 0, .int 0, rf E 12, rf E 13, .int 0, rf E 14, rf E 15, .int 0, rf E 16, rf E 17, rf E 18, rf E 19, rf E 20, rf E 21], [], [], [], [], [], [], [], [], [], [], [rf E 5, rf E 11, rf E 23, rf E 24, rf E 25, .int 0, rf E 26], [], [rf E 27, rf E 29, rf E 31, rf E 33, rf E 35, rf E 37, rf E 39, rf E 41, rf E 43, rf E 45, rf E 47, rf E 49, rf E 51, rf E 53, rf E 55, rf E 57, rf E 59, rf E 61, rf E 63, rf E 65, rf E 67, rf E 69, rf E 71, rf E 73], [rf E 28, rf E 30, rf E 32, rf E 34, rf E 36, rf E 38, rf E 40, rf E 42, rf E 44, rf E 46, rf E 48, rf E 50, rf E 52, rf E 54, rf E 56, rf E 58, rf E 60, rf E 62, rf E 64, rf E 66, rf E 68, rf E 70, rf E 72, rf E 74], [], [], [], [], [], [], [], [], [], [], [], [], [], [], [], [], [], [], [], [], [], [], [], [], [], [], [], [], [], [], [], [], [], [], [], [], [], [], [], [], [], [], [], [], [], [], [], [], [], [rf E 5, rf E 11, rf E 22, rf E 76, rf E 77, .int (-1), .int (-1), rf E 78, .int 0, rf E 79], [], [], [rf E 80, rf E 81, rf E 82, rf E 83, rf E 84, rf E 85], [], [], [], [], [], [], [], [rf E 5, rf E 11, rf E 22, rf E 87, rf E 88, rf E 89], [], [], [], [rf E 91, rf E 93, rf E 95, .int 0], [.int 0, .int (-1), rf E 92], [], [.int 0, .int (-1), rf E 94], [], [.int 0, .int (-1), rf E 96], []]) (by simp [hB]) (by rw [List.append_assoc]; rfl) ?_)
  show Rn _ _ _ _ _ _ _ _ _ [rf E 97, .int 3, rf E 90] _ _
  rw [List.append_assoc]
  show Rn _ _ _ _ _ _ _ _ _ _ _ (tb (B ++ [[rf E 1, rf E 3, rf E 5, rf E 11, rf E 22, rf E 75, rf E 86, rf E 90, .int 0, .int 0], [rf E 2, rf E (1000 + 0), rf E (1000 + 1), rf E (1000 + 2), .int 3, .int 0], [], [rf E 4, rf E (1000 + 3), rf E (1000 + 4), rf E (1000 + 5), .int 2, .int 0], [], [.int 0, .int 0, rf E 6, rf E 7, rf E 8, rf E 9, .int 0, .int 0, .int 0, rf E 10], [], [], [], [], [], [.int 20, .int 0, .int 0, rf E 12, rf E 13, .int 0, rf E 14, rf E 15, .int 0, rf E 16, rf E 17, rf E 18, rf E 19, rf E 20, rf E 21], [], [], [], [], [], [], [], [], [], [], [rf E 5, rf E 11, rf E 23, rf E 24, rf E 25, .int 0, rf E 26], [], [rf E 27, rf E 29, rf E 31, rf E 33, rf E 35, rf E 37, rf E 39, rf E 41, rf E 43, rf E 45, rf E 47, rf E 49, rf E 51, rf E 53, rf E 55, rf E 57, rf E 59, rf E 61, rf E 63, rf E 65, rf E 67, rf E 69, rf E 71, rf E 73], [rf E 28, rf E 30, rf E 32, rf E 34, rf E 36, rf E 38, rf E 40, rf E 42, rf E 44, rf E 46, rf E 48, rf E 50, rf E 52, rf E 54, rf E 56, rf E 58, rf E 60, rf E 62, rf E 64, rf E 66, rf E 68, rf E 70, rf E 72, rf E 74], [], [], [], [], [], [], [], [], [], [], [], [], [], [], [], [], [], [], [], [], [], [], [], [], [], [], [], [], [], [], [], [], [], [], [], [], [], [], [], [], [], [], [], [], [], [], [], [], [], [rf E 5, rf E 11, rf E 22, rf E 76, rf E 77, .int (-1), .int (-1), rf E 78, .int 0, rf E 79], [], [], [rf E 80, rf E 81, rf E 82, rf E 83, rf E 84, rf E 85], [], [], [], [], [], [], [], [rf E 5, rf E 11, rf E 22, rf E 87, rf E 88, rf E 89], [], [], [], [rf E 91, rf E 93, rf E 95, .int 0], [.int 0, .int (-1), rf E 92], [], [.int 0, .int (-1), rf E 94], [], [.int 0, .int (-1), rf E 96], [], [.int 0, .int (-1), rf E 98], []]))
  refine rt_aast (i := 90) (j := 3) (t := 103) (ci := 5) (r := vwCl.getD 5 ("", TX0, 0)) hB rfl rfl (by decide) (by decide) rfl (by decide) rfl (by decide) rfl (by decide) dX9_init_160 (Nat.le_of_ble_eq_true rfl) (Nat.le_of_ble_eq_true rfl) ?_
  show Rn _ _ _ _ _ _ _ _ _ _ _ (tb (B ++ [[rf E 1, rf E 3, rf E 5, rf E 11, rf E 22, rf E 75, rf E 86, rf E 90, .int 0, .int 0], [rf E 2, rf E (1000 + 0), rf E (1000 + 1), rf E (1000 + 2), .int 3, .int 0], [], [rf E 4, rf E (1000 + 3), rf E (1000 + 4), rf E (1000 + 5), .int 2, .int 0], [], [.int 0, .int 0, rf E 6, rf E 7, rf E 8, rf E 9, .int 0, .int 0, .int 0, rf E 10], [], [], [], [], [], [.int 20, .int 0, .int 0, rf E 12, rf E 13, .int 0, rf E 14, rf E 15, .int 0, rf E 16, rf E 17, rf E 18, rf E 19, rf E 20, rf E 21], [], [], [], [], [], [], [], [], [], [], [rf E 5, rf E 11, rf E 23, rf E 24, rf E 25, .int 0, rf E 26], [], [rf E 27, rf E 29, rf E 31, rf E 33, rf E 35, rf E 37, rf E 39, rf E 41, rf E 43, rf E 45, rf E 47, rf E 49, rf E 51, rf E 53, rf E 55, rf E 57, rf E 59, rf E 61, rf E 63, rf E 65, rf E 67, rf E 69, rf E 71, rf E 73], [rf E 28, rf E 30, rf E 32, rf E 34, rf E 36, rf E 38, rf E 40, rf E 42, rf E 44, rf E 46, rf E 48, rf E 50, rf E 52, rf E 54, rf E 56, rf E 58, rf E 60, rf E 62, rf E 64, rf E 66, rf E 68, rf E 70, rf E 72, rf E 74], [], [], [], [], [], [], [], [], [], [], [], [], [], [], [], [], [], [], [], [], [], [], [], [], [], [], [], [], [], [], [], [], [], [], [], [], [], [], [], [], [], [], [], [], [], [], [], [], [], [rf E 5, rf E 11, rf E 22, rf E 76, rf E 77, .int (-1), .int (-1), rf E 78, .int 0, rf E 79], [], [], [rf E 80, rf E 81, rf E 82, rf E 83, rf E 84, rf E 85], [], [], [], [], [], [], [], [rf E 5, rf E 11, rf E 22, rf E 87, rf E 88, rf E 89], [], [], [], [rf E 91, rf E 93, rf E 95, rf E 97], [.int 0, .int (-1), rf E 92], [], [.int 0, .int (-1), rf E 94], [], [.int 0, .int (-1), rf E 96], [], [.int 0, .int (-1), rf E 98], []]))
  refine rn_iinc (w := (1 : Int32)) dX9_init_161 rfl (by decide) rfl (Nat.le_of_ble_eq_true rfl) (fun zy ze => ?_)
  obtain rfl : zy = (4 : Int32) := ze.trans (by decide)
  show Rn _ _ _ _ _ _ _ _ [some (rf E 0), some (.int 4)] _ _ _
  refine rn_goto (tgt := 139) dX9_init_164 (by decide) ?_
  refine rn_iload_n dX9_init_139 rfl ?_
  refine rn_aload_n dX9_init_140 rfl ?_
  refine rt_get (i := 0) (w := rf E 90) hB rfl flRX9_74 rfl (by decide) rfl dX9_init_141 ?_
  refine rn_alen (ty := .object RX5) (x := (4 : Int32)) rfl (by decide) (by decide) rfl (by decide) dX9_init_144 ?_
  refine rn_icmp_ge (tgt := 167) dX9_init_145 (by decide) (fun _ => ?_) (fun q => absurd q (by decide))
  refine rn_aload_n dX9_init_167 rfl ?_
  refine rn_iconst (x := (1 : Int32)) dX9_init_168 (by decide) ?_
  refine rt_put (i := 0) (ty := .boolean) hB rfl flRX9_79 rfl (by decide) (by decide +kernel) rfl rfl dX9_init_169 (Nat.le_of_ble_eq_true rfl) (Nat.le_of_ble_eq_true rfl) ?_
  show Rn _ _ _ _ _ _ _ _ _ _ _ (tb (B ++ [[rf E 1, rf E 3, rf E 5, rf E 11, rf E 22, rf E 75, rf E 86, rf E 90, .int 0, .int 1], [rf E 2, rf E (1000 + 0), rf E (1000 + 1), rf E (1000 + 2), .int 3, .int 0], [], [rf E 4, rf E (1000 + 3), rf E (1000 + 4), rf E (1000 + 5), .int 2, .int 0], [], [.int 0, .int 0, rf E 6, rf E 7, rf E 8, rf E 9, .int 0, .int 0, .int 0, rf E 10], [], [], [], [], [], [.int 20, .int 0, .int 0, rf E 12, rf E 13, .int 0, rf E 14, rf E 15, .int 0, rf E 16, rf E 17, rf E 18, rf E 19, rf E 20, rf E 21], [], [], [], [], [], [], [], [], [], [], [rf E 5, rf E 11, rf E 23, rf E 24, rf E 25, .int 0, rf E 26], [], [rf E 27, rf E 29, rf E 31, rf E 33, rf E 35, rf E 37, rf E 39, rf E 41, rf E 43, rf E 45, rf E 47, rf E 49, rf E 51, rf E 53, rf E 55, rf E 57, rf E 59, rf E 61, rf E 63, rf E 65, rf E 67, rf E 69, rf E 71, rf E 73], [rf E 28, rf E 30, rf E 32, rf E 34, rf E 36, rf E 38, rf E 40, rf E 42, rf E 44, rf E 46, rf E 48, rf E 50, rf E 52, rf E 54, rf E 56, rf E 58, rf E 60, rf E 62, rf E 64, rf E 66, rf E 68, rf E 70, rf E 72, rf E 74], [], [], [], [], [], [], [], [], [], [], [], [], [], [], [], [], [], [], [], [], [], [], [], [], [], [], [], [], [], [], [], [], [], [], [], [], [], [], [], [], [], [], [], [], [], [], [], [], [], [rf E 5, rf E 11, rf E 22, rf E 76, rf E 77, .int (-1), .int (-1), rf E 78, .int 0, rf E 79], [], [], [rf E 80, rf E 81, rf E 82, rf E 83, rf E 84, rf E 85], [], [], [], [], [], [], [], [rf E 5, rf E 11, rf E 22, rf E 87, rf E 88, rf E 89], [], [], [], [rf E 91, rf E 93, rf E 95, rf E 97], [.int 0, .int (-1), rf E 92], [], [.int 0, .int (-1), rf E 94], [], [.int 0, .int (-1), rf E 96], [], [.int 0, .int (-1), rf E 98], []]))
  exact rn_vret rfl dX9_init_172 rfl (by decide) hq
set_option maxHeartbeats 4000000 in
set_option maxRecDepth 20000 in
theorem ciX10_init_99 {E : En} {Q : Option Value → Hp → Prop} {T : List (List Value)} (B : List (List Value)) (hB : B.length = 99) (hT : T = B ++ [[.null, .null, .int 0, .null, .null, .null, .int 0, .null, .null, .int 0, .int 0, .int 0, .null, .null, .int 0, .null, .null, .null, .null, .null, .null, .null, .int 0, .int 0, .null, .null, .null, .null, .null, .null, .int 0, .null, .null, .null, .int 0, .null, .null, .null, .null, .null, .null, .int 0]])
    (hq : Q none (tb (B ++ [[rf E 100, rf E 101, .int 0, rf E 102, rf E 103, rf E 104, .int 0, rf E 105, rf E 106, .int 20, .int 0, .int 0, rf E 107, rf E 108, .int 0, rf E 109, rf E 110, rf E 111, rf E 112, rf E 113, rf E 114, rf E 115, .int 0, .int 0, rf E 116, rf E 117, rf E 118, rf E 119, rf E 120, rf E 121, .int 0, rf E 122, rf E 123, rf E 124, .int 0, rf E 125, rf E 126, rf E 127, rf E 128, rf E 129, rf E 130, .int 0], [], [], [], [], [], [], [], [], [], [], [], [], [], [], [], [], [], [], [], [], [], [], [], [], [], [], [], [], [], [], []]))) :
    Ct E mX10_init 31 699 [rf E 99] 100 (tb T) Q := by
  subst hT
  refine ct_of (L0 := [some (rf E 99)]) (by decide +kernel : plainName RX10 = true) (Nat.le_of_ble_eq_true rfl) rfl ?_
  refine rn_aload_n dX10_init_0 rfl ?_
  refine rn_objInit (c0 := 99) mlRX10_1 in_objI in_objC (Nat.le_of_ble_eq_true rfl) dX10_init_1 ?_
  refine rn_aload_n dX10_init_4 rfl ?_
  refine rn_iconst (x := (2 : Int32)) dX10_init_5 (by decide) ?_
  refine rt_newa (n := 100) (t := 100) (N := 2) (atype := .int) (ty := .int) rfl in_aI (by decide) rfl (by intro C h; cases h) rfl (by decide) (by decide) (by decide) rfl (by decide) ⟨Nat.le_of_ble_eq_true rfl, Nat.le_of_ble_eq_true rfl⟩ dX10_init_6 (by simp [hB]) ?_
  rw [List.append_assoc]
  show Rn _ _ _ _ _ _ _ _ _ _ _ (tb (B ++ [[.null, .null, .int 0, .null, .null, .null, .int 0, .null, .null, .int 0, .int 0, .int 0, .null, .null, .int 0, .null, .null, .null, .null, .null, .null, .null, .int 0, .int 0, .null, .null, .null, .null, .null, .null, .int 0, .null, .null, .null, .int 0, .null, .null, .null, .null, .null, .null, .int 0], []]))
  refine rt_putF (i := 0) (ty := (.array .int)) hB rfl flRX10_7 rfl (by decide) rfl rfl (by decide +kernel) rfl rfl dX10_init_8 (Nat.le_of_ble_eq_true rfl) (Nat.le_of_ble_eq_true rfl) ?_
  show Rn _ _ _ _ _ _ _ _ _ _ _ (tb (B ++ [[rf E 100, .null, .int 0, .null, .null, .null, .int 0, .null, .null, .int 0, .int 0, .int 0, .null, .null, .int 0, .null, .null, .null, .null, .null, .null, .null, .int 0, .int 0, .null, .null, .null, .null, .null, .null, .int 0, .null, .null, .null, .int 0, .null, .null, .null, .null, .null, .null, .int 0], []]))
  refine rn_aload_n dX10_init_11 rfl ?_
  refine rn_bipush (x := (62 : Int32)) dX10_init_12 (by decide) ?_
  refine rt_newa (n := 101) (t := 100) (N := 62) (atype := .int) (ty := .int) rfl in_aI (by decide) rfl (by intro C h; cases h) rfl (by decide) (by decide) (by decide) rfl (by decide) ⟨Nat.le_of_ble_eq_true rfl, Nat.le_of_ble_eq_true rfl⟩ dX10_init_14 (by simp [hB]) ?_
  rw [List.append_assoc]
  show Rn _ _ _ _ _ _ _ _ _ _ _ (tb (B ++ [[rf E 100, .null, .int 0, .null, .null, .null, .int 0, .null, .null, .int 0, .int 0, .int 0, .null, .null, .int 0, .null, .null, .null, .null, .null, .null, .null, .int 0, .int 0, .null, .null, .null, .null, .null, .null, .int 0, .null, .null, .null, .int 0, .null, .null, .null, .null, .null, .null, .int 0], [], []]))
  refine rt_putF (i := 0) (ty := (.array .int)) hB rfl flRX10_13 rfl (by decide) rfl rfl (by decide +kernel) rfl rfl dX10_init_16 (Nat.le_of_ble_eq_true rfl) (Nat.le_of_ble_eq_true rfl) ?_
  show Rn _ _ _ _ _ _ _ _ _ _ _ (tb (B ++ [[rf E 100, rf E 101, .int 0, .null, .null, .null, .int 0, .null, .null, .int 0, .int 0, .int 0, .null, .null, .int 0, .null, .null, .null, .null, .null, .null, .null, .int 0, .int 0, .null, .null, .null, .null, .null, .null, .int 0, .null, .null, .null, .int 0, .null, .null, .null, .null, .null, .null, .int 0], [], []]))
  refine rn_aload_n dX10_init_19 rfl ?_
  refine rn_bipush (x := (9 : Int32)) dX10_init_20 (by decide) ?_
  refine rt_newa (n := 102) (t := 100) (N := 9) (atype := .int) (ty := .int) rfl in_aI (by decide) rfl (by intro C h; cases h) rfl (by decide) (by decide) (by decide) rfl (by decide) ⟨Nat.le_of_ble_eq_true rfl, Nat.le_of_ble_eq_true rfl⟩ dX10_init_22 (by simp [hB]) ?_
  rw [List.append_assoc]
  show Rn _ _ _ _ _ _ _ _ _ _ _ (tb (B ++ [[rf E 100, rf E 101, .int 0, .null, .null, .null, .int 0, .null, .null, .int 0, .int 0, .int 0, .null, .null, .int 0, .null, .null, .null, .null, .null, .null, .null, .int 0, .int 0, .null, .null, .null, .null, .null, .null, .int 0, .null, .null, .null, .int 0, .null, .null, .null, .null, .null, .null, .int 0], [], [], []]))
  refine rt_putF (i := 0) (ty := (.array .int)) hB rfl flRX10_16 rfl (by decide) rfl rfl (by decide +kernel) rfl rfl dX10_init_24 (Nat.le_of_ble_eq_true rfl) (Nat.le_of_ble_eq_true rfl) ?_
  show Rn _ _ _ _ _ _ _ _ _ _ _ (tb (B ++ [[rf E 100, rf E 101, .int 0, rf E 102, .null, .null, .int 0, .null, .null, .int 0, .int 0, .int 0, .null, .null, .int 0, .null, .null, .null, .null, .null, .null, .null, .int 0, .int 0, .null, .null, .null, .null, .null, .null, .int 0, .null, .null, .null, .int 0, .null, .null, .null, .null, .null, .null, .int 0], [], [], []]))
  refine rn_aload_n dX10_init_27 rfl ?_
  refine rn_bipush (x := (9 : Int32)) dX10_init_28 (by decide) ?_
  refine rt_newa (n := 103) (t := 100) (N := 9) (atype := .int) (ty := .int) rfl in_aI (by decide) rfl (by intro C h; cases h) rfl (by decide) (by decide) (by decide) rfl (by decide) ⟨Nat.le_of_ble_eq_true rfl, Nat.le_of_ble_eq_true rfl⟩ dX10_init_30 (by simp [hB]) ?_
  rw [List.append_assoc]
  show Rn _ _ _ _ _ _ _ _ _ _ _ (tb (B ++ [[rf E 100, rf E 101, .int 0, rf E 102, .null, .null, .int 0, .null, .null, .int 0, .int 0, .int 0, .null, .null, .int 0, .null, .null, .null, .null, .null, .null, .null, .int 0, .int 0, .null, .null, .null, .null, .null, .null, .int 0, .null, .null, .null, .int 0, .null, .null, .null, .null, .null, .null, .int 0], [], [], [], []]))
  refine rt_putF (i := 0) (ty := (.array .int)) hB rfl flRX10_19 rfl (by decide) rfl rfl (by decide +kernel) rfl rfl dX10_init_32 (Nat.le_of_ble_eq_true rfl) (Nat.le_of_ble_eq_true rfl) ?_
  show Rn _ _ _ _ _ _ _ _ _ _ _ (tb (B ++ [[rf E 100, rf E 101, .int 0, rf E 102, rf E 103, .null, .int 0, .null, .null, .int 0, .int 0, .int 0, .null, .null, .int 0, .null, .null, .null, .null, .null, .null, .null, .int 0, .int 0, .null, .null, .null, .null, .null, .null, .int 0, .null, .null, .null, .int 0, .null, .null, .null, .null, .null, .null, .int 0], [], [], [], []]))
  refine rn_aload_n dX10_init_35 rfl ?_
  refine rn_bipush (x := (9 : Int32)) dX10_init_36 (by decide) ?_
  refine rt_newa (n := 104) (t := 100) (N := 9) (atype := .int) (ty := .int) rfl in_aI (by decide) rfl (by intro C h; cases h) rfl (by decide) (by decide) (by decide) rfl (by decide) ⟨Nat.le_of_ble_eq_true rfl, Nat.le_of_ble_eq_true rfl⟩ dX10_init_38 (by simp [hB]) ?_
  rw [List.append_assoc]
  show Rn _ _ _ _ _ _ _ _ _ _ _ (tb (B ++ [[rf E 100, rf E 101, .int 0, rf E 102, rf E 103, .null, .int 0, .null, .null, .int 0, .int 0, .int 0, .null, .null, .int 0, .null, .null, .null, .null, .null, .null, .null, .int 0, .int 0, .null, .null, .null, .null, .null, .null, .int 0, .null, .null, .null, .int 0, .null, .null, .null, .null, .null, .null, .int 0], [], [], [], [], []]))
  refine rt_putF (i := 0) (ty := (.array .int)) hB rfl flRX10_22 rfl (by decide) rfl rfl (by decide +kernel) rfl rfl dX10_init_40 (Nat.le_of_ble_eq_true rfl) (Nat.le_of_ble_eq_true rfl) ?_
  show Rn _ _ _ _ _ _ _ _ _ _ _ (tb (B ++ [[rf E 100, rf E 101, .int 0, rf E 102, rf E 103, rf E 104, .int 0, .null, .null, .int 0, .int 0, .int 0, .null, .null, .int 0, .null, .null, .null, .null, .null, .null, .null, .int 0, .int 0, .null, .null, .null, .null, .null, .null, .int 0, .null, .null, .null, .int 0, .null, .null, .null, .null, .null, .null, .int 0], [], [], [], [], []]))
  refine rn_aload_n dX10_init_43 rfl ?_
  refine rn_bipush (x := (9 : Int32)) dX10_init_44 (by decide) ?_
  refine rt_newa (n := 105) (t := 100) (N := 9) (atype := .int) (ty := .int) rfl in_aI (by decide) rfl (by intro C h; cases h) rfl (by decide) (by decide) (by decide) rfl (by decide) ⟨Nat.le_of_ble_eq_true rfl, Nat.le_of_ble_eq_true rfl⟩ dX10_init_46 (by simp [hB]) ?_
  rw [List.append_assoc]
  show Rn _ _ _ _ _ _ _ _ _ _ _ (tb (B ++ [[rf E 100, rf E 101, .int 0, rf E 102, rf E 103, rf E 104, .int 0, .null, .null, .int 0, .int 0, .int 0, .null, .null, .int 0, .null, .null, .null, .null, .null, .null, .null, .int 0, .int 0, .null, .null, .null, .null, .null, .null, .int 0, .null, .null, .null, .int 0, .null, .null, .null, .null, .null, .null, .int 0], [], [], [], [], [], []]))
  refine rt_putF (i := 0) (ty := (.array .int)) hB rfl flRX10_25 rfl (by decide) rfl rfl (by decide +kernel) rfl rfl dX10_init_48 (Nat.le_of_ble_eq_true rfl) (Nat.le_of_ble_eq_true rfl) ?_
  show Rn _ _ _ _ _ _ _ _ _ _ _ (tb (B ++ [[rf E 100, rf E 101, .int 0, rf E 102, rf E 103, rf E 104, .int 0, rf E 105, .null, .int 0, .int 0, .int 0, .null, .null, .int 0, .null, .null, .null, .null, .null, .null, .null, .int 0, .int 0, .null, .null, .null, .null, .null, .null, .int 0, .null, .null, .null, .int 0, .null, .null, .null, .null, .null, .null, .int 0], [], [], [], [], [], []]))
  refine rn_aload_n dX10_init_51 rfl ?_
  refine rn_bipush (x := (9 : Int32)) dX10_init_52 (by decide) ?_
  refine rt_newa (n := 106) (t := 100) (N := 9) (atype := .int) (ty := .int) rfl in_aI (by decide) rfl (by intro C h; cases h) rfl (by decide) (by decide) (by decide) rfl (by decide) ⟨Nat.le_of_ble_eq_true rfl, Nat.le_of_ble_eq_true rfl⟩ dX10_init_54 (by simp [hB]) ?_
  rw [List.append_assoc]
  show Rn _ _ _ _ _ _ _ _ _ _ _ (tb (B ++ [[rf E 100, rf E 101, .int 0, rf E 102, rf E 103, rf E 104, .int 0, rf E 105, .null, .int 0, .int 0, .int 0, .null, .null, .int 0, .null, .null, .null, .null, .null, .null, .null, .int 0, .int 0, .null, .null, .null, .null, .null, .null, .int 0, .null, .null, .null, .int 0, .null, .null, .null, .null, .null, .null, .int 0], [], [], [], [], [], [], []]))
  refine rt_putF (i := 0) (ty := (.array .int)) hB rfl flRX10_28 rfl (by decide) rfl rfl (by decide +kernel) rfl rfl dX10_init_56 (Nat.le_of_ble_eq_true rfl) (Nat.le_of_ble_eq_true rfl) ?_
  show Rn _ _ _ _ _ _ _ _ _ _ _ (tb (B ++ [[rf E 100, rf E 101, .int 0, rf E 102, rf E 103, rf E 104, .int 0, rf E 105, rf E 106, .int 0, .int 0, .int 0, .null, .null, .int 0, .null, .null, .null, .null, .null, .null, .null, .int 0, .int 0, .null, .null, .null, .null, .null, .null, .int 0, .null, .null, .null, .int 0, .null, .null, .null, .null, .null, .null, .int 0], [], [], [], [], [], [], []]))
  refine rn_aload_n dX10_init_59 rfl ?_
  refine rn_bipush (x := (44 : Int32)) dX10_init_60 (by decide) ?_
  refine rt_newa (n := 107) (t := 100) (N := 44) (atype := .int) (ty := .int) rfl in_aI (by decide) rfl (by intro C h; cases h) rfl (by decide) (by decide) (by decide) rfl (by decide) ⟨Nat.le_of_ble_eq_true rfl, Nat.le_of_ble_eq_true rfl⟩ dX10_init_62 (by simp [hB]) ?_
  rw [List.append_assoc]
  show Rn _ _ _ _ _ _ _ _ _ _ _ (tb (B ++ [[rf E 100, rf E 101, .int 0, rf E 102, rf E 103, rf E 104, .int 0, rf E 105, rf E 106, .int 0, .int 0, .int 0, .null, .null, .int 0, .null, .null, .null, .null, .null, .null, .null, .int 0, .int 0, .null, .null, .null, .null, .null, .null, .int 0, .null, .null, .null, .int 0, .null, .null, .null, .null, .null, .null, .int 0], [], [], [], [], [], [], [], []]))
  refine rt_putF (i := 0) (ty := (.array .int)) hB rfl flRX10_31 rfl (by decide) rfl rfl (by decide +kernel) rfl rfl dX10_init_64 (Nat.le_of_ble_eq_true rfl) (Nat.le_of_ble_eq_true rfl) ?_
  show Rn _ _ _ _ _ _ _ _ _ _ _ (tb (B ++ [[rf E 100, rf E 101, .int 0, rf E 102, rf E 103, rf E 104, .int 0, rf E 105, rf E 106, .int 0, .int 0, .int 0, rf E 107, .null, .int 0, .null, .null, .null, .null, .null, .null, .null, .int 0, .int 0, .null, .null, .null, .null, .null, .null, .int 0, .null, .null, .null, .int 0, .null, .null, .null, .null, .null, .null, .int 0], [], [], [], [], [], [], [], []]))
  refine rn_aload_n dX10_init_67 rfl ?_
  refine rn_bipush (x := (44 : Int32)) dX10_init_68 (by decide) ?_
  refine rt_newa (n := 108) (t := 100) (N := 44) (atype := .int) (ty := .int) rfl in_aI (by decide) rfl (by intro C h; cases h) rfl (by decide) (by decide) (by decide) rfl (by decide) ⟨Nat.le_of_ble_eq_true rfl, Nat.le_of_ble_eq_true rfl⟩ dX10_init_70 (by simp [hB]) ?_
  rw [List.append_assoc]
  show Rn _ _ _ _ _ _ _ _ _ _ _ (tb (B ++ [[rf E 100, rf E 101, .int 0, rf E 102, rf E 103, rf E 104, .int 0, rf E 105, rf E 106, .int 0, .int 0, .int 0, rf E 107, .null, .int 0, .null, .null, .null, .null, .null, .null, .null, .int 0, .int 0, .null, .null, .null, .null, .null, .null, .int 0, .null, .null, .null, .int 0, .null, .null, .null, .null, .null, .null, .int 0], [], [], [], [], [], [], [], [], []]))
  refine rt_putF (i := 0) (ty := (.array .int)) hB rfl flRX10_34 rfl (by decide) rfl rfl (by decide +kernel) rfl rfl dX10_init_72 (Nat.le_of_ble_eq_true rfl) (Nat.le_of_ble_eq_true rfl) ?_
  show Rn _ _ _ _ _ _ _ _ _ _ _ (tb (B ++ [[rf E 100, rf E 101, .int 0, rf E 102, rf E 103, rf E 104, .int 0, rf E 105, rf E 106, .int 0, .int 0, .int 0, rf E 107, rf E 108, .int 0, .null, .null, .null, .null, .null, .null, .null, .int 0, .int 0, .null, .null, .null, .null, .null, .null, .int 0, .null, .null, .null, .int 0, .null, .null, .null, .null, .null, .null, .int 0], [], [], [], [], [], [], [], [], []]))
  refine rn_aload_n dX10_init_75 rfl ?_
  refine rn_bipush (x := (6 : Int32)) dX10_init_76 (by decide) ?_
  refine rt_newa (n := 109) (t := 100) (N := 6) (atype := .int) (ty := .int) rfl in_aI (by decide) rfl (by intro C h; cases h) rfl (by decide) (by decide) (by decide) rfl (by decide) ⟨Nat.le_of_ble_eq_true rfl, Nat.le_of_ble_eq_true rfl⟩ dX10_init_78 (by simp [hB]) ?_
  rw [List.append_assoc]
  show Rn _ _ _ _ _ _ _ _ _ _ _ (tb (B ++ [[rf E 100, rf E 101, .int 0, rf E 102, rf E 103, rf E 104, .int 0, rf E 105, rf E 106, .int 0, .int 0, .int 0, rf E 107, rf E 108, .int 0, .null, .null, .null, .null, .null, .null, .null, .int 0, .int 0, .null, .null, .null, .null, .null, .null, .int 0, .null, .null, .null, .int 0, .null, .null, .null, .null, .null, .null, .int 0], [], [], [], [], [], [], [], [], [], []]))
  refine rt_putF (i := 0) (ty := (.array .int)) hB rfl flRX10_37 rfl (by decide) rfl rfl (by decide +kernel) rfl rfl dX10_init_80 (Nat.le_of_ble_eq_true rfl) (Nat.le_of_ble_eq_true rfl) ?_
  show Rn _ _ _ _ _ _ _ _ _ _ _ (tb (B ++ [[rf E 100, rf E 101, .int 0, rf E 102, rf E 103, rf E 104, .int 0, rf E 105, rf E 106, .int 0, .int 0, .int 0, rf E 107, rf E 108, .int 0, rf E 109, .null, .null, .null, .null, .null, .null, .int 0, .int 0, .null, .null, .null, .null, .null, .null, .int 0, .null, .null, .null, .int 0, .null, .null, .null, .null, .null, .null, .int 0], [], [], [], [], [], [], [], [], [], []]))
  refine rn_aload_n dX10_init_83 rfl ?_
  refine rn_bipush (x := (6 : Int32)) dX10_init_84 (by decide) ?_
  refine rt_newa (n := 110) (t := 100) (N := 6) (atype := .int) (ty := .int) rfl in_aI (by decide) rfl (by intro C h; cases h) rfl (by decide) (by decide) (by decide) rfl (by decide) ⟨Nat.le_of_ble_eq_true rfl, Nat.le_of_ble_eq_true rfl⟩ dX10_init_86 (by simp [hB]) ?_
  rw [List.append_assoc]
  show Rn _ _ _ _ _ _ _ _ _ _ _ (tb (B ++ [[rf E 100, rf E 101, .int 0, rf E 102, rf E 103, rf E 104, .int 0, rf E 105, rf E 106, .int 0, .int 0, .int 0, rf E 107, rf E 108, .int 0, rf E 109, .null, .null, .null, .null, .null, .null, .int 0, .int 0, .null, .null, .null, .null, .null, .null, .int 0, .null, .null, .null, .int 0, .null, .null, .null, .null, .null, .null, .int 0], [], [], [], [], [], [], [], [], [], [], []]))
  refine rt_putF (i := 0) (ty := (.array .int)) hB rfl flRX10_40 rfl (by decide) rfl rfl (by decide +kernel) rfl rfl dX10_init_88 (Nat.le_of_ble_eq_true rfl) (Nat.le_of_ble_eq_true rfl) ?_
  show Rn _ _ _ _ _ _ _ _ _ _ _ (tb (B ++ [[rf E 100, rf E 101, .int 0, rf E 102, rf E 103, rf E 104, .int 0, rf E 105, rf E 106, .int 0, .int 0, .int 0, rf E 107, rf E 108, .int 0, rf E 109, rf E 110, .null, .null, .null, .null, .null, .int 0, .int 0, .null, .null, .null, .null, .null, .null, .int 0, .null, .null, .null, .int 0, .null, .null, .null, .null, .null, .null, .int 0], [], [], [], [], [], [], [], [], [], [], []]))
  refine rn_aload_n dX10_init_91 rfl ?_
  refine rn_bipush (x := (8 : Int32)) dX10_init_92 (by decide) ?_
  refine rt_newa (n := 111) (t := 100) (N := 8) (atype := .int) (ty := .int) rfl in_aI (by decide) rfl (by intro C h; cases h) rfl (by decide) (by decide) (by decide) rfl (by decide) ⟨Nat.le_of_ble_eq_true rfl, Nat.le_of_ble_eq_true rfl⟩ dX10_init_94 (by simp [hB]) ?_
  rw [List.append_assoc]
  show Rn _ _ _ _ _ _ _ _ _ _ _ (tb (B ++ [[rf E 100, rf E 101, .int 0, rf E 102, rf E 103, rf E 104, .int 0, rf E 105, rf E 106, .int 0, .int 0, .int 0, rf E 107, rf E 108, .int 0, rf E 109, rf E 110, .null, .null, .null, .null, .null, .int 0, .int 0, .null, .null, .null, .null, .null, .null, .int 0, .null, .null, .null, .int 0, .null, .null, .null, .null, .null, .null, .int 0], [], [], [], [], [], [], [], [], [], [], [], []]))
  refine rt_putF (i := 0) (ty := (.array .int)) hB rfl flRX10_43 rfl (by decide) rfl rfl (by decide +kernel) rfl rfl dX10_init_96 (Nat.le_of_ble_eq_true rfl) (Nat.le_of_ble_eq_true rfl) ?_
  show Rn _ _ _ _ _ _ _ _ _ _ _ (tb (B ++ [[rf E 100, rf E 101, .int 0, rf E 102, rf E 103, rf E 104, .int 0, rf E 105, rf E 106, .int 0, .int 0, .int 0, rf E 107, rf E 108, .int 0, rf E 109, rf E 110, rf E 111, .null, .null, .null, .null, .int 0, .int 0, .null, .null, .null, .null, .null, .null, .int 0, .null, .null, .null, .int 0, .null, .null, .null, .null, .null, .null, .int 0], [], [], [], [], [], [], [], [], [], [], [], []]))
  refine rn_aload_n dX10_init_99 rfl ?_
  refine rn_bipush (x := (8 : Int32)) dX10_init_100 (by decide) ?_
  refine rt_newa (n := 112) (t := 100) (N := 8) (atype := .int) (ty := .int) rfl in_aI (by decide) rfl (by intro C h; cases h) rfl (by decide) (by decide) (by decide) rfl (by decide) ⟨Nat.le_of_ble_eq_true rfl, Nat.le_of_ble_eq_true rfl⟩ dX10_init_102 (by simp [hB]) ?_
  rw [List.append_assoc]
  show Rn _ _ _ _ _ _ _ _ _ _ _ (tb (B ++ [[rf E 100, rf E 101, .int 0, rf E 102, rf E 103, rf E 104, .int 0, rf E 105, rf E 106, .int 0, .int 0, .int 0, rf E 107, rf E 108, .int 0, rf E 109, rf E 110, rf E 111, .null, .null, .null, .null, .int 0, .int 0, .null, .null, .null, .null, .null, .null, .int 0, .null, .null, .null, .int 0, .null, .null, .null, .null, .null, .null, .int 0], [], [], [], [], [], [], [], [], [], [], [], [], []]))
  refine rt_putF (i := 0) (ty := (.array .int)) hB rfl flRX10_46 rfl (by decide) rfl rfl (by decide +kernel) rfl rfl dX10_init_104 (Nat.le_of_ble_eq_true rfl) (Nat.le_of_ble_eq_true rfl) ?_
  show Rn _ _ _ _ _ _ _ _ _ _ _ (tb (B ++ [[rf E 100, rf E 101, .int 0, rf E 102, rf E 103, rf E 104, .int 0, rf E 105, rf E 106, .int 0, .int 0, .int 0, rf E 107, rf E 108, .int 0, rf E 109, rf E 110, rf E 111, rf E 112, .null, .null, .null, .int 0, .int 0, .null, .null, .null, .null, .null, .null, .int 0, .null, .null, .null, .int 0, .null, .null, .null, .null, .null, .null, .int 0], [], [], [], [], [], [], [], [], [], [], [], [], []]))
  refine rn_aload_n dX10_init_107 rfl ?_
  refine rn_bipush (x := (8 : Int32)) dX10_init_108 (by decide) ?_
  refine rt_newa (n := 113) (t := 100) (N := 8) (atype := .int) (ty := .int) rfl in_aI (by decide) rfl (by intro C h; cases h) rfl (by decide) (by decide) (by decide) rfl (by decide) ⟨Nat.le_of_ble_eq_true rfl, Nat.le_of_ble_eq_true rfl⟩ dX10_init_110 (by simp [hB]) ?_
  rw [List.append_assoc]
  show Rn _ _ _ _ _ _ _ _ _ _ _ (tb (B ++ [[rf E 100, rf E 101, .int 0, rf E 102, rf E 103, rf E 104, .int 0, rf E 105, rf E 106, .int 0, .int 0, .int 0, rf E 107, rf E 108, .int 0, rf E 109, rf E 110, rf E 111, rf E 112, .null, .null, .null, .int 0, .int 0, .null, .null, .null, .null, .null, .null, .int 0, .null, .null, .null, .int 0, .null, .null, .null, .null, .null, .null, .int 0], [], [], [], [], [], [], [], [], [], [], [], [], [], []]))
  refine rt_putF (i := 0) (ty := (.array .int)) hB rfl flRX10_49 rfl (by decide) rfl rfl (by decide +kernel) rfl rfl dX10_init_112 (Nat.le_of_ble_eq_true rfl) (Nat.le_of_ble_eq_true rfl) ?_
  show Rn _ _ _ _ _ _ _ _ _ _ _ (tb (B ++ [[rf E 100, rf E 101, .int 0, rf E 102, rf E 103, rf E 104, .int 0, rf E 105, rf E 106, .int 0, .int 0, .int 0, rf E 107, rf E 108, .int 0, rf E 109, rf E 110, rf E 111, rf E 112, rf E 113, .null, .null, .int 0, .int 0, .null, .null, .null, .null, .null, .null, .int 0, .null, .null, .null, .int 0, .null, .null, .null, .null, .null, .null, .int 0], [], [], [], [], [], [], [], [], [], [], [], [], [], []]))
  refine rn_aload_n dX10_init_115 rfl ?_
  refine rn_bipush (x := (8 : Int32)) dX10_init_116 (by decide) ?_
  refine rt_newa (n := 114) (t := 100) (N := 8) (atype := .int) (ty := .int) rfl in_aI (by decide) rfl (by intro C h; cases h) rfl (by decide) (by decide) (by decide) rfl (by decide) ⟨Nat.le_of_ble_eq_true rfl, Nat.le_of_ble_eq_true rfl⟩ dX10_init_118 (by simp [hB]) ?_
  rw [List.append_assoc]
  show Rn _ _ _ _ _ _ _ _ _ _ _ (tb (B ++ [[rf E 100, rf E 101, .int 0, rf E 102, rf E 103, rf E 104, .int 0, rf E 105, rf E 106, .int 0, .int 0, .int 0, rf E 107, rf E 108, .int 0, rf E 109, rf E 110, rf E 111, rf E 112, rf E 113, .null, .null, .int 0, .int 0, .null, .null, .null, .null, .null, .null, .int 0, .null, .null, .null, .int 0, .null, .null, .null, .null, .null, .null, .int 0], [], [], [], [], [], [], [], [], [], [], [], [], [], [], []]))
  refine rt_putF (i := 0) (ty := (.array .int)) hB rfl flRX10_52 rfl (by decide) rfl rfl (by decide +kernel) rfl rfl dX10_init_120 (Nat.le_of_ble_eq_true rfl) (Nat.le_of_ble_eq_true rfl) ?_
  show Rn _ _ _ _ _ _ _ _ _ _ _ (tb (B ++ [[rf E 100, rf E 101, .int 0, rf E 102, rf E 103, rf E 104, .int 0, rf E 105, rf E 106, .int 0, .int 0, .int 0, rf E 107, rf E 108, .int 0, rf E 109, rf E 110, rf E 111, rf E 112, rf E 113, rf E 114, .null, .int 0, .int 0, .null, .null, .null, .null, .null, .null, .int 0, .null, .null, .null, .int 0, .null, .null, .null, .null, .null, .null, .int 0], [], [], [], [], [], [], [], [], [], [], [], [], [], [], []]))
  refine rn_aload_n dX10_init_123 rfl ?_
  refine rn_bipush (x := (44 : Int32)) dX10_init_124 (by decide) ?_
  refine rt_newa (n := 115) (t := 101) (N := 44) (atype := .boolean) (ty := .boolean) rfl in_aZ (by decide) rfl (by intro C h; cases h) rfl (by decide) (by decide) (by decide) rfl (by decide) ⟨Nat.le_of_ble_eq_true rfl, Nat.le_of_ble_eq_true rfl⟩ dX10_init_126 (by simp [hB]) ?_
  rw [List.append_assoc]
  show Rn _ _ _ _ _ _ _ _ _ _ _ (tb (B ++ [[rf E 100, rf E 101, .int 0, rf E 102, rf E 103, rf E 104, .int 0, rf E 105, rf E 106, .int 0, .int 0, .int 0, rf E 107, rf E 108, .int 0, rf E 109, rf E 110, rf E 111, rf E 112, rf E 113, rf E 114, .null, .int 0, .int 0, .null, .null, .null, .null, .null, .null, .int 0, .null, .null, .null, .int 0, .null, .null, .null, .null, .null, .null, .int 0], [], [], [], [], [], [], [], [], [], [], [], [], [], [], [], []]))
  refine rt_putF (i := 0) (ty := (.array .boolean)) hB rfl flRX10_55 rfl (by decide) rfl rfl (by decide +kernel) rfl rfl dX10_init_128 (Nat.le_of_ble_eq_true rfl) (Nat.le_of_ble_eq_true rfl) ?_
  show Rn _ _ _ _ _ _ _ _ _ _ _ (tb (B ++ [[rf E 100, rf E 101, .int 0, rf E 102, rf E 103, rf E 104, .int 0, rf E 105, rf E 106, .int 0, .int 0, .int 0, rf E 107, rf E 108, .int 0, rf E 109, rf E 110, rf E 111, rf E 112, rf E 113, rf E 114, rf E 115, .int 0, .int 0, .null, .null, .null, .null, .null, .null, .int 0, .null, .null, .null, .int 0, .null, .null, .null, .null, .null, .null, .int 0], [], [], [], [], [], [], [], [], [], [], [], [], [], [], [], []]))
  refine rn_aload_n dX10_init_131 rfl ?_
  refine rn_bipush (x := (8 : Int32)) dX10_init_132 (by decide) ?_
  refine rt_newa (n := 116) (t := 100) (N := 8) (atype := .int) (ty := .int) rfl in_aI (by decide) rfl (by intro C h; cases h) rfl (by decide) (by decide) (by decide) rfl (by decide) ⟨Nat.le_of_ble_eq_true rfl, Nat.le_of_ble_eq_true rfl⟩ dX10_init_134 (by simp [hB]) ?_
  rw [List.append_assoc]
  show Rn _ _ _ _ _ _ _ _ _ _ _ (tb (B ++ [[rf E 100, rf E 101, .int 0, rf E 102, rf E 103, rf E 104, .int 0, rf E 105, rf E 106, .int 0, .int 0, .int 0, rf E 107, rf E 108, .int 0, rf E 109, rf E 110, rf E 111, rf E 112, rf E 113, rf E 114, rf E 115, .int 0, .int 0, .null, .null, .null, .null, .null, .null, .int 0, .null, .null, .null, .int 0, .null, .null, .null, .null, .null, .null, .int 0], [], [], [], [], [], [], [], [], [], [], [], [], [], [], [], [], []]))
  refine rt_putF (i := 0) (ty := (.array .int)) hB rfl flRX10_59 rfl (by decide) rfl rfl (by decide +kernel) rfl rfl dX10_init_136 (Nat.le_of_ble_eq_true rfl) (Nat.le_of_ble_eq_true rfl) ?_
  show Rn _ _ _ _ _ _ _ _ _ _ _ (tb (B ++ [[rf E 100, rf E 101, .int 0, rf E 102, rf E 103, rf E 104, .int 0, rf E 105, rf E 106, .int 0, .int 0, .int 0, rf E 107, rf E 108, .int 0, rf E 109, rf E 110, rf E 111, rf E 112, rf E 113, rf E 114, rf E 115, .int 0, .int 0, rf E 116, .null, .null, .null, .null, .null, .int 0, .null, .null, .null, .int 0, .null, .null, .null, .null, .null, .null, .int 0], [], [], [], [], [], [], [], [], [], [], [], [], [], [], [], [], []]))
  refine rn_aload_n dX10_init_139 rfl ?_
  refine rn_bipush (x := (8 : Int32)) dX10_init_140 (by decide) ?_
  refine rt_newa (n := 117) (t := 100) (N := 8) (atype := .int) (ty := .int) rfl in_aI (by decide) rfl (by intro C h; cases h) rfl (by decide) (by decide) (by decide) rfl (by decide) ⟨Nat.le_of_ble_eq_true rfl, Nat.le_of_ble_eq_true rfl⟩ dX10_init_142 (by simp [hB]) ?_
  rw [List.append_assoc]
  show Rn _ _ _ _ _ _ _ _ _ _ _ (tb (B ++ [[rf E 100, rf E 101, .int 0, rf E 102, rf E 103, rf E 104, .int 0, rf E 105, rf E 106, .int 0, .int 0, .int 0, rf E 107, rf E 108, .int 0, rf E 109, rf E 110, rf E 111, rf E 112, rf E 113, rf E 114, rf E 115, .int 0, .int 0, rf E 116, .null, .null, .null, .null, .null, .int 0, .null, .null, .null, .int 0, .null, .null, .null, .null, .null, .null, .int 0], [], [], [], [], [], [], [], [], [], [], [], [], [], [], [], [], [], []]))
  refine rt_putF (i := 0) (ty := (.array .int)) hB rfl flRX10_62 rfl (by decide) rfl rfl (by decide +kernel) rfl rfl dX10_init_144 (Nat.le_of_ble_eq_true rfl) (Nat.le_of_ble_eq_true rfl) ?_
  show Rn _ _ _ _ _ _ _ _ _ _ _ (tb (B ++ [[rf E 100, rf E 101, .int 0, rf E 102, rf E 103, rf E 104, .int 0, rf E 105, rf E 106, .int 0, .int 0, .int 0, rf E 107, rf E 108, .int 0, rf E 109, rf E 110, rf E 111, rf E 112, rf E 113, rf E 114, rf E 115, .int 0, .int 0, rf E 116, rf E 117, .null, .null, .null, .null, .int 0, .null, .null, .null, .int 0, .null, .null, .null, .null, .null, .null, .int 0], [], [], [], [], [], [], [], [], [], [], [], [], [], [], [], [], [], []]))
  refine rn_aload_n dX10_init_147 rfl ?_
  refine rn_bipush (x := (8 : Int32)) dX10_init_148 (by decide) ?_
  refine rt_newa (n := 118) (t := 100) (N := 8) (atype := .int) (ty := .int) rfl in_aI (by decide) rfl (by intro C h; cases h) rfl (by decide) (by decide) (by decide) rfl (by decide) ⟨Nat.le_of_ble_eq_true rfl, Nat.le_of_ble_eq_true rfl⟩ dX10_init_150 (by simp [hB]) ?_
  rw [List.append_assoc]
  show Rn _ _ _ _ _ _ _ _ _ _ _ (tb (B ++ [[rf E 100, rf E 101, .int 0, rf E 102, rf E 103, rf E 104, .int 0, rf E 105, rf E 106, .int 0, .int 0, .int 0, rf E 107, rf E 108, .int 0, rf E 109, rf E 110, rf E 111, rf E 112, rf E 113, rf E 114, rf E 115, .int 0, .int 0, rf E 116, rf E 117, .null, .null, .null, .null, .int 0, .null, .null, .null, .int 0, .null, .null, .null, .null, .null, .null, .int 0], [], [], [], [], [], [], [], [], [], [], [], [], [], [], [], [], [], [], []]))
  refine rt_putF (i := 0) (ty := (.array .int)) hB rfl flRX10_65 rfl (by decide) rfl rfl (by decide +kernel) rfl rfl dX10_init_152 (Nat.le_of_ble_eq_true rfl) (Nat.le_of_ble_eq_true rfl) ?_
  show Rn _ _ _ _ _ _ _ _ _ _ _ (tb (B ++ [[rf E 100, rf E 101, .int 0, rf E 102, rf E 103, rf E 104, .int 0, rf E 105, rf E 106, .int 0, .int 0, .int 0, rf E 107, rf E 108, .int 0, rf E 109, rf E 110, rf E 111, rf E 112, rf E 113, rf E 114, rf E 115, .int 0, .int 0, rf E 116, rf E 117, rf E 118, .null, .null, .null, .int 0, .null, .null, .null, .int 0, .null, .null, .null, .null, .null, .null, .int 0], [], [], [], [], [], [], [], [], [], [], [], [], [], [], [], [], [], [], []]))
  refine rn_aload_n dX10_init_155 rfl ?_
  refine rn_iconst (x := (2 : Int32)) dX10_init_156 (by decide) ?_
  refine rt_newa (n := 119) (t := 100) (N := 2) (atype := .int) (ty := .int) rfl in_aI (by decide) rfl (by intro C h; cases h) rfl (by decide) (by decide) (by decide) rfl (by decide) ⟨Nat.le_of_ble_eq_true rfl, Nat.le_of_ble_eq_true rfl⟩ dX10_init_157 (by simp [hB]) ?_
  rw [List.append_assoc]
  show Rn _ _ _ _ _ _ _ _ _ _ _ (tb (B ++ [[rf E 100, rf E 101, .int 0, rf E 102, rf E 103, rf E 104, .int 0, rf E 105, rf E 106, .int 0, .int 0, .int 0, rf E 107, rf E 108, .int 0, rf E 109, rf E 110, rf E 111, rf E 112, rf E 113, rf E 114, rf E 115, .int 0, .int 0, rf E 116, rf E 117, rf E 118, .null, .null, .null, .int 0, .null, .null, .null, .int 0, .null, .null, .null, .null, .null, .null, .int 0], [], [], [], [], [], [], [], [], [], [], [], [], [], [], [], [], [], [], [], []]))
  refine rt_putF (i := 0) (ty := (.array .int)) hB rfl flRX10_68 rfl (by decide) rfl rfl (by decide +kernel) rfl rfl dX10_init_159 (Nat.le_of_ble_eq_true rfl) (Nat.le_of_ble_eq_true rfl) ?_
  show Rn _ _ _ _ _ _ _ _ _ _ _ (tb (B ++ [[rf E 100, rf E 101, .int 0, rf E 102, rf E 103, rf E 104, .int 0, rf E 105, rf E 106, .int 0, .int 0, .int 0, rf E 107, rf E 108, .int 0, rf E 109, rf E 110, rf E 111, rf E 112, rf E 113, rf E 114, rf E 115, .int 0, .int 0, rf E 116, rf E 117, rf E 118, rf E 119, .null, .null, .int 0, .null, .null, .null, .int 0, .null, .null, .null, .null, .null, .null, .int 0], [], [], [], [], [], [], [], [], [], [], [], [], [], [], [], [], [], [], [], []]))
  refine rn_aload_n dX10_init_162 rfl ?_
  refine rn_bipush (x := (20 : Int32)) dX10_init_163 (by decide) ?_
  refine rt_newa (n := 120) (t := 100) (N := 20) (atype := .int) (ty := .int) rfl in_aI (by decide) rfl (by intro C h; cases h) rfl (by decide) (by decide) (by decide) rfl (by decide) ⟨Nat.le_of_ble_eq_true rfl, Nat.le_of_ble_eq_true rfl⟩ dX10_init_165 (by simp [hB]) ?_
  rw [List.append_assoc]
  show Rn _ _ _ _ _ _ _ _ _ _ _ (tb (B ++ [[rf E 100, rf E 101, .int 0, rf E 102, rf E 103, rf E 104, .int 0, rf E 105, rf E 106, .int 0, .int 0, .int 0, rf E 107, rf E 108, .int 0, rf E 109, rf E 110, rf E 111, rf E 112, rf E 113, rf E 114, rf E 115, .int 0, .int 0, rf E 116, rf E 117, rf E 118, rf E 119, .null, .null, .int 0, .null, .null, .null, .int 0, .null, .null, .null, .null, .null, .null, .int 0], [], [], [], [], [], [], [], [], [], [], [], [], [], [], [], [], [], [], [], [], []]))
  refine rt_putF (i := 0) (ty := (.array .int)) hB rfl flRX10_71 rfl (by decide) rfl rfl (by decide +kernel) rfl rfl dX10_init_167 (Nat.le_of_ble_eq_true rfl) (Nat.le_of_ble_eq_true rfl) ?_
  show Rn _ _ _ _ _ _ _ _ _ _ _ (tb (B ++ [[rf E 100, rf E 101, .int 0, rf E 102, rf E 103, rf E 104, .int 0, rf E 105, rf E 106, .int 0, .int 0, .int 0, rf E 107, rf E 108, .int 0, rf E 109, rf E 110, rf E 111, rf E 112, rf E 113, rf E 114, rf E 115, .int 0, .int 0, rf E 116, rf E 117, rf E 118, rf E 119, rf E 120, .null, .int 0, .null, .null, .null, .int 0, .null, .null, .null, .null, .null, .null, .int 0], [], [], [], [], [], [], [], [], [], [], [], [], [], [], [], [], [], [], [], [], []]))
  refine rn_aload_n dX10_init_170 rfl ?_
  refine rn_bipush (x := (8 : Int32)) dX10_init_171 (by decide) ?_
  refine rt_newa (n := 121) (t := 100) (N := 8) (atype := .int) (ty := .int) rfl in_aI (by decide) rfl (by intro C h; cases h) rfl (by decide) (by decide) (by decide) rfl (by decide) ⟨Nat.le_of_ble_eq_true rfl, Nat.le_of_ble_eq_true rfl⟩ dX10_init_173 (by simp [hB]) ?_
  rw [List.append_assoc]
  show Rn _ _ _ _ _ _ _ _ _ _ _ (tb (B ++ [[rf E 100, rf E 101, .int 0, rf E 102, rf E 103, rf E 104, .int 0, rf E 105, rf E 106, .int 0, .int 0, .int 0, rf E 107, rf E 108, .int 0, rf E 109, rf E 110, rf E 111, rf E 112, rf E 113, rf E 114, rf E 115, .int 0, .int 0, rf E 116, rf E 117, rf E 118, rf E 119, rf E 120, .null, .int 0, .null, .null, .null, .int 0, .null, .null, .null, .null, .null, .null, .int 0], [], [], [], [], [], [], [], [], [], [], [], [], [], [], [], [], [], [], [], [], [], []]))
  refine rt_putF (i := 0) (ty := (.array .int)) hB rfl flRX10_74 rfl (by decide) rfl rfl (by decide +kernel) rfl rfl dX10_init_175 (Nat.le_of_ble_eq_true rfl) (Nat.le_of_ble_eq_true rfl) ?_
  show Rn _ _ _ _ _ _ _ _ _ _ _ (tb (B ++ [[rf E 100, rf E 101, .int 0, rf E 102, rf E 103, rf E 104, .int 0, rf E 105, rf E 106, .int 0, .int 0, .int 0, rf E 107, rf E 108, .int 0, rf E 109, rf E 110, rf E 111, rf E 112, rf E 113, rf E 114, rf E 115, .int 0, .int 0, rf E 116, rf E 117, rf E 118, rf E 119, rf E 120, rf E 121, .int 0, .null, .null, .null, .int 0, .null, .null, .null, .null, .null, .null, .int 0], [], [], [], [], [], [], [], [], [], [], [], [], [], [], [], [], [], [], [], [], [], []]))
  refine rn_aload_n dX10_init_178 rfl ?_
  refine rn_bipush (x := (8 : Int32)) dX10_init_179 (by decide) ?_
  refine rt_newa (n := 122) (t := 100) (N := 8) (atype := .int) (ty := .int) rfl in_aI (by decide) rfl (by intro C h; cases h) rfl (by decide) (by decide) (by decide) rfl (by decide) ⟨Nat.le_of_ble_eq_true rfl, Nat.le_of_ble_eq_true rfl⟩ dX10_init_181 (by simp [hB]) ?_
  rw [List.append_assoc]
  show Rn _ _ _ _ _ _ _ _ _ _ _ (tb (B ++ [[rf E 100, rf E 101, .int 0, rf E 102, rf E 103, rf E 104, .int 0, rf E 105, rf E 106, .int 0, .int 0, .int 0, rf E 107, rf E 108, .int 0, rf E 109, rf E 110, rf E 111, rf E 112, rf E 113, rf E 114, rf E 115, .int 0, .int 0, rf E 116, rf E 117, rf E 118, rf E 119, rf E 120, rf E 121, .int 0, .null, .null, .null, .int 0, .null, .null, .null, .null, .null, .null, .int 0], [], [], [], [], [], [], [], [], [], [], [], [], [], [], [], [], [], [], [], [], [], [], []]))
  refine rt_putF (i := 0) (ty := (.array .int)) hB rfl flRX10_77 rfl (by decide) rfl rfl (by decide +kernel) rfl rfl dX10_init_183 (Nat.le_of_ble_eq_true rfl) (Nat.le_of_ble_eq_true rfl) ?_
  show Rn _ _ _ _ _ _ _ _ _ _ _ (tb (B ++ [[rf E 100, rf E 101, .int 0, rf E 102, rf E 103, rf E 104, .int 0, rf E 105, rf E 106, .int 0, .int 0, .int 0, rf E 107, rf E 108, .int 0, rf E 109, rf E 110, rf E 111, rf E 112, rf E 113, rf E 114, rf E 115, .int 0, .int 0, rf E 116, rf E 117, rf E 118, rf E 119, rf E 120, rf E 121, .int 0, rf E 122, .null, .null, .int 0, .null, .null, .null, .null, .null, .null, .int 0], [], [], [], [], [], [], [], [], [], [], [], [], [], [], [], [], [], [], [], [], [], [], []]))
  refine rn_aload_n dX10_init_186 rfl ?_
  refine rn_bipush (x := (8 : Int32)) dX10_init_187 (by decide) ?_
  refine rt_newa (n := 123) (t := 100) (N := 8) (atype := .int) (ty := .int) rfl in_aI (by decide) rfl (by intro C h; cases h) rfl (by decide) (by decide) (by decide) rfl (by decide) ⟨Nat.le_of_ble_eq_true rfl, Nat.le_of_ble_eq_true rfl⟩ dX10_init_189 (by simp [hB]) ?_
  rw [List.append_assoc]
  show Rn _ _ _ _ _ _ _ _ _ _ _ (tb (B ++ [[rf E 100, rf E 101, .int 0, rf E 102, rf E 103, rf E 104, .int 0, rf E 105, rf E 106, .int 0, .int 0, .int 0, rf E 107, rf E 108, .int 0, rf E 109, rf E 110, rf E 111, rf E 112, rf E 113, rf E 114, rf E 115, .int 0, .int 0, rf E 116, rf E 117, rf E 118, rf E 119, rf E 120, rf E 121, .int 0, rf E 122, .null, .null, .int 0, .null, .null, .null, .null, .null, .null, .int 0], [], [], [], [], [], [], [], [], [], [], [], [], [], [], [], [], [], [], [], [], [], [], [], []]))
  refine rt_putF (i := 0) (ty := (.array .int)) hB rfl flRX10_80 rfl (by decide) rfl rfl (by decide +kernel) rfl rfl dX10_init_191 (Nat.le_of_ble_eq_true rfl) (Nat.le_of_ble_eq_true rfl) ?_
  show Rn _ _ _ _ _ _ _ _ _ _ _ (tb (B ++ [[rf E 100, rf E 101, .int 0, rf E 102, rf E 103, rf E 104, .int 0, rf E 105, rf E 106, .int 0, .int 0, .int 0, rf E 107, rf E 108, .int 0, rf E 109, rf E 110, rf E 111, rf E 112, rf E 113, rf E 114, rf E 115, .int 0, .int 0, rf E 116, rf E 117, rf E 118, rf E 119, rf E 120, rf E 121, .int 0, rf E 122, rf E 123, .null, .int 0, .null, .null, .null, .null, .null, .null, .int 0], [], [], [], [], [], [], [], [], [], [], [], [], [], [], [], [], [], [], [], [], [], [], [], []]))
  refine rn_aload_n dX10_init_194 rfl ?_
  refine rn_bipush (x := (8 : Int32)) dX10_init_195 (by decide) ?_
  refine rt_newa (n := 124) (t := 100) (N := 8) (atype := .int) (ty := .int) rfl in_aI (by decide) rfl (by intro C h; cases h) rfl (by decide) (by decide) (by decide) rfl (by decide) ⟨Nat.le_of_ble_eq_true rfl, Nat.le_of_ble_eq_true rfl⟩ dX10_init_197 (by simp [hB]) ?_
  rw [List.append_assoc]
  show Rn _ _ _ _ _ _ _ _ _ _ _ (tb (B ++ [[rf E 100, rf E 101, .int 0, rf E 102, rf E 103, rf E 104, .int 0, rf E 105, rf E 106, .int 0, .int 0, .int 0, rf E 107, rf E 108, .int 0, rf E 109, rf E 110, rf E 111, rf E 112, rf E 113, rf E 114, rf E 115, .int 0, .int 0, rf E 116, rf E 117, rf E 118, rf E 119, rf E 120, rf E 121, .int 0, rf E 122, rf E 123, .null, .int 0, .null, .null, .null, .null, .null, .null, .int 0], [], [], [], [], [], [], [], [], [], [], [], [], [], [], [], [], [], [], [], [], [], [], [], [], []]))
  refine rt_putF (i := 0) (ty := (.array .int)) hB rfl flRX10_83 rfl (by decide) rfl rfl (by decide +kernel) rfl rfl dX10_init_199 (Nat.le_of_ble_eq_true rfl) (Nat.le_of_ble_eq_true rfl) ?_
  show Rn _ _ _ _ _ _ _ _ _ _ _ (tb (B ++ [[rf E 100, rf E 101, .int 0, rf E 102, rf E 103, rf E 104, .int 0, rf E 105, rf E 106, .int 0, .int 0, .int 0, rf E 107, rf E 108, .int 0, rf E 109, rf E 110, rf E 111, rf E 112, rf E 113, rf E 114, rf E 115, .int 0, .int 0, rf E 116, rf E 117, rf E 118, rf E 119, rf E 120, rf E 121, .int 0, rf E 122, rf E 123, rf E 124, .int 0, .null, .null, .null, .null, .null, .null, .int 0], [], [], [], [], [], [], [], [], [], [], [], [], [], [], [], [], [], [], [], [], [], [], [], [], []]))
  refine rn_aload_n dX10_init_202 rfl ?_
  refine rn_bipush (x := (24 : Int32)) dX10_init_203 (by decide) ?_
  refine rt_newa (n := 125) (t := 100) (N := 24) (atype := .int) (ty := .int) rfl in_aI (by decide) rfl (by intro C h; cases h) rfl (by decide) (by decide) (by decide) rfl (by decide) ⟨Nat.le_of_ble_eq_true rfl, Nat.le_of_ble_eq_true rfl⟩ dX10_init_205 (by simp [hB]) ?_
  rw [List.append_assoc]
  show Rn _ _ _ _ _ _ _ _ _ _ _ (tb (B ++ [[rf E 100, rf E 101, .int 0, rf E 102, rf E 103, rf E 104, .int 0, rf E 105, rf E 106, .int 0, .int 0, .int 0, rf E 107, rf E 108, .int 0, rf E 109, rf E 110, rf E 111, rf E 112, rf E 113, rf E 114, rf E 115, .int 0, .int 0, rf E 116, rf E 117, rf E 118, rf E 119, rf E 120, rf E 121, .int 0, rf E 122, rf E 123, rf E 124, .int 0, .null, .null, .null, .null, .null, .null, .int 0], [], [], [], [], [], [], [], [], [], [], [], [], [], [], [], [], [], [], [], [], [], [], [], [], [], []]))
  refine rt_putF (i := 0) (ty := (.array .int)) hB rfl flRX10_86 rfl (by decide) rfl rfl (by decide +kernel) rfl rfl dX10_init_207 (Nat.le_of_ble_eq_true rfl) (Nat.le_of_ble_eq_true rfl) ?_
  show Rn _ _ _ _ _ _ _ _ _ _ _ (tb (B ++ [[rf E 100, rf E 101, .int 0, rf E 102, rf E 103, rf E 104, .int 0, rf E 105, rf E 106, .int 0, .int 0, .int 0, rf E 107, rf E 108, .int 0, rf E 109, rf E 110, rf E 111, rf E 112, rf E 113, rf E 114, rf E 115, .int 0, .int 0, rf E 116, rf E 117, rf E 118, rf E 119, rf E 120, rf E 121, .int 0, rf E 122, rf E 123, rf E 124, .int 0, rf E 125, .null, .null, .null, .null, .null, .int 0], [], [], [], [], [], [], [], [], [], [], [], [], [], [], [], [], [], [], [], [], [], [], [], [], [], []]))
  refine rn_aload_n dX10_init_210 rfl ?_
  refine rn_iconst (x := (4 : Int32)) dX10_init_211 (by decide) ?_
  refine rt_newa (n := 126) (t := 101) (N := 4) (atype := .boolean) (ty := .boolean) rfl in_aZ (by decide) rfl (by intro C h; cases h) rfl (by decide) (by decide) (by decide) rfl (by decide) ⟨Nat.le_of_ble_eq_true rfl, Nat.le_of_ble_eq_true rfl⟩ dX10_init_212 (by simp [hB]) ?_
  rw [List.append_assoc]
  show Rn _ _ _ _ _ _ _ _ _ _ _ (tb (B ++ [[rf E 100, rf E 101, .int 0, rf E 102, rf E 103, rf E 104, .int 0, rf E 105, rf E 106, .int 0, .int 0, .int 0, rf E 107, rf E 108, .int 0, rf E 109, rf E 110, rf E 111, rf E 112, rf E 113, rf E 114, rf E 115, .int 0, .int 0, rf E 116, rf E 117, rf E 118, rf E 119, rf E 120, rf E 121, .int 0, rf E 122, rf E 123, rf E 124, .int 0, rf E 125, .null, .null, .null, .null, .null, .int 0], [], [], [], [], [], [], [], [], [], [], [], [], [], [], [], [], [], [], [], [], [], [], [], [], [], [], []]))
  refine rt_putF (i := 0) (ty := (.array .boolean)) hB rfl flRX10_89 rfl (by decide) rfl rfl (by decide +kernel) rfl rfl dX10_init_214 (Nat.le_of_ble_eq_true rfl) (Nat.le_of_ble_eq_true rfl) ?_
  show Rn _ _ _ _ _ _ _ _ _ _ _ (tb (B ++ [[rf E 100, rf E 101, .int 0, rf E 102, rf E 103, rf E 104, .int 0, rf E 105, rf E 106, .int 0, .int 0, .int 0, rf E 107, rf E 108, .int 0, rf E 109, rf E 110, rf E 111, rf E 112, rf E 113, rf E 114, rf E 115, .int 0, .int 0, rf E 116, rf E 117, rf E 118, rf E 119, rf E 120, rf E 121, .int 0, rf E 122, rf E 123, rf E 124, .int 0, rf E 125, rf E 126, .null, .null, .null, .null, .int 0], [], [], [], [], [], [], [], [], [], [], [], [], [], [], [], [], [], [], [], [], [], [], [], [], [], [], []]))
  refine rn_aload_n dX10_init_217 rfl ?_
  refine rn_iconst (x := (4 : Int32)) dX10_init_218 (by decide) ?_
  refine rt_newa (n := 127) (t := 100) (N := 4) (atype := .int) (ty := .int) rfl in_aI (by decide) rfl (by intro C h; cases h) rfl (by decide) (by decide) (by decide) rfl (by decide) ⟨Nat.le_of_ble_eq_true rfl, Nat.le_of_ble_eq_true rfl⟩ dX10_init_219 (by simp [hB]) ?_
  rw [List.append_assoc]
  show Rn _ _ _ _ _ _ _ _ _ _ _ (tb (B ++ [[rf E 100, rf E 101, .int 0, rf E 102, rf E 103, rf E 104, .int 0, rf E 105, rf E 106, .int 0, .int 0, .int 0, rf E 107, rf E 108, .int 0, rf E 109, rf E 110, rf E 111, rf E 112, rf E 113, rf E 114, rf E 115, .int 0, .int 0, rf E 116, rf E 117, rf E 118, rf E 119, rf E 120, rf E 121, .int 0, rf E 122, rf E 123, rf E 124, .int 0, rf E 125, rf E 126, .null, .null, .null, .null, .int 0], [], [], [], [], [], [], [], [], [], [], [], [], [], [], [], [], [], [], [], [], [], [], [], [], [], [], [], []]))
  refine rt_putF (i := 0) (ty := (.array .int)) hB rfl flRX10_92 rfl (by decide) rfl rfl (by decide +kernel) rfl rfl dX10_init_221 (Nat.le_of_ble_eq_true rfl) (Nat.le_of_ble_eq_true rfl) ?_
  show Rn _ _ _ _ _ _ _ _ _ _ _ (tb (B ++ [[rf E 100, rf E 101, .int 0, rf E 102, rf E 103, rf E 104, .int 0, rf E 105, rf E 106, .int 0, .int 0, .int 0, rf E 107, rf E 108, .int 0, rf E 109, rf E 110, rf E 111, rf E 112, rf E 113, rf E 114, rf E 115, .int 0, .int 0, rf E 116, rf E 117, rf E 118, rf E 119, rf E 120, rf E 121, .int 0, rf E 122, rf E 123, rf E 124, .int 0, rf E 125, rf E 126, rf E 127, .null, .null, .null, .int 0], [], [], [], [], [], [], [], [], [], [], [], [], [], [], [], [], [], [], [], [], [], [], [], [], [], [], [], []]))
  refine rn_aload_n dX10_init_224 rfl ?_
  refine rn_iconst (x := (4 : Int32)) dX10_init_225 (by decide) ?_
  refine rt_newa (n := 128) (t := 100) (N := 4) (atype := .int) (ty := .int) rfl in_aI (by decide) rfl (by intro C h; cases h) rfl (by decide) (by decide) (by decide) rfl (by decide) ⟨Nat.le_of_ble_eq_true rfl, Nat.le_of_ble_eq_true rfl⟩ dX10_init_226 (by simp [hB]) ?_
  rw [List.append_assoc]
  show Rn _ _ _ _ _ _ _ _ _ _ _ (tb (B ++ [[rf E 100, rf E 101, .int 0, rf E 102, rf E 103, rf E 104, .int 0, rf E 105, rf E 106, .int 0, .int 0, .int 0, rf E 107, rf E 108, .int 0, rf E 109, rf E 110, rf E 111, rf E 112, rf E 113, rf E 114, rf E 115, .int 0, .int 0, rf E 116, rf E 117, rf E 118, rf E 119, rf E 120, rf E 121, .int 0, rf E 122, rf E 123, rf E 124, .int 0, rf E 125, rf E 126, rf E 127, .null, .null, .null, .int 0], [], [], [], [], [], [], [], [], [], [], [], [], [], [], [], [], [], [], [], [], [], [], [], [], [], [], [], [], []]))
  refine rt_putF (i := 0) (ty := (.array .int)) hB rfl flRX10_95 rfl (by decide) rfl rfl (by decide +kernel) rfl rfl dX10_init_228 (Nat.le_of_ble_eq_true rfl) (Nat.le_of_ble_eq_true rfl) ?_
  show Rn _ _ _ _ _ _ _ _ _ _ _ (tb (B ++ [[rf E 100, rf E 101, .int 0, rf E 102, rf E 103, rf E 104, .int 0, rf E 105, rf E 106, .int 0, .int 0, .int 0, rf E 107, rf E 108, .int 0, rf E 109, rf E 110, rf E 111, rf E 112, rf E 113, rf E 114, rf E 115, .int 0, .int 0, rf E 116, rf E 117, rf E 118, rf E 119, rf E 120, rf E 121, .int 0, rf E 122, rf E 123, rf E 124, .int 0, rf E 125, rf E 126, rf E 127, rf E 128, .null, .null, .int 0], [], [], [], [], [], [], [], [], [], [], [], [], [], [], [], [], [], [], [], [], [], [], [], [], [], [], [], [], []]))
  refine rn_aload_n dX10_init_231 rfl ?_
  refine rn_sipush (x := (240 : Int32)) dX10_init_232 (by decide) ?_
  refine rt_newa (n := 129) (t := 100) (N := 240) (atype := .int) (ty := .int) rfl in_aI (by decide) rfl (by intro C h; cases h) rfl (by decide) (by decide) (by decide) rfl (by decide) ⟨Nat.le_of_ble_eq_true rfl, Nat.le_of_ble_eq_true rfl⟩ dX10_init_235 (by simp [hB]) ?_
  rw [List.append_assoc]
  show Rn _ _ _ _ _ _ _ _ _ _ _ (tb (B ++ [[rf E 100, rf E 101, .int 0, rf E 102, rf E 103, rf E 104, .int 0, rf E 105, rf E 106, .int 0, .int 0, .int 0, rf E 107, rf E 108, .int 0, rf E 109, rf E 110, rf E 111, rf E 112, rf E 113, rf E 114, rf E 115, .int 0, .int 0, rf E 116, rf E 117, rf E 118, rf E 119, rf E 120, rf E 121, .int 0, rf E 122, rf E 123, rf E 124, .int 0, rf E 125, rf E 126, rf E 127, rf E 128, .null, .null, .int 0], [], [], [], [], [], [], [], [], [], [], [], [], [], [], [], [], [], [], [], [], [], [], [], [], [], [], [], [], [], []]))
  refine rt_putF (i := 0) (ty := (.array .int)) hB rfl flRX10_98 rfl (by decide) rfl rfl (by decide +kernel) rfl rfl dX10_init_237 (Nat.le_of_ble_eq_true rfl) (Nat.le_of_ble_eq_true rfl) ?_
  show Rn _ _ _ _ _ _ _ _ _ _ _ (tb (B ++ [[rf E 100, rf E 101, .int 0, rf E 102, rf E 103, rf E 104, .int 0, rf E 105, rf E 106, .int 0, .int 0, .int 0, rf E 107, rf E 108, .int 0, rf E 109, rf E 110, rf E 111, rf E 112, rf E 113, rf E 114, rf E 115, .int 0, .int 0, rf E 116, rf E 117, rf E 118, rf E 119, rf E 120, rf E 121, .int 0, rf E 122, rf E 123, rf E 124, .int 0, rf E 125, rf E 126, rf E 127, rf E 128, rf E 129, .null, .int 0], [], [], [], [], [], [], [], [], [], [], [], [], [], [], [], [], [], [], [], [], [], [], [], [], [], [], [], [], [], []]))
  refine rn_aload_n dX10_init_240 rfl ?_
  refine rn_bipush (x := (60 : Int32)) dX10_init_241 (by decide) ?_
  refine rt_newa (n := 130) (t := 100) (N := 60) (atype := .int) (ty := .int) rfl in_aI (by decide) rfl (by intro C h; cases h) rfl (by decide) (by decide) (by decide) rfl (by decide) ⟨Nat.le_of_ble_eq_true rfl, Nat.le_of_ble_eq_true rfl⟩ dX10_init_243 (by simp [hB]) ?_
  rw [List.append_assoc]
  show Rn _ _ _ _ _ _ _ _ _ _ _ (tb (B ++ [[rf E 100, rf E 101, .int 0, rf E 102, rf E 103, rf E 104, .int 0, rf E 105, rf E 106, .int 0, .int 0, .int 0, rf E 107, rf E 108, .int 0, rf E 109, rf E 110, rf E 111, rf E 112, rf E 113, rf E 114, rf E 115, .int 0, .int 0, rf E 116, rf E 117, rf E 118, rf E 119, rf E 120, rf E 121, .int 0, rf E 122, rf E 123, rf E 124, .int 0, rf E 125, rf E 126, rf E 127, rf E 128, rf E 129, .null, .int 0], [], [], [], [], [], [], [], [], [], [], [], [], [], [], [], [], [], [], [], [], [], [], [], [], [], [], [], [], [], [], []]))
  refine rt_putF (i := 0) (ty := (.array .int)) hB rfl flRX10_101 rfl (by decide) rfl rfl (by decide +kernel) rfl rfl dX10_init_245 (Nat.le_of_ble_eq_true rfl) (Nat.le_of_ble_eq_true rfl) ?_
  show Rn _ _ _ _ _ _ _ _ _ _ _ (tb (B ++ [[rf E 100, rf E 101, .int 0, rf E 102, rf E 103, rf E 104, .int 0, rf E 105, rf E 106, .int 0, .int 0, .int 0, rf E 107, rf E 108, .int 0, rf E 109, rf E 110, rf E 111, rf E 112, rf E 113, rf E 114, rf E 115, .int 0, .int 0, rf E 116, rf E 117, rf E 118, rf E 119, rf E 120, rf E 121, .int 0, rf E 122, rf E 123, rf E 124, .int 0, rf E 125, rf E 126, rf E 127, rf E 128, rf E 129, rf E 130, .int 0], [], [], [], [], [], [], [], [], [], [], [], [], [], [], [], [], [], [], [], [], [], [], [], [], [], [], [], [], [], [], []]))
  refine rn_aload_n dX10_init_248 rfl ?_
  refine rn_bipush (x := (20 : Int32)) dX10_init_249 (by decide) ?_
  refine rt_put (i := 0) (ty := .int) hB rfl flRX10_104 rfl (by decide) (by decide +kernel) rfl rfl dX10_init_251 (Nat.le_of_ble_eq_true rfl) (Nat.le_of_ble_eq_true rfl) ?_
  show Rn _ _ _ _ _ _ _ _ _ _ _ (tb (B ++ [[rf E 100, rf E 101, .int 0, rf E 102, rf E 103, rf E 104, .int 0, rf E 105, rf E 106, .int 20, .int 0, .int 0, rf E 107, rf E 108, .int 0, rf E 109, rf E 110, rf E 111, rf E 112, rf E 113, rf E 114, rf E 115, .int 0, .int 0, rf E 116, rf E 117, rf E 118, rf E 119, rf E 120, rf E 121, .int 0, rf E 122, rf E 123, rf E 124, .int 0, rf E 125, rf E 126, rf E 127, rf E 128, rf E 129, rf E 130, .int 0], [], [], [], [], [], [], [], [], [], [], [], [], [], [], [], [], [], [], [], [], [], [], [], [], [], [], [], [], [], [], []]))
  exact rn_vret rfl dX10_init_254 rfl (by decide) hq
