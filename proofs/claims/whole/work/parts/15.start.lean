/-! the law's start: E, the world, the Strings -/
abbrev Zl : List Frame → Array Value → State → State → Prop := fun below args s => lw_Z below args s
theorem lw_ret' {p : Program} {l : Launch} {e : Env} {R : Room} {s : State} {m : MethodId} {args : Array Value} {below : List Frame} {meth : Method} {c : Code} (hx : p.tables.exec = Jvm.exec) (hb : c.code = code) (hr : meth.sig.returnType = ret) (hlocks : meth.locks = false) {pc : Nat} {H : Heap} {ls : Array Slot} (hdg : decode code pc = .ok (.ireturn, 1)) : W p l e R s m args below meth c H [] 600000 7302250 (lw_Z below args s) (F0 m pc ls [.int 1]) := by
  intro T hT X
  obtain ⟨fs, hret, hrun, hended, hW, hframe⟩ := X.leave (v := some (.int 1)) (hlocks := hlocks) (fun h => by rw [hr] at h; cases h)
  have hmeth' : T.vm.method? m = some meth := X.method'
  refine ⟨T.setFrames fs, ?_, .returned (some (.int 1)), hrun, hended, rfl, ⟨_, rfl⟩, hW, hframe⟩
  jvm_step X.here [X.here.top, hx, hb, hdg, hmeth', hr, ret, narrow_b1]
  (try refine ⟨rfl, ?_⟩); (try refine ⟨rfl, ?_⟩)
  first | (intro acts; rw [hret _ acts rfl rfl rfl]) | rw [hret _ _ rfl rfl rfl]
  exact Steps.refl _
theorem rn_lawret {E : En} {pc : Nat} {L : List (Option Value)} {h : Hp} (hd : decode code pc = .ok (.ireturn, 1)) : Rn E mL_law 600000 7302250 Zl 131 1782 pc L [.int 1] nN h := by
  intro p e R s m args below meth c H locs ls C hz hP hD hS hl
  obtain ⟨hx, hb, hr, hml, hown, hts, hK, hE, hB, hlk, -⟩ := id C
  refine va_forget (fun q hq => ?_) ?_
  · have := hS.2.2 q hq
    have h2 : eB E ≤ q.base := this
    have : s.heap.size + 131 = eB E + 131 := hz
    omega
  · refine W.widen (k := 600000) (n := 7302250) (by decide) (by decide) ?_
    exact lw_ret' hx hb hr hlk hd
theorem hts_T {args : Array Value} {s : State} (hts : ∀ w ∈ lw_tbl, w.before args s = true) : ∀ w ∈ lw_T, w.before args s = true := fun w h => hts w (List.mem_filter.mp h).1
def skI : List Nat := [9, 11, 13, 24, 26, 28]
def skT : List String := ["123456789", "01234567", "osf", "oh", "01234567.", ""]
theorem sk_pre : ∀ i : Fin 6, (Cond.exactly (.string "SharedPockets" (skI.getD i 0)) "java/lang/String") ∈ flatC (Jvm.Cond.and given_1 narrow_1) ∧
    (Cond.eq (.field (.string "SharedPockets" (skI.getD i 0)) "java/lang/String" "coder" "B") (.int 0)) ∈ flatC (Jvm.Cond.and given_1 narrow_1) ∧
    (Cond.arrayOf (.field (.string "SharedPockets" (skI.getD i 0)) "java/lang/String" "value" "[B") .byte) ∈ flatC (Jvm.Cond.and given_1 narrow_1) ∧
    (Cond.eq (.length (.field (.string "SharedPockets" (skI.getD i 0)) "java/lang/String" "value" "[B")) (.int (Int32.ofNat (skLen.getD i 0)))) ∈ flatC (Jvm.Cond.and given_1 narrow_1) := by decide +kernel
theorem sk_el : ∀ i : Fin 6, ∀ j : Fin 9, (j : Nat) < skLen.getD i 0 → (Cond.eq (.elem (.field (.string "SharedPockets" (skI.getD i 0)) "java/lang/String" "value" "[B") (.int (Int32.ofNat j))) (.int ((skByt.getD i []).getD j 0))) ∈ flatC (Jvm.Cond.and given_1 narrow_1) := by decide +kernel
theorem sk_ne : ∀ i j : Fin 6, i ≠ j → (Cond.not (Cond.eq (.string "SharedPockets" (skI.getD i 0)) (.string "SharedPockets" (skI.getD j 0)))) ∈ flatC (Jvm.Cond.and given_1 narrow_1) ∨ (Cond.not (Cond.eq (.string "SharedPockets" (skI.getD j 0)) (.string "SharedPockets" (skI.getD i 0)))) ∈ flatC (Jvm.Cond.and given_1 narrow_1) := by decide +kernel
theorem sk_short : ∀ i : Fin 6, skLen.getD i 0 ≤ 9 := by decide +kernel
theorem sk_compact : (Cond.eq (.static "java/lang/String" "COMPACT_STRINGS" "Z") (.int 1)) ∈ flatC (Jvm.Cond.and given_1 narrow_1) := by decide +kernel
theorem sk_lays : (Cond.laysStatic "java/lang/String" "COMPACT_STRINGS" "Z") ∈ lw_tbl := by decide +kernel
theorem sk_ini : (Cond.initialized "java/lang/String") ∈ lw_tbl := by decide +kernel
theorem sk_ref : ∀ i : Fin 6, (Cond.stringRef "SharedPockets" (skI.getD i 0) (skT.getD i "")) ∈ lw_tbl := by decide +kernel
theorem nest_in : ∀ q ∈ nestL, (Cond.methodLinkNest q.1 q.2.1 q.2.2 "SharedPockets") ∈ lw_tbl := by decide +kernel
theorem over_in : (Cond.arrayOver (.object RX6)) ∈ lw_tbl ∧ (Cond.arrayOver (.object RX5)) ∈ lw_tbl := by decide +kernel
set_option maxHeartbeats 4000000 in
theorem law_start {p : Program} {e : Env} {s : State} {m : MethodId} {below : List Frame} {meth : Method} {c : Code} (l : Launch) {b L : Nat} {xs : Nat → Int32} (C0 : lw_At p s m meth c b L xs)
    (hloop : ∀ E : En, eX E = (b, L, xs) → Rn E mL_law 600000 7302250 Zl 131 1782 18 [some (rs E), some (rf E 0), some (rf E 99), some (.int (0 : Int32))] [] nN (lay E iniH)) :
    W p l e room_1 s m #[Value.ref b] below meth c s.heap [] 0 0 (lw_Z below #[Value.ref b] s) (entryFrame m ([Value.ref b] : List Value).toArray 4) := by
  obtain ⟨hx, hb, hr, hml, hown, hts0, hX, hbl, hlocks, hgv⟩ := id C0
  have hts := hts_T hts0
  have hfl := flat_of_before _ hgv
  have hA : ∀ a : Nat, a < s.heap.size → ¬ (fun q : Nat => s.heap.size ≤ q) a := fun a h q => absurd h (Nat.not_lt.mpr q)
  obtain ⟨c0, i0, k0⟩ := u_known (C := RX0) (T := TX0) (N := 10) (n := 10) hts inX0 (hts _ ins0)
  obtain ⟨c1, i1, k1⟩ := u_known (C := RX1) (T := TX1) (N := 6) (n := 6) hts inX1 (hts _ ins1)
  obtain ⟨c2, i2, k2⟩ := u_known (C := RX2) (T := TX2) (N := 7) (n := 7) hts inX2 (hts _ ins2)
  obtain ⟨c3, i3, k3⟩ := u_known (C := RX3) (T := TX3) (N := 10) (n := 10) hts inX3 (hts _ ins3)
  obtain ⟨c4, i4, k4⟩ := u_known (C := RX4) (T := TX4) (N := 3) (n := 3) hts inX4 (hts _ ins4)
  obtain ⟨c5, i5, k5⟩ := u_known (C := RX5) (T := TX5) (N := 3) (n := 3) hts inX5 (hts _ ins5)
  obtain ⟨c6, i6, k6⟩ := u_known (C := RX6) (T := TX6) (N := 6) (n := 6) hts inX6 (hts _ ins6)
  obtain ⟨c7, i7, k7⟩ := u_known (C := RX7) (T := TX7) (N := 6) (n := 6) hts inX7 (hts _ ins7)
  obtain ⟨c8, i8, k8⟩ := u_known (C := RX8) (T := TX8) (N := 15) (n := 15) hts inX8 (hts _ ins8)
  obtain ⟨c9, i9, k9⟩ := u_known (C := RX9) (T := TX9) (N := 10) (n := 10) hts inX9 (hts _ ins9)
  obtain ⟨c10, i10, k10⟩ := u_known (C := RX10) (T := TX10) (N := 42) (n := 42) hts inX10 (hts _ ins10)
  obtain ⟨aI, kI, mI, gI1, gI2, gI3⟩ := Cond.arrayClass_spec (hts _ in_aI)
  obtain ⟨aZ, kZ, mZ, gZ1, gZ2, gZ3⟩ := Cond.arrayClass_spec (hts _ in_aZ)
  obtain ⟨mS, aS, kS, gS1, -, gS3, gS4, gS5⟩ := Cond.arrayOver_spec (hts0 _ over_in.1)
  obtain ⟨mT, aT, kT, gT1, -, gT3, gT4, gT5⟩ := Cond.arrayOver_spec (hts0 _ over_in.2)
  obtain ⟨adK, adV, hSt, hEv⟩ := vk_Sof (args := #[Value.ref b]) (s := s) (N := 6) (tm := fun i => .string "SharedPockets" (skI.getD i 0)) (len := skLen) (byt := skByt) (A := fun q : Nat => s.heap.size ≤ q)
    (fun i hi => Nat.lt_of_le_of_lt (sk_short ⟨i, hi⟩) (by decide)) (fun i hi => hfl _ (sk_pre ⟨i, hi⟩).1) (fun i hi => hfl _ (sk_pre ⟨i, hi⟩).2.1) (fun i hi => hfl _ (sk_pre ⟨i, hi⟩).2.2.1) (fun i hi => hfl _ (sk_pre ⟨i, hi⟩).2.2.2)
    (fun i hi j hj => hfl _ (sk_el ⟨i, hi⟩ ⟨j, Nat.lt_of_lt_of_le hj (sk_short ⟨i, hi⟩)⟩ hj))
    (fun i j hi hj hij => (sk_ne ⟨i, hi⟩ ⟨j, hj⟩ (fun q => hij (congrArg Fin.val q))).imp (hfl _) (hfl _)) hA
  let E : En := (l, (fun k => if k < 1000 then s.heap.size + k else adK (k - 1000)), ((fun k => if k = 0 then c0 else if k = 1 then c1 else if k = 2 then c2 else if k = 3 then c3 else if k = 4 then c4 else if k = 5 then c5 else if k = 6 then c6 else if k = 7 then c7 else if k = 8 then c8 else if k = 9 then c9 else c10), (fun k => if k = 0 then i0 else if k = 1 then i1 else if k = 2 then i2 else if k = 3 then i3 else if k = 4 then i4 else if k = 5 then i5 else if k = 6 then i6 else if k = 7 then i7 else if k = 8 then i8 else if k = 9 then i9 else i10)), (fun k => if k = 0 then aI else if k = 1 then aZ else if k = 2 then aS else aT), adV, s.heap.size, (b, L, xs))
  have hK : va_K (eD E) vwCl (tysE E) s := by
    refine ⟨fun k q hq => ?_, fun k q hq => ?_⟩
    · match k, hq with
      | 0, hq => cases hq; exact k0
      | 1, hq => cases hq; exact k1
      | 2, hq => cases hq; exact k2
      | 3, hq => cases hq; exact k3
      | 4, hq => cases hq; exact k4
      | 5, hq => cases hq; exact k5
      | 6, hq => cases hq; exact k6
      | 7, hq => cases hq; exact k7
      | 8, hq => cases hq; exact k8
      | 9, hq => cases hq; exact k9
      | 10, hq => cases hq; exact k10
      | k + 11, hq => simp [vwCl] at hq
    · match k, hq with
      | 0, hq => cases hq; exact ⟨fun n z => ⟨fun k h => (by cases h), kI, gI2, mI, gI3⟩, gI1⟩
      | 1, hq => cases hq; exact ⟨fun n z => ⟨fun k h => (by cases h), kZ, gZ2, mZ, gZ3⟩, gZ1⟩
      | 2, hq => cases hq; exact ⟨fun n z => ⟨fun k h => (by cases h), kS, gS3, mS, gS4⟩, kS, mS, gS3, gS4, gS1, gS5⟩
      | 3, hq => cases hq; exact ⟨fun n z => ⟨fun k h => (by cases h), kT, gT3, mT, gT4⟩, kT, mT, gT3, gT4, gT1, gT5⟩
      | k + 4, hq => simp [tysE] at hq
  have eS : ∀ i : Nat, i < 6 → eAd E (1000 + i) = adK i := by
    intro i hi
    show (if 1000 + i < 1000 then s.heap.size + (1000 + i) else adK (1000 + i - 1000)) = adK i
    rw [if_neg (by omega), Nat.add_sub_cancel_left]
  have hExt : Ext E s s.heap := by
    refine ⟨⟨fun i hi => ?_, fun i j hi hj e => ?_⟩, ?_, hX, hbl, fun j hj => ?_, fun c hc => ?_, fun q hq => va_Nw.of rfl (hts0 _ (nest_in q hq)), va_AO.of (hts0 _ over_in.1), va_AO.of (hts0 _ over_in.2)⟩
    · have h1 := hSt.1 i hi
      rw [← eS i hi] at h1
      exact h1
    · have e : eAd E (1000 + i) = eAd E (1000 + j) := e
      rw [eS i hi, eS j hj] at e
      exact hSt.2 i j hi hj e
    · exact va_Zof (hts0 _ sk_lays) (hts0 _ sk_ini) (va_eqt (hfl _ sk_compact)) hA
    · have h1 := hEv j hj
      have h2 := hts0 _ (sk_ref ⟨j, hj⟩)
      refine vk_R.of h2 ?_
      rw [eS j hj]
      exact h1
    · show (if c < 1000 then s.heap.size + c else adK (c - 1000)) = s.heap.size + c
      rw [if_pos hc]
  have hl := lv_entry ([.ref b]) (n := 4) (Nat.le_of_ble_eq_true rfl)
  rw [lg_entry_eq]
  generalize (lg_sl ([.ref b]) ++ List.replicate (4 - (lg_sl ([.ref b])).length) Slot.unset).toArray = ls at hl ⊢
  have hq := hloop E rfl
  rw [← tF_lay] at hq
  have hbeg := law_begin (E := E) (mc := 600000) (ms := 7302250) (Z := Zl) ⟨by decide, by decide⟩ hq
  exact hbeg p e room_1 s m #[Value.ref b] below meth c s.heap [] ls ⟨hx, hb, hr, hml, hown, hts, hK, hExt, Nat.le_refl _, hlocks, fun h => absurd h (by decide), by decide, by decide, by decide, by decide⟩ rfl (fun k q h => by simp [wsO] at h) ⟨fun i j p q h => by simp [wsO] at h, fun k q h => by simp [wsO] at h⟩ va_S.rf hl
