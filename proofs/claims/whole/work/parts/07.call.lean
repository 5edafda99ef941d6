/-! calls, makings, entries -/
theorem call_go {E : En} {p : Program} {l : Launch} {e : Env} {R : Room} {s : State} {m : MethodId} {args : Array Value} {below : List Frame} {meth : Method} {c : Code} {H : Heap} {locs : List Loc} {cells slots mc ms k pc : Nat} {ls : Array Slot} {st0 rest : List Value} {Q : State → Prop} {Q' : Option Value → Hp → Prop} {a : Array Value}
    (hr : va_Run p l e R s m args below meth c H locs cells slots mc ms (F0 m pc ls st0) rest (Pst E k Q' a) (eA E)) (hS : va_S (eA E) s.heap H locs)
    (kk : ∀ (w : Option Value) (h' : Hp) (H1 : Heap) (locs1 : List Loc), Q' w h' → va_P (eD E) vwCl (wsO E k h') H1 → va_D (eA E) (wsO E k h') → va_S (eA E) s.heap H1 locs1 → W p l e R s m args below meth c H1 locs1 (cells + mc) (slots + ms) Q (F0 m (pc + 3) ls (w.toList ++ rest))) :
    W p l e R s m args below meth c H locs cells slots Q (F0 m pc ls st0) := by
  intro T hT X
  obtain ⟨v, st₀, t, T', L, h0, X', hL, e1, e2, ⟨⟨w, h', hv, hq, hWd⟩, hz, hk⟩, st⟩ := hr T hT X
  cases hv
  rw [h0] at hz hk
  obtain ⟨t2, a1, b1⟩ := kk v h' T'.heap (locs ++ L) hq (by rw [e1]; exact hWd.1) hWd.2.2.1
    ⟨Nat.le_trans hS.1 (by rw [e1]; exact hz), fun q h1 h2 => by rw [e1, hk q (Nat.lt_of_lt_of_le h1 hS.1) h2]; exact hS.2.1 q h1 h2, fun q hq => by
      rcases List.mem_append.mp hq with h | h
      · exact hS.2.2 q h
      · exact hL q h⟩ T' rfl X'
  exact ⟨t2, st t2 a1, b1⟩
/-- what the tables say of a method -/
def MDc (ν : Mt) (k : Nat) : Prop := Cond.initialized ν.1.cls ∈ lw_T ∧ Cond.code ν.1 ν.2.1 ν.2.2.1 ν.2.2.2.1 ∈ lw_T ∧ (ν.1.cls ≠ "java/lang/invoke/MethodHandle" ∧ ν.1.cls ≠ "java/lang/invoke/VarHandle" ∧ (parseMethodDescriptor ν.1.desc).map (fun d => d.parameters.length) = some k) ∧ ν.2.2.1 ≤ 40
def MVc (own : String) (idx : Nat) (ν : Mt) : Prop := Cond.methodLink own idx ν.1 ∈ lw_T ∧ Cond.instanceMethod ν.1 ∈ lw_T ∧ Cond.selects ν.1.cls ν.1 ν.1 ∈ lw_T
def MSc (own : String) (idx : Nat) (ν : Mt) : Prop := Cond.methodLink own idx ν.1 ∈ lw_T ∧ Cond.static ν.1 ∈ lw_T
def MIc (own : String) (idx : Nat) (ν : Mt) : Prop := Cond.methodLink own idx ν.1 ∈ lw_T ∧ Cond.instanceMethod ν.1 ∈ lw_T ∧ ν.1.name = "<init>"
def MSNc (own host : String) (idx : Nat) (ν : Mt) : Prop := ((own, idx, ν.1) ∈ nestL ∧ host = "SharedPockets") ∧ Cond.static ν.1 ∈ lw_T
def MINc (own host : String) (idx : Nat) (ν : Mt) : Prop := ((own, idx, ν.1) ∈ nestL ∧ host = "SharedPockets") ∧ Cond.instanceMethod ν.1 ∈ lw_T ∧ ν.1.name = "<init>"
section RN2
variable {E : En} {μ ν : Mt} {mc ms : Nat} {Z : List Frame → Array Value → State → State → Prop} {u v : Nat} {pc : Nat} {L : List (Option Value)} {st : List Value} {n : Nat} {h : Hp} {mc2 ms2 k : Nat}
theorem cx_B {p : Program} {R : Room} {s : State} {m : MethodId} {args : Array Value} {meth : Method} {c : Code} {idx : Nat} (C : Cx E μ mc ms p R s m args meth c) (hM : MDc ν k) (hl : ν.2.2.2.2 + 1 ≤ μ.2.2.2.2) :
    (rmM ν mc2 ms2).cells = mc2 ∧ (rmM ν mc2 ms2).slots = ms2 ∧ (rmM ν mc2 ms2).frames + 1 ≤ R.frames ∧ 8 + (ν.2.2.1 + 11) + (rmM ν mc2 ms2).locals ≤ R.locals ∧ (∀ w ∈ wsM ν, ∀ (a' : Array Value) (U : State), s.WarmedH U.vm → w.before a' U = true) ∧ Cond.code ν.1 ν.2.1 ν.2.2.1 ν.2.2.2.1 ∈ wsM ν := by
  obtain ⟨hx, hb, hr, hml, hown, hts, hK, hE, hB, hlk, hnm, r1, r2, r3, r4⟩ := C
  obtain ⟨m1, m2, m3, m4⟩ := hM
  refine ⟨rfl, rfl, by show ν.2.2.2.2 + 1 + 1 ≤ R.frames; omega, by show 8 + (ν.2.2.1 + 11) + (64 * ν.2.2.2.2 + 64) ≤ R.locals; omega, fun w hw a' U hW => ?_, List.mem_cons_self⟩
  have hw2 : w ∈ lw_T := by
    rcases List.mem_cons.mp hw with rfl | h
    · exact m2
    · exact h
  exact word_at hW (good_of_word (good_T w hw2)) (hts w hw2)
theorem cx_par (hM : MDc ν k) : ∀ sig, parseMethodDescriptor ν.1.desc = some sig → k = sig.parameters.length := by
  intro sig hs
  have h3 := hM.2.2.1.2.2
  rw [hs] at h3
  exact (Option.some.inj h3).symm
theorem cx_pre {p : Program} {R : Room} {s : State} {m : MethodId} {args : Array Value} {meth : Method} {c : Code} {H : Heap} {locs : List Loc} {as : List Value} (C : Cx E μ mc ms p R s m args meth c)
    (hsz : H.size = eB E + n) (hP : va_P (eD E) vwCl (wsO E n h) H) (hD : va_D (eA E) (wsO E n h)) (hS : va_S (eA E) s.heap H locs) :
    ∀ U : State, U.heap = H → s.WarmedH U.vm → va_Pc as (World E n h) as.toArray U := by
  obtain ⟨hx, hb, hr, hml, hown, hts, hK, hE, hB, -⟩ := C
  exact fun U hU hW => ⟨rfl, by rw [hU]; exact hP, va_K.moved hW.alike hK, hD, by rw [hU]; exact (hE.kept hB hS.2.1).warm hW, by rw [hU]; exact hsz⟩
theorem rn_callV {idx c0 ci N : Nat} {As S : List Value} (f : MVc μ.1.cls idx ν) (hM : MDc ν k) (hlev : ν.2.2.2.2 + 1 ≤ μ.2.2.2.2) (hs : shp c0 = (ci, N)) (hc : c0 < n) (h100 : ci < 100) (hC : (vwCl[ci]?).map (fun q => q.1) = some ν.1.cls) (hk : As.length = k)
    (hS0 : S = As.reverse ++ rf E c0 :: st) (hst : (st.map fun v => v.category).sum ≤ 8) (hn : n < 1000) (hroom : u + mc2 ≤ mc ∧ v + ms2 ≤ ms) (hd : decode μ.2.1 pc = .ok (.invokevirtual idx, 3))
    (kk : Ct E ν mc2 ms2 (rf E c0 :: As) n h (fun w h' => Rn E μ mc ms Z (u + mc2) (v + ms2) (pc + 3) L (w.toList ++ st) (n + mc2) h')) : Rn E μ mc ms Z u v pc L S n h := by
  intro p e R s m args below meth c H locs ls C hz hP hD hS hl
  obtain ⟨hx, hb, hr, hml, hown, hts, hK, hE, hB, hlk, hnm, hR⟩ := id C
  subst hS0
  refine W_sz hE.2.2.2.2.2.1 hB hn hz hP hS (fun hsz => ?_)
  obtain ⟨b1, b2, b3, b4, b5, b6⟩ := cx_B (mc2 := mc2) (ms2 := ms2) (idx := idx) C hM hlev
  obtain ⟨q, hq⟩ : ∃ q, vwCl[ci]? = some q := by
    cases hx : vwCl[ci]? with
    | none => rw [hx] at hC; cases hC
    | some q => exact ⟨q, rfl⟩
  rw [hq] at hC
  have hrecv := va_recv hK hP hq (wsO_obj hc hs h100)
  have hC' : q.1 = ν.1.cls := Option.some.inj hC
  rw [hC'] at hrecv
  refine call_go (va_runV (C := ν.1.cls) (b := eAd E c0) (As := As) (rest := st) ⟨hx, hb, hml, hown, hts⟩ kk ⟨⟨b1, b2, b3, b4, b5, b6, hts _ hM.2.1, hts _ hM.1, ⟨hM.2.2.1.1, hM.2.2.1.2.1⟩, cx_par hM, hts _ f.1⟩, hts _ f.2.1, hts _ f.2.2⟩ ⟨World.blind _, hrecv, cx_pre C hsz hP hD hS⟩ rfl hk hl.1 rfl (lv_room hst) hd ⟨by omega, by omega⟩) hS (fun w h' H1 locs1 hq hP1 hD1 hS1 => ?_)
  exact hq p e R s m args below meth c H1 locs1 ls C (by omega) hP1 hD1 hS1 hl
theorem rn_callVS {idx j : Nat} {As S : List Value} (f : MVc μ.1.cls idx ν) (hM : MDc ν k) (hlev : ν.2.2.2.2 + 1 ≤ μ.2.2.2.2) (hj : j < 6) (hC : ν.1.cls = "java/lang/String") (hk : As.length = k)
    (hS0 : S = As.reverse ++ rf E (1000 + j) :: st) (hst : (st.map fun v => v.category).sum ≤ 8) (hn : n < 1000) (hroom : u + mc2 ≤ mc ∧ v + ms2 ≤ ms) (hd : decode μ.2.1 pc = .ok (.invokevirtual idx, 3))
    (kk : Ct E ν mc2 ms2 (rf E (1000 + j) :: As) n h (fun w h' => Rn E μ mc ms Z (u + mc2) (v + ms2) (pc + 3) L (w.toList ++ st) (n + mc2) h')) : Rn E μ mc ms Z u v pc L S n h := by
  intro p e R s m args below meth c H locs ls C hz hP hD hS hl
  obtain ⟨hx, hb, hr, hml, hown, hts, hK, hE, hB, hlk, hnm, hR⟩ := id C
  subst hS0
  refine W_sz hE.2.2.2.2.2.1 hB hn hz hP hS (fun hsz => ?_)
  obtain ⟨b1, b2, b3, b4, b5, b6⟩ := cx_B (mc2 := mc2) (ms2 := ms2) (idx := idx) C hM hlev
  have hrecv := vk_recv hE.1 hj hS
  rw [← hC] at hrecv
  refine call_go (va_runV (C := ν.1.cls) (b := eAd E (1000 + j)) (As := As) (rest := st) ⟨hx, hb, hml, hown, hts⟩ kk ⟨⟨b1, b2, b3, b4, b5, b6, hts _ hM.2.1, hts _ hM.1, ⟨hM.2.2.1.1, hM.2.2.1.2.1⟩, cx_par hM, hts _ f.1⟩, hts _ f.2.1, hts _ f.2.2⟩ ⟨World.blind _, hrecv, cx_pre C hsz hP hD hS⟩ rfl hk hl.1 rfl (lv_room hst) hd ⟨by omega, by omega⟩) hS (fun w h' H1 locs1 hq hP1 hD1 hS1 => ?_)
  exact hq p e R s m args below meth c H1 locs1 ls C (by omega) hP1 hD1 hS1 hl
theorem rn_callS {idx : Nat} {As S : List Value} (f : MSc μ.1.cls idx ν) (hM : MDc ν k) (hlev : ν.2.2.2.2 + 1 ≤ μ.2.2.2.2) (hk : As.length = k)
    (hS0 : S = As.reverse ++ st) (hst : (st.map fun v => v.category).sum ≤ 8) (hn : n < 1000) (hroom : u + mc2 ≤ mc ∧ v + ms2 ≤ ms) (hd : decode μ.2.1 pc = .ok (.invokestatic idx, 3))
    (kk : Ct E ν mc2 ms2 As n h (fun w h' => Rn E μ mc ms Z (u + mc2) (v + ms2) (pc + 3) L (w.toList ++ st) (n + mc2) h')) : Rn E μ mc ms Z u v pc L S n h := by
  intro p e R s m args below meth c H locs ls C hz hP hD hS hl
  obtain ⟨hx, hb, hr, hml, hown, hts, hK, hE, hB, hlk, hnm, hR⟩ := id C
  subst hS0
  refine W_sz hE.2.2.2.2.2.1 hB hn hz hP hS (fun hsz => ?_)
  obtain ⟨b1, b2, b3, b4, b5, b6⟩ := cx_B (mc2 := mc2) (ms2 := ms2) (idx := idx) C hM hlev
  refine call_go (va_runS (As := As) (rest := st) ⟨hx, hb, hml, hown, hts⟩ kk ⟨⟨b1, b2, b3, b4, b5, b6, hts _ hM.2.1, hts _ hM.1, ⟨hM.2.2.1.1, hM.2.2.1.2.1⟩, cx_par hM, hts _ f.1⟩, hts _ f.2⟩ ⟨World.blind _, cx_pre C hsz hP hD hS⟩ rfl hk hl.1 rfl (lv_room hst) hd ⟨by omega, by omega⟩) hS (fun w h' H1 locs1 hq hP1 hD1 hS1 => ?_)
  exact hq p e R s m args below meth c H1 locs1 ls C (by omega) hP1 hD1 hS1 hl
theorem rn_callSN {host : String} {idx : Nat} {As S : List Value} (f : MSNc μ.1.cls host idx ν) (hM : MDc ν k) (hlev : ν.2.2.2.2 + 1 ≤ μ.2.2.2.2) (hk : As.length = k)
    (hS0 : S = As.reverse ++ st) (hst : (st.map fun v => v.category).sum ≤ 8) (hn : n < 1000) (hroom : u + mc2 ≤ mc ∧ v + ms2 ≤ ms) (hd : decode μ.2.1 pc = .ok (.invokestatic idx, 3))
    (kk : Ct E ν mc2 ms2 As n h (fun w h' => Rn E μ mc ms Z (u + mc2) (v + ms2) (pc + 3) L (w.toList ++ st) (n + mc2) h')) : Rn E μ mc ms Z u v pc L S n h := by
  intro p e R s m args below meth c H locs ls C hz hP hD hS hl
  obtain ⟨hx, hb, hr, hml, hown, hts, hK, hE, hB, hlk, hnm, hR⟩ := id C
  subst hS0
  obtain ⟨⟨f0, rfl⟩, f2⟩ := f
  refine W_sz hE.2.2.2.2.2.1 hB hn hz hP hS (fun hsz => ?_)
  obtain ⟨b1, b2, b3, b4, b5, b6⟩ := cx_B (mc2 := mc2) (ms2 := ms2) (idx := idx) C hM hlev
  refine call_go (va_runSN (host := "SharedPockets") (As := As) (rest := st) ⟨hx, hb, hml, hown, hts⟩ kk ⟨⟨⟨b1, b2, b3, b4, b5, b6⟩, hts _ hM.2.1, hts _ hM.1, ⟨hM.2.2.1.1, hM.2.2.1.2.1⟩, cx_par hM, va_Nw.use rfl (hE.2.2.2.2.2.2.1 _ f0)⟩, hts _ f2, trivial⟩ ⟨World.blind _, cx_pre C hsz hP hD hS⟩ rfl hk hl.1 rfl (lv_room hst) hd ⟨by omega, by omega⟩) hS (fun w h' H1 locs1 hq hP1 hD1 hS1 => ?_)
  exact hq p e R s m args below meth c H1 locs1 ls C (by omega) hP1 hD1 hS1 hl
theorem rn_callI {idx c0 : Nat} {As S : List Value} (f : MIc μ.1.cls idx ν) (hrn : ν.2.2.2.1 = none) (hM : MDc ν k) (hlev : ν.2.2.2.2 + 1 ≤ μ.2.2.2.2) (hk : As.length = k)
    (hS0 : S = As.reverse ++ rf E c0 :: st) (hst : (st.map fun v => v.category).sum ≤ 8) (hn : n < 1000) (hroom : u + mc2 ≤ mc ∧ v + ms2 ≤ ms) (hd : decode μ.2.1 pc = .ok (.invokespecial idx, 3))
    (kk : Ct E ν mc2 ms2 (rf E c0 :: As) n h (fun w h' => Rn E μ mc ms Z (u + mc2) (v + ms2) (pc + 3) L (w.toList ++ st) (n + mc2) h')) : Rn E μ mc ms Z u v pc L S n h := by
  intro p e R s m args below meth c H locs ls C hz hP hD hS hl
  obtain ⟨hx, hb, hr, hml, hown, hts, hK, hE, hB, hlk, hnm, hR⟩ := id C
  subst hS0
  refine W_sz hE.2.2.2.2.2.1 hB hn hz hP hS (fun hsz => ?_)
  obtain ⟨b1, b2, b3, b4, b5, b6⟩ := cx_B (mc2 := mc2) (ms2 := ms2) (idx := idx) C hM hlev
  have hcd := hts _ hM.2.1
  rw [hrn] at b6 hcd
  refine call_go (va_runI (b := eAd E c0) (As := As) (rest := st) ⟨hx, hb, hml, hown, hts⟩ kk ⟨⟨b1, b2, b3, b4, b5, b6, hcd, hts _ hM.1, ⟨hM.2.2.1.1, hM.2.2.1.2.1⟩, cx_par hM, hts _ f.1⟩, f.2.2, hts _ f.2.1⟩ ⟨World.blind _, cx_pre C hsz hP hD hS⟩ rfl hk hl.1 rfl (lv_room hst) hd ⟨by omega, by omega⟩) hS (fun w h' H1 locs1 hq hP1 hD1 hS1 => ?_)
  exact hq p e R s m args below meth c H1 locs1 ls C (by omega) hP1 hD1 hS1 hl
theorem rn_callIN {host : String} {idx c0 : Nat} {As S : List Value} (f : MINc μ.1.cls host idx ν) (hrn : ν.2.2.2.1 = none) (hM : MDc ν k) (hlev : ν.2.2.2.2 + 1 ≤ μ.2.2.2.2) (hk : As.length = k)
    (hS0 : S = As.reverse ++ rf E c0 :: st) (hst : (st.map fun v => v.category).sum ≤ 8) (hn : n < 1000) (hroom : u + mc2 ≤ mc ∧ v + ms2 ≤ ms) (hd : decode μ.2.1 pc = .ok (.invokespecial idx, 3))
    (kk : Ct E ν mc2 ms2 (rf E c0 :: As) n h (fun w h' => Rn E μ mc ms Z (u + mc2) (v + ms2) (pc + 3) L (w.toList ++ st) (n + mc2) h')) : Rn E μ mc ms Z u v pc L S n h := by
  intro p e R s m args below meth c H locs ls C hz hP hD hS hl
  obtain ⟨hx, hb, hr, hml, hown, hts, hK, hE, hB, hlk, hnm, hR⟩ := id C
  subst hS0
  obtain ⟨⟨f0, rfl⟩, f2, f3⟩ := f
  refine W_sz hE.2.2.2.2.2.1 hB hn hz hP hS (fun hsz => ?_)
  obtain ⟨b1, b2, b3, b4, b5, b6⟩ := cx_B (mc2 := mc2) (ms2 := ms2) (idx := idx) C hM hlev
  have hcd := hts _ hM.2.1
  rw [hrn] at b6 hcd
  refine call_go (va_runIN (host := "SharedPockets") (b := eAd E c0) (As := As) (rest := st) ⟨hx, hb, hml, hown, hts⟩ kk ⟨⟨⟨b1, b2, b3, b4, b5, b6⟩, hcd, hts _ hM.1, ⟨hM.2.2.1.1, hM.2.2.1.2.1⟩, cx_par hM, va_Nw.use rfl (hE.2.2.2.2.2.2.1 _ f0)⟩, f3, hts _ f2⟩ ⟨World.blind _, cx_pre C hsz hP hD hS⟩ rfl hk hl.1 rfl (lv_room hst) hd ⟨by omega, by omega⟩) hS (fun w h' H1 locs1 hq hP1 hD1 hS1 => ?_)
  exact hq p e R s m args below meth c H1 locs1 ls C (by omega) hP1 hD1 hS1 hl
theorem rn_objInit {idx c0 : Nat} (hl : Cond.methodLink μ.1.cls idx Lib.objectInit ∈ lw_T) (h2 : Cond.instanceMethod Lib.objectInit ∈ lw_T) (h3 : Cond.code Lib.objectInit ⟨#[0xb1]⟩ 1 none ∈ lw_T) (hst : (st.map fun v => v.category).sum ≤ 8) (hd : decode μ.2.1 pc = .ok (.invokespecial idx, 3))
    (kk : Rn E μ mc ms Z u v (pc + 3) L st n h) : Rn E μ mc ms Z u v pc L (rf E c0 :: st) n h := by
  intro p e R s m args below meth c H locs ls C hz hP hD hS hll
  obtain ⟨hx, hb, hr, hml, hown, hts, hK, hE, hB, hlk, hnm, hR⟩ := id C
  refine W.objInit hx hb hown (hts _ hl) (hts _ h2) (hts _ h3) (g := F0 m pc ls (rf E c0 :: st)) rfl (hll.1.trans hml.symm) (a := eAd E c0) (rest := st) rfl hd (by omega) ?_ (kk p e R s m args below meth c H locs ls C hz hP hD hS hll)
  have := lv_room (m := m) (pc := pc) (ls := ls) (rest := rf E c0 :: st) hst
  omega
theorem rn_new {idx ci N : Nat} {f : Nat → Value} (C0 : String) (T : u_T) (ty : Nat → FieldType) (hcl : vwCl[ci]? = some (C0, T, N)) (h100 : ci < 100) (hin : ∀ w ∈ u_ws C0 T N, w ∈ lw_T) (hty : ∀ k, k < N → parseFieldDescriptor (T k).2.2.1 = some (ty k)) (hlk : Cond.classLink μ.1.cls idx C0 ∈ lw_T) (hins : Cond.instantiable C0 N ∈ lw_T) (hini : Cond.initialized C0 ∈ lw_T)
    (hsh : shp n = (ci, N)) (hf : ∀ j, j < N → defaultValue (ty j) = f j) (hn : n < 999) (hroom : u + 1 ≤ mc ∧ v + N ≤ ms) (hd : decode μ.2.1 pc = .ok (.new idx, 3))
    (kk : Rn E μ mc ms Z (u + 1) (v + N) (pc + 3) L (rf E n :: st) (n + 1) (set2 h n f)) : Rn E μ mc ms Z u v pc L st n h := by
  intro p e R s m args below meth c H locs ls C hz hP hD hS hll
  obtain ⟨hx, hb, hr, hml, hown, hts, hK, hE, hB, hlock, hnm, hR⟩ := id C
  refine W_sz hE.2.2.2.2.2.1 hB (by omega) hz hP hS (fun hsz => ?_)
  have hKn := hK.1 ci _ hcl
  refine W.newcK hx hb hown (hts _ hlk) (hts _ hins) (hts _ hini) rfl hd (by omega) (by omega) hKn.2.1 hsz fun H1 kC hkC e1 z1 o1 => ?_
  rw [← hsz] at e1 z1 o1
  have hk : ∀ (k : Nat) (x : Nat × va_E), (wsO E n h)[k]? = some x → H1[x.1]? = H[x.1]? := fun k x hx => o1 x.1 ((hP k x hx).lt)
  have hAn : eAd E n = H.size := by rw [hE.2.2.2.2.2.1 n (by omega), hsz]
  have hent : entE E (shp n) f = .inr (ci, (List.range N).map f) := by rw [hsh]; simp [entE, h100]
  have hP1 : va_P (eD E) vwCl (wsO E (n + 1) (set2 h n f)) H1 := by
    rw [← wsO_push hent, hAn]
    refine (hP.kept hk).app (fun k x hx => ?_)
    have hzk : k < 1 := (List.getElem?_eq_some_iff.mp hx).1
    rw [show k = 0 by omega] at hx
    cases hx
    exact ⟨_, hcl, (u_born ty hts hin hKn hkC e1 hty).to (fun j hj => by rw [hf j hj]; simp [vp_V, hj])⟩
  have hD1 : va_D (eA E) (wsO E (n + 1) (set2 h n f)) := by
    rw [← wsO_push hent, hAn]
    exact hD.push hP rfl (by show eB E ≤ H.size; omega)
  have hS1 : va_S (eA E) s.heap H1 locs := ⟨Nat.le_trans hS.1 (by omega), fun x h1 h2 => (o1 x (Nat.lt_of_lt_of_le h1 hS.1)).trans (hS.2.1 x h1 h2), hS.2.2⟩
  have k2 := kk p e R s m args below meth c H1 locs ls C (by omega) hP1 hD1 hS1 hll
  have e2 : rf E n = .ref (eB E + n) := by unfold rf; rw [hE.2.2.2.2.2.1 n (by omega)]
  rw [e2] at k2
  exact k2
theorem arr_cls {D : va_G} {cl : List vw_C} {tys : List (ClassId × FieldType)} {s : State} {t : Nat} {c1 cA : ClassId} {ty : FieldType} (hK : va_K D cl tys s) (ht : tys[t]? = some (c1, ty)) (hp : ∀ C, ty ≠ .object C) (hf : s.vm.findClass ("[" ++ ty.toString) = some cA) : cA = c1 := by
  have h2 := (hK.2 t _ ht).2
  cases ty with
  | object C => exact absurd rfl (hp C)
  | _ => exact Option.some.inj (hf.symm.trans h2)
theorem rn_newa {atype : ArrayType} {ty : FieldType} {t N : Nat} {x : Int32} (hta : newarray.typeOf atype = ty) (harr : Cond.arrayClass ty ∈ lw_T) (ht : t = 100 ∨ t = 101) (hty : (tysE E)[t - 100]? = some (eCA E (t - 100), ty)) (hp : ∀ C, ty ≠ .object C) (hdef : defaultValue ty = .int 0) (hN : x.toNatClampNeg = N) (h0 : ¬ x < 0) (hby : N * componentBytes ty ≤ 536870912)
    (hsh : shp n = (t, N)) (hn : n < 999) (hroom : u + 1 ≤ mc ∧ v + N ≤ ms) (hd : decode μ.2.1 pc = .ok (.newarray atype, 2))
    (kk : Rn E μ mc ms Z (u + 1) (v + N) (pc + 2) L (rf E n :: st) (n + 1) (set2 h n (fun _ => .int 0))) : Rn E μ mc ms Z u v pc L (.int x :: st) n h := by
  intro p e R s m args below meth c H locs ls C hz hP hD hS hll
  obtain ⟨hx, hb, hr, hml, hown, hts, hK, hE, hB, hlock, hnm, hR⟩ := id C
  refine W_sz hE.2.2.2.2.2.1 hB (by omega) hz hP hS (fun hsz => ?_)
  subst hta
  refine va_newaK hx hb (hts _ harr) rfl hd rfl h0 hN hby (by omega) (by omega) hsz fun H1 cA e1 z1 o1 hAr hNm => ?_
  have hcA := arr_cls hK hty hp hNm
  subst hcA
  rw [← hsz] at e1 z1 o1
  have hk : ∀ (k : Nat) (x : Nat × va_E), (wsO E n h)[k]? = some x → H1[x.1]? = H[x.1]? := fun k x hx => o1 x.1 ((hP k x hx).lt)
  have hAn : eAd E n = H.size := by rw [hE.2.2.2.2.2.1 n (by omega), hsz]
  have hent : entE E (shp n) (fun _ => .int 0) = .inl (eCA E (t - 100), N, .inl (fun _ => 0)) := by rw [hsh]; rcases ht with rfl | rfl <;> simp [entE, vI]
  have hP1 : va_P (eD E) vwCl (wsO E (n + 1) (set2 h n (fun _ => .int 0))) H1 := by
    rw [← wsO_push hent, hAn]
    refine (hP.kept hk).app (fun k x hx => ?_)
    have hzk : k < 1 := (List.getElem?_eq_some_iff.mp hx).1
    rw [show k = 0 by omega] at hx
    cases hx
    show H1[H.size]? = some (vp_cell _ _)
    rw [e1, hdef]
    rfl
  have hD1 : va_D (eA E) (wsO E (n + 1) (set2 h n (fun _ => .int 0))) := by
    rw [← wsO_push hent, hAn]
    exact hD.push hP rfl (by show eB E ≤ H.size; omega)
  have hS1 : va_S (eA E) s.heap H1 locs := ⟨Nat.le_trans hS.1 (by omega), fun x h1 h2 => (o1 x (Nat.lt_of_lt_of_le h1 hS.1)).trans (hS.2.1 x h1 h2), hS.2.2⟩
  have k2 := kk p e R s m args below meth c H1 locs ls C (by omega) hP1 hD1 hS1 hll
  have e2 : rf E n = .ref (eB E + n) := by unfold rf; rw [hE.2.2.2.2.2.1 n (by omega)]
  rw [e2] at k2
  exact k2
theorem rn_newq {idx t N : Nat} {C0 : String} {x : Int32} (ht : 102 ≤ t) (hty : (tysE E)[t - 100]? = some (eCA E (t - 100), .object C0)) (hlk : Cond.classLink μ.1.cls idx C0 ∈ lw_T) (hov : C0 = RX6 ∨ C0 = RX5) (hN : x.toNatClampNeg = N) (h0 : ¬ x < 0) (hby : N * 4 ≤ 536870912)
    (hsh : shp n = (t, N)) (hn : n < 999) (hroom : u + 1 ≤ mc ∧ v + N ≤ ms) (hd : decode μ.2.1 pc = .ok (.anewarray idx, 3))
    (kk : Rn E μ mc ms Z (u + 1) (v + N) (pc + 3) L (rf E n :: st) (n + 1) (set2 h n (fun _ => .null))) : Rn E μ mc ms Z u v pc L (.int x :: st) n h := by
  intro p e R s m args below meth c H locs ls C hz hP hD hS hll
  obtain ⟨hx, hb, hr, hml, hown, hts, hK, hE, hB, hlock, hnm, hR⟩ := id C
  refine W_sz hE.2.2.2.2.2.1 hB (by omega) hz hP hS (fun hsz => ?_)
  subst hN
  refine W.anew hx hb hown (hts _ hlk) (by rcases hov with rfl | rfl; exact va_AO.use hE.2.2.2.2.2.2.2.1; exact va_AO.use hE.2.2.2.2.2.2.2.2) rfl hd rfl h0 hby (by omega) (by omega) fun cA kA comp f1 f2 f3 f4 => ?_
  generalize hH1 : H.push ({ cls := cA, slots := Array.replicate x.toNatClampNeg .null, vm := .none } : Cell) = H1
  have z1 : H1.size = H.size + 1 := by rw [← hH1, Array.size_push]
  have e1 : H1[H.size]? = some (arrV cA x.toNatClampNeg (fun _ => .null)) := by rw [← hH1, Array.getElem?_push_size, ← arrV_new]
  have o1 : ∀ q : Nat, q < H.size → H1[q]? = H[q]? := fun q hq => by rw [← hH1, Array.getElem?_push, if_neg (Nat.ne_of_lt hq)]
  have hcA : cA = eCA E (t - 100) := by
    obtain ⟨kA', comp', -, -, -, g4⟩ := (hK.2 _ _ hty).2
    exact Option.some.inj (f1.symm.trans g4)
  subst hcA
  have hk : ∀ (k : Nat) (x : Nat × va_E), (wsO E n h)[k]? = some x → H1[x.1]? = H[x.1]? := fun k x hx => o1 x.1 ((hP k x hx).lt)
  have hAn : eAd E n = H.size := by rw [hE.2.2.2.2.2.1 n (by omega), hsz]
  have hent : entE E (shp n) (fun _ => .null) = .inl (eCA E (t - 100), x.toNatClampNeg, .inr (.inr (.inr (.inr (fun _ => none))))) := by rw [hsh]; simp [entE, vR, show ¬ t < 100 by omega, show ¬ t < 102 by omega]
  have hP1 : va_P (eD E) vwCl (wsO E (n + 1) (set2 h n (fun _ => .null))) H1 := by
    rw [← wsO_push hent, hAn]
    refine (hP.kept hk).app (fun k x hx => ?_)
    have hzk : k < 1 := (List.getElem?_eq_some_iff.mp hx).1
    rw [show k = 0 by omega] at hx
    cases hx
    show H1[H.size]? = some (vp_cell _ _)
    rw [e1]
    rfl
  have hD1 : va_D (eA E) (wsO E (n + 1) (set2 h n (fun _ => .null))) := by
    rw [← wsO_push hent, hAn]
    exact hD.push hP rfl (by show eB E ≤ H.size; omega)
  have hS1 : va_S (eA E) s.heap H1 locs := ⟨Nat.le_trans hS.1 (by omega), fun x h1 h2 => (o1 x (Nat.lt_of_lt_of_le h1 hS.1)).trans (hS.2.1 x h1 h2), hS.2.2⟩
  have k2 := kk p e R s m args below meth c H1 locs ls C (by omega) hP1 hD1 hS1 hll
  have e2 : rf E n = .ref H.size := by unfold rf; rw [hAn]
  rw [e2] at k2
  exact k2
theorem rn_sbyte {j : Nat} {i : Int32} (hj : j < 6) (hin : vp_in i (skLen.getD j 0)) (hd : decode μ.2.1 pc = .ok (.baload, 1)) (kk : Rn E μ mc ms Z u v (pc + 1) L (.int ((skByt.getD j []).getD i.toNatClampNeg 0) :: st) n h) : Rn E μ mc ms Z u v pc L (.int i :: rv E j :: st) n h := by
  intro p e R s m args below meth c H locs ls C hz hP hD hS hll
  obtain ⟨hx, hb, hr, hml, hown, hts, hK, hE, hB, -⟩ := id C
  obtain ⟨cell, h1, h2, h3, h4, h5, h6, h7⟩ := ((hE.1.1 j hj).2.2.2).kept hS.2.1
  have hlt : i.toNatClampNeg < skLen.getD j 0 := Nat.not_le.mp fun q => hin (Or.inr q)
  exact W.bald hx hb h1 h2 h3 (fun q => by rcases q with q | q; exact hin (Or.inl q); omega) (h6 _ hlt) rfl rfl hd (kk p e R s m args below meth c H locs ls C hz hP hD hS hll)
theorem rn_copy {idx c0 c1 N0 N1 : Nat} {sp dp m1 : Int32} (hlk : Cond.methodLink μ.1.cls idx arraycopyName ∈ lw_T) (h1 : Cond.native arraycopyName ∈ lw_T) (h2 : Cond.static arraycopyName ∈ lw_T) (h3 : Cond.initialized "java/lang/System" ∈ lw_T) (hs0 : shp c0 = (100, N0)) (hc0 : c0 < n) (hs1 : shp c1 = (100, N1)) (hc1 : c1 < n)
    (g1 : ¬ sp < 0) (g2 : ¬ dp < 0) (g3 : ¬ m1 < 0) (g4 : sp.toNatClampNeg + m1.toNatClampNeg ≤ N0) (g5 : dp.toNatClampNeg + m1.toNatClampNeg ≤ N1) (hst : (st.map fun v => v.category).sum ≤ 8) (hw : 8 + (nativeFrameWords "java/lang/System" "arraycopy" 5 + 11) ≤ 64) (hd : decode μ.2.1 pc = .ok (.invokestatic idx, 3))
    (kk : Rn E μ mc ms Z u v (pc + 3) L st n (set2 h c1 (fun k => .int (va_cpy (fun i => vI (h c0 i)) (fun i => vI (h c1 i)) sp.toNatClampNeg dp.toNatClampNeg m1.toNatClampNeg k)))) : Rn E μ mc ms Z u v pc L (.int m1 :: .int dp :: rf E c1 :: .int sp :: rf E c0 :: st) n h := by
  intro p e R s m args below meth c H locs ls C hz hP hD hS hll
  obtain ⟨hx, hb, hr, hml, hown, hts, hK, hE, hB, hlock, hnm, hR⟩ := id C
  refine va_copyi hx hb (hml.trans hll.1.symm) hown (hts _ hlk) (hts _ h1) (hts _ h2) (hts _ h3) hK hP hD hS c0 c1 0 0 (wsO_int hc0 hs0) (wsO_int hc1 hs1) rfl rfl rfl g1 g2 g3 g4 g5 (fun i _ => rfl) (by omega) (by omega) hd (fun H1 locs1 hP1 hD1 hS1 => ?_)
  rw [wsO_set (f := fun k => .int (va_cpy (fun i => vI (h c0 i)) (fun i => vI (h c1 i)) sp.toNatClampNeg dp.toNatClampNeg m1.toNatClampNeg k)) (by rw [hs1]; simp [entE, vI])] at hP1 hD1
  exact kk p e R s m args below meth c H1 locs1 ls C hz hP1 hD1 hS1 hll
/-- a method's contract out of its walk -/
theorem ct_of {as : List Value} {L0 : List (Option Value)} {Q : Option Value → Hp → Prop} (hy : plainName μ.1.cls = true) (hlen : (lg_sl as).length ≤ μ.2.2.1) (hL : al 0 L0 = lv_args 0 as) (k : Rn E μ mc ms (Zm E (n + mc) mc ms Q) 0 0 0 L0 [] n h) : Ct E μ mc ms as n h Q := by
  refine Met.ofW (cc := μ.2.1) (maxL := μ.2.2.1) (ret := μ.2.2.2.1) hy rfl ?_
  intro p e s m args below meth c s₁ B hml hv
  obtain ⟨rfl, hP, hK, hD, hE, hsz⟩ := hv
  have hts := atoms_spec (ws := wsM μ) B.pre
  have hl := lv_entry as hlen
  rw [lg_entry_eq]
  rw [← hL] at hl
  exact k p e _ s m _ below meth c s.heap [] _ ⟨B.exec, B.bytes, B.returns, hml, findClass_of_methodNamed B.named, fun w hw => hts w (List.mem_cons_of_mem _ hw), hK, hE, by omega, B.notSynchronized, fun h => (name_of_methodNamed B.named B.method).1.trans h, Nat.le_refl _, Nat.le_refl _, Nat.le_refl _, Nat.le_refl _⟩ (by omega) hP hD va_S.rf hl
theorem ct_mono {as : List Value} {Q Q' : Option Value → Hp → Prop} (hk : Ct E μ mc ms as n h Q) (hq : ∀ w h', Q w h' → Q' w h') : Ct E μ mc ms as n h Q' := by
  intro p e ha hc hkk s m args below hf hpre hP hT
  obtain ⟨t, o, h1, h2, h3, ⟨⟨w, h', e1, e2, e3⟩, e4⟩, h5⟩ := hk p e ha hc hkk s m args below hf hpre hP hT
  exact ⟨t, o, h1, h2, h3, ⟨⟨w, h', e1, hq w h' e2, e3⟩, e4⟩, h5⟩
end RN2
