/-! THE WORLD BEHIND THE CONSTRUCTORS: references stand for good, all else are ints -/
abbrev Hi : Type := Nat → Nat → Int32
def rT (c k : Nat) : Option Nat := (rfL.getD c []).getD k none
def lay (E : En) (H : Hi) : Hp := fun c k => match rT c k with
  | some r => rf E r
  | none => .int (H c k)
def setR (H : Hi) (c : Nat) (f : Nat → Int32) : Hi := fun c' => if c' = c then f else H c'
def up (H : Hi) (c k : Nat) (x : Int32) : Hi := setR H c (upd (H c) k x)
theorem lay_i {E : En} {H : Hi} {c k : Nat} (h : rT c k = none) : lay E H c k = .int (H c k) := by simp [lay, h]
theorem lay_r {E : En} {H : Hi} {c k r : Nat} (h : rT c k = some r) : lay E H c k = rf E r := by simp [lay, h]
theorem rT_row {c : Nat} (h : rfL.getD c [] = []) (k : Nat) : rT c k = none := by unfold rT; rw [h]; rfl
theorem lay_up {E : En} {H : Hi} {c k : Nat} {x : Int32} (h : rT c k = none) : upd2 (lay E H) c k (.int x) = lay E (up H c k x) := by
  funext c' k'
  unfold upd2 set2 up setR
  by_cases hc : c' = c
  · subst hc
    by_cases hk : k' = k
    · subst hk; simp [lay, h, upd]
    · simp [lay, upd, hk]
  · simp [lay, hc]
theorem lay_set {E : En} {H : Hi} {c : Nat} {f : Nat → Int32} (h : rfL.getD c [] = []) : set2 (lay E H) c (fun k => .int (f k)) = lay E (setR H c f) := by
  funext c' k'
  unfold set2 setR
  by_cases hc : c' = c
  · subst hc; simp [lay, rT_row h]
  · simp [lay, hc]
abbrev Qm (E : En) (Q : Option Value → Hi → Prop) : Option Value → Hp → Prop := fun w h => ∃ H', h = lay E H' ∧ Q w H'
abbrev Zq (E : En) (Q : Option Value → Hi → Prop) : List Frame → Array Value → State → State → Prop := Zm E nN 0 0 (Qm E Q)
/-- a place in a method, over ints -/
abbrev Rm (E : En) (μ : Mt) (Q : Option Value → Hi → Prop) (pc : Nat) (L : List (Option Value)) (st : List Value) (H : Hi) : Prop := Rn E μ 0 0 (Zq E Q) 0 0 pc L st nN (lay E H)
/-- a method's contract, over ints -/
def Cm (E : En) (ν : Mt) (as : List Value) (H : Hi) (Q : Option Value → Hi → Prop) : Prop := Ct E ν 0 0 as nN (lay E H) (Qm E Q)
theorem cm_mono {E : En} {ν : Mt} {as : List Value} {H : Hi} {Q Q' : Option Value → Hi → Prop} (h : Cm E ν as H Q) (hq : ∀ w H', Q w H' → Q' w H') : Cm E ν as H Q' :=
  ct_mono h (fun w h' ⟨H', e, q⟩ => ⟨H', e, hq w H' q⟩)
theorem cm_of {E : En} {μ : Mt} {as : List Value} {H : Hi} {L0 : List (Option Value)} {Q : Option Value → Hi → Prop} (hy : plainName μ.1.cls = true) (hlen : (lg_sl as).length ≤ μ.2.2.1) (hL : al 0 L0 = lv_args 0 as) (k : Rm E μ Q 0 L0 [] H) : Cm E μ as H Q := ct_of hy hlen hL k
section RMM
variable {E : En} {μ ν : Mt} {mc ms : Nat} {Z : List Frame → Array Value → State → State → Prop} {u v : Nat} {pc : Nat} {L : List (Option Value)} {st : List Value} {H : Hi} {k : Nat}
theorem rm_geti {c k ci N idx : Nat} {d : String} {fin : Bool} (f : FLc μ.1.cls idx ci N k d fin) (hs : shp c = (ci, N)) (hc : c < nN) (hr : rT c k = none) (hd : decode μ.2.1 pc = .ok (.getfield idx, 3)) (kk : Rn E μ mc ms Z u v (pc + 3) L (.int (H c k) :: st) nN (lay E H)) : Rn E μ mc ms Z u v pc L (rf E c :: st) nN (lay E H) :=
  rn_get f hs hc hd (by rw [lay_i hr]; exact kk)
theorem rm_getr {c k r ci N idx : Nat} {d : String} {fin : Bool} (f : FLc μ.1.cls idx ci N k d fin) (hs : shp c = (ci, N)) (hc : c < nN) (hr : rT c k = some r) (hd : decode μ.2.1 pc = .ok (.getfield idx, 3)) (kk : Rn E μ mc ms Z u v (pc + 3) L (rf E r :: st) nN (lay E H)) : Rn E μ mc ms Z u v pc L (rf E c :: st) nN (lay E H) :=
  rn_get f hs hc hd (by rw [lay_r hr]; exact kk)
theorem rm_puti {c k ci N idx : Nat} {x : Int32} (f : FLc μ.1.cls idx ci N k "I" false) (hs : shp c = (ci, N)) (hc : c < nN) (hr : rT c k = none) (hd : decode μ.2.1 pc = .ok (.putfield idx, 3)) (kk : ∀ H' : Hi, H' = up H c k x → Rn E μ mc ms Z u v (pc + 3) L st nN (lay E H')) : Rn E μ mc ms Z u v pc L (.int x :: rf E c :: st) nN (lay E H) :=
  rn_put (ty := .int) f hs hc (by decide +kernel) rfl rfl hd (by rw [lay_up hr]; exact kk _ rfl)
theorem rm_putz {c k ci N idx : Nat} {x : Int32} (f : FLc μ.1.cls idx ci N k "Z" false) (hs : shp c = (ci, N)) (hc : c < nN) (hr : rT c k = none) (hn : narrow .boolean (.int x) = .int x) (hfit : fits .boolean (.int x) = true) (hd : decode μ.2.1 pc = .ok (.putfield idx, 3)) (kk : ∀ H' : Hi, H' = up H c k x → Rn E μ mc ms Z u v (pc + 3) L st nN (lay E H')) : Rn E μ mc ms Z u v pc L (.int x :: rf E c :: st) nN (lay E H) :=
  rn_put (ty := .boolean) f hs hc (by decide +kernel) hn hfit hd (by rw [lay_up hr]; exact kk _ rfl)
theorem rm_iald {c N : Nat} {i : Int32} (hs : shp c = (100, N)) (hc : c < nN) (hr : rfL.getD c [] = []) (hin : vp_in i N) (hd : decode μ.2.1 pc = .ok (.iaload, 1)) (kk : Rn E μ mc ms Z u v (pc + 1) L (.int (H c i.toNatClampNeg) :: st) nN (lay E H)) : Rn E μ mc ms Z u v pc L (.int i :: rf E c :: st) nN (lay E H) :=
  rn_iald hs hc hin hd (by rw [lay_i (rT_row hr _)]; exact kk)
theorem rm_zald {c N : Nat} {i : Int32} (hs : shp c = (101, N)) (hc : c < nN) (hr : rfL.getD c [] = []) (hin : vp_in i N) (hd : decode μ.2.1 pc = .ok (.baload, 1)) (kk : Rn E μ mc ms Z u v (pc + 1) L (.int (H c i.toNatClampNeg) :: st) nN (lay E H)) : Rn E μ mc ms Z u v pc L (.int i :: rf E c :: st) nN (lay E H) :=
  rn_zald hs hc hin hd (by rw [lay_i (rT_row hr _)]; exact kk)
theorem rm_aald {c N t r : Nat} {i : Int32} {Cn : String} (hs : shp c = (t, N)) (hc : c < nN) (ht : 102 ≤ t) (hty : (tysE E)[t - 100]? = some (eCA E (t - 100), .object Cn)) (hin : vp_in i N) (hr : rT c i.toNatClampNeg = some r) (hd : decode μ.2.1 pc = .ok (.aaload, 1)) (kk : Rn E μ mc ms Z u v (pc + 1) L (rf E r :: st) nN (lay E H)) : Rn E μ mc ms Z u v pc L (.int i :: rf E c :: st) nN (lay E H) :=
  rn_aald hs hc ht hty hin (lay_r hr) hd kk
theorem rm_iast {c N : Nat} {i x : Int32} (hs : shp c = (100, N)) (hc : c < nN) (hr : rfL.getD c [] = []) (hin : vp_in i N) (hd : decode μ.2.1 pc = .ok (.iastore, 1)) (kk : ∀ H' : Hi, H' = up H c i.toNatClampNeg x → Rn E μ mc ms Z u v (pc + 1) L st nN (lay E H')) : Rn E μ mc ms Z u v pc L (.int x :: .int i :: rf E c :: st) nN (lay E H) :=
  rn_iast hs hc hin hd (by rw [lay_up (rT_row hr _)]; exact kk _ rfl)
theorem rm_zast {c N : Nat} {i x : Int32} (hs : shp c = (101, N)) (hc : c < nN) (hr : rfL.getD c [] = []) (hin : vp_in i N) (hd : decode μ.2.1 pc = .ok (.bastore, 1)) (kk : ∀ H' : Hi, H' = up H c i.toNatClampNeg (vp_nar .boolean x) → Rn E μ mc ms Z u v (pc + 1) L st nN (lay E H')) : Rn E μ mc ms Z u v pc L (.int x :: .int i :: rf E c :: st) nN (lay E H) :=
  rn_zast hs hc hin hd (by rw [lay_up (rT_row hr _)]; exact kk _ rfl)
theorem rm_copy {idx c0 c1 N0 N1 : Nat} {sp dp m1 : Int32} (hlk : Cond.methodLink μ.1.cls idx arraycopyName ∈ lw_T) (hs0 : shp c0 = (100, N0)) (hc0 : c0 < nN) (hr0 : rfL.getD c0 [] = []) (hs1 : shp c1 = (100, N1)) (hc1 : c1 < nN) (hr1 : rfL.getD c1 [] = [])
    (g1 : ¬ sp < 0) (g2 : ¬ dp < 0) (g3 : ¬ m1 < 0) (g4 : sp.toNatClampNeg + m1.toNatClampNeg ≤ N0) (g5 : dp.toNatClampNeg + m1.toNatClampNeg ≤ N1) (hst : (st.map fun v => v.category).sum ≤ 8) (hd : decode μ.2.1 pc = .ok (.invokestatic idx, 3))
    (kk : ∀ H' : Hi, H' = setR H c1 (va_cpy (H c0) (H c1) sp.toNatClampNeg dp.toNatClampNeg m1.toNatClampNeg) → Rn E μ mc ms Z u v (pc + 3) L st nN (lay E H')) : Rn E μ mc ms Z u v pc L (.int m1 :: .int dp :: rf E c1 :: .int sp :: rf E c0 :: st) nN (lay E H) := by
  refine rn_copy hlk in_nat in_cps in_sys hs0 hc0 hs1 hc1 g1 g2 g3 g4 g5 hst (by decide +kernel) hd ?_
  have e0 : (fun i => vI (lay E H c0 i)) = H c0 := by funext i; rw [lay_i (rT_row hr0 _)]; rfl
  have e1 : (fun i => vI (lay E H c1 i)) = H c1 := by funext i; rw [lay_i (rT_row hr1 _)]; rfl
  rw [e0, e1, lay_set hr1]
  exact kk _ rfl
theorem rm_callV {idx c0 ci N : Nat} {As S : List Value} (f : MVc μ.1.cls idx ν) (hM : MDc ν k) (hlev : ν.2.2.2.2 + 1 ≤ μ.2.2.2.2) (hs : shp c0 = (ci, N)) (hc : c0 < nN) (h100 : ci < 100) (hC : (vwCl[ci]?).map (fun q => q.1) = some ν.1.cls) (hk : As.length = k) (hS0 : S = As.reverse ++ rf E c0 :: st) (hst : (st.map fun v => v.category).sum ≤ 8) (hm : u ≤ mc ∧ v ≤ ms) (hd : decode μ.2.1 pc = .ok (.invokevirtual idx, 3))
    (kk : Cm E ν (rf E c0 :: As) H (fun w H' => Rn E μ mc ms Z u v (pc + 3) L (w.toList ++ st) nN (lay E H'))) : Rn E μ mc ms Z u v pc L S nN (lay E H) :=
  rn_callV (mc2 := 0) (ms2 := 0) f hM hlev hs hc h100 hC hk hS0 hst (by decide) hm hd (ct_mono kk (fun w h' ⟨H', e, q⟩ => by subst e; exact q))
theorem rm_callVS {idx j : Nat} {As S : List Value} (f : MVc μ.1.cls idx ν) (hM : MDc ν k) (hlev : ν.2.2.2.2 + 1 ≤ μ.2.2.2.2) (hj : j < 6) (hC : ν.1.cls = "java/lang/String") (hk : As.length = k) (hS0 : S = As.reverse ++ rf E (1000 + j) :: st) (hst : (st.map fun v => v.category).sum ≤ 8) (hm : u ≤ mc ∧ v ≤ ms) (hd : decode μ.2.1 pc = .ok (.invokevirtual idx, 3))
    (kk : Cm E ν (rf E (1000 + j) :: As) H (fun w H' => Rn E μ mc ms Z u v (pc + 3) L (w.toList ++ st) nN (lay E H'))) : Rn E μ mc ms Z u v pc L S nN (lay E H) :=
  rn_callVS (mc2 := 0) (ms2 := 0) f hM hlev hj hC hk hS0 hst (by decide) hm hd (ct_mono kk (fun w h' ⟨H', e, q⟩ => by subst e; exact q))
theorem rm_callS {idx : Nat} {As S : List Value} (f : MSc μ.1.cls idx ν) (hM : MDc ν k) (hlev : ν.2.2.2.2 + 1 ≤ μ.2.2.2.2) (hk : As.length = k) (hS0 : S = As.reverse ++ st) (hst : (st.map fun v => v.category).sum ≤ 8) (hm : u ≤ mc ∧ v ≤ ms) (hd : decode μ.2.1 pc = .ok (.invokestatic idx, 3))
    (kk : Cm E ν As H (fun w H' => Rn E μ mc ms Z u v (pc + 3) L (w.toList ++ st) nN (lay E H'))) : Rn E μ mc ms Z u v pc L S nN (lay E H) :=
  rn_callS (mc2 := 0) (ms2 := 0) f hM hlev hk hS0 hst (by decide) hm hd (ct_mono kk (fun w h' ⟨H', e, q⟩ => by subst e; exact q))
theorem rm_callSN {host : String} {idx : Nat} {As S : List Value} (f : MSNc μ.1.cls host idx ν) (hM : MDc ν k) (hlev : ν.2.2.2.2 + 1 ≤ μ.2.2.2.2) (hk : As.length = k) (hS0 : S = As.reverse ++ st) (hst : (st.map fun v => v.category).sum ≤ 8) (hm : u ≤ mc ∧ v ≤ ms) (hd : decode μ.2.1 pc = .ok (.invokestatic idx, 3))
    (kk : Cm E ν As H (fun w H' => Rn E μ mc ms Z u v (pc + 3) L (w.toList ++ st) nN (lay E H'))) : Rn E μ mc ms Z u v pc L S nN (lay E H) :=
  rn_callSN (mc2 := 0) (ms2 := 0) f hM hlev hk hS0 hst (by decide) hm hd (ct_mono kk (fun w h' ⟨H', e, q⟩ => by subst e; exact q))
theorem rm_iret {x : Int32} {Q : Option Value → Hi → Prop} (hr : μ.2.2.2.1 = some .int) (hd : decode μ.2.1 pc = .ok (.ireturn, 1)) (hq : Q (some (.int x)) H) : Rm E μ Q pc L [.int x] H :=
  rn_iret hr hd rfl (by decide) ⟨H, rfl, hq⟩
theorem rm_zret {x : Int32} {Q : Option Value → Hi → Prop} {ty : FieldType} (hr : μ.2.2.2.1 = some ty) (hn : narrow ty (.int x) = .int x) (hd : decode μ.2.1 pc = .ok (.ireturn, 1)) (hq : Q (some (.int x)) H) : Rm E μ Q pc L [.int x] H :=
  rn_zret hr hn hd rfl (by decide) ⟨H, rfl, hq⟩
theorem rm_lret {x : Int64} {Q : Option Value → Hi → Prop} (hr : μ.2.2.2.1 = some .long) (hd : decode μ.2.1 pc = .ok (.lreturn, 1)) (hq : Q (some (.long x)) H) : Rm E μ Q pc L [.long x] H :=
  rn_lret hr hd rfl (by decide) ⟨H, rfl, hq⟩
theorem rm_vret {Q : Option Value → Hi → Prop} (hr : μ.2.2.2.1 = none) (hd : decode μ.2.1 pc = .ok (.return_, 1)) (hq : Q none H) : Rm E μ Q pc L [] H :=
  rn_vret hr hd rfl (by decide) ⟨H, rfl, hq⟩
theorem rm_aret {c : Nat} {Q : Option Value → Hi → Prop} {rt : FieldType} (hr : μ.2.2.2.1 = some rt) (hrt : (∃ n, rt = .object n) ∨ ∃ t, rt = .array t) (hd : decode μ.2.1 pc = .ok (.areturn, 1)) (hq : Q (some (rf E c)) H) : Rm E μ Q pc L [rf E c] H :=
  rn_aret hr hrt hd rfl (by decide) ⟨H, rfl, hq⟩
end RMM
/-- a STATE, a SHEET, a TEXT, a ROW of the class -/
def isSt (c : Nat) : Prop := c < nN ∧ shp c = (6, 6) ∧ rfL.getD c [] = []
theorem isSt_of {c : Nat} (h : (decide (c < nN) && (decide (shp c = (6, 6)) && decide (rfL.getD c [] = []))) = true) : isSt c := by
  simp only [Bool.and_eq_true, decide_eq_true_eq] at h; exact h
theorem st_mid : ∀ j, j < 24 → isSt (27 + 2 * j) ∧ rT 24 j = some (27 + 2 * j) := by
  have h : ∀ j, j < 24 → (decide (27 + 2 * j < nN) && (decide (shp (27 + 2 * j) = (6, 6)) && decide (rfL.getD (27 + 2 * j) [] = []))) = true ∧ rT 24 j = some (27 + 2 * j) := by decide +kernel
  exact fun j hj => ⟨isSt_of (h j hj).1, (h j hj).2⟩
theorem st_beh : ∀ j, j < 24 → isSt (28 + 2 * j) ∧ rT 25 j = some (28 + 2 * j) := by
  have h : ∀ j, j < 24 → (decide (28 + 2 * j < nN) && (decide (shp (28 + 2 * j) = (6, 6)) && decide (rfL.getD (28 + 2 * j) [] = []))) = true ∧ rT 25 j = some (28 + 2 * j) := by decide +kernel
  exact fun j hj => ⟨isSt_of (h j hj).1, (h j hj).2⟩
theorem st_tri : ∀ j, j < 6 → isSt (80 + j) ∧ rT 78 j = some (80 + j) := by
  have h : ∀ j, j < 6 → (decide (80 + j < nN) && (decide (shp (80 + j) = (6, 6)) && decide (rfL.getD (80 + j) [] = []))) = true ∧ rT 78 j = some (80 + j) := by decide +kernel
  exact fun j hj => ⟨isSt_of (h j hj).1, (h j hj).2⟩
theorem st_23 : isSt 23 := isSt_of (by decide +kernel)
theorem st_26 : isSt 26 := isSt_of (by decide +kernel)
theorem st_87 : isSt 87 := isSt_of (by decide +kernel)
theorem sh_she : ∀ j, j < 4 → shp (91 + 2 * j) = (5, 3) ∧ 91 + 2 * j < nN ∧ rT 90 j = some (91 + 2 * j) ∧ rT (91 + 2 * j) 0 = none ∧ rT (91 + 2 * j) 1 = none ∧ rT (91 + 2 * j) 2 = some (92 + 2 * j) ∧ shp (92 + 2 * j) = (100, 60) ∧ 92 + 2 * j < nN ∧ rfL.getD (92 + 2 * j) [] = [] := by decide +kernel
theorem vp_lt {i : Int32} {N : Nat} (h : vp_in i N) : i.toNatClampNeg < N := Nat.not_le.mp fun q => h (Or.inr q)
/-! places in arrays by natural numbers; fewer locals -/
theorem vp_of {i : Int32} {j N : Nat} (h : j < N ∧ i = nI j) (hN : N < 2 ^ 31) : vp_in i N ∧ i.toNatClampNeg = j := by
  obtain ⟨h1, rfl⟩ := h
  exact ⟨vp_in_nI h1 hN, nI_clamp (Nat.lt_trans h1 hN)⟩
section RMJ
variable {E : En} {μ ν : Mt} {mc ms : Nat} {Z : List Frame → Array Value → State → State → Prop} {u v : Nat} {pc : Nat} {L L' : List (Option Value)} {st : List Value} {H : Hi} {n : Nat} {h : Hp}
theorem rj_iald {c N j : Nat} {i : Int32} (hj : j < N ∧ i = nI j) (hs : shp c = (100, N)) (hc : c < nN) (hr : rfL.getD c [] = []) (hN : N < 2 ^ 31) (hd : decode μ.2.1 pc = .ok (.iaload, 1)) (kk : Rn E μ mc ms Z u v (pc + 1) L (.int (H c j) :: st) nN (lay E H)) : Rn E μ mc ms Z u v pc L (.int i :: rf E c :: st) nN (lay E H) :=
  rm_iald hs hc hr (vp_of hj hN).1 hd (by rw [(vp_of hj hN).2]; exact kk)
theorem rj_zald {c N j : Nat} {i : Int32} (hj : j < N ∧ i = nI j) (hs : shp c = (101, N)) (hc : c < nN) (hr : rfL.getD c [] = []) (hN : N < 2 ^ 31) (hd : decode μ.2.1 pc = .ok (.baload, 1)) (kk : Rn E μ mc ms Z u v (pc + 1) L (.int (H c j) :: st) nN (lay E H)) : Rn E μ mc ms Z u v pc L (.int i :: rf E c :: st) nN (lay E H) :=
  rm_zald hs hc hr (vp_of hj hN).1 hd (by rw [(vp_of hj hN).2]; exact kk)
theorem rj_aald {c N t r j : Nat} {i : Int32} {Cn : String} (hj : j < N ∧ i = nI j) (hr : rT c j = some r) (hs : shp c = (t, N)) (hc : c < nN) (ht : 102 ≤ t) (hty : (tysE E)[t - 100]? = some (eCA E (t - 100), .object Cn)) (hN : N < 2 ^ 31) (hd : decode μ.2.1 pc = .ok (.aaload, 1)) (kk : Rn E μ mc ms Z u v (pc + 1) L (rf E r :: st) nN (lay E H)) : Rn E μ mc ms Z u v pc L (.int i :: rf E c :: st) nN (lay E H) :=
  rm_aald hs hc ht hty (vp_of hj hN).1 (by rw [(vp_of hj hN).2]; exact hr) hd kk
theorem rj_iast {c N j : Nat} {i x : Int32} (hj : j < N ∧ i = nI j) (hs : shp c = (100, N)) (hc : c < nN) (hr : rfL.getD c [] = []) (hN : N < 2 ^ 31) (hd : decode μ.2.1 pc = .ok (.iastore, 1)) (kk : ∀ H' : Hi, H' = up H c j x → Rn E μ mc ms Z u v (pc + 1) L st nN (lay E H')) : Rn E μ mc ms Z u v pc L (.int x :: .int i :: rf E c :: st) nN (lay E H) :=
  rm_iast hs hc hr (vp_of hj hN).1 hd (by rw [(vp_of hj hN).2]; exact kk)
theorem rj_zast {c N j : Nat} {i x : Int32} (hj : j < N ∧ i = nI j) (hs : shp c = (101, N)) (hc : c < nN) (hr : rfL.getD c [] = []) (hN : N < 2 ^ 31) (hd : decode μ.2.1 pc = .ok (.bastore, 1)) (kk : ∀ H' : Hi, H' = up H c j (vp_nar .boolean x) → Rn E μ mc ms Z u v (pc + 1) L st nN (lay E H')) : Rn E μ mc ms Z u v pc L (.int x :: .int i :: rf E c :: st) nN (lay E H) :=
  rm_zast hs hc hr (vp_of hj hN).1 hd (by rw [(vp_of hj hN).2]; exact kk)
theorem rj_sbyte {j k : Nat} {i : Int32} (hk : k < skLen.getD j 0 ∧ i = nI k) (hj : j < 6) (hN : skLen.getD j 0 < 2 ^ 31) (hd : decode μ.2.1 pc = .ok (.baload, 1)) (kk : Rn E μ mc ms Z u v (pc + 1) L (.int ((skByt.getD j []).getD k 0) :: st) n h) : Rn E μ mc ms Z u v pc L (.int i :: rv E j :: st) n h :=
  rn_sbyte hj (vp_of hk hN).1 hd (by rw [(vp_of hk hN).2]; exact kk)
theorem rj_sld {k : Nat} {i : Int32} (hk : k < (eX E).2.1 ∧ i = nI k) (hN : (eX E).2.1 < 2 ^ 31) (hd : decode μ.2.1 pc = .ok (.iaload, 1)) (kk : Rn E μ mc ms Z u v (pc + 1) L (.int ((eX E).2.2 k) :: st) n h) : Rn E μ mc ms Z u v pc L (.int i :: rs E :: st) n h :=
  rn_sld (vp_of hk hN).1 hd (by rw [(vp_of hk hN).2]; exact kk)
/-- L' says no more than L -/
def wk : List (Option Value) → List (Option Value) → Prop
  | [], _ => True
  | none :: a, b => wk a b.tail
  | some x :: a, b => b.head? = some (some x) ∧ wk a b.tail
theorem wk_get : ∀ (a b : List (Option Value)) (i : Nat) (x : Value), wk a b → a[i]? = some (some x) → b[i]? = some (some x)
  | [], b, i, x, _, h => by simp at h
  | none :: a, b, 0, x, _, h => by simp at h
  | some y :: a, b, 0, x, hw, h => by
    have h1 := hw.1
    simp at h
    subst h
    cases b with
    | nil => simp at h1
    | cons c d => simpa using h1
  | none :: a, b, i + 1, x, hw, h => by
    have := wk_get a b.tail i x hw (by simpa using h)
    cases b with
    | nil => simp at this
    | cons c d => simpa using this
  | some y :: a, b, i + 1, x, hw, h => by
    have := wk_get a b.tail i x hw.2 (by simpa using h)
    cases b with
    | nil => simp at this
    | cons c d => simpa using this
theorem rn_wk (hw : wk L' L) (kk : Rn E μ mc ms Z u v pc L' st n h) : Rn E μ mc ms Z u v pc L st n h := by
  intro p e R s m args below meth c H locs ls C hz hP hD hS hl
  refine kk p e R s m args below meth c H locs ls C hz hP hD hS ⟨hl.1, hl.2.1, fun q hq => ?_⟩
  obtain ⟨i, x⟩ := q
  have h1 := ((al_mem _ 0 i x).mp hq).2
  exact al_at hl (wk_get _ _ _ _ hw (by simpa using h1))
end RMJ
theorem skL : ∀ j : Nat, skLen.getD j 0 < 2 ^ 31 := by
  intro j
  match j with
  | 0 | 1 | 2 | 3 | 4 | 5 => decide
  | n + 6 => simp [skLen]
section RMA
variable {E : En} {μ ν : Mt} {mc ms : Nat} {Z : List Frame → Array Value → State → State → Prop} {u v : Nat} {pc : Nat} {L L' : List (Option Value)} {st : List Value} {H : Hi} {n : Nat} {h : Hp}
theorem ra_istore_n {k : Fin 4} {x : Int32} (hd : decode μ.2.1 pc = .ok (.istore_n k, 1)) (ho : okS L (k : Nat) = true) (hn : (k : Nat) < μ.2.2.1) (kk : Rn E μ mc ms Z u v (pc + 1) (L.set (k : Nat) (some (.int x))) st n h) : Rn E μ mc ms Z u v pc L (.int x :: st) n h :=
  rn_istore_n hd ho hn (fun y e => by rw [e]; exact kk)
theorem ra_istore {i : Nat} {x : Int32} (hd : decode μ.2.1 pc = .ok (.istore i, 2)) (ho : okS L i = true) (hn : i < μ.2.2.1) (kk : Rn E μ mc ms Z u v (pc + 2) (L.set i (some (.int x))) st n h) : Rn E μ mc ms Z u v pc L (.int x :: st) n h :=
  rn_istore hd ho hn (fun y e => by rw [e]; exact kk)
theorem ra_lstore_n {k : Fin 4} {x : Int64} (hd : decode μ.2.1 pc = .ok (.lstore_n k, 1)) (ho : okS L (k : Nat) = true) (hn : (k : Nat) + 1 < μ.2.2.1) (kk : Rn E μ mc ms Z u v (pc + 1) ((L.set (k : Nat) (some (.long x))).set ((k : Nat) + 1) none) st n h) : Rn E μ mc ms Z u v pc L (.long x :: st) n h :=
  rn_lstore_n hd ho hn (fun y e => by rw [e]; exact kk)
theorem ra_lstore {i : Nat} {x : Int64} (hd : decode μ.2.1 pc = .ok (.lstore i, 2)) (ho : okS L i = true) (hn : i + 1 < μ.2.2.1) (kk : Rn E μ mc ms Z u v (pc + 2) ((L.set i (some (.long x))).set (i + 1) none) st n h) : Rn E μ mc ms Z u v pc L (.long x :: st) n h :=
  rn_lstore hd ho hn (fun y e => by rw [e]; exact kk)
def mmax (x y : Int32) : Int32 := if x < y then y else x
def mmin (x y : Int32) : Int32 := if y < x then y else x
theorem rn_mmax {idx : Nat} {x y : Int32} (f : MSc μ.1.cls idx mJ9_max_7cf53) (hst : (st.map fun v => v.category).sum ≤ 8) (hm : u ≤ mc ∧ v ≤ ms) (hd : decode μ.2.1 pc = .ok (.invokestatic idx, 3)) (kk : Rn E μ mc ms Z u v (pc + 3) L (.int (mmax x y) :: st) n h) : Rn E μ mc ms Z u v pc L (.int y :: .int x :: st) n h := by
  intro p e R s m args below meth c H locs ls C hz hP hD hS hl
  obtain ⟨hx, hb, hr, hml, hown, hts, hK, hE, hB, hlk, hnm, hR⟩ := id C
  exact va_mmax hx hb (hml.trans hl.1.symm) hown (hts _ f.1) (hts _ f.2) (hts _ mdJ9_max_7cf53.1) (hts _ mdJ9_max_7cf53.2.1) (by omega) (by omega) (by omega) (by omega) hd (kk p e R s m args below meth c H locs ls C hz hP hD hS hl)
theorem rn_mmin {idx : Nat} {x y : Int32} (f : MSc μ.1.cls idx mJ9_min_7cf53) (hst : (st.map fun v => v.category).sum ≤ 8) (hm : u ≤ mc ∧ v ≤ ms) (hd : decode μ.2.1 pc = .ok (.invokestatic idx, 3)) (kk : Rn E μ mc ms Z u v (pc + 3) L (.int (mmin x y) :: st) n h) : Rn E μ mc ms Z u v pc L (.int y :: .int x :: st) n h := by
  intro p e R s m args below meth c H locs ls C hz hP hD hS hl
  obtain ⟨hx, hb, hr, hml, hown, hts, hK, hE, hB, hlk, hnm, hR⟩ := id C
  exact va_mmin hx hb (hml.trans hl.1.symm) hown (hts _ f.1) (hts _ f.2) (hts _ mdJ9_min_7cf53.1) (hts _ mdJ9_min_7cf53.2.1) (by omega) (by omega) (by omega) (by omega) hd (kk p e R s m args below meth c H locs ls C hz hP hD hS hl)
end RMA
