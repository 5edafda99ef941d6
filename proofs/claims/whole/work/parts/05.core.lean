/-! THE SMALL MACHINE: a heap as a function, a place in a method as a judgement Rn over the kit's W -/
abbrev En : Type := Launch × (Nat → Nat) × va_G × (Nat → ClassId) × (Nat → Nat) × Nat × (Nat × Nat × (Nat → Int32))
def eL (E : En) : Launch := E.1
def eAd (E : En) : Nat → Nat := E.2.1
def eD (E : En) : va_G := E.2.2.1
def eCA (E : En) : Nat → ClassId := E.2.2.2.1
def eAV (E : En) : Nat → Nat := E.2.2.2.2.1
def eB (E : En) : Nat := E.2.2.2.2.2.1
def eX (E : En) : Nat × Nat × (Nat → Int32) := E.2.2.2.2.2.2
def eA (E : En) : Nat → Prop := fun q => eB E ≤ q
def rf (E : En) (c : Nat) : Value := .ref (eAd E c)
def rv (E : En) (j : Nat) : Value := .ref (eAV E j)
def rs (E : En) : Value := .ref (eX E).1
abbrev Hp : Type := Nat → Nat → Value
def vI : Value → Int32
  | .int x => x
  | _ => 0
def vR : Value → Option Nat
  | .ref a => some a
  | _ => none
def shp (c : Nat) : Nat × Nat := shL.getD c (200, 0)
def entE (E : En) (t : Nat × Nat) (f : Nat → Value) : va_E :=
  if t.1 < 100 then .inr (t.1, (List.range t.2).map f)
  else if t.1 < 102 then .inl (eCA E (t.1 - 100), t.2, .inl (fun i => vI (f i)))
  else .inl (eCA E (t.1 - 100), t.2, .inr (.inr (.inr (.inr (fun i => vR (f i))))))
def wsO (E : En) (n : Nat) (h : Hp) : va_W := (List.range n).map (fun c => (eAd E c, entE E (shp c) (h c)))
def tysE (E : En) : List (ClassId × FieldType) := [(eCA E 0, .int), (eCA E 1, .boolean), (eCA E 2, .object RX6), (eCA E 3, .object RX5)]
def skR (E : En) (U : State) : Prop := ∀ j : Nat, j < 6 → vk_R "SharedPockets" ([9, 11, 13, 24, 26, 28].getD j 0) (["123456789", "01234567", "osf", "oh", "01234567.", ""].getD j "") (eAd E (1000 + j)) U
def Ext (E : En) (U : State) (H : Heap) : Prop :=
  vk_S 6 skLen skByt (fun i => eAd E (1000 + i)) (eAV E) (eA E) U H ∧ va_Z "java/lang/String" "COMPACT_STRINGS" "Z" (.int 1) (eA E) U H ∧
  va_X (eX E).1 (eX E).2.1 (eX E).2.2 U H ∧ (eX E).1 < eB E ∧ skR E U ∧ (∀ c : Nat, c < 1000 → eAd E c = eB E + c) ∧ (∀ q ∈ nestL, va_Nw (.methodLinkNest q.1 q.2.1 q.2.2 "SharedPockets") U) ∧ va_AO RX6 U ∧ va_AO RX5 U
theorem Ext.kept {E : En} {U : State} {H H1 : Heap} (h : Ext E U H) (hb : eB E ≤ H.size) (hq : ∀ a : Nat, a < H.size → ¬ eA E a → H1[a]? = H[a]?) : Ext E U H1 :=
  ⟨h.1.kept hq, h.2.1.kept hq, h.2.2.1.kept (hq _ (Nat.lt_of_lt_of_le h.2.2.2.1 hb) (Nat.not_le.mpr h.2.2.2.1)), h.2.2.2⟩
theorem Ext.warm {E : En} {s U : State} {H : Heap} (hW : s.WarmedH U.vm) (h : Ext E s H) : Ext E U H :=
  ⟨h.1.moved hW.alike, h.2.1.moved hW.alike, h.2.2.1.moved hW.alike, h.2.2.2.1, fun j hj => (h.2.2.2.2.1 j hj).warm hW, h.2.2.2.2.2.1, fun q hq => va_Nw.warmM hW (h.2.2.2.2.2.2.1 q hq), h.2.2.2.2.2.2.2.1.moved hW.alike, h.2.2.2.2.2.2.2.2.moved hW.alike⟩
theorem Ext.calling {E : En} {U : State} {H : Heap} {g : JFrame} {mk : MethodId} {a : Array Value} (h : Ext E U H) : Ext E (U.calling g mk a) H :=
  ⟨h.1.moved (Vm.Alike.refl U.vm), h.2.1.moved (Vm.Alike.refl U.vm), h.2.2.1.moved (Vm.Alike.refl U.vm), h.2.2.2.1, fun j hj => (h.2.2.2.2.1 j hj).same rfl, h.2.2.2.2.2.1, fun q hq => va_Nw.same (u := U) rfl rfl (h.2.2.2.2.2.2.1 q hq), h.2.2.2.2.2.2.2.1.moved (Vm.Alike.refl U.vm), h.2.2.2.2.2.2.2.2.moved (Vm.Alike.refl U.vm)⟩
def World (E : En) (n : Nat) (h : Hp) (U : State) : Prop :=
  va_P (eD E) vwCl (wsO E n h) U.heap ∧ va_K (eD E) vwCl (tysE E) U ∧ va_D (eA E) (wsO E n h) ∧ Ext E U U.heap ∧ U.heap.size = eB E + n
theorem World.blind {E : En} {n : Nat} {h : Hp} (as : List Value) : FrameBlind (va_Pc as (World E n h)) := by
  intro a U g mk q
  obtain ⟨q0, qP, qK, qD, qE, qB⟩ := q
  exact ⟨q0, qP, va_K.moved (u := U) (U := U.calling g mk a) (Vm.Alike.refl U.vm) qK, qD, qE.calling, qB⟩
/-- a method: its name, code, locals, answer, level -/
abbrev Mt : Type := MethodName × ByteArray × Nat × Option FieldType × Nat
def wsM (μ : Mt) : List Cond := Cond.code μ.1 μ.2.1 μ.2.2.1 μ.2.2.2.1 :: lw_T
def rmM (μ : Mt) (mc ms : Nat) : Room := { frames := μ.2.2.2.2 + 1, cells := mc, slots := ms, locals := 64 * μ.2.2.2.2 + 64 }
def Pst (E : En) (k : Nat) (Q : Option Value → Hp → Prop) : Array Value → State → Outcome → State → Prop := fun _ st o t =>
  (∃ (w : Option Value) (h : Hp), o = .returned w ∧ Q w h ∧ World E k h t) ∧ va_F (eA E) st t
def Ct (E : En) (ν : Mt) (mc ms : Nat) (as : List Value) (n : Nat) (h : Hp) (Q : Option Value → Hp → Prop) : Prop :=
  Met (eL E) ν.1 (wsM ν) (rmM ν mc ms) (va_Pc as (World E n h)) (Pst E (n + mc) Q) mc ms (eA E)
def Zm (E : En) (k mc ms : Nat) (Q : Option Value → Hp → Prop) : List Frame → Array Value → State → State → Prop := fun below args s => MQ below (Pst E k Q) args s mc ms (eA E)
def Cx (E : En) (μ : Mt) (mc ms : Nat) (p : Program) (R : Room) (s : State) (m : MethodId) (args : Array Value) (meth : Method) (c : Code) : Prop :=
  p.tables.exec = Jvm.exec ∧ c.code = μ.2.1 ∧ meth.sig.returnType = μ.2.2.2.1 ∧ c.maxLocals = μ.2.2.1 ∧ s.vm.findClass μ.1.cls = some m.cls ∧ (∀ w ∈ lw_T, w.before args s = true) ∧
  va_K (eD E) vwCl (tysE E) s ∧ Ext E s s.heap ∧ eB E ≤ s.heap.size ∧ meth.locks = false ∧ (μ.1.name = "<init>" → meth.name = "<init>") ∧ (μ.2.2.2.2 + 1 ≤ R.frames ∧ 64 * μ.2.2.2.2 + 64 ≤ R.locals ∧ mc ≤ R.cells ∧ ms ≤ R.slots)
/-- the locals, by their places -/
def al : Nat → List (Option Value) → List (Nat × Value)
  | _, [] => []
  | k, some v :: t => (k, v) :: al (k + 1) t
  | k, none :: t => al (k + 1) t
theorem al_mem : ∀ (L : List (Option Value)) (k i : Nat) (v : Value), (i, v) ∈ al k L ↔ k ≤ i ∧ L[i - k]? = some (some v)
  | [], k, i, v => by simp [al]
  | a :: t, k, i, v => by
    have ih := al_mem t (k + 1) i v
    by_cases hk : i = k
    · subst hk
      cases a with
      | none => simp [al, ih]; omega
      | some w => simp [al, ih]; constructor
                  · rintro (h | h)
                    · exact h.symm
                    · omega
                  · intro h; exact Or.inl h.symm
    · by_cases hle : k ≤ i
      · obtain ⟨j, rfl⟩ : ∃ j, i = k + 1 + j := ⟨i - (k + 1), by omega⟩
        have e1 : k + 1 + j - k = j + 1 := by omega
        have e2 : k + 1 + j - (k + 1) = j := by omega
        rw [e2] at ih
        rw [e1]
        cases a with
        | none => simp only [al, ih, List.getElem?_cons_succ]; constructor <;> (rintro ⟨-, h⟩; exact ⟨by omega, h⟩)
        | some w =>
          simp only [al, List.mem_cons, ih, List.getElem?_cons_succ, Prod.mk.injEq]
          constructor
          · rintro (⟨h, -⟩ | ⟨-, h⟩)
            · omega
            · exact ⟨by omega, h⟩
          · rintro ⟨-, h⟩; exact Or.inr ⟨by omega, h⟩
      · cases a with
        | none => simp only [al, ih]; constructor <;> (rintro ⟨h, -⟩; omega)
        | some w =>
          simp only [al, List.mem_cons, ih, Prod.mk.injEq]
          constructor
          · rintro (⟨h, -⟩ | ⟨h, -⟩) <;> omega
          · rintro ⟨h, -⟩; omega
theorem al_at {ls : Array Slot} {nL : Nat} {L : List (Option Value)} (h : lv_has ls nL (al 0 L)) {i : Nat} {v : Value} (hi : L[i]? = some (some v)) : ls[i]? = some (.val v) :=
  h.2.2 (i, v) ((al_mem L 0 i v).mpr ⟨Nat.zero_le i, by simpa using hi⟩)
/-- nothing long reaches into place i from ahead -/
def okS (L : List (Option Value)) : Nat → Bool
  | 0 => true
  | j + 1 => match L[j]? with
    | some (some w) => w.category != 2
    | _ => true
theorem al_set {ls : Array Slot} {nL : Nat} {L : List (Option Value)} {i : Nat} {v : Value} (ho : okS L i = true)
    (h : lv_has ls nL ((i, v) :: (al 0 L).filter (fun q => !(q.1 == i) && !(q.1 + 1 == i && q.2.category == 2)))) : lv_has ls nL (al 0 (L.set i (some v))) := by
  refine ⟨h.1, h.2.1, fun q hq => ?_⟩
  obtain ⟨j, w⟩ := q
  have hj := ((al_mem _ 0 j w).mp hq).2
  rw [Nat.sub_zero, List.getElem?_set] at hj
  refine h.2.2 (j, w) ?_
  by_cases e : i = j
  · subst e
    rw [if_pos rfl] at hj
    split at hj
    · cases hj; exact List.mem_cons_self
    · cases hj
  · rw [if_neg e] at hj
    refine List.mem_cons_of_mem _ (List.mem_filter.mpr ⟨(al_mem L 0 j w).mpr ⟨Nat.zero_le j, by simpa using hj⟩, ?_⟩)
    by_cases e2 : j + 1 = i
    · subst e2
      simp only [okS, hj] at ho
      simp at ho ⊢
      exact ho
    · simp [e2]
      exact fun h => e h.symm
theorem al_set2 {ls : Array Slot} {nL : Nat} {L : List (Option Value)} {i : Nat} {v : Value} (ho : okS L i = true)
    (h : lv_has ls nL ((i, v) :: (al 0 L).filter (fun q => !(q.1 == i) && (!(q.1 == i + 1) && !(q.1 + 1 == i && q.2.category == 2))))) : lv_has ls nL (al 0 ((L.set i (some v)).set (i + 1) none)) := by
  refine ⟨h.1, h.2.1, fun q hq => ?_⟩
  obtain ⟨j, w⟩ := q
  have hj := ((al_mem _ 0 j w).mp hq).2
  rw [Nat.sub_zero, List.getElem?_set, List.length_set, List.getElem?_set] at hj
  refine h.2.2 (j, w) ?_
  by_cases e1 : i + 1 = j
  · rw [if_pos e1] at hj
    split at hj
    · cases hj
    · cases hj
  · rw [if_neg e1] at hj
    by_cases e : i = j
    · subst e
      rw [if_pos rfl] at hj
      split at hj
      · cases hj; exact List.mem_cons_self
      · cases hj
    · rw [if_neg e] at hj
      refine List.mem_cons_of_mem _ (List.mem_filter.mpr ⟨(al_mem L 0 j w).mpr ⟨Nat.zero_le j, by simpa using hj⟩, ?_⟩)
      have n1 : ¬ j = i := fun h => e h.symm
      have n2 : ¬ j = i + 1 := fun h => e1 h.symm
      by_cases e2 : j + 1 = i
      · subst e2
        simp only [okS, hj] at ho
        simp at ho ⊢
        exact ⟨by omega, ho⟩
      · simp [e2, n1, n2]
def Rn (E : En) (μ : Mt) (mc ms : Nat) (Z : List Frame → Array Value → State → State → Prop) (u v : Nat) (pc : Nat) (L : List (Option Value)) (st : List Value) (n : Nat) (h : Hp) : Prop :=
  ∀ (p : Program) (e : Env) (R : Room) (s : State) (m : MethodId) (args : Array Value) (below : List Frame) (meth : Method) (c : Code) (H : Heap) (locs : List Loc) (ls : Array Slot),
    Cx E μ mc ms p R s m args meth c → s.heap.size + u = eB E + n → va_P (eD E) vwCl (wsO E n h) H → va_D (eA E) (wsO E n h) → va_S (eA E) s.heap H locs → lv_has ls μ.2.2.1 (al 0 L) →
    W p (eL E) e R s m args below meth c H locs u v (Z below args s) (F0 m pc ls st)
section RN
variable {E : En} {μ : Mt} {mc ms : Nat} {Z : List Frame → Array Value → State → State → Prop} {u v : Nat} {pc : Nat} {L : List (Option Value)} {st : List Value} {n : Nat} {h : Hp}
theorem rn_iconst {k : Int} {x : Int32} (hd : decode μ.2.1 pc = .ok (.iconst k, 1)) (hv : Int32.ofInt k = x) (kk : Rn E μ mc ms Z u v (pc + 1) L (.int x :: st) n h) : Rn E μ mc ms Z u v pc L st n h :=
  fun p e R s m args below meth c H locs ls C hz hP hD hS hl => lv_iconst C.1 C.2.1 hd hv (kk p e R s m args below meth c H locs ls C hz hP hD hS hl)
theorem rn_bipush {k : Int} {x : Int32} (hd : decode μ.2.1 pc = .ok (.bipush k, 2)) (hv : (Int8.ofInt k).toInt32 = x) (kk : Rn E μ mc ms Z u v (pc + 2) L (.int x :: st) n h) : Rn E μ mc ms Z u v pc L st n h :=
  fun p e R s m args below meth c H locs ls C hz hP hD hS hl => lv_bipush C.1 C.2.1 hd hv (kk p e R s m args below meth c H locs ls C hz hP hD hS hl)
theorem rn_sipush {k : Int} {x : Int32} (hd : decode μ.2.1 pc = .ok (.sipush k, 3)) (hv : (Int16.ofInt k).toInt32 = x) (kk : Rn E μ mc ms Z u v (pc + 3) L (.int x :: st) n h) : Rn E μ mc ms Z u v pc L st n h :=
  fun p e R s m args below meth c H locs ls C hz hP hD hS hl => lv_sipush C.1 C.2.1 hd hv (kk p e R s m args below meth c H locs ls C hz hP hD hS hl)
theorem rn_lconst {k : Fin 2} {x : Int64} (hd : decode μ.2.1 pc = .ok (.lconst k, 1)) (hv : Int64.ofNat (k : Nat) = x) (kk : Rn E μ mc ms Z u v (pc + 1) L (.long x :: st) n h) : Rn E μ mc ms Z u v pc L st n h :=
  fun p e R s m args below meth c H locs ls C hz hP hD hS hl => lv_lconst C.1 C.2.1 hd hv (kk p e R s m args below meth c H locs ls C hz hP hD hS hl)
theorem rn_iload_n {k : Fin 4} {x : Int32} (hd : decode μ.2.1 pc = .ok (.iload_n k, 1)) (hi : L[(k : Nat)]? = some (some (.int x))) (kk : Rn E μ mc ms Z u v (pc + 1) L (.int x :: st) n h) : Rn E μ mc ms Z u v pc L st n h :=
  fun p e R s m args below meth c H locs ls C hz hP hD hS hl => lv_iload_n C.1 C.2.1 hd rfl (al_at hl hi) (kk p e R s m args below meth c H locs ls C hz hP hD hS hl)
theorem rn_iload {i : Nat} {x : Int32} (hd : decode μ.2.1 pc = .ok (.iload i, 2)) (hi : L[i]? = some (some (.int x))) (kk : Rn E μ mc ms Z u v (pc + 2) L (.int x :: st) n h) : Rn E μ mc ms Z u v pc L st n h :=
  fun p e R s m args below meth c H locs ls C hz hP hD hS hl => lv_iload C.1 C.2.1 hd (al_at hl hi) (kk p e R s m args below meth c H locs ls C hz hP hD hS hl)
theorem rn_lload_n {k : Fin 4} {x : Int64} (hd : decode μ.2.1 pc = .ok (.lload_n k, 1)) (hi : L[(k : Nat)]? = some (some (.long x))) (kk : Rn E μ mc ms Z u v (pc + 1) L (.long x :: st) n h) : Rn E μ mc ms Z u v pc L st n h :=
  fun p e R s m args below meth c H locs ls C hz hP hD hS hl => lv_lload_n C.1 C.2.1 hd rfl (al_at hl hi) (kk p e R s m args below meth c H locs ls C hz hP hD hS hl)
theorem rn_lload {i : Nat} {x : Int64} (hd : decode μ.2.1 pc = .ok (.lload i, 2)) (hi : L[i]? = some (some (.long x))) (kk : Rn E μ mc ms Z u v (pc + 2) L (.long x :: st) n h) : Rn E μ mc ms Z u v pc L st n h :=
  fun p e R s m args below meth c H locs ls C hz hP hD hS hl => lv_lload C.1 C.2.1 hd (al_at hl hi) (kk p e R s m args below meth c H locs ls C hz hP hD hS hl)
theorem rn_aload_n {k : Fin 4} {a : Nat} (hd : decode μ.2.1 pc = .ok (.aload_n k, 1)) (hi : L[(k : Nat)]? = some (some (.ref a))) (kk : Rn E μ mc ms Z u v (pc + 1) L (.ref a :: st) n h) : Rn E μ mc ms Z u v pc L st n h :=
  fun p e R s m args below meth c H locs ls C hz hP hD hS hl => lv_aload_n C.1 C.2.1 hd rfl (al_at hl hi) (kk p e R s m args below meth c H locs ls C hz hP hD hS hl)
theorem rn_aload {i a : Nat} (hd : decode μ.2.1 pc = .ok (.aload i, 2)) (hi : L[i]? = some (some (.ref a))) (kk : Rn E μ mc ms Z u v (pc + 2) L (.ref a :: st) n h) : Rn E μ mc ms Z u v pc L st n h :=
  fun p e R s m args below meth c H locs ls C hz hP hD hS hl => lv_aload C.1 C.2.1 hd (al_at hl hi) (kk p e R s m args below meth c H locs ls C hz hP hD hS hl)
theorem rn_istore_n {k : Fin 4} {x : Int32} (hd : decode μ.2.1 pc = .ok (.istore_n k, 1)) (ho : okS L (k : Nat) = true) (hn : (k : Nat) < μ.2.2.1) (kk : ∀ y : Int32, y = x → Rn E μ mc ms Z u v (pc + 1) (L.set (k : Nat) (some (.int y))) st n h) : Rn E μ mc ms Z u v pc L (.int x :: st) n h :=
  fun p e R s m args below meth c H locs ls C hz hP hD hS hl => lv_istore_n C.1 C.2.1 hd rfl hl hn rfl (fun ls' hl' => kk x rfl p e R s m args below meth c H locs ls' C hz hP hD hS (al_set ho hl'))
theorem rn_istore {i : Nat} {x : Int32} (hd : decode μ.2.1 pc = .ok (.istore i, 2)) (ho : okS L i = true) (hn : i < μ.2.2.1) (kk : ∀ y : Int32, y = x → Rn E μ mc ms Z u v (pc + 2) (L.set i (some (.int y))) st n h) : Rn E μ mc ms Z u v pc L (.int x :: st) n h :=
  fun p e R s m args below meth c H locs ls C hz hP hD hS hl => lv_istore C.1 C.2.1 hd hl hn rfl (fun ls' hl' => kk x rfl p e R s m args below meth c H locs ls' C hz hP hD hS (al_set ho hl'))
theorem rn_astore_n {k : Fin 4} {a : Nat} (hd : decode μ.2.1 pc = .ok (.astore_n k, 1)) (ho : okS L (k : Nat) = true) (hn : (k : Nat) < μ.2.2.1) (kk : Rn E μ mc ms Z u v (pc + 1) (L.set (k : Nat) (some (.ref a))) st n h) : Rn E μ mc ms Z u v pc L (.ref a :: st) n h :=
  fun p e R s m args below meth c H locs ls C hz hP hD hS hl => lv_astore_n C.1 C.2.1 hd rfl hl hn rfl (fun ls' hl' => kk p e R s m args below meth c H locs ls' C hz hP hD hS (al_set ho hl'))
theorem rn_astore {i a : Nat} (hd : decode μ.2.1 pc = .ok (.astore i, 2)) (ho : okS L i = true) (hn : i < μ.2.2.1) (kk : Rn E μ mc ms Z u v (pc + 2) (L.set i (some (.ref a))) st n h) : Rn E μ mc ms Z u v pc L (.ref a :: st) n h :=
  fun p e R s m args below meth c H locs ls C hz hP hD hS hl => lv_astore C.1 C.2.1 hd hl hn rfl (fun ls' hl' => kk p e R s m args below meth c H locs ls' C hz hP hD hS (al_set ho hl'))
theorem rn_lstore_n {k : Fin 4} {x : Int64} (hd : decode μ.2.1 pc = .ok (.lstore_n k, 1)) (ho : okS L (k : Nat) = true) (hn : (k : Nat) + 1 < μ.2.2.1) (kk : ∀ y : Int64, y = x → Rn E μ mc ms Z u v (pc + 1) ((L.set (k : Nat) (some (.long y))).set ((k : Nat) + 1) none) st n h) : Rn E μ mc ms Z u v pc L (.long x :: st) n h :=
  fun p e R s m args below meth c H locs ls C hz hP hD hS hl => lv_lstore_n C.1 C.2.1 hd rfl hl hn rfl (fun ls' hl' => kk x rfl p e R s m args below meth c H locs ls' C hz hP hD hS (al_set2 ho hl'))
theorem rn_lstore {i : Nat} {x : Int64} (hd : decode μ.2.1 pc = .ok (.lstore i, 2)) (ho : okS L i = true) (hn : i + 1 < μ.2.2.1) (kk : ∀ y : Int64, y = x → Rn E μ mc ms Z u v (pc + 2) ((L.set i (some (.long y))).set (i + 1) none) st n h) : Rn E μ mc ms Z u v pc L (.long x :: st) n h :=
  fun p e R s m args below meth c H locs ls C hz hP hD hS hl => lv_lstore C.1 C.2.1 hd hl hn rfl (fun ls' hl' => kk x rfl p e R s m args below meth c H locs ls' C hz hP hD hS (al_set2 ho hl'))
theorem rn_iinc {i : Nat} {k : Int} {x w : Int32} (hd : decode μ.2.1 pc = .ok (.iinc i k, 3)) (hi : L[i]? = some (some (.int x))) (hw : Int32.ofInt k = w) (ho : okS L i = true) (hn : i < μ.2.2.1) (kk : ∀ y : Int32, y = x + w → Rn E μ mc ms Z u v (pc + 3) (L.set i (some (.int y))) st n h) : Rn E μ mc ms Z u v pc L st n h := by
  intro p e R s m args below meth c H locs ls C hz hP hD hS hl
  obtain ⟨j, hj⟩ := List.getElem?_of_mem ((al_mem L 0 i (.int x)).mpr ⟨Nat.zero_le i, by simpa using hi⟩)
  exact lv_iinc (k := j) C.1 C.2.1 hd hl hj (by rw [hw]) hn rfl (fun ls' hl' => kk _ rfl p e R s m args below meth c H locs ls' C hz hP hD hS (al_set ho hl'))
theorem rn_iadd {x y : Int32} (hd : decode μ.2.1 pc = .ok (.iadd, 1)) (kk : Rn E μ mc ms Z u v (pc + 1) L (.int (x + y) :: st) n h) : Rn E μ mc ms Z u v pc L (.int y :: .int x :: st) n h :=
  fun p e R s m args below meth c H locs ls C hz hP hD hS hl => lv_iadd C.1 C.2.1 hd (kk p e R s m args below meth c H locs ls C hz hP hD hS hl)
theorem rn_isub {x y : Int32} (hd : decode μ.2.1 pc = .ok (.isub, 1)) (kk : Rn E μ mc ms Z u v (pc + 1) L (.int (x - y) :: st) n h) : Rn E μ mc ms Z u v pc L (.int y :: .int x :: st) n h :=
  fun p e R s m args below meth c H locs ls C hz hP hD hS hl => lv_isub C.1 C.2.1 hd (kk p e R s m args below meth c H locs ls C hz hP hD hS hl)
theorem rn_imul {x y : Int32} (hd : decode μ.2.1 pc = .ok (.imul, 1)) (kk : Rn E μ mc ms Z u v (pc + 1) L (.int (x * y) :: st) n h) : Rn E μ mc ms Z u v pc L (.int y :: .int x :: st) n h :=
  fun p e R s m args below meth c H locs ls C hz hP hD hS hl => lv_imul C.1 C.2.1 hd (kk p e R s m args below meth c H locs ls C hz hP hD hS hl)
theorem rn_iand {x y : Int32} (hd : decode μ.2.1 pc = .ok (.iand, 1)) (kk : Rn E μ mc ms Z u v (pc + 1) L (.int (x &&& y) :: st) n h) : Rn E μ mc ms Z u v pc L (.int y :: .int x :: st) n h :=
  fun p e R s m args below meth c H locs ls C hz hP hD hS hl => lv_iand C.1 C.2.1 hd (kk p e R s m args below meth c H locs ls C hz hP hD hS hl)
theorem rn_ior {x y : Int32} (hd : decode μ.2.1 pc = .ok (.ior, 1)) (kk : Rn E μ mc ms Z u v (pc + 1) L (.int (x ||| y) :: st) n h) : Rn E μ mc ms Z u v pc L (.int y :: .int x :: st) n h :=
  fun p e R s m args below meth c H locs ls C hz hP hD hS hl => lv_ior C.1 C.2.1 hd (kk p e R s m args below meth c H locs ls C hz hP hD hS hl)
theorem rn_ixor {x y : Int32} (hd : decode μ.2.1 pc = .ok (.ixor, 1)) (kk : Rn E μ mc ms Z u v (pc + 1) L (.int (x ^^^ y) :: st) n h) : Rn E μ mc ms Z u v pc L (.int y :: .int x :: st) n h :=
  fun p e R s m args below meth c H locs ls C hz hP hD hS hl => lv_ixor C.1 C.2.1 hd (kk p e R s m args below meth c H locs ls C hz hP hD hS hl)
theorem rn_idiv {x y : Int32} (hd : decode μ.2.1 pc = .ok (.idiv, 1)) (hne : ¬ y = 0) (kk : Rn E μ mc ms Z u v (pc + 1) L (.int (x / y) :: st) n h) : Rn E μ mc ms Z u v pc L (.int y :: .int x :: st) n h :=
  fun p e R s m args below meth c H locs ls C hz hP hD hS hl => lv_idiv C.1 C.2.1 hd hne (kk p e R s m args below meth c H locs ls C hz hP hD hS hl)
theorem rn_irem {x y : Int32} (hd : decode μ.2.1 pc = .ok (.irem, 1)) (hne : ¬ y = 0) (kk : Rn E μ mc ms Z u v (pc + 1) L (.int (x - x / y * y) :: st) n h) : Rn E μ mc ms Z u v pc L (.int y :: .int x :: st) n h :=
  fun p e R s m args below meth c H locs ls C hz hP hD hS hl => lv_irem C.1 C.2.1 hd hne (kk p e R s m args below meth c H locs ls C hz hP hD hS hl)
theorem rn_ishl {x y : Int32} (hd : decode μ.2.1 pc = .ok (.ishl, 1)) (kk : Rn E μ mc ms Z u v (pc + 1) L (.int (x <<< (y &&& 31)) :: st) n h) : Rn E μ mc ms Z u v pc L (.int y :: .int x :: st) n h :=
  fun p e R s m args below meth c H locs ls C hz hP hD hS hl => lv_ishl C.1 C.2.1 hd (kk p e R s m args below meth c H locs ls C hz hP hD hS hl)
theorem rn_ishr {x y : Int32} (hd : decode μ.2.1 pc = .ok (.ishr, 1)) (kk : Rn E μ mc ms Z u v (pc + 1) L (.int (x >>> (y &&& 31)) :: st) n h) : Rn E μ mc ms Z u v pc L (.int y :: .int x :: st) n h :=
  fun p e R s m args below meth c H locs ls C hz hP hD hS hl => lv_ishr C.1 C.2.1 hd (kk p e R s m args below meth c H locs ls C hz hP hD hS hl)
/-- x >>> y of Java -/
def ushr (x y : Int32) : Int32 := (x.toUInt32 >>> (y.toUInt32 &&& Int32.toUInt32 31)).toInt32
def i2c (x : Int32) : Int32 := (x.toUInt32 % 65536).toInt32
theorem rn_iushr {x y : Int32} (hd : decode μ.2.1 pc = .ok (.iushr, 1)) (kk : Rn E μ mc ms Z u v (pc + 1) L (.int (ushr x y) :: st) n h) : Rn E μ mc ms Z u v pc L (.int y :: .int x :: st) n h :=
  fun p e R s m args below meth c H locs ls C hz hP hD hS hl => lv_iushr C.1 C.2.1 hd rfl (kk p e R s m args below meth c H locs ls C hz hP hD hS hl)
theorem rn_i2l {x : Int32} (hd : decode μ.2.1 pc = .ok (.i2l, 1)) (kk : Rn E μ mc ms Z u v (pc + 1) L (.long x.toInt64 :: st) n h) : Rn E μ mc ms Z u v pc L (.int x :: st) n h :=
  fun p e R s m args below meth c H locs ls C hz hP hD hS hl => lv_i2l C.1 C.2.1 hd rfl (kk p e R s m args below meth c H locs ls C hz hP hD hS hl)
theorem rn_i2b {x : Int32} (hd : decode μ.2.1 pc = .ok (.i2b, 1)) (kk : Rn E μ mc ms Z u v (pc + 1) L (.int x.toInt8.toInt32 :: st) n h) : Rn E μ mc ms Z u v pc L (.int x :: st) n h :=
  fun p e R s m args below meth c H locs ls C hz hP hD hS hl => lv_i2b C.1 C.2.1 hd rfl (kk p e R s m args below meth c H locs ls C hz hP hD hS hl)
theorem rn_i2s {x : Int32} (hd : decode μ.2.1 pc = .ok (.i2s, 1)) (kk : Rn E μ mc ms Z u v (pc + 1) L (.int x.toInt16.toInt32 :: st) n h) : Rn E μ mc ms Z u v pc L (.int x :: st) n h :=
  fun p e R s m args below meth c H locs ls C hz hP hD hS hl => lv_i2s C.1 C.2.1 hd rfl (kk p e R s m args below meth c H locs ls C hz hP hD hS hl)
theorem rn_i2c {x : Int32} (hd : decode μ.2.1 pc = .ok (.i2c, 1)) (kk : Rn E μ mc ms Z u v (pc + 1) L (.int (i2c x) :: st) n h) : Rn E μ mc ms Z u v pc L (.int x :: st) n h :=
  fun p e R s m args below meth c H locs ls C hz hP hD hS hl => lv_i2c C.1 C.2.1 hd rfl (kk p e R s m args below meth c H locs ls C hz hP hD hS hl)
theorem rn_ladd {x y : Int64} (hd : decode μ.2.1 pc = .ok (.ladd, 1)) (kk : Rn E μ mc ms Z u v (pc + 1) L (.long (x + y) :: st) n h) : Rn E μ mc ms Z u v pc L (.long y :: .long x :: st) n h :=
  fun p e R s m args below meth c H locs ls C hz hP hD hS hl => lv_ladd C.1 C.2.1 hd (kk p e R s m args below meth c H locs ls C hz hP hD hS hl)
theorem rn_lsub {x y : Int64} (hd : decode μ.2.1 pc = .ok (.lsub, 1)) (kk : Rn E μ mc ms Z u v (pc + 1) L (.long (x - y) :: st) n h) : Rn E μ mc ms Z u v pc L (.long y :: .long x :: st) n h :=
  fun p e R s m args below meth c H locs ls C hz hP hD hS hl => lv_lsub C.1 C.2.1 hd (kk p e R s m args below meth c H locs ls C hz hP hD hS hl)
theorem rn_lmul {x y : Int64} (hd : decode μ.2.1 pc = .ok (.lmul, 1)) (kk : Rn E μ mc ms Z u v (pc + 1) L (.long (x * y) :: st) n h) : Rn E μ mc ms Z u v pc L (.long y :: .long x :: st) n h :=
  fun p e R s m args below meth c H locs ls C hz hP hD hS hl => lv_lmul C.1 C.2.1 hd (kk p e R s m args below meth c H locs ls C hz hP hD hS hl)
theorem rn_ldiv {x y : Int64} (hd : decode μ.2.1 pc = .ok (.ldiv, 1)) (hne : ¬ y = 0) (kk : Rn E μ mc ms Z u v (pc + 1) L (.long (x / y) :: st) n h) : Rn E μ mc ms Z u v pc L (.long y :: .long x :: st) n h :=
  fun p e R s m args below meth c H locs ls C hz hP hD hS hl => lv_ldiv C.1 C.2.1 hd hne (kk p e R s m args below meth c H locs ls C hz hP hD hS hl)
theorem rn_lrem {x y : Int64} (hd : decode μ.2.1 pc = .ok (.lrem, 1)) (hne : ¬ y = 0) (kk : Rn E μ mc ms Z u v (pc + 1) L (.long (x - x / y * y) :: st) n h) : Rn E μ mc ms Z u v pc L (.long y :: .long x :: st) n h :=
  fun p e R s m args below meth c H locs ls C hz hP hD hS hl => lv_lrem C.1 C.2.1 hd hne (kk p e R s m args below meth c H locs ls C hz hP hD hS hl)
theorem rn_lcmp {x y : Int64} (hd : decode μ.2.1 pc = .ok (.lcmp, 1)) (kk : Rn E μ mc ms Z u v (pc + 1) L (.int (lg_cmp x y) :: st) n h) : Rn E μ mc ms Z u v pc L (.long y :: .long x :: st) n h :=
  fun p e R s m args below meth c H locs ls C hz hP hD hS hl => W.lcmp C.1 C.2.1 hd (kk p e R s m args below meth c H locs ls C hz hP hD hS hl)
theorem rn_dup {w : Value} (hd : decode μ.2.1 pc = .ok (.dup, 1)) (hw : w.category = 1) (kk : Rn E μ mc ms Z u v (pc + 1) L (w :: w :: st) n h) : Rn E μ mc ms Z u v pc L (w :: st) n h :=
  fun p e R s m args below meth c H locs ls C hz hP hD hS hl => lv_dup C.1 C.2.1 hd hw (kk p e R s m args below meth c H locs ls C hz hP hD hS hl)
theorem rn_dup2 {w w2 : Value} (hd : decode μ.2.1 pc = .ok (.dup2, 1)) (hw : w.category = 1) (hw2 : w2.category = 1) (kk : Rn E μ mc ms Z u v (pc + 1) L (w :: w2 :: w :: w2 :: st) n h) : Rn E μ mc ms Z u v pc L (w :: w2 :: st) n h :=
  fun p e R s m args below meth c H locs ls C hz hP hD hS hl => lv_dup2_11 C.1 C.2.1 hd hw hw2 (kk p e R s m args below meth c H locs ls C hz hP hD hS hl)
theorem rn_pop {w : Value} (hd : decode μ.2.1 pc = .ok (.pop, 1)) (hw : w.category = 1) (kk : Rn E μ mc ms Z u v (pc + 1) L st n h) : Rn E μ mc ms Z u v pc L (w :: st) n h :=
  fun p e R s m args below meth c H locs ls C hz hP hD hS hl => lv_pop C.1 C.2.1 hd hw (kk p e R s m args below meth c H locs ls C hz hP hD hS hl)
theorem rn_goto {off : Int} {tgt : Nat} (hd : decode μ.2.1 pc = .ok (.goto off, 3)) (ht : (pc : Int) + off = (tgt : Int)) (kk : Rn E μ mc ms Z u v tgt L st n h) : Rn E μ mc ms Z u v pc L st n h :=
  fun p e R s m args below meth c H locs ls C hz hP hD hS hl => lv_goto C.1 C.2.1 hd ht (kk p e R s m args below meth c H locs ls C hz hP hD hS hl)
theorem rn_icmp_eq {x y : Int32} {off : Int} {tgt : Nat} (hd : decode μ.2.1 pc = .ok (.if_icmp .eq off, 3)) (ht : (pc : Int) + off = (tgt : Int)) (kt : x = y → Rn E μ mc ms Z u v tgt L st n h) (kf : ¬ (x = y) → Rn E μ mc ms Z u v (pc + 3) L st n h) : Rn E μ mc ms Z u v pc L (.int y :: .int x :: st) n h :=
  fun p e R s m args below meth c H locs ls C hz hP hD hS hl => lv_icmp_eq C.1 C.2.1 hd ht (fun q => kt q p e R s m args below meth c H locs ls C hz hP hD hS hl) (fun q => kf q p e R s m args below meth c H locs ls C hz hP hD hS hl)
theorem rn_if_eq {x : Int32} {off : Int} {tgt : Nat} (hd : decode μ.2.1 pc = .ok (.ifCond .eq off, 3)) (ht : (pc : Int) + off = (tgt : Int)) (kt : x = 0 → Rn E μ mc ms Z u v tgt L st n h) (kf : ¬ (x = 0) → Rn E μ mc ms Z u v (pc + 3) L st n h) : Rn E μ mc ms Z u v pc L (.int x :: st) n h :=
  fun p e R s m args below meth c H locs ls C hz hP hD hS hl => lv_if_eq C.1 C.2.1 hd ht (fun q => kt q p e R s m args below meth c H locs ls C hz hP hD hS hl) (fun q => kf q p e R s m args below meth c H locs ls C hz hP hD hS hl)
theorem rn_icmp_ne {x y : Int32} {off : Int} {tgt : Nat} (hd : decode μ.2.1 pc = .ok (.if_icmp .ne off, 3)) (ht : (pc : Int) + off = (tgt : Int)) (kt : ¬ x = y → Rn E μ mc ms Z u v tgt L st n h) (kf : x = y → Rn E μ mc ms Z u v (pc + 3) L st n h) : Rn E μ mc ms Z u v pc L (.int y :: .int x :: st) n h :=
  fun p e R s m args below meth c H locs ls C hz hP hD hS hl => lv_icmp_ne C.1 C.2.1 hd ht (fun q => kt q p e R s m args below meth c H locs ls C hz hP hD hS hl) (fun q => kf q p e R s m args below meth c H locs ls C hz hP hD hS hl)
theorem rn_if_ne {x : Int32} {off : Int} {tgt : Nat} (hd : decode μ.2.1 pc = .ok (.ifCond .ne off, 3)) (ht : (pc : Int) + off = (tgt : Int)) (kt : ¬ x = 0 → Rn E μ mc ms Z u v tgt L st n h) (kf : x = 0 → Rn E μ mc ms Z u v (pc + 3) L st n h) : Rn E μ mc ms Z u v pc L (.int x :: st) n h :=
  fun p e R s m args below meth c H locs ls C hz hP hD hS hl => lv_if_ne C.1 C.2.1 hd ht (fun q => kt q p e R s m args below meth c H locs ls C hz hP hD hS hl) (fun q => kf q p e R s m args below meth c H locs ls C hz hP hD hS hl)
theorem rn_icmp_lt {x y : Int32} {off : Int} {tgt : Nat} (hd : decode μ.2.1 pc = .ok (.if_icmp .lt off, 3)) (ht : (pc : Int) + off = (tgt : Int)) (kt : x < y → Rn E μ mc ms Z u v tgt L st n h) (kf : ¬ (x < y) → Rn E μ mc ms Z u v (pc + 3) L st n h) : Rn E μ mc ms Z u v pc L (.int y :: .int x :: st) n h :=
  fun p e R s m args below meth c H locs ls C hz hP hD hS hl => lv_icmp_lt C.1 C.2.1 hd ht (fun q => kt q p e R s m args below meth c H locs ls C hz hP hD hS hl) (fun q => kf q p e R s m args below meth c H locs ls C hz hP hD hS hl)
theorem rn_if_lt {x : Int32} {off : Int} {tgt : Nat} (hd : decode μ.2.1 pc = .ok (.ifCond .lt off, 3)) (ht : (pc : Int) + off = (tgt : Int)) (kt : x < 0 → Rn E μ mc ms Z u v tgt L st n h) (kf : ¬ (x < 0) → Rn E μ mc ms Z u v (pc + 3) L st n h) : Rn E μ mc ms Z u v pc L (.int x :: st) n h :=
  fun p e R s m args below meth c H locs ls C hz hP hD hS hl => lv_if_lt C.1 C.2.1 hd ht (fun q => kt q p e R s m args below meth c H locs ls C hz hP hD hS hl) (fun q => kf q p e R s m args below meth c H locs ls C hz hP hD hS hl)
theorem rn_icmp_ge {x y : Int32} {off : Int} {tgt : Nat} (hd : decode μ.2.1 pc = .ok (.if_icmp .ge off, 3)) (ht : (pc : Int) + off = (tgt : Int)) (kt : y ≤ x → Rn E μ mc ms Z u v tgt L st n h) (kf : ¬ (y ≤ x) → Rn E μ mc ms Z u v (pc + 3) L st n h) : Rn E μ mc ms Z u v pc L (.int y :: .int x :: st) n h :=
  fun p e R s m args below meth c H locs ls C hz hP hD hS hl => lv_icmp_ge C.1 C.2.1 hd ht (fun q => kt q p e R s m args below meth c H locs ls C hz hP hD hS hl) (fun q => kf q p e R s m args below meth c H locs ls C hz hP hD hS hl)
theorem rn_if_ge {x : Int32} {off : Int} {tgt : Nat} (hd : decode μ.2.1 pc = .ok (.ifCond .ge off, 3)) (ht : (pc : Int) + off = (tgt : Int)) (kt : 0 ≤ x → Rn E μ mc ms Z u v tgt L st n h) (kf : ¬ (0 ≤ x) → Rn E μ mc ms Z u v (pc + 3) L st n h) : Rn E μ mc ms Z u v pc L (.int x :: st) n h :=
  fun p e R s m args below meth c H locs ls C hz hP hD hS hl => lv_if_ge C.1 C.2.1 hd ht (fun q => kt q p e R s m args below meth c H locs ls C hz hP hD hS hl) (fun q => kf q p e R s m args below meth c H locs ls C hz hP hD hS hl)
theorem rn_icmp_gt {x y : Int32} {off : Int} {tgt : Nat} (hd : decode μ.2.1 pc = .ok (.if_icmp .gt off, 3)) (ht : (pc : Int) + off = (tgt : Int)) (kt : y < x → Rn E μ mc ms Z u v tgt L st n h) (kf : ¬ (y < x) → Rn E μ mc ms Z u v (pc + 3) L st n h) : Rn E μ mc ms Z u v pc L (.int y :: .int x :: st) n h :=
  fun p e R s m args below meth c H locs ls C hz hP hD hS hl => lv_icmp_gt C.1 C.2.1 hd ht (fun q => kt q p e R s m args below meth c H locs ls C hz hP hD hS hl) (fun q => kf q p e R s m args below meth c H locs ls C hz hP hD hS hl)
theorem rn_if_gt {x : Int32} {off : Int} {tgt : Nat} (hd : decode μ.2.1 pc = .ok (.ifCond .gt off, 3)) (ht : (pc : Int) + off = (tgt : Int)) (kt : 0 < x → Rn E μ mc ms Z u v tgt L st n h) (kf : ¬ (0 < x) → Rn E μ mc ms Z u v (pc + 3) L st n h) : Rn E μ mc ms Z u v pc L (.int x :: st) n h :=
  fun p e R s m args below meth c H locs ls C hz hP hD hS hl => lv_if_gt C.1 C.2.1 hd ht (fun q => kt q p e R s m args below meth c H locs ls C hz hP hD hS hl) (fun q => kf q p e R s m args below meth c H locs ls C hz hP hD hS hl)
theorem rn_icmp_le {x y : Int32} {off : Int} {tgt : Nat} (hd : decode μ.2.1 pc = .ok (.if_icmp .le off, 3)) (ht : (pc : Int) + off = (tgt : Int)) (kt : x ≤ y → Rn E μ mc ms Z u v tgt L st n h) (kf : ¬ (x ≤ y) → Rn E μ mc ms Z u v (pc + 3) L st n h) : Rn E μ mc ms Z u v pc L (.int y :: .int x :: st) n h :=
  fun p e R s m args below meth c H locs ls C hz hP hD hS hl => lv_icmp_le C.1 C.2.1 hd ht (fun q => kt q p e R s m args below meth c H locs ls C hz hP hD hS hl) (fun q => kf q p e R s m args below meth c H locs ls C hz hP hD hS hl)
theorem rn_if_le {x : Int32} {off : Int} {tgt : Nat} (hd : decode μ.2.1 pc = .ok (.ifCond .le off, 3)) (ht : (pc : Int) + off = (tgt : Int)) (kt : x ≤ 0 → Rn E μ mc ms Z u v tgt L st n h) (kf : ¬ (x ≤ 0) → Rn E μ mc ms Z u v (pc + 3) L st n h) : Rn E μ mc ms Z u v pc L (.int x :: st) n h :=
  fun p e R s m args below meth c H locs ls C hz hP hD hS hl => lv_if_le C.1 C.2.1 hd ht (fun q => kt q p e R s m args below meth c H locs ls C hz hP hD hS hl) (fun q => kf q p e R s m args below meth c H locs ls C hz hP hD hS hl)
end RN
