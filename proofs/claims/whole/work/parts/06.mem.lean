/-! memory -/
theorem wsO_get {E : En} {n c : Nat} {h : Hp} (hc : c < n) : (wsO E n h)[c]? = some (eAd E c, entE E (shp c) (h c)) := by simp [wsO, hc]
theorem wsO_obj {E : En} {n c ci N : Nat} {h : Hp} (hc : c < n) (hs : shp c = (ci, N)) (h100 : ci < 100) : (wsO E n h)[c]? = some (eAd E c, .inr (ci, (List.range N).map (h c))) := by
  rw [wsO_get hc, hs]; simp [entE, h100]
theorem wsO_int {E : En} {n c N : Nat} {h : Hp} (hc : c < n) (hs : shp c = (100, N)) : (wsO E n h)[c]? = some (eAd E c, .inl (eCA E 0, N, .inl (fun i => vI (h c i)))) := by
  rw [wsO_get hc, hs]; simp [entE]
theorem wsO_boo {E : En} {n c N : Nat} {h : Hp} (hc : c < n) (hs : shp c = (101, N)) : (wsO E n h)[c]? = some (eAd E c, .inl (eCA E 1, N, .inl (fun i => vI (h c i)))) := by
  rw [wsO_get hc, hs]; simp [entE]
theorem wsO_ref {E : En} {n c N t : Nat} {h : Hp} (hc : c < n) (hs : shp c = (t, N)) (ht : 102 ≤ t) : (wsO E n h)[c]? = some (eAd E c, .inl (eCA E (t - 100), N, .inr (.inr (.inr (.inr (fun i => vR (h c i))))))) := by
  rw [wsO_get hc, hs]; simp [entE, show ¬ t < 100 by omega, show ¬ t < 102 by omega]
def set2 (h : Hp) (c : Nat) (f : Nat → Value) : Hp := fun c' => if c' = c then f else h c'
def upd2 (h : Hp) (c k : Nat) (w : Value) : Hp := set2 h c (fun k' => if k' = k then w else h c k')
theorem wsO_set {E : En} {n c : Nat} {h : Hp} {e : va_E} {f : Nat → Value} (he : entE E (shp c) f = e) : (wsO E n h).set c (eAd E c, e) = wsO E n (set2 h c f) := by
  apply List.ext_getElem?
  intro i
  rw [List.getElem?_set]
  by_cases hi : c = i
  · subst hi
    rw [if_pos rfl]
    by_cases hn : c < n
    · rw [wsO_get hn, if_pos (by simpa [wsO] using hn)]
      simp [set2, he]
    · simp [wsO, hn]
  · rw [if_neg hi]
    by_cases hn : i < n
    · rw [wsO_get hn, wsO_get hn]
      have hi2 : ¬ i = c := fun q => hi q.symm
      simp [set2, hi2]
    · simp [wsO, hn]
theorem wsO_push {E : En} {n : Nat} {h : Hp} {e : va_E} {f : Nat → Value} (he : entE E (shp n) f = e) : wsO E n h ++ [(eAd E n, e)] = wsO E (n + 1) (set2 h n f) := by
  unfold wsO
  rw [List.range_succ, List.map_append]
  congr 1
  · refine List.map_congr_left (fun c hc => ?_)
    have : c ≠ n := Nat.ne_of_lt (List.mem_range.mp hc)
    simp [set2, this]
  · simp [set2, he]
/-- a field by its link -/
def FLc (own : String) (idx ci N k : Nat) (d : String) (fin : Bool) : Prop := ∃ (C : String) (T : u_T) (ty0 : Nat → FieldType),
  vwCl[ci]? = some (C, T, N) ∧ ci < 100 ∧ k < N ∧ (T k).2.2.1 = d ∧ Cond.fieldLink own idx (T k).1 (T k).2.1 (T k).2.2.1 ∈ lw_T ∧ (∀ w ∈ u_ws C T N, w ∈ lw_T) ∧
  (∀ j, j < N → parseFieldDescriptor (T j).2.2.1 = some (ty0 j)) ∧ (∀ a, a < N → ∀ b, b < N → a ≠ b → (T a).2.1 ≠ (T b).2.1) ∧ (T k).2.2.2 = fin ∧ (T k).1 = C
section RM1
variable {E : En} {μ : Mt} {mc ms : Nat} {Z : List Frame → Array Value → State → State → Prop} {u v : Nat} {pc : Nat} {L : List (Option Value)} {st : List Value} {n : Nat} {h : Hp}
theorem W_sz {p : Program} {l : Launch} {e : Env} {R : Room} {s : State} {m : MethodId} {args : Array Value} {below : List Frame} {meth : Method} {c : Code} {H : Heap} {locs : List Loc} {Q : State → Prop} {g : JFrame}
    (hE : ∀ c : Nat, c < 1000 → eAd E c = eB E + c) (hB : eB E ≤ s.heap.size) (hn : n < 1000) (hz : s.heap.size + u = eB E + n) (hP : va_P (eD E) vwCl (wsO E n h) H) (hS : va_S (eA E) s.heap H locs)
    (k : H.size = eB E + n → W p l e R s m args below meth c H locs u v Q g) : W p l e R s m args below meth c H locs u v Q g := by
  intro T hT X
  refine k ?_ T hT X
  have h1 : H.size ≤ s.heap.size + u := by rw [← hT]; exact X.heapSize
  have h2 : eB E + n ≤ H.size := by
    cases n with
    | zero => have := hS.1; omega
    | succ j =>
      have := (hP j _ (wsO_get (Nat.lt_succ_self j))).lt
      dsimp only at this
      rw [hE j (by omega)] at this
      omega
  omega
theorem rn_get {c k ci N idx : Nat} {d : String} {fin : Bool} (f : FLc μ.1.cls idx ci N k d fin) (hs : shp c = (ci, N)) (hc : c < n) (hd : decode μ.2.1 pc = .ok (.getfield idx, 3)) (kk : Rn E μ mc ms Z u v (pc + 3) L (h c k :: st) n h) : Rn E μ mc ms Z u v pc L (rf E c :: st) n h := by
  intro p e R s m args below meth cc H locs ls C hz hP hD hS hl
  obtain ⟨C0, T, ty0, hcl, h100, hk, -, hlink, hin, -, -, -, -⟩ := f
  obtain ⟨hx, hb, hr, hml, hown, hts, hK, -⟩ := id C
  exact va_get (own := μ.1.cls) (ref := (T k).1) hx hb hts hin hown hK hP c (wsO_obj hc hs h100) hcl k hk (hts _ hlink) (fun _ h => h) (v := h c k) (by simp [hk]) hd (kk p e R s m args below meth cc H locs ls C hz hP hD hS hl)
theorem ent_upd {E : En} {ci N k : Nat} {f : Nat → Value} {w : Value} (h100 : ci < 100) : entE E (ci, N) (fun k' => if k' = k then w else f k') = .inr (ci, ((List.range N).map f).set k w) := by
  simp only [entE, h100, if_true]
  congr 2
  apply List.ext_getElem?
  intro i
  rw [List.getElem?_set]
  by_cases hi : k = i
  · subst hi
    by_cases hn : k < N
    · simp [hn]
    · simp [hn]
  · have : ¬ i = k := fun q => hi q.symm
    by_cases hn : i < N
    · simp [hn, hi, this]
    · simp [hn, hi]
theorem rn_put {c k ci N idx : Nat} {d : String} {w : Value} {ty : FieldType} (f : FLc μ.1.cls idx ci N k d false) (hs : shp c = (ci, N)) (hc : c < n) (hty : parseFieldDescriptor d = some ty) (hn : narrow ty w = w) (hfit : fits ty w = true) (hd : decode μ.2.1 pc = .ok (.putfield idx, 3)) (kk : Rn E μ mc ms Z u v (pc + 3) L st n (upd2 h c k w)) : Rn E μ mc ms Z u v pc L (w :: rf E c :: st) n h := by
  intro p e R s m args below meth cc H locs ls C hz hP hD hS hl
  obtain ⟨C0, T, ty0, hcl, h100, hk, hdd, hlink, hin, ht0, hnm, hfin, -⟩ := f
  obtain ⟨hx, hb, hr, hml, hown, hts, hK, -⟩ := id C
  refine va_put (own := μ.1.cls) (ref := (T k).1) hx hb hts hin ty0 ht0 hnm hown hK hP hD hS c (wsO_obj hc hs h100) hcl k hk (hts _ hlink) (fun _ h => h) hfin (by rw [hdd]; exact hty) hn hfit (by simp [hk]) hd (fun H1 locs1 hP1 hD1 hS1 => ?_)
  rw [wsO_set (f := fun k' => if k' = k then w else h c k') (by rw [hs]; exact ent_upd h100)] at hP1 hD1
  exact kk p e R s m args below meth cc H1 locs1 ls C hz hP1 hD1 hS1 hl
theorem rn_putF {c k ci N idx : Nat} {d : String} {w : Value} {ty : FieldType} (f : FLc μ.1.cls idx ci N k d true) (hs : shp c = (ci, N)) (hc : c < n) (hini : μ.1.name = "<init>") (hC : (vwCl[ci]?).map (fun q => q.1) = some μ.1.cls) (hty : parseFieldDescriptor d = some ty) (hn : narrow ty w = w) (hfit : fits ty w = true) (hd : decode μ.2.1 pc = .ok (.putfield idx, 3)) (kk : Rn E μ mc ms Z u v (pc + 3) L st n (upd2 h c k w)) : Rn E μ mc ms Z u v pc L (w :: rf E c :: st) n h := by
  intro p e R s m args below meth cc H locs ls C hz hP hD hS hl
  obtain ⟨C0, T, ty0, hcl, h100, hk, hdd, hlink, hin, ht0, hnm, hfin, hdc⟩ := f
  obtain ⟨hx, hb, hr, hml, hown, hts, hK, -, -, -, hname, -⟩ := id C
  rw [hcl] at hC
  refine va_putF (own := μ.1.cls) (ref := (T k).1) hx hb hts hin ty0 ht0 hnm hown hK hP hD hS c (wsO_obj hc hs h100) hcl k hk (hts _ hlink) (fun _ h => h) hfin (hname hini) (by rw [hdc]; exact Option.some.inj hC) (by rw [hdd]; exact hty) hn hfit (by simp [hk]) hd (fun H1 locs1 hP1 hD1 hS1 => ?_)
  rw [wsO_set (f := fun k' => if k' = k then w else h c k') (by rw [hs]; exact ent_upd h100)] at hP1 hD1
  exact kk p e R s m args below meth cc H1 locs1 ls C hz hP1 hD1 hS1 hl
theorem rn_iald {c N : Nat} {i : Int32} (hs : shp c = (100, N)) (hc : c < n) (hin : vp_in i N) (hd : decode μ.2.1 pc = .ok (.iaload, 1)) (kk : Rn E μ mc ms Z u v (pc + 1) L (.int (vI (h c i.toNatClampNeg)) :: st) n h) : Rn E μ mc ms Z u v pc L (.int i :: rf E c :: st) n h := by
  intro p e R s m args below meth cc H locs ls C hz hP hD hS hl
  obtain ⟨hx, hb, hr, hml, hown, hts, hK, -⟩ := id C
  exact va_iald hx hb hK hP c 0 (wsO_int hc hs) rfl hin hd (kk p e R s m args below meth cc H locs ls C hz hP hD hS hl)
theorem rn_zald {c N : Nat} {i : Int32} (hs : shp c = (101, N)) (hc : c < n) (hin : vp_in i N) (hd : decode μ.2.1 pc = .ok (.baload, 1)) (kk : Rn E μ mc ms Z u v (pc + 1) L (.int (vI (h c i.toNatClampNeg)) :: st) n h) : Rn E μ mc ms Z u v pc L (.int i :: rf E c :: st) n h := by
  intro p e R s m args below meth cc H locs ls C hz hP hD hS hl
  obtain ⟨hx, hb, hr, hml, hown, hts, hK, -⟩ := id C
  exact va_zald hx hb hK hP c 1 (wsO_boo hc hs) rfl hin hd (kk p e R s m args below meth cc H locs ls C hz hP hD hS hl)
theorem rn_aald {c N t a : Nat} {i : Int32} {Cn : String} (hs : shp c = (t, N)) (hc : c < n) (ht : 102 ≤ t) (hty : (tysE E)[t - 100]? = some (eCA E (t - 100), .object Cn)) (hin : vp_in i N) (hv : h c i.toNatClampNeg = .ref a) (hd : decode μ.2.1 pc = .ok (.aaload, 1)) (kk : Rn E μ mc ms Z u v (pc + 1) L (.ref a :: st) n h) : Rn E μ mc ms Z u v pc L (.int i :: rf E c :: st) n h := by
  intro p e R s m args below meth cc H locs ls C hz hP hD hS hl
  obtain ⟨hx, hb, hr, hml, hown, hts, hK, -⟩ := id C
  have k2 := kk p e R s m args below meth cc H locs ls C hz hP hD hS hl
  refine va_aldq hx hb hK hP c (t - 100) (wsO_ref hc hs ht) hty hin hd ?_
  rw [hv]
  exact k2
theorem rn_iast {c N : Nat} {i x : Int32} (hs : shp c = (100, N)) (hc : c < n) (hin : vp_in i N) (hd : decode μ.2.1 pc = .ok (.iastore, 1)) (kk : Rn E μ mc ms Z u v (pc + 1) L st n (upd2 h c i.toNatClampNeg (.int x))) : Rn E μ mc ms Z u v pc L (.int x :: .int i :: rf E c :: st) n h := by
  intro p e R s m args below meth cc H locs ls C hz hP hD hS hl
  obtain ⟨hx, hb, hr, hml, hown, hts, hK, -⟩ := id C
  refine va_iast hx hb hK hP hD hS c 0 (wsO_int hc hs) rfl hin hd (fun H1 locs1 hP1 hD1 hS1 => ?_)
  rw [wsO_set (f := fun k' => if k' = i.toNatClampNeg then .int x else h c k') (by
    rw [hs]; simp only [entE]; simp only [show ¬ (100 < 100) by omega, if_false, show (100 < 102) by omega, if_true]; congr 4; funext k'; unfold upd; split <;> rfl)] at hP1 hD1
  exact kk p e R s m args below meth cc H1 locs1 ls C hz hP1 hD1 hS1 hl
theorem rn_zast {c N : Nat} {i x : Int32} (hs : shp c = (101, N)) (hc : c < n) (hin : vp_in i N) (hd : decode μ.2.1 pc = .ok (.bastore, 1)) (kk : Rn E μ mc ms Z u v (pc + 1) L st n (upd2 h c i.toNatClampNeg (.int (vp_nar .boolean x)))) : Rn E μ mc ms Z u v pc L (.int x :: .int i :: rf E c :: st) n h := by
  intro p e R s m args below meth cc H locs ls C hz hP hD hS hl
  obtain ⟨hx, hb, hr, hml, hown, hts, hK, -⟩ := id C
  refine va_zast hx hb hK hP hD hS c 1 (wsO_boo hc hs) rfl hin hd (fun H1 locs1 hP1 hD1 hS1 => ?_)
  rw [wsO_set (f := fun k' => if k' = i.toNatClampNeg then .int (vp_nar .boolean x) else h c k') (by
    rw [hs]; simp only [entE]; simp only [show ¬ (101 < 100) by omega, if_false, show (101 < 102) by omega, if_true]; congr 4; funext k'; unfold upd; split <;> rfl)] at hP1 hD1
  exact kk p e R s m args below meth cc H1 locs1 ls C hz hP1 hD1 hS1 hl
theorem rn_aast {c N t ci q Nq : Nat} {i : Int32} {r : vw_C} (hs : shp c = (t, N)) (hc : c < n) (ht : 102 ≤ t) (hty : (tysE E)[t - 100]? = some (eCA E (t - 100), .object r.1)) (hq : q < n) (hsq : shp q = (ci, Nq)) (h100 : ci < 100) (hcl : vwCl[ci]? = some r) (hin : vp_in i N) (hd : decode μ.2.1 pc = .ok (.aastore, 1)) (kk : Rn E μ mc ms Z u v (pc + 1) L st n (upd2 h c i.toNatClampNeg (rf E q))) : Rn E μ mc ms Z u v pc L (rf E q :: .int i :: rf E c :: st) n h := by
  intro p e R s m args below meth cc H locs ls C hz hP hD hS hl
  obtain ⟨hx, hb, hr, hml, hown, hts, hK, -⟩ := id C
  refine va_astq hx hb hK hP hD hS c (t - 100) q ci (wsO_ref hc hs ht) hty (wsO_obj hq hsq h100) hcl hin hd (fun H1 locs1 hP1 hD1 hS1 => ?_)
  rw [wsO_set (f := fun k' => if k' = i.toNatClampNeg then rf E q else h c k') (by
    rw [hs]; simp only [entE]; simp only [show ¬ (t < 100) by omega, if_false, show ¬ (t < 102) by omega]; congr 7; funext k'; unfold va_up; split <;> rfl)] at hP1 hD1
  exact kk p e R s m args below meth cc H1 locs1 ls C hz hP1 hD1 hS1 hl
theorem rn_alen {c N t : Nat} {x : Int32} {ty : FieldType} (hs : shp c = (t, N)) (hc : c < n) (ht : 100 ≤ t) (hty : (tysE E)[t - 100]? = some (eCA E (t - 100), ty)) (hN : Int32.ofNat N = x) (hd : decode μ.2.1 pc = .ok (.arraylength, 1)) (kk : Rn E μ mc ms Z u v (pc + 1) L (.int x :: st) n h) : Rn E μ mc ms Z u v pc L (rf E c :: st) n h := by
  intro p e R s m args below meth cc H locs ls C hz hP hD hS hl
  obtain ⟨hx, hb, hr, hml, hown, hts, hK, -⟩ := id C
  by_cases h102 : 102 ≤ t
  · exact va_alen hx hb hK hP c (t - 100) (wsO_ref hc hs h102) hty hN hd (kk p e R s m args below meth cc H locs ls C hz hP hD hS hl)
  · rcases (show t = 100 ∨ t = 101 by omega) with rfl | rfl
    · exact va_alen hx hb hK hP c 0 (wsO_int hc hs) hty hN hd (kk p e R s m args below meth cc H locs ls C hz hP hD hS hl)
    · exact va_alen hx hb hK hP c 1 (wsO_boo hc hs) hty hN hd (kk p e R s m args below meth cc H locs ls C hz hP hD hS hl)
theorem rn_iret {x : Int32} {mc ms k : Nat} {Q : Option Value → Hp → Prop} (hr : μ.2.2.2.1 = some .int) (hd : decode μ.2.1 pc = .ok (.ireturn, 1)) (hk : n = k) (hk2 : k < 1000) (hq : Q (some (.int x)) h) : Rn E μ mc ms (Zm E k mc ms Q) mc ms pc L [.int x] n h := by
  intro p e R s m args below meth cc H locs ls C hz hP hD hS hl
  subst hk
  obtain ⟨hx, hb, hr', hml, hown, hts, hK, hE, hB, hlk, -⟩ := id C
  refine W_sz hE.2.2.2.2.2.1 hB hk2 hz hP hS (fun hsz => ?_)
  exact W.iret hx hb (hr'.trans hr) (fun t ht hW => ⟨⟨_, h, rfl, hq, by rw [ht]; exact hP, va_K.moved hW.alike hK, hD, by rw [ht]; exact (hE.kept hB hS.2.1).warm hW, by rw [ht]; exact hsz⟩, hS.F ht⟩) hS.2.2 hd hlk
theorem rn_zret {x : Int32} {ty : FieldType} {mc ms k : Nat} {Q : Option Value → Hp → Prop} (hr : μ.2.2.2.1 = some ty) (hnr : narrow ty (.int x) = .int x) (hd : decode μ.2.1 pc = .ok (.ireturn, 1)) (hk : n = k) (hk2 : k < 1000) (hq : Q (some (.int x)) h) : Rn E μ mc ms (Zm E k mc ms Q) mc ms pc L [.int x] n h := by
  intro p e R s m args below meth cc H locs ls C hz hP hD hS hl
  subst hk
  obtain ⟨hx, hb, hr', hml, hown, hts, hK, hE, hB, hlk, -⟩ := id C
  refine W_sz hE.2.2.2.2.2.1 hB hk2 hz hP hS (fun hsz => ?_)
  exact W.zret hx hb (hr'.trans hr) hnr (fun t ht hW => ⟨⟨_, h, rfl, hq, by rw [ht]; exact hP, va_K.moved hW.alike hK, hD, by rw [ht]; exact (hE.kept hB hS.2.1).warm hW, by rw [ht]; exact hsz⟩, hS.F ht⟩) hS.2.2 hd hlk
theorem rn_lret {x : Int64} {mc ms k : Nat} {Q : Option Value → Hp → Prop} (hr : μ.2.2.2.1 = some .long) (hd : decode μ.2.1 pc = .ok (.lreturn, 1)) (hk : n = k) (hk2 : k < 1000) (hq : Q (some (.long x)) h) : Rn E μ mc ms (Zm E k mc ms Q) mc ms pc L [.long x] n h := by
  intro p e R s m args below meth cc H locs ls C hz hP hD hS hl
  subst hk
  obtain ⟨hx, hb, hr', hml, hown, hts, hK, hE, hB, hlk, -⟩ := id C
  refine W_sz hE.2.2.2.2.2.1 hB hk2 hz hP hS (fun hsz => ?_)
  exact W.lret hx hb (hr'.trans hr) (fun t ht hW => ⟨⟨_, h, rfl, hq, by rw [ht]; exact hP, va_K.moved hW.alike hK, hD, by rw [ht]; exact (hE.kept hB hS.2.1).warm hW, by rw [ht]; exact hsz⟩, hS.F ht⟩) hS.2.2 hd hlk
theorem rn_vret {mc ms k : Nat} {Q : Option Value → Hp → Prop} (hr : μ.2.2.2.1 = none) (hd : decode μ.2.1 pc = .ok (.return_, 1)) (hk : n = k) (hk2 : k < 1000) (hq : Q none h) : Rn E μ mc ms (Zm E k mc ms Q) mc ms pc L [] n h := by
  intro p e R s m args below meth cc H locs ls C hz hP hD hS hl
  subst hk
  obtain ⟨hx, hb, hr', hml, hown, hts, hK, hE, hB, hlk, -⟩ := id C
  refine W_sz hE.2.2.2.2.2.1 hB hk2 hz hP hS (fun hsz => ?_)
  exact W.vret hx hb (hr'.trans hr) (fun t ht hW => ⟨⟨_, h, rfl, hq, by rw [ht]; exact hP, va_K.moved hW.alike hK, hD, by rw [ht]; exact (hE.kept hB hS.2.1).warm hW, by rw [ht]; exact hsz⟩, hS.F ht⟩) hS.2.2 hd hlk
theorem rn_aret {a : Nat} {rt : FieldType} {mc ms k : Nat} {Q : Option Value → Hp → Prop} (hr : μ.2.2.2.1 = some rt) (hrt : (∃ n, rt = .object n) ∨ ∃ t, rt = .array t) (hd : decode μ.2.1 pc = .ok (.areturn, 1)) (hk : n = k) (hk2 : k < 1000) (hq : Q (some (.ref a)) h) : Rn E μ mc ms (Zm E k mc ms Q) mc ms pc L [.ref a] n h := by
  intro p e R s m args below meth cc H locs ls C hz hP hD hS hl
  subst hk
  obtain ⟨hx, hb, hr', hml, hown, hts, hK, hE, hB, hlk, -⟩ := id C
  refine W_sz hE.2.2.2.2.2.1 hB hk2 hz hP hS (fun hsz => ?_)
  exact W.aret hx hb (hr'.trans hr) hrt (Or.inr ⟨a, rfl⟩) (fun t ht hW => ⟨⟨_, h, rfl, hq, by rw [ht]; exact hP, va_K.moved hW.alike hK, hD, by rw [ht]; exact (hE.kept hB hS.2.1).warm hW, by rw [ht]; exact hsz⟩, hS.F ht⟩) hS.2.2 hd hlk
theorem rn_ldc {idx : Nat} {x : Int32} (hc : Cond.constant μ.1.cls idx x ∈ lw_T) (hd : decode μ.2.1 pc = .ok (.ldc idx, 2)) (kk : Rn E μ mc ms Z u v (pc + 2) L (.int x :: st) n h) : Rn E μ mc ms Z u v pc L st n h :=
  fun p e R s m args below meth c H locs ls C hz hP hD hS hl => lv_ldc C.1 C.2.1 C.2.2.2.2.1 (C.2.2.2.2.2.1 _ hc) hd (kk p e R s m args below meth c H locs ls C hz hP hD hS hl)
theorem rn_ldcw {idx : Nat} {x : Int32} (hc : Cond.constant μ.1.cls idx x ∈ lw_T) (hd : decode μ.2.1 pc = .ok (.ldc_w idx, 3)) (kk : Rn E μ mc ms Z u v (pc + 3) L (.int x :: st) n h) : Rn E μ mc ms Z u v pc L st n h :=
  fun p e R s m args below meth c H locs ls C hz hP hD hS hl => lv_ldcw C.1 C.2.1 C.2.2.2.2.1 (C.2.2.2.2.2.1 _ hc) hd (kk p e R s m args below meth c H locs ls C hz hP hD hS hl)
theorem rn_ldc2 {idx : Nat} {x : Int64} (hc : Cond.constantLong μ.1.cls idx x ∈ lw_T) (hd : decode μ.2.1 pc = .ok (.ldc2_w idx, 3)) (kk : Rn E μ mc ms Z u v (pc + 3) L (.long x :: st) n h) : Rn E μ mc ms Z u v pc L st n h :=
  fun p e R s m args below meth c H locs ls C hz hP hD hS hl => lv_ldc2 C.1 C.2.1 C.2.2.2.2.1 (C.2.2.2.2.2.1 _ hc) hd (kk p e R s m args below meth c H locs ls C hz hP hD hS hl)
theorem rn_ldcS {idx j : Nat} (hj : j < 6) (ho : μ.1.cls = "SharedPockets") (hi : [9, 11, 13, 24, 26, 28].getD j 0 = idx) (hd : decode μ.2.1 pc = .ok (.ldc idx, 2)) (kk : Rn E μ mc ms Z u v (pc + 2) L (rf E (1000 + j) :: st) n h) : Rn E μ mc ms Z u v pc L st n h := by
  intro p e R s m args below meth c H locs ls C hz hP hD hS hl
  obtain ⟨hx, hb, hr, hml, hown, hts, hK, hE, -⟩ := id C
  have h1 := hE.2.2.2.2.1 j hj
  rw [hi, ← ho] at h1
  exact va_ldcS hx hb hown h1 hd (kk p e R s m args below meth c H locs ls C hz hP hD hS hl)
theorem rn_tabOut {dflt lo hi : Int} {offs : Array Int} {len : Nat} {x : Int32} {tgt : Nat} (hd : decode μ.2.1 pc = .ok (.tableswitch dflt lo hi offs, len)) (hx : x.toInt < lo ∨ hi < x.toInt) (ht : (pc : Int) + dflt = (tgt : Int)) (kk : Rn E μ mc ms Z u v tgt L st n h) : Rn E μ mc ms Z u v pc L (.int x :: st) n h :=
  fun p e R s m args below meth c H locs ls C hz hP hD hS hl => lv_tableOut C.1 C.2.1 hd hx ht (kk p e R s m args below meth c H locs ls C hz hP hD hS hl)
theorem rn_tabIn {dflt lo hi : Int} {offs : Array Int} {len : Nat} {x : Int32} {off : Int} {tgt : Nat} (hd : decode μ.2.1 pc = .ok (.tableswitch dflt lo hi offs, len)) (h1 : ¬ x.toInt < lo) (h2 : ¬ hi < x.toInt) (ho : offs[(x.toInt - lo).toNat]? = some off) (ht : (pc : Int) + off = (tgt : Int)) (kk : Rn E μ mc ms Z u v tgt L st n h) : Rn E μ mc ms Z u v pc L (.int x :: st) n h :=
  fun p e R s m args below meth c H locs ls C hz hP hD hS hl => lv_tableIn C.1 C.2.1 hd h1 h2 ho ht (kk p e R s m args below meth c H locs ls C hz hP hD hS hl)
/-! the script -/
theorem rn_sld {i : Int32} (hin : vp_in i (eX E).2.1) (hd : decode μ.2.1 pc = .ok (.iaload, 1)) (kk : Rn E μ mc ms Z u v (pc + 1) L (.int ((eX E).2.2 i.toNatClampNeg) :: st) n h) : Rn E μ mc ms Z u v pc L (.int i :: rs E :: st) n h := by
  intro p e R s m args below meth c H locs ls C hz hP hD hS hl
  obtain ⟨hx, hb, hr, hml, hown, hts, hK, hE, hB, -⟩ := id C
  exact va_sld hx hb hE.2.2.1 (Nat.lt_of_lt_of_le hE.2.2.2.1 hB) (Nat.not_le.mpr hE.2.2.2.1) hS hin hd (kk p e R s m args below meth c H locs ls C hz hP hD hS hl)
theorem rn_slen (hd : decode μ.2.1 pc = .ok (.arraylength, 1)) (kk : Rn E μ mc ms Z u v (pc + 1) L (.int (Int32.ofNat (eX E).2.1) :: st) n h) : Rn E μ mc ms Z u v pc L (rs E :: st) n h := by
  intro p e R s m args below meth c H locs ls C hz hP hD hS hl
  obtain ⟨hx, hb, hr, hml, hown, hts, hK, hE, hB, -⟩ := id C
  exact va_slen hx hb hE.2.2.1 (Nat.lt_of_lt_of_le hE.2.2.2.1 hB) (Nat.not_le.mpr hE.2.2.2.1) hS hd (kk p e R s m args below meth c H locs ls C hz hP hD hS hl)
/-! the String constants -/
theorem rn_sval {idx j : Nat} (hj : j < 6) (hl : Cond.fieldLink μ.1.cls idx "java/lang/String" "value" "[B" ∈ lw_T) (hd : decode μ.2.1 pc = .ok (.getfield idx, 3)) (kk : Rn E μ mc ms Z u v (pc + 3) L (rv E j :: st) n h) : Rn E μ mc ms Z u v pc L (rf E (1000 + j) :: st) n h := by
  intro p e R s m args below meth c H locs ls C hz hP hD hS hll
  obtain ⟨hx, hb, hr, hml, hown, hts, hK, hE, hB, -⟩ := id C
  exact vk_getf hx hb (hE.1.1 j hj).2.2.1 hS hown (hts _ hl) (fun _ h => h) hd (kk p e R s m args below meth c H locs ls C hz hP hD hS hll)
theorem rn_scod {idx j : Nat} (hj : j < 6) (hl : Cond.fieldLink μ.1.cls idx "java/lang/String" "coder" "B" ∈ lw_T) (hd : decode μ.2.1 pc = .ok (.getfield idx, 3)) (kk : Rn E μ mc ms Z u v (pc + 3) L (.int 0 :: st) n h) : Rn E μ mc ms Z u v pc L (rf E (1000 + j) :: st) n h := by
  intro p e R s m args below meth c H locs ls C hz hP hD hS hll
  obtain ⟨hx, hb, hr, hml, hown, hts, hK, hE, hB, -⟩ := id C
  exact vk_getf hx hb (hE.1.1 j hj).2.1 hS hown (hts _ hl) (fun _ h => h) hd (kk p e R s m args below meth c H locs ls C hz hP hD hS hll)
theorem rn_scomp {idx : Nat} (hl : Cond.fieldLink μ.1.cls idx "java/lang/String" "COMPACT_STRINGS" "Z" ∈ lw_T) (hd : decode μ.2.1 pc = .ok (.getstatic idx, 3)) (kk : Rn E μ mc ms Z u v (pc + 3) L (.int 1 :: st) n h) : Rn E μ mc ms Z u v pc L st n h := by
  intro p e R s m args below meth c H locs ls C hz hP hD hS hll
  obtain ⟨hx, hb, hr, hml, hown, hts, hK, hE, hB, -⟩ := id C
  exact va_gets hx hb hE.2.1 hS hown (hts _ hl) (fun _ h => h) hd (kk p e R s m args below meth c H locs ls C hz hP hD hS hll)
theorem rn_slenB {j : Nat} {x : Int32} (hj : j < 6) (hx0 : Int32.ofNat (skLen.getD j 0) = x) (hd : decode μ.2.1 pc = .ok (.arraylength, 1)) (kk : Rn E μ mc ms Z u v (pc + 1) L (.int x :: st) n h) : Rn E μ mc ms Z u v pc L (rv E j :: st) n h := by
  intro p e R s m args below meth c H locs ls C hz hP hD hS hll
  obtain ⟨hx, hb, hr, hml, hown, hts, hK, hE, hB, -⟩ := id C
  obtain ⟨cell, h1, h2, h3, h4, h5, h6, h7⟩ := ((hE.1.1 j hj).2.2.2).kept hS.2.1
  exact W.alen (n := x) hx hb h1 h2 (by rw [h5]; exact hx0) rfl rfl hd (kk p e R s m args below meth c H locs ls C hz hP hD hS hll)
end RM1
