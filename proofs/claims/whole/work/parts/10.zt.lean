/-! THE MEMORY WHILE IT IS MADE: a list of rows -/
def rowf (l : List Value) : Nat → Value := fun k => l.getD k (.int 0)
def tb (T : List (List Value)) : Hp := fun c => rowf (T.getD c [])
theorem tb_push {T : List (List Value)} {n : Nat} {l : List Value} (hn : T.length = n) : set2 (tb T) n (rowf l) = tb (T ++ [l]) := by
  subst hn
  funext c
  unfold set2 tb
  by_cases hc : c = T.length
  · subst hc; simp
  · rw [if_neg hc]
    by_cases h : c < T.length
    · simp [List.getElem?_append_left h]
    · simp [List.getElem?_append_right (Nat.le_of_not_lt h), List.getElem?_eq_none (Nat.le_of_not_lt h), show ¬ c - T.length = 0 by omega]
theorem tb_at {B tl : List (List Value)} {c0 c i : Nat} (hB : B.length = c0) (hc : c = c0 + i) : tb (B ++ tl) c = rowf (tl.getD i []) := by
  subst hB; subst hc
  unfold tb
  congr 1
  rw [List.getD_eq_getElem?_getD, List.getD_eq_getElem?_getD, List.getElem?_append_right (by omega)]
  congr 2
  omega
theorem tb_upd {B tl : List (List Value)} {c0 c i k : Nat} {w : Value} (hB : B.length = c0) (hc : c = c0 + i) (hi : i < tl.length) (hk : k < (tl.getD i []).length) : upd2 (tb (B ++ tl)) c k w = tb (B ++ tl.set i ((tl.getD i []).set k w)) := by
  funext c' 
  unfold upd2 set2
  by_cases h : c' = c
  · subst h
    rw [if_pos rfl, tb_at hB hc, tb_at hB hc]
    funext k'
    unfold rowf
    have e : (tl.set i ((tl.getD i []).set k w)).getD i [] = (tl.getD i []).set k w := by simp [List.getD_eq_getElem?_getD, hi]
    rw [e]
    by_cases hk' : k' = k
    · subst hk'; simp [List.getD_eq_getElem?_getD] at hk ⊢; simp [hk]
    · have hk2 : ¬ k = k' := fun q => hk' q.symm
      rw [if_neg hk']; simp [List.getD_eq_getElem?_getD, List.getElem?_set, hk2]
  · rw [if_neg h]
    unfold tb
    congr 1
    simp only [List.getD_eq_getElem?_getD]
    by_cases hl : c' < B.length
    · rw [List.getElem?_append_left hl, List.getElem?_append_left hl]
    · rw [List.getElem?_append_right (by omega), List.getElem?_append_right (by omega), List.getElem?_set, if_neg (by omega)]
abbrev mL_law : Mt := (yL_law, cL_law, 4, ret, 14)
section RT
variable {E : En} {μ : Mt} {mc ms : Nat} {Z : List Frame → Array Value → State → State → Prop} {u v : Nat} {pc : Nat} {L : List (Option Value)} {st : List Value} {n : Nat} {h : Hp} {B tl T : List (List Value)} {c0 i : Nat}
theorem rt_get {c k ci N idx : Nat} {d : String} {fin : Bool} {w : Value} (hB : B.length = c0) (hi : c = c0 + i) (f : FLc μ.1.cls idx ci N k d fin) (hs : shp c = (ci, N)) (hc : c < n) (hw : (tl.getD i []).getD k (.int 0) = w) (hd : decode μ.2.1 pc = .ok (.getfield idx, 3)) (kk : Rn E μ mc ms Z u v (pc + 3) L (w :: st) n (tb (B ++ tl))) : Rn E μ mc ms Z u v pc L (rf E c :: st) n (tb (B ++ tl)) :=
  rn_get f hs hc hd (by rw [tb_at hB hi]; show Rn _ _ _ _ _ _ _ _ _ ((tl.getD i []).getD k (.int 0) :: st) _ _; rw [hw]; exact kk)
theorem rt_put {c k ci N idx : Nat} {d : String} {w : Value} {ty : FieldType} (hB : B.length = c0) (hi : c = c0 + i) (f : FLc μ.1.cls idx ci N k d false) (hs : shp c = (ci, N)) (hc : c < n) (hty : parseFieldDescriptor d = some ty) (hn : narrow ty w = w) (hfit : fits ty w = true) (hd : decode μ.2.1 pc = .ok (.putfield idx, 3)) (h1 : i < tl.length) (h2 : k < (tl.getD i []).length) (kk : Rn E μ mc ms Z u v (pc + 3) L st n (tb (B ++ tl.set i ((tl.getD i []).set k w)))) : Rn E μ mc ms Z u v pc L (w :: rf E c :: st) n (tb (B ++ tl)) :=
  rn_put f hs hc hty hn hfit hd (by rw [tb_upd hB hi h1 h2]; exact kk)
theorem rt_putF {c k ci N idx : Nat} {d : String} {w : Value} {ty : FieldType} (hB : B.length = c0) (hi : c = c0 + i) (f : FLc μ.1.cls idx ci N k d true) (hs : shp c = (ci, N)) (hc : c < n) (hini : μ.1.name = "<init>") (hC : (vwCl[ci]?).map (fun q => q.1) = some μ.1.cls) (hty : parseFieldDescriptor d = some ty) (hn : narrow ty w = w) (hfit : fits ty w = true) (hd : decode μ.2.1 pc = .ok (.putfield idx, 3)) (h1 : i < tl.length) (h2 : k < (tl.getD i []).length) (kk : Rn E μ mc ms Z u v (pc + 3) L st n (tb (B ++ tl.set i ((tl.getD i []).set k w)))) : Rn E μ mc ms Z u v pc L (w :: rf E c :: st) n (tb (B ++ tl)) :=
  rn_putF f hs hc hini hC hty hn hfit hd (by rw [tb_upd hB hi h1 h2]; exact kk)
theorem rt_aast {c N t ci q Nq j : Nat} {x : Int32} {r : vw_C} (hB : B.length = c0) (hi : c = c0 + i) (hs : shp c = (t, N)) (hc : c < n) (ht : 102 ≤ t) (hty : (tysE E)[t - 100]? = some (eCA E (t - 100), .object r.1)) (hq : q < n) (hsq : shp q = (ci, Nq)) (h100 : ci < 100) (hcl : vwCl[ci]? = some r) (hin : j < N ∧ x = nI j ∧ N < 2 ^ 31) (hd : decode μ.2.1 pc = .ok (.aastore, 1)) (h1 : i < tl.length) (h2 : j < (tl.getD i []).length) (kk : Rn E μ mc ms Z u v (pc + 1) L st n (tb (B ++ tl.set i ((tl.getD i []).set j (rf E q))))) : Rn E μ mc ms Z u v pc L (rf E q :: .int x :: rf E c :: st) n (tb (B ++ tl)) := by
  obtain ⟨a1, a2, a3⟩ := hin
  have hv := vp_of (i := x) ⟨a1, a2⟩ a3
  exact rn_aast hs hc ht hty hq hsq h100 hcl hv.1 hd (by rw [hv.2, tb_upd hB hi h1 h2]; exact kk)
theorem rt_new {idx ci N : Nat} {l : List Value} (C0 : String) (TT : u_T) (ty : Nat → FieldType) (hcl : vwCl[ci]? = some (C0, TT, N)) (h100 : ci < 100) (hin : ∀ w ∈ u_ws C0 TT N, w ∈ lw_T) (hty : ∀ k, k < N → parseFieldDescriptor (TT k).2.2.1 = some (ty k)) (hlk : Cond.classLink μ.1.cls idx C0 ∈ lw_T) (hins : Cond.instantiable C0 N ∈ lw_T) (hini : Cond.initialized C0 ∈ lw_T)
    (hsh : shp n = (ci, N)) (hf : ∀ j, j < N → defaultValue (ty j) = rowf l j) (hn : n < 999) (hroom : u + 1 ≤ mc ∧ v + N ≤ ms) (hd : decode μ.2.1 pc = .ok (.new idx, 3)) (hT : T.length = n)
    (kk : Rn E μ mc ms Z (u + 1) (v + N) (pc + 3) L (rf E n :: st) (n + 1) (tb (T ++ [l]))) : Rn E μ mc ms Z u v pc L st n (tb T) :=
  rn_new C0 TT ty hcl h100 hin hty hlk hins hini hsh hf hn hroom hd (by rw [tb_push hT]; exact kk)
theorem rt_newa {atype : ArrayType} {ty : FieldType} {t N : Nat} {x : Int32} (hta : newarray.typeOf atype = ty) (harr : Cond.arrayClass ty ∈ lw_T) (ht : t = 100 ∨ t = 101) (hty : (tysE E)[t - 100]? = some (eCA E (t - 100), ty)) (hp : ∀ C, ty ≠ .object C) (hdef : defaultValue ty = .int 0) (hN : x.toNatClampNeg = N) (h0 : ¬ x < 0) (hby : N * componentBytes ty ≤ 536870912)
    (hsh : shp n = (t, N)) (hn : n < 999) (hroom : u + 1 ≤ mc ∧ v + N ≤ ms) (hd : decode μ.2.1 pc = .ok (.newarray atype, 2)) (hT : T.length = n)
    (kk : Rn E μ mc ms Z (u + 1) (v + N) (pc + 2) L (rf E n :: st) (n + 1) (tb (T ++ [[]]))) : Rn E μ mc ms Z u v pc L (.int x :: st) n (tb T) :=
  rn_newa hta harr ht hty hp hdef hN h0 hby hsh hn hroom hd (by rw [← tb_push (l := []) hT] at kk; exact kk)
theorem rowf_rep (N : Nat) : rowf (List.replicate N (.int 0)) = fun _ => .int 0 := by
  funext k
  unfold rowf
  rw [List.getD_eq_getElem?_getD, List.getElem?_replicate]
  split <;> rfl
theorem wsO_null {E : En} {n N t : Nat} {h : Hp} (hs : shp n = (t, N)) (ht : 102 ≤ t) : wsO E (n + 1) (set2 h n (fun _ => .null)) = wsO E (n + 1) (set2 h n (fun _ => .int 0)) := by
  unfold wsO
  refine List.map_congr_left (fun c hc => ?_)
  by_cases h1 : c = n
  · subst h1
    simp [set2, hs, entE, show ¬ t < 100 by omega, show ¬ t < 102 by omega, vR]
  · simp [set2, h1]
theorem rn_same {n : Nat} {h h' : Hp} (he : wsO E n h = wsO E n h') (kk : Rn E μ mc ms Z u v pc L st n h') : Rn E μ mc ms Z u v pc L st n h :=
  fun p e R s m args below meth c H locs ls C hz hP hD hS hl => kk p e R s m args below meth c H locs ls C hz (by rw [← he]; exact hP) (by rw [← he]; exact hD) hS hl
theorem rt_newq {idx t N : Nat} {C0 : String} {x : Int32} (ht : 102 ≤ t) (hty : (tysE E)[t - 100]? = some (eCA E (t - 100), .object C0)) (hlk : Cond.classLink μ.1.cls idx C0 ∈ lw_T) (hov : C0 = RX6 ∨ C0 = RX5) (hN : x.toNatClampNeg = N) (h0 : ¬ x < 0) (hby : N * 4 ≤ 536870912)
    (hsh : shp n = (t, N)) (hn : n < 999) (hroom : u + 1 ≤ mc ∧ v + N ≤ ms) (hd : decode μ.2.1 pc = .ok (.anewarray idx, 3)) (hT : T.length = n)
    (kk : Rn E μ mc ms Z (u + 1) (v + N) (pc + 3) L (rf E n :: st) (n + 1) (tb (T ++ [List.replicate N (.int 0)]))) : Rn E μ mc ms Z u v pc L (.int x :: st) n (tb T) :=
  rn_newq ht hty hlk hov hN h0 hby hsh hn hroom hd (rn_same (wsO_null hsh ht) (by rw [← rowf_rep N, tb_push hT]; exact kk))
theorem ct_isEmpty {j : Nat} {Q : Option Value → Hp → Prop} (hj : j < 6) (hn : n < 1000) (hq : Q (some (.int (if nI (skLen.getD j 0) = 0 then 1 else 0))) h) : Ct E mJ0_isEmpty_aae02 0 0 [rf E (1000 + j)] n h Q := by
  refine ct_of (L0 := [some (rf E (1000 + j))]) (by decide +kernel : plainName RJ0 = true) (Nat.le_of_ble_eq_true rfl) rfl ?_
  refine rn_aload_n dJ0_isEmpty_aae02_0 rfl ?_
  refine rn_sval hj foRJ0_9 dJ0_isEmpty_aae02_1 ?_
  refine rn_slenB (x := nI (skLen.getD j 0)) hj rfl dJ0_isEmpty_aae02_4 ?_
  refine rn_if_ne (tgt := 12) dJ0_isEmpty_aae02_5 (by decide) (fun hc => ?_) (fun hc => ?_)
  · refine rn_iconst (x := 0) dJ0_isEmpty_aae02_12 (by decide) ?_
    rw [if_neg hc] at hq
    exact rn_zret (ty := .boolean) rfl rfl dJ0_isEmpty_aae02_13 rfl hn hq
  · refine rn_iconst (x := 1) dJ0_isEmpty_aae02_8 (by decide) ?_
    refine rn_goto (tgt := 13) dJ0_isEmpty_aae02_9 (by decide) ?_
    rw [if_pos hc] at hq
    exact rn_zret (ty := .boolean) rfl rfl dJ0_isEmpty_aae02_13 rfl hn hq
end RT
