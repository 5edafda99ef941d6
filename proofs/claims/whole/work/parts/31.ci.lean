/-! what was told, and what stands in the class's cells -/
abbrev Bd : Type := (Nat × (Nat → Nat) × Nat × (Nat → Nat)) × (Nat × Nat) × Hd × Hd × (Nat × (Nat → Nat) × (Nat → Nat) × (Nat → Nat)) × ((Nat → Bool) × (Nat → Nat) × (Nat → Nat) × (Nat → Nat → Int32)) × Nat
def dn0 (b : Bd) : Nat := b.1.1
def db0 (b : Bd) : Nat → Nat := b.1.2.1
def dn1 (b : Bd) : Nat := b.1.2.2.1
def db1 (b : Bd) : Nat → Nat := b.1.2.2.2
def dRm (b : Bd) : Nat := b.2.1.1
def dA (b : Bd) : Nat := b.2.1.2
def dH (b : Bd) : Hd := b.2.2.1
def dO (b : Bd) : Hd := b.2.2.2.1
def dF (b : Bd) : Nat × (Nat → Nat) × (Nat → Nat) × (Nat → Nat) := b.2.2.2.2.1
/-- sheets: which are there, their forms, sizes, items -/
def dS (b : Bd) : (Nat → Bool) × (Nat → Nat) × (Nat → Nat) × (Nat → Nat → Int32) := b.2.2.2.2.2.1
def dFi (b : Bd) : Nat := b.2.2.2.2.2.2
def dP (b : Bd) : Pm := (((famN (dn0 b) (db0 b), famM (dn1 b) (db1 b)), tSz (db0 b), tOw (db0 b), tKd (db0 b), cHo (db1 b), cWi (db1 b)), dRm b, dO b)
/-! plans -/
def fndF (p : Nat → Bool) : Nat → Nat → Option Nat
  | 0, _ => none
  | m + 1, i => if p i = true then some i else fndF p m (i + 1)
def fnd (p : Nat → Bool) (n : Nat) : Option Nat := fndF p n 0
def chk (P : Pm) (hd : Hd) (a c t h to : Nat) (s : Sg) : Bool := decide ((goN P hd a (h + 1) (to - h) (clo P a h s)).1 t = c)
def may (P : Pm) (k : Nat) : Bool := decide (k / 8 % 8 < pM P ∧ k % 8 < pN P)
def len1 (P : Pm) (hd : Hd) (a c t h to : Nat) (s : Sg) : Option Nat := fnd (fun k => may P k && chk P hd a c t h to (act P s k)) 128
def len2 (P : Pm) (hd : Hd) (a c t h to : Nat) (s : Sg) : Option Nat := fnd (fun k => may P k && (len1 P hd a c t h to (act P s k)).isSome) 128
def nO (o : Option Nat) : Int32 := match o with
  | some k => nI k
  | none => -1
def lendS (P : Pm) (hd : Hd) (a c t h to : Nat) : Int32 × Int32 × Int32 :=
  if to < h then (if (stN P hd a (to + 1)).1 t = c then (0, -1, -1) else (-1, -1, -1))
  else if chk P hd a c t h to (mid P hd h (stN P hd a h)) = true then (0, -1, -1)
  else match len1 P hd a c t h to (mid P hd h (stN P hd a h)) with
    | some k => (1, nI k, -1)
    | none => match len2 P hd a c t h to (mid P hd h (stN P hd a h)) with
      | some k => (2, nI k, nO (len1 P hd a c t h to (act P (mid P hd h (stN P hd a h)) k)))
      | none => (-1, -1, -1)
/-- the pocket never bulges over the bound, with these hours of the aunt's -/
def sok (P : Pm) (hd : Hd) (bd au : Nat) : Bool := (List.range 24).all (fun h => decide (ld P (stN P hd au (h + 1)) ≤ bd))
def sor2 (P : Pm) (hd : Hd) (bd one : Nat) : Option Nat := fnd (fun two => decide (one < two) && sok P hd bd (2 ^ one ||| 2 ^ two)) 24
def sortS (P : Pm) (hd : Hd) (bd : Nat) : Int32 × Int32 × Int32 :=
  if sok P hd bd 0 = true then (0, -1, -1)
  else match fnd (fun one => sok P hd bd (2 ^ one)) 24 with
    | some k => (1, nI k, -1)
    | none => match fnd (fun one => (sor2 P hd bd one).isSome) 24 with
      | some k => (2, nI k, nO (sor2 P hd bd k))
      | none => (-1, -1, -1)
def RowC (r : Nat → Int32) (v : Int32 × Int32 × Int32) : Prop := r 0 = v.1 ∧ r 1 = v.2.1 ∧ r 2 = v.2.2
def lcode (c t h to : Nat) : Nat := ((c * 8 + t) * 24 + h) * 24 + to
/-- what stands of plans is right -/
def PlC (P : Pm) (hd : Hd) (a : Nat) (H : Hi) : Prop :=
  (H 75 5 = -1 ∨ ∃ c t h to, c < 8 ∧ t < 8 ∧ h < 24 ∧ to < 24 ∧ H 75 5 = nI (lcode c t h to) ∧ RowC (H 76) (lendS P hd a c t h to)) ∧
  (H 75 6 = -1 ∨ ∃ bd, bd ≤ 72 ∧ H 75 6 = nI bd ∧ RowC (H 77) (sortS P hd bd))
def FeC (b : Bd) (H : Hi) : Prop := (dF b).1 ≤ 8 ∧ H 11 8 = nI (dF b).1 ∧ ∀ k, k < (dF b).1 → H 16 k = nI ((dF b).2.1 k) ∧ (dF b).2.1 k < 24 ∧ H 17 k = nI ((dF b).2.2.1 k) ∧ (dF b).2.2.1 k < 8 ∧ H 18 k = nI ((dF b).2.2.2 k) ∧ (dF b).2.2.2 k < 2
def ShC (b : Bd) (H : Hi) : Prop := ∀ s, s < 4 → H (91 + 2 * s) 1 = (if (dS b).1 s = true then nI ((dS b).2.2.1 s) else -1) ∧ (dS b).2.2.1 s ≤ 60 ∧ H (91 + 2 * s) 0 = nI ((dS b).2.1 s) ∧ (dS b).2.1 s ≤ 2 ∧ ∀ i, i < 60 → H (92 + 2 * s) i = (dS b).2.2.2 s i
def FR (b : Bd) (H : Hi) : Prop := FamC (dP b) H ∧ ToldC (dP b) (dH b) (dA b) H ∧ HoC (dP b) (dH b) (dA b) 24 H ∧ PlC (dP b) (dH b) (dA b) H
def CB (b : Bd) (H : Hi) : Prop := TxC (dn0 b) (db0 b) (dn1 b) (db1 b) H ∧ ToB (dP b) (dH b) (dA b) H ∧ dRm b ≤ 72 ∧ FeC b H ∧ ShC b H ∧ H 0 8 = nI (dFi b) ∧ (∀ k, 1 ≤ k → k ≤ 5 → H 23 k = 0)
/-- the class -/
def CI (b : Bd) (H : Hi) : Prop := CB b H ∧ (H 0 9 = 0 → FR b H)
theorem dP_ok {b : Bd} {H : Hi} (hC : CB b H) : PmOk (dP b) := by
  obtain ⟨hT, hB, hr, -⟩ := hC
  refine ⟨famN_le hT.2.2.1, famM_le hT.2.2.2.2.2.2.1, fun t ht => ?_, hr⟩
  obtain ⟨a1, a2, a3, a4, a5, a6⟩ := fam_t (n := dn0 b) (b := db0 b) ht
  show 1 ≤ tSz (db0 b) t ∧ tSz (db0 b) t ≤ 9 ∧ tOw (db0 b) t < 8 ∧ tKd (db0 b) t < 3
  unfold tSz tOw tKd
  refine ⟨by omega, by omega, by omega, ?_⟩
  split
  · omega
  · split <;> omega
theorem cb_keep {b : Bd} {H H' : Hi} (hC : CB b H) (h1 : ∀ c, 1 ≤ c → c ≤ 4 → H' c = H c) (h2 : ∀ c, 11 ≤ c → c ≤ 18 → H' c = H c) (h3 : ∀ c, 91 ≤ c → c ≤ 98 → H' c = H c) (h4 : H' 0 8 = H 0 8) (h5 : ∀ k, 1 ≤ k → k ≤ 5 → H' 23 k = 0) : CB b H' := by
  obtain ⟨a1, a2, a3, a4, a5, a6, a7⟩ := hC
  refine ⟨tx_keep a1 h1, toB_keep a2 (fun c z1 z2 => h2 c z1 (by omega)), a3, ?_, ?_, by rw [h4]; exact a6, h5⟩
  · unfold FeC
    rw [h2 11 (by decide) (by decide), h2 16 (by decide) (by decide), h2 17 (by decide) (by decide), h2 18 (by decide) (by decide)]
    exact a4
  · intro s hs
    rw [h3 (91 + 2 * s) (by omega) (by omega), h3 (92 + 2 * s) (by omega) (by omega)]
    exact a5 s hs
set_option maxHeartbeats 4000000 in
theorem ct_refresh {E : En} {Q : Option Value → Hi → Prop} {H : Hi} {b : Bd} (hC : CI b H)
    (hq : ∀ H' : Hi, (∀ c, 99 ≤ c → H' c = H c) → CB b H' → FR b H' → H' 0 9 = 0 → Q none H') : Cm E mX9_refresh [rf E 0] H Q := by
  obtain ⟨hB, hF⟩ := hC
  refine cmX9_refresh ⟨fun z => ?_, fun z => hq H (fun _ _ => rfl) hB (hF z) z⟩
  have ok := dP_ok hB
  obtain ⟨a1, a2, a3, a4, a5, a6, a7⟩ := id hB
  refine ct_learnT a1 ?_
  intro H1 f1 n1 t1
  refine ⟨rfl, ?_⟩
  have k1 : ∀ c, c ≠ 5 → c ≠ 6 → c ≠ 7 → c ≠ 8 → c ≠ 10 → H1 c = H c := f1.1
  refine ct_learnC (tx_keep a1 (fun c z1 z2 => k1 c (by omega) (by omega) (by omega) (by omega) (by omega))) ?_
  intro H2 f2 n2 t2
  refine ⟨rfl, ?_⟩
  have k2 : ∀ c, c < 5 ∨ 10 < c → H2 c = H c := fun c hc => by rw [f2.1 c (by omega) (by omega), k1 c (by omega) (by omega) (by omega) (by omega) (by omega)]
  have B2 : ToB (dP b) (dH b) (dA b) H2 := toB_keep a2 (fun c z1 z2 => k2 c (by omega))
  have F2 : FamC (dP b) H2 := by
    refine ⟨ok, ?_, n2, ?_, t2.1, ?_, ?_, ?_, B2.2.2.2.2.2.2.2.2, t2.2⟩
    · rw [f2.2 0 (by decide) (by decide)]; exact n1
    · intro t ht
      rw [f2.1 6 (by decide) (by decide), f2.1 7 (by decide) (by decide), f2.1 8 (by decide) (by decide)]
      exact t1.1 t ht
    · rw [f2.2 7 (by decide) (by decide)]; exact t1.2.1
    · rw [f2.2 8 (by decide) (by decide)]; exact t1.2.2.1
    · intro s hs
      rw [f2.1 10 (by decide) (by decide)]; exact t1.2.2.2 s hs
  refine ct_arrange B2 ?_
  intro H3 f3 T3
  refine ⟨rfl, ?_⟩
  have k3 : ∀ c, c < 5 ∨ (10 < c ∧ c < 19) ∨ 21 < c → H3 c = H c := fun c hc => by rw [f3 c (by omega) (by omega) (by omega), k2 c (by omega)]
  have F3 : FamC (dP b) H3 := fam_keep2 F2 (fun c z1 z2 => f3 c (by omega) (by omega) (by omega))
  refine ct_replay F3 T3 (fun k z1 z2 => by rw [k3 23 (by omega)]; exact a7 k z1 z2) ?_
  intro H4 c4 O4
  refine ⟨rfl, ?_⟩
  refine cmX3_drop ?_
  intro H5 g5 H6 g6
  refine ⟨rfl, ?_⟩
  intro H7 g7
  have k7 : ∀ c, c ≠ 75 → c ≠ 0 → H7 c = H4 c := fun c z1 z2 => by rw [g7, up_n z2, g6, up_n z1, g5, up_n z1]
  have k0 : ∀ k, k ≠ 9 → H7 0 k = H 0 k := fun k z1 => by rw [g7, up_s, upd_n z1, g6, up_n (by decide), g5, up_n (by decide), c4 0 (by omega), k3 0 (by omega)]
  have e75 : H7 75 = upd (upd (H4 75) 5 (-1)) 6 (-1) := by rw [g7, up_n (by decide), g6, up_s, g5, up_s]
  have kk : ∀ c, (1 ≤ c ∧ c < 5) ∨ (10 < c ∧ c < 19) ∨ 75 < c → H7 c = H c := fun c hc => by rw [k7 c (by omega) (by omega), c4 c (by omega), k3 c (by omega)]
  refine hq H7 (fun c hc => kk c (by omega)) (cb_keep hB (fun c z1 z2 => kk c (by omega)) (fun c z1 z2 => kk c (by omega)) (fun c z1 z2 => kk c (by omega)) (k0 8 (by decide)) (fun k z1 z2 => by rw [k7 23 (by decide) (by decide)]; exact O4.2.1 k z1 z2)) ⟨?_, ?_, ?_, ?_, ?_⟩ ?_
  · exact fam_keep2 F3 (fun c z1 z2 => by rw [k7 c (by omega) (by omega), c4 c (by omega)])
  · exact told_keep2 T3 (fun c z1 z2 => by rw [k7 c (by omega) (by omega), c4 c (by omega)])
  · obtain ⟨o1, o2, o3, o4⟩ := O4
    refine ⟨by rw [k7 23 (by decide) (by decide)]; exact o1, fun k z1 z2 => by rw [k7 23 (by decide) (by decide)]; exact o2 k z1 z2, by rw [k7 22 (by decide) (by decide)]; exact o3, fun j hj => ?_⟩
    rw [k7 (27 + 2 * j) (by omega) (by omega), k7 (28 + 2 * j) (by omega) (by omega)]
    exact o4 j hj
  · exact Or.inl (by rw [e75, upd_n (by decide), upd_s])
  · exact Or.inl (by rw [e75, upd_s])
  · rw [g7, up_s, upd_s]
