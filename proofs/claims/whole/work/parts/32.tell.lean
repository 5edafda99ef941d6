/-! telling: texts, room, aunt -/
def un (x : Int32) : Nat := x.toNatClampNeg
def inN (N : Nat) (x : Int32) : Bool := decide (0 ≤ x.toInt ∧ x.toInt < (N : Int))
def bI (p : Bool) : Int32 := if p = true then 1 else 0
theorem bI_0 {p : Bool} : bI p = 0 ↔ p = false := by cases p <;> decide
theorem i_lt0 {x : Int32} : x < 0 ↔ x.toInt < 0 := Int32.lt_iff_toInt_lt
theorem i_ltn {x : Int32} {n : Nat} (h : n < 2 ^ 31) : x < nI n ↔ x.toInt < (n : Int) := by rw [Int32.lt_iff_toInt_lt, nI_toInt h]
theorem i_len {x : Int32} {n : Nat} (h : n < 2 ^ 31) : x ≤ nI n ↔ x.toInt ≤ (n : Int) := by rw [Int32.le_iff_toInt_le, nI_toInt h]
theorem i_nle {x : Int32} {n : Nat} (h : n < 2 ^ 31) : nI n ≤ x ↔ (n : Int) ≤ x.toInt := by rw [Int32.le_iff_toInt_le, nI_toInt h]
theorem un_nI {n : Nat} (h : n < 2 ^ 31) : un (nI n) = n := nI_clamp h
theorem inN_of {N : Nat} {x : Int32} (h : inN N x = true) (hN : N ≤ 2 ^ 31) : ∃ j, j < N ∧ x = nI j ∧ un x = j := by
  have h1 := of_decide_eq_true h
  have e : x = nI x.toInt.toNat := by
    apply Int32.toInt_inj.mp
    rw [nI_toInt (by omega)]
    omega
  refine ⟨x.toInt.toNat, by omega, e, ?_⟩
  have h2 : un (nI x.toInt.toNat) = x.toInt.toNat := un_nI (by omega)
  rw [← e] at h2
  exact h2
theorem inN_nI {N j : Nat} (h : j < N) (hN : N ≤ 2 ^ 31) : inN N (nI j) = true := by
  unfold inN
  rw [nI_toInt (by omega)]
  exact decide_eq_true ⟨by omega, by omega⟩
theorem inN_2 {x : Int32} : inN 2 x = true ↔ x = 0 ∨ x = 1 := by
  constructor
  · intro h
    obtain ⟨j, h1, h2, -⟩ := inN_of h (by decide)
    have : j = 0 ∨ j = 1 := by omega
    rcases this with e | e
    · left; rw [h2, e]; rfl
    · right; rw [h2, e]; rfl
  · rintro (e | e) <;> rw [e] <;> decide
theorem ct_isBit {E : En} {Q : Option Value → Hi → Prop} {H : Hi} {x : Int32} (hq : Q (some (.int (bI (inN 2 x)))) H) : Cm E mX9_isBit [.int x] H Q := by
  refine cmX9_isBit ⟨fun z => ?_, fun z => ⟨fun z2 => ?_, fun z2 => ?_⟩⟩
  · rw [inN_2.mpr (Or.inl z)] at hq; exact hq
  · have e : inN 2 x = false := by
      cases e : inN 2 x
      · rfl
      · rcases inN_2.mp e with e | e
        · exact absurd e z
        · exact absurd e z2
    rw [e] at hq; exact hq
  · rw [inN_2.mpr (Or.inr z2)] at hq; exact hq
theorem bI_nar (p : Bool) : narrow .boolean (.int (bI p)) = .int (bI p) := by cases p <;> rfl
theorem ct_isText {E : En} {Q : Option Value → Hi → Prop} {H : Hi} {x : Int32} (hq : Q (some (.int (bI (inN 2 x)))) H) : Cm E mX9_isText [.int x] H Q :=
  cmX9_isText (ct_isBit ⟨_, rfl, bI_nar _, hq⟩)
theorem inN_f0 {N : Nat} {x : Int32} (h : x < 0) : inN N x = false := by
  have := i_lt0.mp h
  exact decide_eq_false (by omega)
theorem inN_f1 {N : Nat} {x : Int32} (hN : N < 2 ^ 31) (h : nI N ≤ x) : inN N x = false := by
  have := (i_nle hN).mp h
  exact decide_eq_false (by omega)
theorem inN_t {N : Nat} {x : Int32} (hN : N < 2 ^ 31) (h0 : ¬ x < 0) (h : ¬ nI N ≤ x) : inN N x = true := by
  rw [i_nle hN] at h
  rw [i_lt0] at h0
  exact decide_eq_true (by omega)
theorem rng_of {E : En} {Q : Option Value → Hi → Prop} {H : Hi} {x y : Int32} {N : Nat} (hN : N < 2 ^ 31) (hy : y = nI N) (hq : Q (some (.int (bI (inN N x)))) H) :
    (x < 0 → (Q (some (.int 0)) H)) ∧ (¬ x < 0 → ((y ≤ x → (Q (some (.int 0)) H)) ∧ (¬ y ≤ x → (Q (some (.int 1)) H)))) := by
  subst hy
  refine ⟨fun z => ?_, fun z => ⟨fun z2 => ?_, fun z2 => ?_⟩⟩
  · rw [inN_f0 z] at hq; exact hq
  · rw [inN_f1 hN z2] at hq; exact hq
  · rw [inN_t hN z z2] at hq; exact hq
theorem ct_isHour {E : En} {Q : Option Value → Hi → Prop} {H : Hi} {x : Int32} (hq : Q (some (.int (bI (inN 24 x)))) H) : Cm E mX9_isHour [.int x] H Q :=
  cmX9_isHour (rng_of (E := E) (N := 24) (by decide) rfl hq)
theorem ct_isEighth {E : En} {Q : Option Value → Hi → Prop} {H : Hi} {x : Int32} (hq : Q (some (.int (bI (inN 8 x)))) H) : Cm E mX9_isEighth [.int x] H Q :=
  cmX9_isEighth (rng_of (E := E) (N := 8) (by decide) rfl hq)
theorem ct_isSheet {E : En} {Q : Option Value → Hi → Prop} {H : Hi} {x : Int32} (hq : Q (some (.int (bI (inN 4 x)))) H) : Cm E mX9_isSheet [.int x] H Q :=
  cmX9_isSheet (rng_of (E := E) (N := 4) (by decide) rfl hq)
theorem ct_isThing {E : En} {Q : Option Value → Hi → Prop} {H : Hi} {x : Int32} {P : Pm} (hF : FamC P H) (hq : Q (some (.int (bI (inN (pN P) x)))) H) : Cm E mX9_isThing [rf E 0, .int x] H Q :=
  cmX9_isThing (rng_of (E := E) (N := pN P) (by have := hF.1.1; omega) hF.2.1 hq)
theorem ct_isCousin {E : En} {Q : Option Value → Hi → Prop} {H : Hi} {x : Int32} {P : Pm} (hF : FamC P H) (hq : Q (some (.int (bI (inN (pM P) x)))) H) : Cm E mX9_isCousin [rf E 0, .int x] H Q :=
  cmX9_isCousin (rng_of (E := E) (N := pM P) (by have := hF.1.2.1; omega) hF.2.2.1 hq)
def nup (f : Nat → Nat) (k v : Nat) : Nat → Nat := fun i => if i = k then v else f i
def wT0 (b : Bd) (n : Nat) (f : Nat → Nat) : Bd := ((n, f, b.1.2.2.1, b.1.2.2.2), b.2)
def wT1 (b : Bd) (n : Nat) (f : Nat → Nat) : Bd := ((b.1.1, b.1.2.1, n, f), b.2)
def wRm (b : Bd) (r : Nat) : Bd := (b.1, (r, b.2.1.2), b.2.2)
def wA (b : Bd) (a : Nat) : Bd := (b.1, (b.2.1.1, a), b.2.2)
def wH (b : Bd) (d : Hd) : Bd := (b.1, b.2.1, d, b.2.2.2)
def wO (b : Bd) (d : Hd) : Bd := (b.1, b.2.1, b.2.2.1, d, b.2.2.2.2)
def wF (b : Bd) (f : Nat × (Nat → Nat) × (Nat → Nat) × (Nat → Nat)) : Bd := (b.1, b.2.1, b.2.2.1, b.2.2.2.1, f, b.2.2.2.2.2)
def wS (b : Bd) (s : (Nat → Bool) × (Nat → Nat) × (Nat → Nat) × (Nat → Nat → Int32)) : Bd := (b.1, b.2.1, b.2.2.1, b.2.2.2.1, b.2.2.2.2.1, s, b.2.2.2.2.2.2)
def wFi (b : Bd) (f : Nat) : Bd := (b.1, b.2.1, b.2.2.1, b.2.2.2.1, b.2.2.2.2.1, b.2.2.2.2.2.1, f)
/-- a call's contract, for the class -/
def Cc (E : En) (μ : Mt) (as : List Value) (b : Bd) (r : Int32 × Bd) : Prop :=
  ∀ (H : Hi) (Q : Option Value → Hi → Prop), CI b H → (∀ H' : Hi, (∀ c, 99 ≤ c → H' c = H c) → CI r.2 H' → Q (some (.int r.1)) H') → Cm E μ as H Q
def sType (b : Bd) (x y : Int32) : Int32 × Bd :=
  if inN 2 x = true ∧ inN 256 y = true then
    if x = 0 then (if dn0 b < 31 then (nI (dn0 b + 1), wT0 b (dn0 b + 1) (nup (db0 b) (dn0 b) (un y))) else (-4, b))
    else (if dn1 b < 23 then (nI (dn1 b + 1), wT1 b (dn1 b + 1) (nup (db1 b) (dn1 b) (un y))) else (-4, b))
  else (-2, b)
theorem ci_stale {b : Bd} {H : Hi} (hB : CB b H) (h9 : H 0 9 = 1) : CI b H := ⟨hB, fun z => by rw [h9] at z; exact absurd z (by decide)⟩
theorem cb_st {b : Bd} {H : Hi} (hB : CB b H) : CB b (up H 0 9 1) :=
  cb_keep hB (fun c _ _ => up_n (by omega)) (fun c _ _ => up_n (by omega)) (fun c _ _ => up_n (by omega)) (by rw [up_s, upd_n (by decide)]) (fun k z1 z2 => by rw [up_n (by decide)]; exact hB.2.2.2.2.2.2 k z1 z2)
theorem i_255 {y : Int32} (h0 : ¬ y < 0) (h : y ≤ 255) : inN 256 y = true := by
  have h1 := (i_len (n := 255) (by decide)).mp h
  rw [i_lt0] at h0
  exact decide_eq_true (by omega)
theorem i_255f {y : Int32} (h : ¬ y ≤ 255) : inN 256 y = false := by
  have h1 := mt (i_len (n := 255) (by decide)).mpr h
  exact decide_eq_false (by omega)
abbrev Tx4 : Type := Nat × (Nat → Nat) × Nat × (Nat → Nat)
theorem cb_tx {b : Bd} {H H' : Hi} {v : Tx4} (hC : CB b H) (hT : TxC v.1 v.2.1 v.2.2.1 v.2.2.2 H') (h : ∀ c, 5 ≤ c → H' c = H c) (h0 : H' 0 = H 0) : CB (v, b.2) H' := by
  obtain ⟨-, a2, a3, a4, a5, a6, a7⟩ := hC
  refine ⟨hT, ?_, a3, ?_, ?_, by rw [h0]; exact a6, fun k z1 z2 => by rw [h 23 (by decide)]; exact a7 k z1 z2⟩
  · exact toB_keep (H := H) a2 (fun c z1 _ => h c (by omega))
  · unfold FeC
    rw [h 11 (by decide), h 16 (by decide), h 17 (by decide), h 18 (by decide)]
    exact a4
  · intro s hs
    rw [h (91 + 2 * s) (by omega), h (92 + 2 * s) (by omega)]
    exact a5 s hs
set_option maxHeartbeats 2000000 in
theorem cc_type {E : En} {b : Bd} {x y : Int32} : Cc E mX9_type [rf E 0, .int x, .int y] b (sType b x y) := by
  intro H Q hC hq
  refine cmX9_type (ct_isText ⟨_, rfl, fun z => ?_, fun z => ⟨fun z2 => ?_, fun z2 => ⟨fun z3 => ?_, fun z3 => ?_⟩⟩⟩)
  · have e : sType b x y = (-2, b) := if_neg (by rw [bI_0.mp z]; simp)
    rw [e] at hq; exact hq H (fun _ _ => rfl) hC
  · have e : sType b x y = (-2, b) := if_neg (by rw [inN_f0 z2]; simp)
    rw [e] at hq; exact hq H (fun _ _ => rfl) hC
  · have x2 : inN 2 x = true := by
      cases e : inN 2 x
      · rw [e] at z; exact absurd rfl z
      · rfl
    have y2 := i_255 z2 z3
    have e : sType b x y = _ := if_pos ⟨x2, y2⟩
    rw [e] at hq
    intro H1 g1
    have B1 := cb_st hC.1
    rw [← g1] at B1
    have o1 : H1 0 9 = 1 := by rw [g1, up_s, upd_s]
    have k1 : ∀ c, 99 ≤ c → H1 c = H c := fun c hc => by rw [g1, up_n (by omega)]
    obtain ⟨j, j1, j2, j3⟩ := inN_of y2 (by decide)
    obtain ⟨t1, t2, t3, t4, t5, t6, t7, t8⟩ := B1.1
    refine cmX9_textOf ⟨fun z4 => Or.inr ⟨rfl, ?_⟩, fun z4 => Or.inl ⟨rfl, ?_⟩⟩
    · rw [if_neg z4] at hq
      refine cmX7_append_i3 ⟨fun z5 => ?_, fun z5 => ?_⟩
      · rw [t6] at z5
        have n5 : dn1 b < 23 := (nI_ltI (by omega) (by decide)).mp z5
        rw [if_pos n5] at hq
        refine ⟨dn1 b, ⟨n5, t6⟩, ?_⟩
        intro H2 g2 H3 g3
        have e3 : H3 3 5 = nI (dn1 b + 1) := by rw [g3, up_s, upd_s, g2, up_n (by decide), t6, nI_succ]
        refine ⟨_, rfl, ?_⟩
        rw [e3]
        have kk : ∀ c, c ≠ 3 → c ≠ 4 → H3 c = H1 c := fun c z1 z2 => by rw [g3, up_n z1, g2, up_n z2]
        refine hq H3 (fun c hc => by rw [kk c (by omega) (by omega), k1 c hc]) (ci_stale (cb_tx (v := (dn0 b, db0 b, dn1 b + 1, nup (db1 b) (dn1 b) (un y))) B1 ?_ (fun c hc => kk c (by omega) (by omega)) (kk 0 (by decide) (by decide))) (by rw [kk 0 (by decide) (by decide), o1]))
        refine ⟨by rw [kk 1 (by decide) (by decide)]; exact t1, by rw [kk 1 (by decide) (by decide)]; exact t2, t3, by rw [kk 2 (by decide) (by decide)]; exact t4, by rw [g3, up_s, upd_n (by decide), g2, up_n (by decide)]; exact t5, e3, Nat.succ_le_of_lt n5, fun i hi => ?_⟩
        rw [g3, up_n (by decide), g2, up_s]
        show upd _ _ _ i = nI (nup (db1 b) (dn1 b) (un y) i) ∧ nup (db1 b) (dn1 b) (un y) i < 256
        unfold nup
        by_cases ei : i = dn1 b
        · rw [if_pos ei, ei, upd_s, j3]; exact ⟨j2, by omega⟩
        · have hi' : i < dn1 b + 1 := hi
          rw [if_neg ei, upd_n ei]; exact t8 i (by omega)
      · rw [t6] at z5
        have n5 : ¬ dn1 b < 23 := fun q => z5 (nI_lt q (by decide))
        rw [if_neg n5] at hq
        exact ⟨_, rfl, hq H1 k1 (ci_stale B1 o1)⟩
    · rw [if_pos z4] at hq
      refine cmX7_append_i1 ⟨fun z5 => ?_, fun z5 => ?_⟩
      · rw [t2] at z5
        have n5 : dn0 b < 31 := (nI_ltI (by omega) (by decide)).mp z5
        rw [if_pos n5] at hq
        refine ⟨dn0 b, ⟨n5, t2⟩, ?_⟩
        intro H2 g2 H3 g3
        have e3 : H3 1 5 = nI (dn0 b + 1) := by rw [g3, up_s, upd_s, g2, up_n (by decide), t2, nI_succ]
        refine ⟨_, rfl, ?_⟩
        rw [e3]
        have kk : ∀ c, c ≠ 1 → c ≠ 2 → H3 c = H1 c := fun c z1 z2 => by rw [g3, up_n z1, g2, up_n z2]
        refine hq H3 (fun c hc => by rw [kk c (by omega) (by omega), k1 c hc]) (ci_stale (cb_tx (v := (dn0 b + 1, nup (db0 b) (dn0 b) (un y), dn1 b, db1 b)) B1 ?_ (fun c hc => kk c (by omega) (by omega)) (kk 0 (by decide) (by decide))) (by rw [kk 0 (by decide) (by decide), o1]))
        refine ⟨by rw [g3, up_s, upd_n (by decide), g2, up_n (by decide)]; exact t1, e3, Nat.succ_le_of_lt n5, fun i hi => ?_, by rw [kk 3 (by decide) (by decide)]; exact t5, by rw [kk 3 (by decide) (by decide)]; exact t6, t7, by rw [kk 4 (by decide) (by decide)]; exact t8⟩
        rw [g3, up_n (by decide), g2, up_s]
        show upd _ _ _ i = nI (nup (db0 b) (dn0 b) (un y) i) ∧ nup (db0 b) (dn0 b) (un y) i < 256
        unfold nup
        by_cases ei : i = dn0 b
        · rw [if_pos ei, ei, upd_s, j3]; exact ⟨j2, by omega⟩
        · have hi' : i < dn0 b + 1 := hi
          rw [if_neg ei, upd_n ei]; exact t4 i (by omega)
      · rw [t2] at z5
        have n5 : ¬ dn0 b < 31 := fun q => z5 (nI_lt q (by decide))
        rw [if_neg n5] at hq
        exact ⟨_, rfl, hq H1 k1 (ci_stale B1 o1)⟩
  · have e : sType b x y = (-2, b) := if_neg (by rw [i_255f z3]; simp)
    rw [e] at hq; exact hq H (fun _ _ => rfl) hC
def sWipe (b : Bd) (x : Int32) : Int32 × Bd :=
  if inN 2 x = true then (if x = 0 then (nI (dn0 b), wT0 b 0 (db0 b)) else (nI (dn1 b), wT1 b 0 (db1 b))) else (-2, b)
theorem bI_1 {p : Bool} (h : ¬ bI p = 0) : p = true := by cases p <;> simp_all [bI]
theorem ni_z : (0 : Int32) = nI 0 := rfl
theorem cc_wipe {E : En} {b : Bd} {x : Int32} : Cc E mX9_wipe [rf E 0, .int x] b (sWipe b x) := by
  intro H Q hC hq
  refine cmX9_wipe (ct_isText ⟨_, rfl, fun z => ?_, fun z => ?_⟩)
  · have e : sWipe b x = _ := if_pos (bI_1 z)
    rw [e] at hq
    intro H1 g1
    have B1 := cb_st hC.1
    rw [← g1] at B1
    have o1 : H1 0 9 = 1 := by rw [g1, up_s, upd_s]
    have k1 : ∀ c, 99 ≤ c → H1 c = H c := fun c hc => by rw [g1, up_n (by omega)]
    obtain ⟨t1, t2, t3, t4, t5, t6, t7, t8⟩ := B1.1
    refine cmX9_textOf ⟨fun z4 => Or.inr ⟨rfl, ?_⟩, fun z4 => Or.inl ⟨rfl, ?_⟩⟩
    · rw [if_neg z4] at hq
      intro y gy H2 g2
      rw [gy, t6]
      have kk : ∀ c, c ≠ 3 → H2 c = H1 c := fun c z1 => by rw [g2, up_n z1]
      refine hq H2 (fun c hc => by rw [kk c (by omega), k1 c hc]) (ci_stale (cb_tx (v := (dn0 b, db0 b, 0, db1 b)) B1 ?_ (fun c hc => kk c (by omega)) (kk 0 (by decide))) (by rw [kk 0 (by decide), o1]))
      exact ⟨by rw [kk 1 (by decide)]; exact t1, by rw [kk 1 (by decide)]; exact t2, t3, by rw [kk 2 (by decide)]; exact t4, by rw [g2, up_s, upd_n (by decide)]; exact t5, by rw [g2, up_s, upd_s]; exact ni_z, Nat.zero_le _, fun i hi => absurd hi (Nat.not_lt_zero i)⟩
    · rw [if_pos z4] at hq
      intro y gy H2 g2
      rw [gy, t2]
      have kk : ∀ c, c ≠ 1 → H2 c = H1 c := fun c z1 => by rw [g2, up_n z1]
      refine hq H2 (fun c hc => by rw [kk c (by omega), k1 c hc]) (ci_stale (cb_tx (v := (0, db0 b, dn1 b, db1 b)) B1 ?_ (fun c hc => kk c (by omega)) (kk 0 (by decide))) (by rw [kk 0 (by decide), o1]))
      exact ⟨by rw [g2, up_s, upd_n (by decide)]; exact t1, by rw [g2, up_s, upd_s]; exact ni_z, Nat.zero_le _, fun i hi => absurd hi (Nat.not_lt_zero i), by rw [kk 3 (by decide)]; exact t5, by rw [kk 3 (by decide)]; exact t6, t7, by rw [kk 4 (by decide)]; exact t8⟩
  · have e : sWipe b x = (-2, b) := if_neg (by rw [bI_0.mp z]; simp)
    rw [e] at hq; exact hq H (fun _ _ => rfl) hC
def sUndo (b : Bd) (x : Int32) : Int32 × Bd :=
  if inN 2 x = true then (if x = 0 then (if dn0 b = 0 then (-3, b) else (nI (dn0 b - 1), wT0 b (dn0 b - 1) (db0 b))) else (if dn1 b = 0 then (-3, b) else (nI (dn1 b - 1), wT1 b (dn1 b - 1) (db1 b)))) else (-2, b)
theorem ni_prd {n : Nat} (h : n ≠ 0) : nI n - 1 = nI (n - 1) := by
  obtain ⟨m, rfl⟩ : ∃ m, n = m + 1 := ⟨n - 1, by omega⟩
  rw [nI_succ, Int32.add_sub_cancel]; rfl
theorem nI_eq0 {n : Nat} (h : n < 2 ^ 31) : nI n = 0 ↔ n = 0 := ⟨fun q => nI_inj (by omega) (by decide) q, fun q => by rw [q]; rfl⟩
theorem cc_undo {E : En} {b : Bd} {x : Int32} : Cc E mX9_undo [rf E 0, .int x] b (sUndo b x) := by
  intro H Q hC hq
  refine cmX9_undo (ct_isText ⟨_, rfl, fun z => ?_, fun z => ?_⟩)
  · have e : sUndo b x = _ := if_pos (bI_1 z)
    rw [e] at hq
    obtain ⟨t1, t2, t3, t4, t5, t6, t7, t8⟩ := hC.1.1
    refine cmX9_textOf ⟨fun z4 => Or.inr ⟨rfl, ?_⟩, fun z4 => Or.inl ⟨rfl, ?_⟩⟩
    · rw [if_neg z4] at hq
      rw [t6, nI_eq0 (by omega)]
      refine ⟨fun n0 => ?_, fun n0 => ?_⟩
      · rw [if_neg n0] at hq
        intro H1 g1 H2 g2
        have B1 := cb_st hC.1
        rw [← g1] at B1
        have o1 : H1 0 9 = 1 := by rw [g1, up_s, upd_s]
        have k1 : ∀ c, 99 ≤ c → H1 c = H c := fun c hc => by rw [g1, up_n (by omega)]
        obtain ⟨t1, t2, t3, t4, t5, t6, t7, t8⟩ := B1.1
        have kk : ∀ c, c ≠ 3 → H2 c = H1 c := fun c z1 => by rw [g2, up_n z1]
        have e3 : H2 3 5 = nI (dn1 b - 1) := by rw [g2, up_s, upd_s, t6, ni_prd n0]
        rw [e3]
        refine hq H2 (fun c hc => by rw [kk c (by omega), k1 c hc]) (ci_stale (cb_tx (v := (dn0 b, db0 b, dn1 b - 1, db1 b)) B1 ?_ (fun c hc => kk c (by omega)) (kk 0 (by decide))) (by rw [kk 0 (by decide), o1]))
        exact ⟨by rw [kk 1 (by decide)]; exact t1, by rw [kk 1 (by decide)]; exact t2, t3, by rw [kk 2 (by decide)]; exact t4, by rw [g2, up_s, upd_n (by decide)]; exact t5, e3, Nat.le_trans (Nat.sub_le _ _) t7, fun i hi => by rw [kk 4 (by decide)]; exact t8 i (Nat.lt_of_lt_of_le hi (Nat.sub_le _ _))⟩
      · rw [if_pos n0] at hq
        exact hq H (fun _ _ => rfl) hC
    · rw [if_pos z4] at hq
      rw [t2, nI_eq0 (by omega)]
      refine ⟨fun n0 => ?_, fun n0 => ?_⟩
      · rw [if_neg n0] at hq
        intro H1 g1 H2 g2
        have B1 := cb_st hC.1
        rw [← g1] at B1
        have o1 : H1 0 9 = 1 := by rw [g1, up_s, upd_s]
        have k1 : ∀ c, 99 ≤ c → H1 c = H c := fun c hc => by rw [g1, up_n (by omega)]
        obtain ⟨t1, t2, t3, t4, t5, t6, t7, t8⟩ := B1.1
        have kk : ∀ c, c ≠ 1 → H2 c = H1 c := fun c z1 => by rw [g2, up_n z1]
        have e3 : H2 1 5 = nI (dn0 b - 1) := by rw [g2, up_s, upd_s, t2, ni_prd n0]
        rw [e3]
        refine hq H2 (fun c hc => by rw [kk c (by omega), k1 c hc]) (ci_stale (cb_tx (v := (dn0 b - 1, db0 b, dn1 b, db1 b)) B1 ?_ (fun c hc => kk c (by omega)) (kk 0 (by decide))) (by rw [kk 0 (by decide), o1]))
        exact ⟨by rw [g2, up_s, upd_n (by decide)]; exact t1, e3, Nat.le_trans (Nat.sub_le _ _) t3, fun i hi => by rw [kk 2 (by decide)]; exact t4 i (Nat.lt_of_lt_of_le hi (Nat.sub_le _ _)), by rw [kk 3 (by decide)]; exact t5, by rw [kk 3 (by decide)]; exact t6, t7, by rw [kk 4 (by decide)]; exact t8⟩
      · rw [if_pos n0] at hq
        exact hq H (fun _ _ => rfl) hC
  · have e : sUndo b x = (-2, b) := if_neg (by rw [bI_0.mp z]; simp)
    rw [e] at hq; exact hq H (fun _ _ => rfl) hC
def sFault (b : Bd) (x : Int32) : Int32 × Bd :=
  if inN 2 x = true then (if x = 0 then (flt 3 (okT0 (db0 b)) (dn0 b), b) else (flt 2 (okT1 (db1 b)) (dn1 b), b)) else (-2, b)
theorem cc_fault {E : En} {b : Bd} {x : Int32} : Cc E mX9_fault [rf E 0, .int x] b (sFault b x) := by
  intro H Q hC hq
  refine cmX9_fault (ct_isText ⟨_, rfl, fun z => ?_, fun z => ?_⟩)
  · have e : sFault b x = (-2, b) := if_neg (by rw [bI_0.mp z]; simp)
    rw [e] at hq; exact hq H (fun _ _ => rfl) hC
  · have e : sFault b x = _ := if_pos (bI_1 z)
    rw [e] at hq
    obtain ⟨t1, t2, t3, t4, t5, t6, t7, t8⟩ := hC.1.1
    refine cmX9_textOf ⟨fun z4 => Or.inr ⟨rfl, ?_⟩, fun z4 => Or.inl ⟨rfl, ?_⟩⟩
    · rw [if_neg z4] at hq
      exact ct_fw3 t5 t6 t7 t8 ⟨_, rfl, hq H (fun _ _ => rfl) hC⟩
    · rw [if_pos z4] at hq
      exact ct_fw1 t1 t2 t3 t4 ⟨_, rfl, hq H (fun _ _ => rfl) hC⟩
