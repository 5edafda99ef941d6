/-! sheets: lose, sheet, put, get -/
abbrev Sh4 : Type := (Nat → Bool) × (Nat → Nat) × (Nat → Nat) × (Nat → Nat → Int32)
theorem ci_sheet {b : Bd} {H H' : Hi} {S : Sh4} (hC : CI b H) (h : ∀ c, c < 91 ∨ 98 < c → H' c = H c) (hS : ShC (wS b S) H') : CI (wS b S) H' := by
  obtain ⟨⟨a1, a2, a3, a4, a5, a6, a7⟩, hF⟩ := hC
  refine ⟨⟨?_, ?_, a3, ?_, hS, by rw [h 0 (by omega)]; exact a6, by rw [h 23 (by omega)]; exact a7⟩, fun z => ?_⟩
  · exact tx_keep (H := H) a1 (fun c z1 z2 => h c (by omega))
  · exact toB_keep (H := H) a2 (fun c z1 z2 => h c (by omega))
  · unfold FeC
    rw [h 11 (by omega), h 16 (by omega), h 17 (by omega), h 18 (by omega)]
    exact a4
  · rw [h 0 (by omega)] at z
    exact fr_keep (hF z) rfl rfl rfl (fun c z1 z2 _ _ _ _ => h c (by omega)) (fun k _ => by rw [h 11 (by omega)])
def bup (f : Nat → Bool) (k : Nat) (v : Bool) : Nat → Bool := fun i => if i = k then v else f i
theorem i_0le {x : Int32} : 0 ≤ x ↔ ¬ x < 0 := by
  rw [i_lt0, Int32.le_iff_toInt_le]
  have e0 : (0 : Int32).toInt = 0 := by decide
  rw [e0]; omega
theorem nI_0le {n : Nat} (h : n < 2 ^ 31) : (0 : Int32) ≤ nI n := by
  rw [i_0le, i_lt0, nI_toInt h]; omega
theorem len_0 {b : Bd} {H : Hi} {s : Nat} (hC : CI b H) (hs : s < 4) : 0 ≤ H (91 + 2 * s) 1 ↔ (dS b).1 s = true := by
  obtain ⟨a1, a2, -⟩ := hC.1.2.2.2.2.1 s hs
  rw [a1]
  constructor
  · intro q
    cases e : (dS b).1 s
    · rw [e, if_neg (by decide)] at q; exact absurd q (by decide)
    · rfl
  · intro q
    rw [if_pos q]; exact nI_0le (by omega)
def sLose (b : Bd) (x : Int32) : Int32 × Bd :=
  if inN 4 x = true then (if (dS b).1 (un x) = true then (nI ((dS b).2.2.1 (un x)), wS b (bup (dS b).1 (un x) false, (dS b).2)) else sFound b 1) else (-2, b)
theorem cc_lose {E : En} {b : Bd} {x : Int32} : Cc E mX9_lose [rf E 0, .int x] b (sLose b x) := by
  intro H Q hC hq
  refine cmX9_lose (ct_isSheet ⟨_, rfl, fun z => ?_, fun z => ?_⟩)
  · have e : sLose b x = _ := if_pos (bI_1 z)
    rw [e] at hq
    obtain ⟨j, a1, b1, d1⟩ := inN_of (bI_1 z) (by decide)
    rw [d1] at hq
    refine ⟨j, ⟨a1, b1⟩, ?_⟩
    intro y gy
    have s0 := hC.1.2.2.2.2.1 j a1
    rw [gy, len_0 hC a1]
    refine ⟨fun z2 => ⟨j, ⟨a1, b1⟩, ?_⟩, fun z2 => ?_⟩
    · rw [if_pos z2] at hq
      intro H1 g1
      rw [s0.1, if_pos z2]
      refine hq H1 (fun c hc => by rw [g1, up_n (by omega)]) (ci_sheet hC (fun c hc => by rw [g1, up_n (by omega)]) ?_)
      intro s hs
      obtain ⟨s1, s2, s3, s4, s5⟩ := hC.1.2.2.2.2.1 s hs
      have ei : H1 (92 + 2 * s) = H (92 + 2 * s) := by rw [g1, up_n (by omega)]
      by_cases es : s = j
      · subst es
        refine ⟨?_, s2, ?_, s4, by rw [ei]; exact s5⟩
        · rw [g1, up_s, upd_s]
          show (-1 : Int32) = if bup (dS b).1 s false s = true then _ else -1
          simp [bup]
        · rw [g1, up_s, upd_n (by decide)]; exact s3
      · have e1 : H1 (91 + 2 * s) = H (91 + 2 * s) := by rw [g1, up_n (by omega)]
        rw [e1, ei]
        refine ⟨?_, s2, s3, s4, s5⟩
        rw [s1]
        show _ = if bup (dS b).1 j false s = true then _ else -1
        simp only [bup, if_neg es]
        rfl
    · rw [if_neg z2] at hq
      exact ct_found (k := 1) hC (fun H' f' c' => ⟨_, rfl, hq H' f' c'⟩)
  · have e : sLose b x = (-2, b) := if_neg (by rw [bI_0.mp z]; simp)
    rw [e] at hq; exact hq H (fun _ _ => rfl) hC
theorem ct_isForm {E : En} {Q : Option Value → Hi → Prop} {H : Hi} {x : Int32} (hq : Q (some (.int (bI (inN 3 x)))) H) : Cm E mX9_isForm [.int x] H Q := by
  refine cmX9_isForm ⟨fun z => ?_, fun z => ⟨fun z2 => ?_, fun z2 => ?_⟩⟩
  · rw [inN_f0 z] at hq; exact hq
  · have e : inN 3 x = false := by
      rw [Int32.lt_iff_toInt_lt] at z2
      have e2 : (2 : Int32).toInt = 2 := by decide
      exact decide_eq_false (by omega)
    rw [e] at hq; exact hq
  · have e : inN 3 x = true := by
      rw [Int32.lt_iff_toInt_lt] at z2
      rw [i_lt0] at z
      have e2 : (2 : Int32).toInt = 2 := by decide
      exact decide_eq_true (by omega)
    rw [e] at hq; exact hq
def sSheet (b : Bd) (x1 x2 x3 : Int32) : Int32 × Bd :=
  if inN 4 x1 = true ∧ inN 3 x2 = true ∧ x3 ≤ 60 then
    (if 0 ≤ x3 then (x3, wS b (bup (dS b).1 (un x1) true, nup (dS b).2.1 (un x1) (un x2), nup (dS b).2.2.1 (un x1) (un x3), fun s i => if s = un x1 then 0 else (dS b).2.2.2 s i)) else sFound b 5)
  else (-2, b)
theorem cc_sheet {E : En} {b : Bd} {x1 x2 x3 : Int32} : Cc E mX9_sheet [rf E 0, .int x1, .int x2, .int x3] b (sSheet b x1 x2 x3) := by
  intro H Q hC hq
  have bad : sSheet b x1 x2 x3 = (-2, b) → Q (some (.int (-2))) H := fun e => by
    rw [e] at hq; exact hq H (fun _ _ => rfl) hC
  refine cmX9_sheet (ct_isSheet ⟨_, rfl, fun z => bad (if_neg (by rw [bI_0.mp z]; simp)), fun z1 => ct_isForm ⟨_, rfl, fun z => bad (if_neg (by rw [bI_0.mp z]; simp)), fun z2 => ⟨fun z3 => ?_, fun z => bad (if_neg (fun q => z q.2.2))⟩⟩⟩)
  have e : sSheet b x1 x2 x3 = _ := if_pos ⟨bI_1 z1, bI_1 z2, z3⟩
  rw [e] at hq
  obtain ⟨j, a1, b1, d1⟩ := inN_of (bI_1 z1) (by decide)
  obtain ⟨j2, a2, b2, d2⟩ := inN_of (bI_1 z2) (by decide)
  refine ⟨fun z4 => ⟨j, ⟨a1, b1⟩, ?_⟩, fun z4 => ?_⟩
  · rw [if_pos z4] at hq
    have i3 : inN 61 x3 = true := inN_le (N := 60) (by decide) (i_0le.mp z4) z3
    obtain ⟨j3, a3, b3, d3⟩ := inN_of i3 (by decide)
    rw [d1] at hq
    intro H1 g1 H2 g2
    obtain ⟨-, -, -, -, -, -, sh1, sh2, sh3⟩ := sh_she j a1
    refine ct_fill ⟨sh1, sh2, sh3, by decide⟩ ?_
    intro H3 k3 f3
    refine ⟨rfl, ?_⟩
    have kk : ∀ c, c ≠ 91 + 2 * j → c ≠ 92 + 2 * j → H3 c = H c := fun c q1 q2 => by rw [k3 c q2, g2, up_n q1, g1, up_n q1]
    refine hq H3 (fun c hc => kk c (by omega) (by omega)) (ci_sheet hC (fun c hc => kk c (by omega) (by omega)) ?_)
    intro s hs
    obtain ⟨s1, s2, s3, s4, s5⟩ := hC.1.2.2.2.2.1 s hs
    show H3 (91 + 2 * s) 1 = (if bup (dS b).1 j true s = true then nI (nup (dS b).2.2.1 j (un x3) s) else -1) ∧ nup (dS b).2.2.1 j (un x3) s ≤ 60 ∧ H3 (91 + 2 * s) 0 = nI (nup (dS b).2.1 j (un x2) s) ∧ nup (dS b).2.1 j (un x2) s ≤ 2 ∧ ∀ i, i < 60 → H3 (92 + 2 * s) i = if s = j then 0 else (dS b).2.2.2 s i
    by_cases es : s = j
    · subst es
      have e91 : H3 (91 + 2 * s) = upd (upd (H (91 + 2 * s)) 0 x2) 1 x3 := by rw [k3 _ (by omega), g2, up_s, g1, up_s]
      rw [e91, upd_s, upd_n (by decide), upd_s]
      simp only [bup, nup, if_true]
      rw [d2, d3]
      exact ⟨b3, by omega, b2, by omega, fun i hi => f3 i hi⟩
    · rw [kk (91 + 2 * s) (by omega) (by omega), kk (92 + 2 * s) (by omega) (by omega)]
      simp only [bup, nup, if_neg es]
      exact ⟨s1, s2, s3, s4, s5⟩
  · rw [if_neg z4] at hq
    exact ct_found (k := 5) hC (fun H' f' c' => ⟨_, rfl, hq H' f' c'⟩)
/-- why an item is refused; 0: it is not -/
def rfs (b : Bd) (s : Nat) (f i : Int32) : Nat :=
  if (dS b).1 s = true then (if nI ((dS b).2.1 s) = f then (if inN ((dS b).2.2.1 s) i = true then 0 else 2) else 3) else 1
theorem ct_refusal {E : En} {Q : Option Value → Hi → Prop} {H : Hi} {b : Bd} {s : Nat} {f i : Int32} (hC : CI b H) (hs : s < 4) (hq : Q (some (.int (nI (rfs b s f i)))) H) : Cm E mX5_refusal [rf E (91 + 2 * s), .int f, .int i] H Q := by
  obtain ⟨s1, s2, s3, s4, s5⟩ := hC.1.2.2.2.2.1 s hs
  refine cmX5_refusal hs ?_
  rw [len_0 hC hs]
  refine ⟨fun z => ?_, fun z => ?_⟩
  · have e : rfs b s f i = _ := if_pos z
    rw [e] at hq
    rw [if_pos z] at s1
    rw [s1, s3]
    refine ⟨fun z2 => ?_, fun z2 => ?_⟩
    · rw [if_pos z2] at hq
      refine ⟨fun z3 => ?_, fun z3 => ⟨fun z4 => ?_, fun z4 => ?_⟩⟩
      · rw [if_neg (by rw [inN_f0 z3]; simp)] at hq; exact hq
      · rw [if_pos (inN_lt (by omega) z3 z4)] at hq; exact hq
      · rw [if_neg (by rw [inN_nlt (by omega) z4]; simp)] at hq; exact hq
    · rw [if_neg z2] at hq; exact hq
  · have e : rfs b s f i = 1 := if_neg z
    rw [e] at hq; exact hq
theorem rfs_le (b : Bd) (s : Nat) (f i : Int32) : rfs b s f i ≤ 3 := by
  unfold rfs; split
  · split
    · split <;> omega
    · omega
  · omega
theorem rfs_0 {b : Bd} {s : Nat} {f i : Int32} (h : rfs b s f i = 0) : (dS b).1 s = true ∧ inN ((dS b).2.2.1 s) i = true := by
  unfold rfs at h
  split at h
  · next q =>
    split at h
    · split at h
      · next q2 => exact ⟨q, q2⟩
      · omega
    · omega
  · omega
def nrw (f : Nat) (x : Int32) : Int32 := if f = 0 then x.toInt8.toInt32 else if f = 1 then x.toInt16.toInt32 else x
def iup (g : Nat → Nat → Int32) (s i : Nat) (x : Int32) : Nat → Nat → Int32 := fun s' i' => if s' = s ∧ i' = i then x else g s' i'
def wI (b : Bd) (s i : Nat) (x : Int32) : Bd := wS b ((dS b).1, (dS b).2.1, (dS b).2.2.1, iup (dS b).2.2.2 s i x)
theorem ct_set {E : En} {Q : Option Value → Hi → Prop} {H : Hi} {b : Bd} {s i : Nat} {x : Int32} (hC : CI b H) (hs : s < 4) (hi : i < 60)
    (hq : ∀ H' : Hi, (∀ c, c ≠ 92 + 2 * s → H' c = H c) → CI (wI b s i (nrw ((dS b).2.1 s) x)) H' → Q none H') : Cm E mX5_set [rf E (91 + 2 * s), .int (nI i), .int x] H Q := by
  obtain ⟨s1, s2, s3, s4, s5⟩ := hC.1.2.2.2.2.1 s hs
  have fin : ∀ y : Int32, y = nrw ((dS b).2.1 s) x → ∀ H' : Hi, H' = up H (92 + 2 * s) i y → Q none H' := by
    intro y ey H' g
    have kk : ∀ c, c ≠ 92 + 2 * s → H' c = H c := fun c hc => by rw [g, up_n hc]
    refine hq H' kk (ci_sheet hC (fun c hc => kk c (by omega)) ?_)
    intro s' hs'
    obtain ⟨t1, t2, t3, t4, t5⟩ := hC.1.2.2.2.2.1 s' hs'
    rw [kk (91 + 2 * s') (by omega)]
    refine ⟨t1, t2, t3, t4, fun i' hi' => ?_⟩
    show H' (92 + 2 * s') i' = iup (dS b).2.2.2 s i (nrw ((dS b).2.1 s) x) s' i'
    unfold iup
    by_cases es : s' = s
    · subst es
      rw [g, up_s]
      by_cases ei : i' = i
      · subst ei
        rw [upd_s, if_pos ⟨rfl, rfl⟩, ey]
      · rw [upd_n ei, if_neg (fun q => ei q.2)]; exact t5 i' hi'
    · rw [kk _ (by omega), if_neg (fun q => es q.1)]; exact t5 i' hi'
  refine cmX5_set hs ?_
  rw [s3]
  have f0 : nI ((dS b).2.1 s) = 0 ↔ (dS b).2.1 s = 0 := nI_eq0 (by omega)
  have f1 : nI ((dS b).2.1 s) = 1 ↔ (dS b).2.1 s = 1 := ⟨fun q => nI_inj (by omega) (by decide) q, fun q => by rw [q]; rfl⟩
  rw [f0, f1]
  refine ⟨fun z => ⟨fun z2 => ⟨i, ⟨hi, rfl⟩, fin _ ?_⟩, fun z2 => ⟨i, ⟨hi, rfl⟩, fin _ ?_⟩⟩, fun z => ⟨i, ⟨hi, rfl⟩, fin _ ?_⟩⟩
  · unfold nrw; rw [if_neg z, if_neg z2]
  · unfold nrw; rw [if_neg z, if_pos z2]
  · unfold nrw; rw [if_pos z]
def sPut (b : Bd) (x1 x2 x3 x4 : Int32) : Int32 × Bd :=
  if inN 4 x1 = true ∧ inN 3 x2 = true then
    (if rfs b (un x1) x2 x3 = 0 then (1, wI b (un x1) (un x3) (nrw ((dS b).2.1 (un x1)) x4)) else sFound b (rfs b (un x1) x2 x3))
  else (-2, b)
theorem cc_put {E : En} {b : Bd} {x1 x2 x3 x4 : Int32} : Cc E mX9_put [rf E 0, .int x1, .int x2, .int x3, .int x4] b (sPut b x1 x2 x3 x4) := by
  intro H Q hC hq
  have bad : sPut b x1 x2 x3 x4 = (-2, b) → Q (some (.int (-2))) H := fun e => by
    rw [e] at hq; exact hq H (fun _ _ => rfl) hC
  refine cmX9_put (ct_isSheet ⟨_, rfl, fun z => bad (if_neg (by rw [bI_0.mp z]; simp)), fun z1 => ct_isForm ⟨_, rfl, fun z2 => ?_, fun z => bad (if_neg (by rw [bI_0.mp z]; simp))⟩⟩)
  have e : sPut b x1 x2 x3 x4 = _ := if_pos ⟨bI_1 z1, bI_1 z2⟩
  rw [e] at hq
  obtain ⟨j, a1, b1, d1⟩ := inN_of (bI_1 z1) (by decide)
  rw [d1] at hq
  have r3 := rfs_le b j x2 x3
  refine ⟨j, ⟨a1, b1⟩, ct_refusal hC a1 ⟨_, rfl, ?_⟩⟩
  rw [nI_eq0 (by omega)]
  refine ⟨fun z => ?_, fun z => ?_⟩
  · rw [if_pos z] at hq
    have q := rfs_0 z
    have s60 := (hC.1.2.2.2.2.1 j a1).2.1
    obtain ⟨i, a3, b3, d3⟩ := inN_of q.2 (by omega)
    rw [d3] at hq
    rw [b3]
    exact ct_set hC a1 (by omega) (fun H' k' c' => ⟨rfl, hq H' (fun c hc => k' c (by omega)) c'⟩)
  · rw [if_neg z] at hq
    exact ct_found hC (fun H' f' c' => ⟨_, rfl, hq H' f' c'⟩)
def sGet (b : Bd) (x1 x2 x3 : Int32) : Int32 × Bd :=
  if inN 4 x1 = true ∧ inN 3 x2 = true then
    (if rfs b (un x1) x2 x3 = 0 then ((dS b).2.2.2 (un x1) (un x3), b) else (-2147483648, wFi b (rfs b (un x1) x2 x3)))
  else (-2147483648, b)
theorem cc_get {E : En} {b : Bd} {x1 x2 x3 : Int32} : Cc E mX9_get [rf E 0, .int x1, .int x2, .int x3] b (sGet b x1 x2 x3) := by
  intro H Q hC hq
  have bad : sGet b x1 x2 x3 = (-2147483648, b) → Q (some (.int (-2147483648))) H := fun e => by
    rw [e] at hq; exact hq H (fun _ _ => rfl) hC
  refine cmX9_get (ct_isSheet ⟨_, rfl, fun z => bad (if_neg (by rw [bI_0.mp z]; simp)), fun z1 => ct_isForm ⟨_, rfl, fun z2 => ?_, fun z => bad (if_neg (by rw [bI_0.mp z]; simp))⟩⟩)
  have e : sGet b x1 x2 x3 = _ := if_pos ⟨bI_1 z1, bI_1 z2⟩
  rw [e] at hq
  obtain ⟨j, a1, b1, d1⟩ := inN_of (bI_1 z1) (by decide)
  rw [d1] at hq
  have r3 := rfs_le b j x2 x3
  refine ⟨j, ⟨a1, b1⟩, ct_refusal hC a1 ⟨_, rfl, ?_⟩⟩
  rw [nI_eq0 (by omega)]
  refine ⟨fun z => ?_, fun z => ?_⟩
  · rw [if_pos z] at hq
    have q := rfs_0 z
    have s60 := (hC.1.2.2.2.2.1 j a1).2.1
    obtain ⟨i, a3, b3, d3⟩ := inN_of q.2 (by omega)
    rw [d3] at hq
    refine ⟨i, ⟨by omega, b3⟩, ?_⟩
    rw [(hC.1.2.2.2.2.1 j a1).2.2.2.2 i (by omega)]
    exact hq H (fun _ _ => rfl) hC
  · rw [if_neg z] at hq
    intro H1 g1
    rw [g1]
    exact hq _ (fun c hc => up_n (by omega)) (ci_found hC)
