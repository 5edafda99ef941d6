/-! jumps -/
def jpF (p : Nat → Bool) (y : Int64) : Nat → Nat → Int64 → Int64
  | 0, _, z => z
  | m + 1, h, z => jpF p y m (h + 1) (if p h = true then z * y else z)
def frgP (b : Bd) (t : Nat) : Nat → Bool := fun h => decide (pKd (dP b) t = 2 ∧ (dSt b (h + 1)).1 t = 8)
theorem jp_loop {E : En} {Q : Option Value → Hi → Prop} {H : Hi} {b : Bd} {t n f : Nat} {y : Int32} (hF : FR b H) (ht : t < pN (dP b)) (hn : n < 24) (hf : f = if pKd (dP b) t = 2 then 1 else 0) :
    ∀ (m h : Nat) (z : Int64), h + m = n + 1 → Q (some (.long (jpF (frgP b t) y.toInt64 m h z))) H →
      Rm E mX2_stayChance Q 84 [some (rf E 22), none, some (.int (nI t)), some (.int (nI n)), none, none, none, some (.int y), some (.int (nI f)), some (.long z), none, some (.int (nI h))] [] H := by
  have ok := hF.1.1
  have n8 := ok.1
  intro m
  induction m with
  | zero =>
    intro h z hh hq
    exact sgX2_stayChance_84 ⟨fun _ => hq, fun q => absurd (nI_lt (by omega) (by omega)) q⟩
  | succ m ih =>
    intro h z hh hq
    have f1 : f < 2 := by rw [hf]; split <;> omega
    have f0 : nI f = 0 ↔ ¬ pKd (dP b) t = 2 := by
      rw [nI_eq0 (by omega), hf]
      split
      · next q => simp [q]
      · next q => simp [q]
    have go : ∀ x : Int32, x = nI h + 1 → ∀ z' : Int64, z' = (if frgP b t h = true then z * y.toInt64 else z) → Rm E mX2_stayChance Q 84 [some (rf E 22), none, some (.int (nI t)), some (.int (nI n)), none, none, none, some (.int y), some (.int (nI f)), some (.long z'), none, some (.int x)] [] H := by
      intro x gx z' gz
      rw [gx, ← nI_succ, gz]
      exact ih (h + 1) _ (by omega) hq
    refine sgX2_stayChance_84 ⟨fun q => absurd q (by rw [nI_ltI (by omega) (by omega)]; omega), fun _ => ⟨fun q x gx => ?_, fun q => ⟨h, ⟨by omega, rfl⟩, ?_⟩⟩⟩
    · refine go x gx z ?_
      have e : frgP b t h = false := decide_eq_false (fun r => f0.mp q r.1)
      rw [e]; rfl
    · have k2 : pKd (dP b) t = 2 := Classical.byContradiction fun r => q (f0.mpr r)
      rw [(hF.2.2.1.2.2.2 h (by omega)).2.2.1, i_bit (by omega) ht, nI_eq0 (by split <;> omega)]
      by_cases e8 : (dSt b (h + 1)).1 t = 8
      · have ei : inP (stN (dP b) (dH b) (dA b) (h + 1)) t = true := decide_eq_true e8
        have e : frgP b t h = true := decide_eq_true ⟨k2, e8⟩
        rw [if_pos ei]
        refine ⟨fun r => absurd r (by decide), fun _ z' gz x gx => go x gx z' ?_⟩
        rw [e, gz]; rfl
      · have ei : inP (stN (dP b) (dH b) (dA b) (h + 1)) t = false := decide_eq_false e8
        have e : frgP b t h = false := decide_eq_false (fun r => e8 r.2)
        rw [if_neg (by rw [ei]; simp)]
        refine ⟨fun _ x gx => go x gx z ?_, fun r => absurd rfl r⟩
        rw [e]; rfl
/-- the fraction, made smaller by halves -/
def hvF : Nat → Nat → Nat → Nat × Nat
  | 0, a, c => (a, c)
  | m + 1, a, c => if a % 2 = 0 then hvF m (a / 2) (c / 2) else (a, c)
theorem i_half : ∀ a, a < 17 → nI a / 2 = nI (a / 2) ∧ (nI a - nI a / 2 * 2 = 0 ↔ a % 2 = 0) := by decide +kernel
theorem hv_loop {E : En} {Q : Option Value → Hi → Prop} {H : Hi} {b : Bd} {t n : Nat} {x : Int32} (hF : FR b H) (ht : t < pN (dP b)) (hn : n < 24) :
    ∀ (m k a c : Nat), k + m = 4 → a < 17 → c < 17 → Q (some (.long (jpF (frgP b t) (nI (if x = 0 then (hvF m a c).1 else (hvF m a c).2)).toInt64 (n + 1) 0 1))) H →
      Rm E mX2_stayChance Q 13 [some (rf E 22), none, some (.int (nI t)), some (.int (nI n)), some (.int x), some (.int (nI a)), some (.int (nI c)), some (.int (nI k)), none, none, none, none] [] H := by
  have ok := hF.1.1
  have n8 := ok.1
  have kd := (hF.1.2.2.2.1 t ht).2.2
  have k3 := (ok.2.2.1 t ht).2.2.2
  have k2 : nI (pKd (dP b) t) = 2 ↔ pKd (dP b) t = 2 := ⟨fun q => nI_inj (by omega) (by decide) q, fun q => by rw [q]; rfl⟩
  have fin : ∀ y : Int32, Q (some (.long (jpF (frgP b t) y.toInt64 (n + 1) 0 1))) H →
      ∃ j : Nat, (j < 8 ∧ nI t = nI j) ∧ ((¬ (H 8 j) = 2 → (Rm E mX2_stayChance Q 84 [some (rf E 22), none, some (.int (nI t)), some (.int (nI n)), none, none, none, some (.int y), some (.int 0), some (.long (1 : Int64)), none, some (.int 0)] [] H)) ∧ ((H 8 j) = 2 → (Rm E mX2_stayChance Q 84 [some (rf E 22), none, some (.int (nI t)), some (.int (nI n)), none, none, none, some (.int y), some (.int 1), some (.long (1 : Int64)), none, some (.int 0)] [] H))) := by
    intro y hy
    refine ⟨t, ⟨by omega, rfl⟩, ?_⟩
    rw [kd, k2]
    exact ⟨fun q => jp_loop (f := 0) hF ht hn (by rw [if_neg q]) (n + 1) 0 1 (by omega) hy, fun q => jp_loop (f := 1) hF ht hn (by rw [if_pos q]) (n + 1) 0 1 (by omega) hy⟩
  intro m
  induction m with
  | zero =>
    intro k a c hk ha hc hq
    refine sgX2_stayChance_13 ⟨fun _ => ⟨fun q => fin _ ?_, fun q => fin _ ?_⟩, fun q => absurd ?_ q⟩
    · rw [if_neg q] at hq; exact hq
    · rw [if_pos q] at hq; exact hq
    · show nI 4 ≤ nI k
      exact nI_le (by omega) (by omega)
  | succ m ih =>
    intro k a c hk ha hc hq
    refine sgX2_stayChance_13 ⟨fun q => absurd q ?_, fun _ => ⟨fun q => ?_, fun q y1 g1 y2 g2 y3 g3 => ?_⟩⟩
    · show ¬ nI 4 ≤ nI k
      rw [nI_leI (by decide) (by omega)]; omega
    · rw [(i_half a ha).2] at q
      have e : hvF (m + 1) a c = (a, c) := if_neg q
      rw [e] at hq
      refine ⟨fun q => fin _ ?_, fun q => fin _ ?_⟩
      · rw [if_neg q] at hq; exact hq
      · rw [if_pos q] at hq; exact hq
    · rw [(i_half a ha).2] at q
      have e : hvF (m + 1) a c = hvF m (a / 2) (c / 2) := if_pos q
      rw [e] at hq
      rw [g1, g2, g3, (i_half a ha).1, (i_half c hc).1, ← nI_succ]
      exact ih (k + 1) (a / 2) (c / 2) (by omega) (by omega) (by omega) hq
def CcL (E : En) (μ : Mt) (as : List Value) (b : Bd) (r : Int64 × Bd) : Prop :=
  ∀ (H : Hi) (Q : Option Value → Hi → Prop), CI b H → (∀ H' : Hi, (∀ c, 99 ≤ c → H' c = H c) → CI r.2 H' → Q (some (.long r.1)) H') → Cm E μ as H Q
def jmp (b : Bd) (c t n : Nat) (x : Int32) : Int64 := jpF (frgP b t) (nI (if x = 0 then (hvF 4 (16 - c) 16).1 else (hvF 4 (16 - c) 16).2)).toInt64 (n + 1) 0 1
theorem ct_stay {E : En} {Q : Option Value → Hi → Prop} {H : Hi} {b : Bd} {c t n : Nat} {x : Int32} (hF : FR b H) (hc : c < 17) (ht : t < pN (dP b)) (hn : n < 24) (hq : Q (some (.long (jmp b c t n x))) H) : Cm E mX2_stayChance [rf E 22, .int (nI c), .int (nI t), .int (nI n), .int x] H Q := by
  refine cmX2_stayChance ?_
  intro y gy
  have e : y = nI (16 - c) := by rw [gy, show (16 : Int32) = nI 16 from rfl, pk_sub (by omega)]
  rw [e]
  exact hv_loop hF ht hn 4 0 (16 - c) 16 rfl (by omega) (by decide) hq
def sJumps (b : Bd) (x1 x2 x3 x4 : Int32) : Int64 × Bd :=
  if inN 17 x1 = true ∧ inN (pN (dP b)) x2 = true ∧ inN 13 x3 = true ∧ inN 2 x4 = true then (jmp b (un x1) (un x2) (un x3) x4, b) else (-9223372036854775806, b)
theorem inN_gt {N : Nat} {x : Int32} (hN : N < 2 ^ 31) (h : nI N < x) : inN (N + 1) x = false := by
  rw [Int32.lt_iff_toInt_lt, nI_toInt hN] at h
  exact decide_eq_false (by omega)
theorem inN_ngt {N : Nat} {x : Int32} (hN : N < 2 ^ 31) (h0 : ¬ x < 0) (h : ¬ nI N < x) : inN (N + 1) x = true := by
  rw [Int32.lt_iff_toInt_lt, nI_toInt hN] at h
  rw [i_lt0] at h0
  exact decide_eq_true (by omega)
theorem cc_jumps {E : En} {b : Bd} {x1 x2 x3 x4 : Int32} : CcL E mX9_jumps [rf E 0, .int x1, .int x2, .int x3, .int x4] b (sJumps b x1 x2 x3 x4) := by
  intro H0 Q hC hq
  refine cmX9_jumps (ct_refresh hC fun H kH hB hF h9 => ⟨rfl, ?_⟩)
  have ok := hF.1.1
  have bad : sJumps b x1 x2 x3 x4 = (-9223372036854775806, b) → Q (some (.long (-9223372036854775806))) H := fun e => by
    rw [e] at hq; exact hq H kH (ci_fr hB hF)
  refine ⟨fun z => bad (if_neg (by rw [inN_f0 z]; simp)), fun z1 => ⟨fun z => bad (if_neg (by rw [inN_gt (N := 16) (by decide) z]; simp)), fun z2 => ?_⟩⟩
  refine ct_isThing hF.1 ⟨_, rfl, fun z => bad (if_neg (by rw [bI_0.mp z]; simp)), fun z3 => ⟨fun z => bad (if_neg (by rw [inN_f0 z]; simp)), fun z4 => ⟨fun z => bad (if_neg (by rw [inN_gt (N := 12) (by decide) z]; simp)), fun z5 => ?_⟩⟩⟩
  refine ct_isBit ⟨_, rfl, fun z6 => ?_, fun z => bad (if_neg (by rw [bI_0.mp z]; simp))⟩
  have i1 : inN 17 x1 = true := inN_ngt (N := 16) (by decide) z1 z2
  have i3 : inN 13 x3 = true := inN_ngt (N := 12) (by decide) z4 z5
  have e : sJumps b x1 x2 x3 x4 = _ := if_pos ⟨i1, bI_1 z3, i3, bI_1 z6⟩
  rw [e] at hq
  obtain ⟨c, a1, b1, d1⟩ := inN_of i1 (by decide)
  obtain ⟨t, a2, b2, d2⟩ := inN_of (bI_1 z3) (by have := ok.1; omega)
  obtain ⟨n, a3, b3, d3⟩ := inN_of i3 (by decide)
  rw [d1, d2, d3] at hq
  rw [b1, b2, b3]
  exact ct_stay hF a1 a2 (by omega) ⟨_, rfl, hq H kH (ci_fr hB hF)⟩
