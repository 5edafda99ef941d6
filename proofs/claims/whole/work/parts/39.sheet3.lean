/-! sheets: copy, count, read, write -/
def hld (b : Bd) (s : Nat) (x n : Int32) : Bool := decide (0 ≤ x.toInt ∧ 0 ≤ n.toInt ∧ x.toInt + n.toInt ≤ (((dS b).2.2.1 s : Nat) : Int))
theorem ct_holds {E : En} {Q : Option Value → Hi → Prop} {H : Hi} {b : Bd} {s : Nat} {x n : Int32} (hC : CI b H) (hs : s < 4) (hth : (dS b).1 s = true) (hq : Q (some (.int (bI (hld b s x n)))) H) : Cm E mX5_holds [rf E (91 + 2 * s), .int x, .int n] H Q := by
  obtain ⟨s1, s2, -⟩ := hC.1.2.2.2.2.1 s hs
  rw [if_pos hth] at s1
  refine cmX5_holds hs ?_
  rw [s1]
  refine ⟨fun z => ?_, fun z => ⟨fun z2 => ?_, fun z2 => ?_⟩⟩
  · have e : hld b s x n = false := decide_eq_false (by rw [i_lt0] at z; omega)
    rw [e] at hq; exact hq
  · have e : hld b s x n = false := decide_eq_false (by rw [i_lt0] at z2; omega)
    rw [e] at hq; exact hq
  · rw [i_lt0] at z z2
    have u1 := Int32.toInt_lt x
    have sb : (nI ((dS b).2.2.1 s) - x).toInt = ((dS b).2.2.1 s : Int) - x.toInt := by
      rw [Int32.toInt_sub, nI_toInt (by omega)]
      exact Int.bmod_eq_of_le_mul_two (by omega) (by omega)
    refine ⟨fun z3 => ?_, fun z3 => ?_⟩
    · rw [Int32.lt_iff_toInt_lt, sb] at z3
      have e : hld b s x n = false := decide_eq_false (by omega)
      rw [e] at hq; exact hq
    · rw [Int32.lt_iff_toInt_lt, sb] at z3
      have e : hld b s x n = true := decide_eq_true (by omega)
      rw [e] at hq; exact hq
def sCopy (b : Bd) (x1 x2 x3 x4 x5 : Int32) : Int32 × Bd :=
  if inN 4 x1 = true ∧ inN 4 x3 = true then
    (if (dS b).1 (un x1) = true ∧ (dS b).1 (un x3) = true then
      (if (dS b).2.1 (un x1) = (dS b).2.1 (un x3) then
        (if hld b (un x1) x2 x5 = true ∧ hld b (un x3) x4 x5 = true then
          (1, wS b ((dS b).1, (dS b).2.1, (dS b).2.2.1, fun s => if s = un x3 then va_cpy ((dS b).2.2.2 (un x1)) ((dS b).2.2.2 (un x3)) (un x2) (un x4) (un x5) else (dS b).2.2.2 s))
        else sFound b 2)
      else sFound b 4)
    else sFound b 1)
  else (-2, b)
theorem un_toInt {x : Int32} (h : 0 ≤ x.toInt) : ((un x : Nat) : Int) = x.toInt := by
  have e : un x = x.toInt.toNat := by
    have u1 := Int32.toInt_lt x
    have e1 : x = nI x.toInt.toNat := by
      apply Int32.toInt_inj.mp
      rw [nI_toInt (by omega)]
      omega
    have h2 : un (nI x.toInt.toNat) = x.toInt.toNat := un_nI (by omega)
    rw [← e1] at h2
    exact h2
  omega
set_option maxHeartbeats 1000000 in
theorem cc_copy {E : En} {b : Bd} {x1 x2 x3 x4 x5 : Int32} : Cc E mX9_copy [rf E 0, .int x1, .int x2, .int x3, .int x4, .int x5] b (sCopy b x1 x2 x3 x4 x5) := by
  intro H Q hC hq
  have bad : sCopy b x1 x2 x3 x4 x5 = (-2, b) → Q (some (.int (-2))) H := fun e => by
    rw [e] at hq; exact hq H (fun _ _ => rfl) hC
  refine cmX9_copy (ct_isSheet ⟨_, rfl, fun z => bad (if_neg (by rw [bI_0.mp z]; simp)), fun z1 => ct_isSheet ⟨_, rfl, fun z2 => ?_, fun z => bad (if_neg (by rw [bI_0.mp z]; simp))⟩⟩)
  have e : sCopy b x1 x2 x3 x4 x5 = _ := if_pos ⟨bI_1 z1, bI_1 z2⟩
  rw [e] at hq
  obtain ⟨s, a1, b1, d1⟩ := inN_of (bI_1 z1) (by decide)
  obtain ⟨t, a2, b2, d2⟩ := inN_of (bI_1 z2) (by decide)
  rw [d1, d2] at hq
  refine ⟨s, ⟨a1, b1⟩, t, ⟨a2, b2⟩, ?_⟩
  have S := hC.1.2.2.2.2.1 s a1
  have T := hC.1.2.2.2.2.1 t a2
  refine ⟨fun z => ?_, fun z => ⟨fun z' => ?_, fun z' => ?_⟩⟩
  · have th : ¬ (dS b).1 s = true := fun q => absurd z (i_0le.mp ((len_0 hC a1).mpr q))
    rw [if_neg (fun q => th q.1)] at hq
    exact ct_found (k := 1) hC (fun H' f' c' => ⟨_, rfl, hq H' f' c'⟩)
  · have th : (dS b).1 s = true := (len_0 hC a1).mp (i_0le.mpr z)
    have tt : (dS b).1 t = true := (len_0 hC a2).mp z'
    rw [if_pos ⟨th, tt⟩] at hq
    rw [S.2.2.1, T.2.2.1]
    have fe : nI ((dS b).2.1 s) = nI ((dS b).2.1 t) ↔ (dS b).2.1 s = (dS b).2.1 t := ⟨fun q => nI_inj (by have := S.2.2.2.1; omega) (by have := T.2.2.2.1; omega) q, fun q => by rw [q]⟩
    rw [fe]
    refine ⟨fun z3 => ?_, fun z3 => ?_⟩
    · rw [if_pos z3] at hq
      refine ct_holds hC a1 th ⟨_, rfl, fun z4 => ?_, fun z4 => ?_⟩
      · rw [if_neg (by rw [bI_0.mp z4]; simp)] at hq
        exact ct_found (k := 2) hC (fun H' f' c' => ⟨_, rfl, hq H' f' c'⟩)
      · refine ct_holds hC a2 tt ⟨_, rfl, fun z5 => ?_, fun z5 => ?_⟩
        · have h1 := bI_1 z4
          have h2 := bI_1 z5
          rw [if_pos ⟨h1, h2⟩] at hq
          have k1 := of_decide_eq_true h1
          have k2 := of_decide_eq_true h2
          have s60 := S.2.1
          have t60 := T.2.1
          have u2 := un_toInt k1.1
          have u4 := un_toInt k2.1
          have u5 := un_toInt k1.2.1
          refine ⟨by rw [i_lt0]; omega, by rw [i_lt0]; omega, by rw [i_lt0]; omega, ?_, ?_, ?_⟩
          · show un x2 + un x5 ≤ 60; omega
          · show un x4 + un x5 ≤ 60; omega
          intro H1 g1
          have kk : ∀ c, c ≠ 92 + 2 * t → H1 c = H c := fun c hc => by rw [g1]; exact if_neg hc
          refine hq H1 (fun c hc => kk c (by omega)) (ci_sheet hC (fun c hc => kk c (by omega)) ?_)
          intro s' hs'
          obtain ⟨t1, t2, t3, t4, t5⟩ := hC.1.2.2.2.2.1 s' hs'
          rw [kk (91 + 2 * s') (by omega)]
          refine ⟨t1, t2, t3, t4, fun i' hi' => ?_⟩
          show H1 (92 + 2 * s') i' = (if s' = t then va_cpy ((dS b).2.2.2 s) ((dS b).2.2.2 t) (un x2) (un x4) (un x5) else (dS b).2.2.2 s') i'
          by_cases es : s' = t
          · subst es
            rw [if_pos rfl]
            have e2 : H1 (92 + 2 * s') = va_cpy (H (92 + 2 * s)) (H (92 + 2 * s')) (un x2) (un x4) (un x5) := by rw [g1]; exact if_pos rfl
            rw [e2]
            unfold va_cpy
            by_cases er : un x4 ≤ i' ∧ i' < un x4 + un x5
            · rw [if_pos er, if_pos er]; exact S.2.2.2.2 _ (by omega)
            · rw [if_neg er, if_neg er]; exact t5 i' hi'
          · rw [if_neg es, kk _ (by omega)]; exact t5 i' hi'
        · rw [if_neg (by rw [bI_0.mp z5]; simp)] at hq
          exact ct_found (k := 2) hC (fun H' f' c' => ⟨_, rfl, hq H' f' c'⟩)
    · rw [if_neg z3] at hq
      exact ct_found (k := 4) hC (fun H' f' c' => ⟨_, rfl, hq H' f' c'⟩)
  · have tt : ¬ (dS b).1 t = true := fun q => z' ((len_0 hC a2).mpr q)
    rw [if_neg (fun q => tt q.2)] at hq
    exact ct_found (k := 1) hC (fun H' f' c' => ⟨_, rfl, hq H' f' c'⟩)
