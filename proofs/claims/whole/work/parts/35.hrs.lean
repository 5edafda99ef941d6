/-! the family and the hours asked -/
def dSt (b : Bd) (h : Nat) : Sg := stN (dP b) (dH b) (dA b) h
def dW (b : Bd) : Nat := wkA (dP b) (dH b) (dA b) 24
theorem ci_fr {b : Bd} {H : Hi} (hB : CB b H) (hF : FR b H) : CI b H := ⟨hB, fun _ => hF⟩
/-- behind a refresh -/
def sThing (b : Bd) (x y : Int32) : Int32 × Bd :=
  if inN (pN (dP b)) x = true ∧ inN 3 y = true then ((if y = 0 then nI (pSz (dP b) (un x)) else if y = 1 then nI (pOw (dP b) (un x)) else nI (pKd (dP b) (un x))), b) else (-2, b)
theorem cc_thing {E : En} {b : Bd} {x y : Int32} : Cc E mX9_thing [rf E 0, .int x, .int y] b (sThing b x y) := by
  intro H0 Q hC hq
  refine cmX9_thing (ct_refresh hC fun H kH hB hF h9 => ⟨rfl, ?_⟩)
  have ok := hF.1.1
  refine ct_isThing hF.1 ⟨_, rfl, fun z => ?_, fun z => ⟨fun z2 => ?_, fun z2 => ⟨fun z3 => ?_, fun z3 => ?_⟩⟩⟩
  · have e : sThing b x y = (-2, b) := if_neg (by rw [bI_0.mp z]; simp)
    rw [e] at hq; exact hq H kH (ci_fr hB hF)
  · have e : sThing b x y = (-2, b) := if_neg (by rw [inN_f0 z2]; simp)
    rw [e] at hq; exact hq H kH (ci_fr hB hF)
  · have i2 : inN 3 y = true := inN_le (N := 2) (by decide) z2 z3
    have e : sThing b x y = _ := if_pos ⟨bI_1 z, i2⟩
    rw [e] at hq
    obtain ⟨j, a1, b1, d1⟩ := inN_of (bI_1 z) (by have := ok.1; omega)
    have j8 : j < 8 := by have := ok.1; omega
    have f := hF.1.2.2.2.1 j a1
    have hq' := hq H kH (ci_fr hB hF)
    rw [d1] at hq'
    refine cmX0_ofThing ⟨fun q0 => ⟨fun q1 => ⟨j, ⟨j8, b1⟩, _, rfl, ?_⟩, fun q1 => ⟨j, ⟨j8, b1⟩, _, rfl, ?_⟩⟩, fun q0 => ⟨j, ⟨j8, b1⟩, _, rfl, ?_⟩⟩
    · rw [f.2.2]; simp only [if_neg q0, if_neg q1] at hq'; exact hq'
    · rw [f.2.1]; simp only [if_neg q0, if_pos q1] at hq'; exact hq'
    · rw [f.1]; simp only [if_pos q0] at hq'; exact hq'
  · have e : sThing b x y = (-2, b) := if_neg (by rw [inN_nle (N := 2) (by decide) z3]; simp)
    rw [e] at hq; exact hq H kH (ci_fr hB hF)
def sCousin (b : Bd) (x y : Int32) : Int32 × Bd :=
  if inN (pM (dP b)) x = true ∧ inN 2 y = true then ((if y = 0 then nI (if pHo (dP b) (un x) = true then 1 else 0) else if pWi (dP b) (un x) < 8 then nI (pWi (dP b) (un x)) else -1), b) else (-2, b)
theorem cc_cousin {E : En} {b : Bd} {x y : Int32} : Cc E mX9_cousin [rf E 0, .int x, .int y] b (sCousin b x y) := by
  intro H0 Q hC hq
  refine cmX9_cousin (ct_refresh hC fun H kH hB hF h9 => ⟨rfl, ?_⟩)
  have ok := hF.1.1
  refine ct_isCousin hF.1 ⟨_, rfl, fun z => ?_, fun z => ct_isBit ⟨_, rfl, fun z2 => ?_, fun z2 => ?_⟩⟩
  · have e : sCousin b x y = (-2, b) := if_neg (by rw [bI_0.mp z]; simp)
    rw [e] at hq; exact hq H kH (ci_fr hB hF)
  · have e : sCousin b x y = _ := if_pos ⟨bI_1 z, bI_1 z2⟩
    rw [e] at hq
    obtain ⟨j, a1, b1, d1⟩ := inN_of (bI_1 z) (by have := ok.2.1; omega)
    have j8 : j < 8 := by have := ok.2.1; omega
    have hq' := hq H kH (ci_fr hB hF)
    rw [d1] at hq'
    refine cmX0_ofCousin ⟨fun q0 => ⟨j, ⟨j8, b1⟩, _, rfl, ?_⟩, fun q0 => ⟨_, rfl, ?_⟩⟩
    · rw [hF.1.2.2.2.2.2.2.2.2.2 j a1]; simp only [if_neg q0] at hq'; exact hq'
    · rw [hF.1.2.2.2.2.1, b1, i_bit (by have := ok.2.1; omega) a1]; simp only [if_pos q0] at hq'; exact hq'
  · have e : sCousin b x y = (-2, b) := if_neg (by rw [bI_0.mp z2]; simp)
    rw [e] at hq; exact hq H kH (ci_fr hB hF)
def sWhere (b : Bd) (x y : Int32) : Int32 × Bd :=
  if inN 24 x = true ∧ inN (pN (dP b)) y = true then (nI ((dSt b (un x + 1)).1 (un y)), b) else (-2, b)
theorem cc_where {E : En} {b : Bd} {x y : Int32} : Cc E mX9_where [rf E 0, .int x, .int y] b (sWhere b x y) := by
  intro H0 Q hC hq
  refine cmX9_where (ct_refresh hC fun H kH hB hF h9 => ⟨rfl, ?_⟩)
  have ok := hF.1.1
  refine ct_isHour ⟨_, rfl, fun z => ?_, fun z => ct_isThing hF.1 ⟨_, rfl, fun z2 => ?_, fun z2 => ?_⟩⟩
  · have e : sWhere b x y = (-2, b) := if_neg (by rw [bI_0.mp z]; simp)
    rw [e] at hq; exact hq H kH (ci_fr hB hF)
  · have e : sWhere b x y = _ := if_pos ⟨bI_1 z, bI_1 z2⟩
    rw [e] at hq
    obtain ⟨j, a1, b1, d1⟩ := inN_of (bI_1 z) (by decide)
    obtain ⟨t, a2, b2, d2⟩ := inN_of (bI_1 z2) (by have := ok.1; omega)
    have hq' := hq H kH (ci_fr hB hF)
    rw [d1, d2] at hq'
    refine ⟨j, ⟨a1, b1⟩, ?_⟩
    rw [b2]
    exact ct_placeOf ok.1 (st_beh j a1).1 (hF.2.2.1.2.2.2 j a1).2 (stN_wf ok.2.1 _) a2 ⟨_, rfl, hq'⟩
  · have e : sWhere b x y = (-2, b) := if_neg (by rw [bI_0.mp z2]; simp)
    rw [e] at hq; exact hq H kH (ci_fr hB hF)
def sLoad (b : Bd) (x : Int32) : Int32 × Bd :=
  if inN 24 x = true then (nI (ld (dP b) (dSt b (un x + 1))), b) else (-2, b)
theorem cc_load {E : En} {b : Bd} {x : Int32} : Cc E mX9_load [rf E 0, .int x] b (sLoad b x) := by
  intro H0 Q hC hq
  refine cmX9_load (ct_refresh hC fun H kH hB hF h9 => ⟨rfl, ?_⟩)
  refine ct_isHour ⟨_, rfl, fun z => ?_, fun z => ?_⟩
  · have e : sLoad b x = (-2, b) := if_neg (by rw [bI_0.mp z]; simp)
    rw [e] at hq; exact hq H kH (ci_fr hB hF)
  · have e : sLoad b x = _ := if_pos (bI_1 z)
    rw [e] at hq
    obtain ⟨j, a1, b1, d1⟩ := inN_of (bI_1 z) (by decide)
    have hq' := hq H kH (ci_fr hB hF)
    rw [d1] at hq'
    refine ⟨j, ⟨a1, b1⟩, ?_⟩
    rw [(hF.2.2.1.2.2.2 j a1).2.2.2.1]
    exact hq'
theorem wkF_lt {P : Pm} {hd : Hd} {h : Nat} : ∀ (m k : Nat) (s : Sg) (r : Nat), k + m ≤ 20 → r < 2 ^ 20 → wkF P hd h k m s r < 2 ^ 20
  | 0, _, _, _, _, hr => hr
  | m + 1, k, s, r, hk, hr => by
    unfold wkF
    refine wkF_lt m (k + 1) _ _ (by omega) ?_
    split
    · exact Nat.or_lt_two_pow hr (Nat.pow_lt_pow_right (by decide) (by omega))
    · exact hr
theorem wkA_lt {P : Pm} {hd : Hd} {a : Nat} (h20 : hd.1 ≤ 20) : ∀ h, wkA P hd a h < 2 ^ 20
  | 0 => (by decide : 0 < 2 ^ 20)
  | h + 1 => by
    unfold wkA
    exact Nat.or_lt_two_pow (wkA_lt h20 h) (wkF_lt _ _ _ _ (by omega) (by decide))
def sWorks (b : Bd) (x : Int32) : Int32 × Bd :=
  if inN (dH b).1 x = true then (nI (dW b / 2 ^ un x % 2), b) else (-2, b)
theorem i_bitN {a t : Nat} (ha : a < 2 ^ 31) (ht : t < 31) : (nI a >>> (nI t &&& 31)) &&& 1 = nI (a / 2 ^ t % 2) := by
  rw [i_shr ha (by omega), i_and1 (Nat.lt_of_le_of_lt (Nat.div_le_self _ _) (by omega))]
theorem cc_works {E : En} {b : Bd} {x : Int32} : Cc E mX9_works [rf E 0, .int x] b (sWorks b x) := by
  intro H0 Q hC hq
  refine cmX9_works (ct_refresh hC fun H kH hB hF h9 => ⟨rfl, ?_⟩)
  have c2 : H 11 2 = nI (dH b).1 := hB.2.1.2.1
  have c1 : (dH b).1 ≤ 20 := hB.2.1.1
  rw [c2]
  refine ⟨fun z => ?_, fun z => ⟨fun z2 => ?_, fun z2 => ?_⟩⟩
  · have e : sWorks b x = (-2, b) := if_neg (by rw [inN_f0 z]; simp)
    rw [e] at hq; exact hq H kH (ci_fr hB hF)
  · have i1 : inN (dH b).1 x = true := inN_lt (by omega) z z2
    have e : sWorks b x = _ := if_pos i1
    rw [e] at hq
    obtain ⟨j, a1, b1, d1⟩ := inN_of i1 (by omega)
    have hq' := hq H kH (ci_fr hB hF)
    rw [d1] at hq'
    rw [hF.2.2.1.2.2.1, b1, i_bitN (Nat.lt_of_lt_of_le (wkA_lt c1 24) (by decide)) (by omega)]
    exact hq'
  · have e : sWorks b x = (-2, b) := if_neg (by rw [inN_nlt (by omega) z2]; simp)
    rw [e] at hq; exact hq H kH (ci_fr hB hF)
