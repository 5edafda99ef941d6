/-! count -/
def tlK (b : Bd) : Nat → Int32
  | 0 => nI (pN (dP b))
  | 1 => nI (pM (dP b))
  | 2 => nI (dn0 b)
  | 3 => nI (dn1 b)
  | 4 => nI (dH b).1
  | 5 => nI (pop (dW b) 20)
  | 6 => nI (dO b).1
  | 7 => nI (dF b).1
  | _ => nI (dFi b)
def tly (b : Bd) (x : Int32) : Int32 := if inN 9 x = true then tlK b (un x) else -2
theorem ct_tally {E : En} {Q : Option Value → Hi → Prop} {H : Hi} {b : Bd} {x : Int32} (hB : CB b H) (hF : FR b H) (hq : Q (some (.int (tly b x))) H) : Cm E mX9_tally [rf E 0, .int x] H Q := by
  obtain ⟨a1, a2, a3, a4, a5, a6, a7⟩ := id hB
  have pick : ∀ n : Nat, n < 9 → x.toInt = (n : Int) → Q (some (.int (tlK b n))) H := by
    intro n hn e
    have e1 : x = nI n := by
      apply Int32.toInt_inj.mp
      rw [nI_toInt (by omega), e]
    have e2 : tly b x = tlK b n := by
      unfold tly
      rw [e1, inN_nI hn (by decide), if_pos rfl, un_nI (by omega)]
    rw [e2] at hq; exact hq
  refine cmX9_tally ⟨fun z => ?_, fun z => ?_, fun z => ?_, fun z => ?_, fun z => ?_, fun z => ?_, fun z => ?_, fun z => ?_, fun z => ?_, fun z => ?_, trivial⟩
  · have e : tly b x = -2 := if_neg (by
      have : inN 9 x = false := decide_eq_false (by omega)
      rw [this]; simp)
    rw [e] at hq; exact hq
  · rw [hF.1.2.1]; exact pick 0 (by decide) z
  · rw [hF.1.2.2.1]; exact pick 1 (by decide) z
  · rw [a1.2.1]; exact pick 2 (by decide) z
  · rw [a1.2.2.2.2.2.1]; exact pick 3 (by decide) z
  · rw [a2.2.1]; exact pick 4 (by decide) z
  · rw [hF.2.2.1.2.2.1]; exact ct_bitCount (wkA_lt a2.1 24) ⟨_, rfl, pick 5 (by decide) z⟩
  · have c4 : H 11 5 = nI (dO b).1 := a2.2.2.2.1
    rw [c4]; exact pick 6 (by decide) z
  · rw [a4.2.1]; exact pick 7 (by decide) z
  · rw [a6]; exact pick 8 (by decide) z
def sCount (b : Bd) (x : Int32) : Int32 × Bd := (tly b x, b)
theorem cc_count {E : En} {b : Bd} {x : Int32} : Cc E mX9_count [rf E 0, .int x] b (sCount b x) := by
  intro H0 Q hC hq
  refine cmX9_count (ct_refresh hC fun H kH hB hF h9 => ⟨rfl, ?_⟩)
  exact ct_tally hB hF ⟨_, rfl, hq H kH (ci_fr hB hF)⟩
