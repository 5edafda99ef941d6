/-! a day by lot -/
def nxL (x : Int32) : Int32 := 1103515245 * x + 12345
/-- the upper half of a lot -/
def upH (x : Int32) : Nat := x.toBitVec.toNat / 65536
theorem upH_lt (x : Int32) : upH x < 65536 := by
  have := x.toBitVec.isLt
  unfold upH; omega
theorem nI_bv (x : Int32) : x = nI x.toBitVec.toNat := by
  apply Int32.toBitVec_inj.mp
  apply BitVec.eq_of_toNat_eq
  show x.toBitVec.toNat = (Int32.ofNat x.toBitVec.toNat).toBitVec.toNat
  rw [Int32.toBitVec_ofNat', BitVec.toNat_ofNat]
  exact (Nat.mod_eq_of_lt x.toBitVec.isLt).symm
theorem up_16 (x : Int32) : ushr x 16 = nI (upH x) := by
  have h := i_ush (a := x.toBitVec.toNat) (t := 16) x.toBitVec.isLt (by decide)
  rw [← nI_bv x] at h
  exact h
theorem ct_drawn {E : En} {Q : Option Value → Hi → Prop} {H : Hi} {x : Int32} {m : Nat} (h0 : 0 < m) (hm : m < 2 ^ 31) (hq : Q (some (.int (nI (upH x % m)))) H) : Cm E mX2_drawn [.int x, .int (nI m)] H Q := by
  have n0 : ¬ nI m ≤ 0 := by
    show ¬ nI m ≤ nI 0
    rw [nI_leI hm (by decide)]; omega
  refine cmX2_drawn ⟨fun z => absurd z n0, fun _ => ⟨fun q => n0 (by rw [q]; decide), ?_⟩⟩
  rw [up_16, pk_rem (Nat.lt_trans (upH_lt x) (by decide)) h0 hm]
  exact hq
abbrev Dy : Type := Int32 × Nat × Sg
def dyK (b : Bd) (x : Int32) : Nat := 64 * (upH (nxL (nxL (nxL x))) % 2) + 8 * (upH (nxL x) % pM (dP b)) + upH (nxL (nxL x)) % pN (dP b)
def dy1 (b : Bd) (d : Dy) (h : Nat) : Dy :=
  if 0 < pN (dP b) ∧ 0 < pM (dP b) then
    (nxL (nxL (nxL d.1)), d.2.1 + (if (rch (dP b) (mid (dP b) (dH b) h d.2.2) (dyK b d.1)).isSome = true then 1 else 0), clo (dP b) (dA b) h (act (dP b) (mid (dP b) (dH b) h d.2.2) (dyK b d.1)))
  else (d.1, d.2.1, clo (dP b) (dA b) h (mid (dP b) (dH b) h d.2.2))
def frD (H0 H : Hi) : Prop := ∀ c, c ≠ 26 → H c = H0 c
