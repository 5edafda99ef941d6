/-! bits counted -/
def C1 (a w : Nat) : Nat := w - (w / 2 &&& a)
def C2 (a b w : Nat) : Nat := (C1 a w &&& b) + (C1 a w / 4 &&& b)
def C3 (a b c w : Nat) : Nat := (C2 a b w + C2 a b w / 16) &&& c
theorem and_spl {xl xh ml mh : Nat} (h1 : xl < 256) (h2 : ml < 256) : (xl + 256 * xh) &&& (ml + 256 * mh) = (xl &&& ml) + 256 * (xh &&& mh) := by
  have a1 : ((xl + 256 * xh) &&& (ml + 256 * mh)) % 2 ^ 8 = ((xl + 256 * xh) % 2 ^ 8) &&& ((ml + 256 * mh) % 2 ^ 8) := Nat.and_mod_two_pow
  have a2 : ((xl + 256 * xh) &&& (ml + 256 * mh)) / 2 ^ 8 = ((xl + 256 * xh) / 2 ^ 8) &&& ((ml + 256 * mh) / 2 ^ 8) := Nat.and_div_two_pow
  rw [show (xl + 256 * xh) % 2 ^ 8 = xl by omega, show (ml + 256 * mh) % 2 ^ 8 = ml by omega] at a1
  rw [show (xl + 256 * xh) / 2 ^ 8 = xh by omega, show (ml + 256 * mh) / 2 ^ 8 = mh by omega] at a2
  rw [← a1, ← a2]
  omega
theorem by_1 : ∀ d, d < 256 → ∀ e, e < 2 → (d / 2 + 128 * e) &&& 85 = d / 2 &&& 85 := by decide +kernel
theorem by_2 : ∀ d, d < 256 → ∀ e, e < 4 → (d / 4 + 64 * e) &&& 51 = d / 4 &&& 51 := by decide +kernel
theorem by_3 : ∀ d, d < 256 → C2 85 51 d ≤ 68 ∧ C2 85 51 d % 16 ≤ 4 := by decide +kernel
theorem by_4 : ∀ l, l < 69 → ∀ e, e < 5 → (l + (l / 16 + 16 * e)) &&& 15 = (l + l / 16) &&& 15 := by decide +kernel
theorem C1_spl {a d r : Nat} (hd : d < 256) : C1 (85 + 256 * a) (d + 256 * r) = C1 85 d + 256 * C1 a r := by
  unfold C1
  rw [show (d + 256 * r) / 2 = (d / 2 + 128 * (r % 2)) + 256 * (r / 2) by omega, and_spl (by omega) (by decide), by_1 d hd _ (by omega)]
  have h1 : d / 2 &&& 85 ≤ d / 2 := Nat.and_le_left
  have h2 : r / 2 &&& a ≤ r / 2 := Nat.and_le_left
  omega
theorem C1_lt {a d : Nat} (hd : d < 256) : C1 a d < 256 := by unfold C1; omega
theorem C2_spl {a b d r : Nat} (hd : d < 256) : C2 (85 + 256 * a) (51 + 256 * b) (d + 256 * r) = C2 85 51 d + 256 * C2 a b r := by
  unfold C2
  rw [C1_spl hd]
  have h1 := C1_lt (a := 85) hd
  generalize C1 85 d = l at *
  generalize C1 a r = h at *
  rw [show (l + 256 * h) / 4 = (l / 4 + 64 * (h % 4)) + 256 * (h / 4) by omega, and_spl h1 (by decide), and_spl (by omega) (by decide), by_2 l h1 _ (by omega)]
  omega
theorem C3_spl {a b c d r : Nat} (hd : d < 256) (hr : C2 a b r % 16 ≤ 4) : C3 (85 + 256 * a) (51 + 256 * b) (15 + 256 * c) (d + 256 * r) = C3 85 51 15 d + 256 * C3 a b c r := by
  unfold C3
  rw [C2_spl hd]
  have h1 := by_3 d hd
  generalize C2 85 51 d = l at *
  generalize C2 a b r = h at *
  rw [show l + 256 * h + (l + 256 * h) / 16 = (l + (l / 16 + 16 * (h % 16))) + 256 * (h + h / 16) by omega, and_spl (by omega) (by decide), by_4 l (by omega) _ (by omega)]
def pop (w n : Nat) : Nat := sm (fun k => w / 2 ^ k % 2) n
theorem by_5 : ∀ d, d < 256 → C3 85 51 15 d = pop d 8 ∧ pop d 8 ≤ 8 := by decide +kernel
theorem by_6 : ∀ d, d < 16 → C2 21845 13107 d % 16 ≤ 4 ∧ C3 21845 13107 3855 d = pop d 4 ∧ pop d 4 ≤ 4 := by decide +kernel
theorem sm_addN (f : Nat → Nat) (a : Nat) : ∀ n, sm f (a + n) = sm f a + sm (fun k => f (a + k)) n
  | 0 => rfl
  | n + 1 => by
    show sm f (a + n) + f (a + n) = sm f a + (sm (fun k => f (a + k)) n + f (a + n))
    rw [sm_addN f a n]; omega
theorem pop_spl {d r n : Nat} (hd : d < 256) : pop (d + 256 * r) (8 + n) = pop d 8 + pop r n := by
  unfold pop
  rw [sm_addN]
  congr 1
  · refine sm_congr (fun k hk => ?_)
    have e : (d + 256 * r) / 2 ^ k = d / 2 ^ k + 2 ^ (8 - k) * r := by
      have e2 : 256 = 2 ^ k * 2 ^ (8 - k) := by rw [← Nat.pow_add, show k + (8 - k) = 8 by omega]
      rw [e2, Nat.mul_assoc, Nat.add_mul_div_left _ _ (Nat.pow_pos (by decide))]
    show (d + 256 * r) / 2 ^ k % 2 = d / 2 ^ k % 2
    rw [e]
    have e3 : 2 ^ (8 - k) = 2 * 2 ^ (7 - k) := by rw [← Nat.pow_succ', show (7 - k).succ = 8 - k by omega]
    rw [e3, Nat.mul_assoc, Nat.add_mul_mod_self_left]
  · refine sm_congr (fun k hk => ?_)
    show (d + 256 * r) / 2 ^ (8 + k) % 2 = r / 2 ^ k % 2
    rw [Nat.pow_add, ← Nat.div_div_eq_div_mul, show (d + 256 * r) / 2 ^ 8 = r by omega]
theorem pop_C {w : Nat} (hw : w < 2 ^ 20) : ∃ p0 p1 p2, p0 ≤ 8 ∧ p1 ≤ 8 ∧ p2 ≤ 4 ∧ C3 1431655765 858993459 252645135 w = p0 + 256 * p1 + 65536 * p2 ∧ pop w 20 = p0 + p1 + p2 := by
  have e1 : w = w % 256 + 256 * (w / 256 % 256 + 256 * (w / 65536)) := by omega
  have l1 : w % 256 < 256 := by omega
  have l2 : w / 256 % 256 < 256 := by omega
  have l3 : w / 65536 < 16 := by omega
  generalize w % 256 = d at *
  generalize w / 256 % 256 = f at *
  generalize w / 65536 = g at *
  have q6 := by_6 g l3
  have q5 := by_5 d l1
  have r5 := by_5 f l2
  have m2 : C2 5592405 3355443 (f + 256 * g) % 16 ≤ 4 := by
    have := C2_spl (a := 21845) (b := 13107) (d := f) (r := g) l2
    rw [show (85 : Nat) + 256 * 21845 = 5592405 by decide, show (51 : Nat) + 256 * 13107 = 3355443 by decide] at this
    rw [this]
    have := (by_3 f l2).2
    omega
  have m3 : C3 5592405 3355443 986895 (f + 256 * g) = pop f 8 + 256 * pop g 4 := by
    have := C3_spl (a := 21845) (b := 13107) (c := 3855) (d := f) (r := g) l2 q6.1
    rw [show (85 : Nat) + 256 * 21845 = 5592405 by decide, show (51 : Nat) + 256 * 13107 = 3355443 by decide, show (15 : Nat) + 256 * 3855 = 986895 by decide] at this
    rw [this, r5.1, q6.2.1]
  have m4 := C3_spl (a := 5592405) (b := 3355443) (c := 986895) (d := d) (r := f + 256 * g) l1 m2
  rw [show (85 : Nat) + 256 * 5592405 = 1431655765 by decide, show (51 : Nat) + 256 * 3355443 = 858993459 by decide, show (15 : Nat) + 256 * 986895 = 252645135 by decide, q5.1, m3] at m4
  refine ⟨pop d 8, pop f 8, pop g 4, q5.2, r5.2, q6.2.2, ?_, ?_⟩
  · rw [e1, m4]; omega
  · rw [e1, show (20 : Nat) = 8 + (8 + 4) by decide, pop_spl l1, pop_spl l2]; omega
theorem i_and63 {a : Nat} (ha : a < 2 ^ 32) : nI a &&& 63 = nI (a % 64) := pk_andN ha 6 (by decide +kernel)
theorem ct_bitCount {E : En} {Q : Option Value → Hi → Prop} {H : Hi} {w : Nat} (hw : w < 2 ^ 20) (hq : Q (some (.int (nI (pop w 20)))) H) : Cm E mJ6_bitCount_0f7a4 [.int (nI w)] H Q := by
  refine cmJ6_bitCount_0f7a4 ?_
  intro x1 g1 x2 g2 x3 g3 x4 g4 x5 g5
  have us : ∀ a t : Nat, a < 2 ^ 32 → t < 32 → ushr (nI a) (nI t) = nI (a / 2 ^ t) := fun a t h1 h2 => i_ush h1 h2
  have k1 : x1 = nI (C1 1431655765 w) := by
    rw [g1, show (1 : Int32) = nI 1 from rfl, us w 1 (by omega) (by decide), show (1431655765 : Int32) = nI 1431655765 from rfl, nI_and, pk_sub (Nat.le_trans Nat.and_le_left (Nat.div_le_self _ _))]
    rfl
  have b1 : C1 1431655765 w < 2 ^ 20 := by unfold C1; omega
  have k2 : x2 = nI (C2 1431655765 858993459 w) := by
    rw [g2, k1, show (2 : Int32) = nI 2 from rfl, us _ 2 (by omega) (by decide), show (858993459 : Int32) = nI 858993459 from rfl, nI_and, nI_and, nI_add]
    rfl
  have b2 : C2 1431655765 858993459 w < 2 ^ 21 := by
    unfold C2
    have h1 : C1 1431655765 w &&& 858993459 ≤ C1 1431655765 w := Nat.and_le_left
    have h2 : C1 1431655765 w / 4 &&& 858993459 ≤ C1 1431655765 w / 4 := Nat.and_le_left
    omega
  have k3 : x3 = nI (C3 1431655765 858993459 252645135 w) := by
    rw [g3, k2, show (4 : Int32) = nI 4 from rfl, us _ 4 (by omega) (by decide), show (252645135 : Int32) = nI 252645135 from rfl, nI_add, nI_and]
    rfl
  obtain ⟨p0, p1, p2, l0, l1, l2, ec, ep⟩ := pop_C hw
  rw [ec] at k3
  have k4 : x4 = nI (p0 + 256 * p1 + 65536 * p2 + (p1 + 256 * p2)) := by
    rw [g4, k3, show (8 : Int32) = nI 8 from rfl, us _ 8 (by omega) (by decide), nI_add]
    congr 2
    omega
  have k5 : x5 = nI (p0 + 256 * p1 + 65536 * p2 + (p1 + 256 * p2) + p2) := by
    rw [g5, k4, show (16 : Int32) = nI 16 from rfl, us _ 16 (by omega) (by decide), nI_add]
    congr 2
    omega
  rw [k5, i_and63 (by omega)]
  rw [show (p0 + 256 * p1 + 65536 * p2 + (p1 + 256 * p2) + p2) % 64 = pop w 20 by omega]
  exact hq
