/-! sums, digits, bits; Int32 by natural numbers -/
def sm (f : Nat → Nat) : Nat → Nat
  | 0 => 0
  | n + 1 => sm f n + f n
theorem sm_congr {f g : Nat → Nat} : ∀ {n : Nat}, (∀ i, i < n → f i = g i) → sm f n = sm g n
  | 0, _ => rfl
  | n + 1, h => by simp only [sm]; rw [sm_congr (fun i hi => h i (by omega)), h n (by omega)]
theorem sm_upd {f g : Nat → Nat} {k : Nat} : ∀ {n : Nat}, k < n → (∀ i, i < n → i ≠ k → f i = g i) → sm f n + g k = sm g n + f k
  | 0, hk, _ => by omega
  | n + 1, hk, h => by
    simp only [sm]
    by_cases e : k = n
    · subst e
      rw [sm_congr (fun i hi => h i (by omega) (by omega))]; omega
    · have := sm_upd (f := f) (g := g) (k := k) (n := n) (by omega) (fun i hi => h i (by omega))
      rw [h n (by omega) (fun q => e q.symm)]; omega
theorem sm_le {f g : Nat → Nat} : ∀ {n : Nat}, (∀ i, i < n → f i ≤ g i) → sm f n ≤ sm g n
  | 0, _ => Nat.le_refl _
  | n + 1, h => by simp only [sm]; exact Nat.add_le_add (sm_le (fun i hi => h i (by omega))) (h n (by omega))
theorem sm_one {f : Nat → Nat} {k : Nat} : ∀ {n : Nat}, k < n → f k ≤ sm f n
  | 0, hk => by omega
  | n + 1, hk => by
    simp only [sm]
    by_cases e : k = n
    · subst e; omega
    · have := sm_one (f := f) (k := k) (n := n) (by omega); omega
def dg (B : Nat) (w : Nat → Nat) (n : Nat) : Nat := sm (fun t => w t * B ^ t) n
theorem dg_lt {B : Nat} (hB : 0 < B) {w : Nat → Nat} : ∀ {n : Nat}, (∀ t, t < n → w t < B) → dg B w n < B ^ n
  | 0, _ => by simp [dg, sm]
  | n + 1, h => by
    have ih := dg_lt hB (w := w) (n := n) (fun t ht => h t (by omega))
    have h1 : w n * B ^ n + B ^ n ≤ B * B ^ n := by
      rw [← Nat.succ_mul]; exact Nat.mul_le_mul_right _ (h n (by omega))
    show dg B w n + w n * B ^ n < B ^ (n + 1)
    rw [Nat.pow_succ, Nat.mul_comm (B ^ n) B]
    omega
theorem dg_get {B : Nat} (hB : 0 < B) {w : Nat → Nat} {t : Nat} : ∀ {n : Nat}, (∀ t, t < n → w t < B) → t < n → dg B w n / B ^ t % B = w t
  | 0, _, ht => by omega
  | n + 1, h, ht => by
    have hp : 0 < B ^ t := Nat.pow_pos hB
    show (dg B w n + w n * B ^ n) / B ^ t % B = w t
    by_cases e : t = n
    · subst e
      rw [Nat.add_mul_div_right _ _ hp, Nat.div_eq_of_lt (dg_lt hB (fun i hi => h i (by omega))), Nat.zero_add]
      exact Nat.mod_eq_of_lt (h t (by omega))
    · have ih := dg_get hB (w := w) (t := t) (n := n) (fun i hi => h i (by omega)) (by omega)
      have e1 : w n * B ^ n = (w n * B ^ (n - t - 1) * B) * B ^ t := by
        rw [Nat.mul_assoc, Nat.mul_assoc, ← Nat.pow_succ', ← Nat.pow_add]
        congr 2; omega
      rw [e1, Nat.add_mul_div_right _ _ hp, Nat.add_mul_mod_self_right]
      exact ih
theorem dg_big {B : Nat} (hB : 1 < B) {w : Nat → Nat} {n t : Nat} (h : ∀ t, t < n → w t < B) (ht : n ≤ t) : dg B w n / B ^ t = 0 :=
  Nat.div_eq_of_lt (Nat.lt_of_lt_of_le (dg_lt (by omega) h) (Nat.pow_le_pow_right (by omega) ht))
theorem dg_congr {B : Nat} {w w' : Nat → Nat} {n : Nat} (h : ∀ t, t < n → w t = w' t) : dg B w n = dg B w' n := sm_congr (fun i hi => by rw [h i hi])
theorem dg_up {B : Nat} {w : Nat → Nat} {n t x : Nat} (ht : t < n) : dg B (va_up w t x) n + w t * B ^ t = dg B w n + x * B ^ t := by
  have h := sm_upd (f := fun i => va_up w t x i * B ^ i) (g := fun i => w i * B ^ i) (k := t) (n := n) ht (fun i _ hi => by simp [va_up, hi])
  simp only [va_up, if_true] at h
  exact h
def bw (p : Nat → Bool) : Nat → Nat := fun t => if p t = true then 1 else 0
/-- a set of things, as bits -/
def bs (p : Nat → Bool) (n : Nat) : Nat := dg 2 (bw p) n
theorem bw_lt (p : Nat → Bool) (t : Nat) : bw p t < 2 := by unfold bw; split <;> omega
theorem bs_lt (p : Nat → Bool) (n : Nat) : bs p n < 2 ^ n := dg_lt (by decide) (fun t _ => bw_lt p t)
theorem bs_tb (p : Nat → Bool) (n i : Nat) : (bs p n).testBit i = (decide (i < n) && p i) := by
  rw [Nat.testBit_eq_decide_div_mod_eq]
  by_cases hi : i < n
  · unfold bs
    rw [dg_get (by decide) (fun t _ => bw_lt p t) hi]
    unfold bw
    cases p i <;> simp [hi]
  · unfold bs
    rw [dg_big (by decide) (fun t _ => bw_lt p t) (by omega)]
    simp [hi]
theorem bs_congr {p q : Nat → Bool} {n : Nat} (h : ∀ t, t < n → p t = q t) : bs p n = bs q n := dg_congr (fun t ht => by simp [bw, h t ht])
theorem bs_or_bit {p : Nat → Bool} {n t : Nat} (ht : t < n) : bs p n ||| 2 ^ t = bs (va_up p t true) n := by
  apply Nat.eq_of_testBit_eq
  intro i
  rw [Nat.testBit_or, bs_tb, bs_tb, Nat.testBit_two_pow]
  unfold va_up
  by_cases e : i = t
  · subst e; simp [ht]
  · have e2 : ¬ t = i := fun q => e q.symm
    simp [e, e2]
theorem bs_add {p : Nat → Bool} {n t : Nat} (ht : t < n) (hp : p t = false) : bs (va_up p t true) n = bs p n + 2 ^ t := by
  have h := dg_up (B := 2) (w := bw p) (x := 1) ht
  have e1 : dg 2 (va_up (bw p) t 1) n = bs (va_up p t true) n := dg_congr (fun i _ => by unfold va_up bw; by_cases e : i = t <;> simp [e])
  rw [e1] at h
  simp [bw, hp] at h
  exact h
theorem bs_sub {p : Nat → Bool} {n t : Nat} (ht : t < n) (hp : p t = true) : bs (va_up p t false) n + 2 ^ t = bs p n := by
  have h := dg_up (B := 2) (w := bw p) (x := 0) ht
  have e1 : dg 2 (va_up (bw p) t 0) n = bs (va_up p t false) n := dg_congr (fun i _ => by unfold va_up bw; by_cases e : i = t <;> simp [e])
  rw [e1] at h
  simp [bw, hp] at h
  exact h
theorem bs_zero {n : Nat} : bs (fun _ => false) n = 0 := by
  apply Nat.eq_of_testBit_eq; intro i; rw [bs_tb]; simp
theorem bs_eq0 {p : Nat → Bool} {n : Nat} : bs p n = 0 ↔ ∀ t, t < n → p t = false := by
  constructor
  · intro h t ht
    have := bs_tb p n t
    rw [h] at this
    simp [ht] at this
    exact this
  · intro h
    rw [bs_congr h]; exact bs_zero
theorem bs_and (p q : Nat → Bool) (n : Nat) : bs p n &&& bs q n = bs (fun t => p t && q t) n := by
  apply Nat.eq_of_testBit_eq; intro i
  rw [Nat.testBit_and, bs_tb, bs_tb, bs_tb]
  cases decide (i < n) <;> simp
/-! Int32 -/
theorem i_lit (k : Nat) : (Int32.ofNat k) = nI k := rfl
theorem nI_and (a b : Nat) : nI a &&& nI b = nI (a &&& b) := by
  apply Int32.toBitVec_inj.1
  show BitVec.ofNat 32 a &&& BitVec.ofNat 32 b = BitVec.ofNat 32 (a &&& b)
  apply BitVec.eq_of_getLsbD_eq
  intro i hi
  simp [hi]
theorem nI_or (a b : Nat) : nI a ||| nI b = nI (a ||| b) := by
  apply Int32.toBitVec_inj.1
  show BitVec.ofNat 32 a ||| BitVec.ofNat 32 b = BitVec.ofNat 32 (a ||| b)
  apply BitVec.eq_of_getLsbD_eq
  intro i hi
  simp [hi]
theorem nI_xor (a b : Nat) : nI a ^^^ nI b = nI (a ^^^ b) := by
  apply Int32.toBitVec_inj.1
  show BitVec.ofNat 32 a ^^^ BitVec.ofNat 32 b = BitVec.ofNat 32 (a ^^^ b)
  apply BitVec.eq_of_getLsbD_eq
  intro i hi
  simp [hi]
theorem i_sl : ∀ n, n < 32 → ((nI n &&& 31).toBitVec.smod 32).toNat = n := by decide +kernel
theorem i_su : ∀ n, n < 32 → (((nI n).toUInt32 &&& Int32.toUInt32 31).toBitVec % 32).toNat = n := by decide +kernel
theorem i_one : ∀ t, t < 32 → (1 : Int32) <<< (nI t &&& 31) = nI (2 ^ t) := by decide +kernel
theorem i_shr {a t : Nat} (ha : a < 2 ^ 31) (ht : t < 32) : nI a >>> (nI t &&& 31) = nI (a / 2 ^ t) := pk_shrN ha _ t (i_sl t ht)
theorem i_ush {a t : Nat} (ha : a < 2 ^ 32) (ht : t < 32) : ushr (nI a) (nI t) = nI (a / 2 ^ t) := pk_ushrN ha _ t (i_su t ht)
theorem i_and1 {a : Nat} (ha : a < 2 ^ 32) : nI a &&& 1 = nI (a % 2) := pk_andN ha 1 (by decide +kernel)
theorem i_and7 {a : Nat} (ha : a < 2 ^ 32) : nI a &&& 7 = nI (a % 8) := pk_andN ha 3 (by decide +kernel)
theorem i_and15 {a : Nat} (ha : a < 2 ^ 32) : nI a &&& 15 = nI (a % 16) := pk_andN ha 4 (by decide +kernel)
theorem i_shl (x : Int32) {t : Nat} (ht : t < 32) : x <<< (nI t &&& 31) = x * nI (2 ^ t) := by
  have h := pk_shl x (nI t &&& 31) t (i_sl t ht)
  apply Int32.toBitVec_inj.1
  apply BitVec.eq_of_toNat_eq
  rw [h, Int32.toBitVec_mul, BitVec.toNat_mul]
  show _ = (x.toBitVec.toNat * (BitVec.ofNat 32 (2 ^ t)).toNat) % 2 ^ 32
  rw [BitVec.toNat_ofNat, Nat.mod_eq_of_lt (Nat.pow_lt_pow_right (by decide) ht)]
theorem nI_mod {a b : Nat} (h : a % 2 ^ 32 = b % 2 ^ 32) : nI a = nI b := by
  apply Int32.toBitVec_inj.1
  apply BitVec.eq_of_toNat_eq
  show (BitVec.ofNat 32 a).toNat = (BitVec.ofNat 32 b).toNat
  rw [BitVec.toNat_ofNat, BitVec.toNat_ofNat, h]
theorem nI_inj {a b : Nat} (ha : a < 2 ^ 32) (hb : b < 2 ^ 32) (h : nI a = nI b) : a = b := by
  have h2 : (nI a).toBitVec.toNat = (nI b).toBitVec.toNat := by rw [h]
  rw [pk_tn ha, pk_tn hb] at h2
  exact h2
/-- a number moved from one digit to another: place += (c - d) << 4t -/
theorem i_move {a a' c d t : Nat} (ht : t < 32) (h : a' + d * 2 ^ t = a + c * 2 ^ t) : nI a + (nI c - nI d) <<< (nI t &&& 31) = nI a' := by
  rw [i_shl _ ht]
  have e : nI a' + nI d * nI (2 ^ t) = nI a + nI c * nI (2 ^ t) := by rw [pk_mul, pk_mul, nI_add, nI_add, h]
  have e2 : nI a' = nI a + nI c * nI (2 ^ t) - nI d * nI (2 ^ t) := by rw [← e, Int32.add_sub_cancel]
  rw [e2, Int32.sub_mul]
  simp only [Int32.sub_eq_add_neg, Int32.add_assoc]
theorem i_clear {p : Nat → Bool} {n t : Nat} (hn : n ≤ 31) (ht : t < n) : nI (bs p n) &&& (nI (2 ^ t) ^^^ (-1)) = nI (bs (va_up p t false) n) := by
  have e1 : (-1 : Int32) = nI (2 ^ 32 - 1) := by decide +kernel
  rw [e1, nI_xor, nI_and]
  congr 1
  apply Nat.eq_of_testBit_eq
  intro i
  rw [Nat.testBit_and, Nat.testBit_xor, bs_tb, bs_tb, Nat.testBit_two_pow, Nat.testBit_two_pow_sub_one]
  unfold va_up
  by_cases e : i = t
  · subst e
    have : i < 32 := by omega
    simp [this]
  · have e2 : ¬ t = i := fun q => e q.symm
    by_cases hi : i < n
    · have : i < 32 := by omega
      simp [e, e2, hi, this]
    · simp [hi]
theorem i_bit {p : Nat → Bool} {n t : Nat} (hn : n ≤ 31) (ht : t < n) : (nI (bs p n) >>> (nI t &&& 31)) &&& 1 = nI (if p t = true then 1 else 0) := by
  have hlt : bs p n < 2 ^ 31 := Nat.lt_of_lt_of_le (bs_lt p n) (Nat.pow_le_pow_right (by decide) hn)
  rw [i_shr hlt (by omega), i_and1 (Nat.lt_of_le_of_lt (Nat.div_le_self _ _) (by omega))]
  congr 1
  exact dg_get (by decide) (fun t _ => bw_lt p t) ht
theorem i_dig {w : Nat → Nat} {n t : Nat} (hn : n ≤ 8) (hw : ∀ t, t < n → w t < 16) (ht : t < n) : ushr (nI (dg 16 w n)) (nI (4 * t)) &&& 15 = nI (w t) := by
  have hlt : dg 16 w n < 2 ^ 32 := Nat.lt_of_lt_of_le (dg_lt (by decide) hw) (by
    rw [show (2 : Nat) ^ 32 = 16 ^ 8 by decide]; exact Nat.pow_le_pow_right (by decide) hn)
  rw [i_ush hlt (by omega), i_and15 (Nat.lt_of_le_of_lt (Nat.div_le_self _ _) hlt)]
  congr 1
  rw [Nat.pow_mul, show (2 : Nat) ^ 4 = 16 by decide]
  exact dg_get (by decide) hw ht
