/-! items, signs; the family out of the texts -/
def famN (n : Nat) (b : Nat → Nat) : Nat := if gd 3 (okT0 b) n = true then (n + 1) / 4 else 0
def famM (n : Nat) (b : Nat → Nat) : Nat := if gd 2 (okT1 b) n = true then (n + 1) / 3 else 0
def tSz (b : Nat → Nat) (t : Nat) : Nat := b (4 * t) - 48
def tOw (b : Nat → Nat) (t : Nat) : Nat := b (4 * t + 1) - 48
def tKd (b : Nat → Nat) (t : Nat) : Nat := if b (4 * t + 2) = 115 then 1 else if b (4 * t + 2) = 102 then 2 else 0
def cHo (b : Nat → Nat) (c : Nat) : Bool := decide (b (3 * c) = 104)
def cWi (b : Nat → Nat) (c : Nat) : Nat := if b (3 * c + 1) = 46 then 8 else b (3 * c + 1) - 48
theorem fbF_all {ok : Nat → Bool} : ∀ (m i : Nat), fbF ok m i = i + m → ∀ k, i ≤ k → k < i + m → ok k = true
  | 0, i, _, k, h1, h2 => by omega
  | m + 1, i, h, k, h1, h2 => by
    by_cases hok : ok i = true
    · have e1 : fbF ok (m + 1) i = fbF ok m (i + 1) := by simp only [fbF]; rw [if_pos hok]
      rw [e1] at h
      by_cases e : k = i
      · subst e; exact hok
      · exact fbF_all m (i + 1) (by omega) k (by omega) (by omega)
    · have e1 : fbF ok (m + 1) i = i := by simp only [fbF]; rw [if_neg hok]
      omega
theorem gd_all {w n : Nat} {ok : Nat → Bool} (h : gd w ok n = true) : (∀ k, k < n → ok k = true) ∧ (n = 0 ∨ n % (w + 1) = w) := by
  unfold gd at h
  rw [Bool.and_eq_true, decide_eq_true_iff, decide_eq_true_iff] at h
  exact ⟨fun k hk => fbF_all n 0 (by omega) k (by omega) (by omega), h.2⟩
theorem flt_gd {w n : Nat} {ok : Nat → Bool} (hn : n < 2 ^ 31) : (flt w ok n = -1 ↔ gd w ok n = true) := by
  have h1 := fbF_ge ok n 0
  have hm : ∀ k, k < 2 ^ 31 → ¬ nI k = -1 := by
    intro k hk e
    have := congrArg Int32.toInt e
    rw [nI_toInt hk] at this
    have h2 : (-1 : Int32).toInt = -1 := by decide
    omega
  unfold flt gd
  rw [Bool.and_eq_true, decide_eq_true_iff, decide_eq_true_iff]
  split
  case isTrue h => exact ⟨fun e => absurd e (hm _ (by omega)), fun e => by omega⟩
  case isFalse h =>
    split
    case isTrue h2 => exact ⟨fun _ => ⟨by omega, h2⟩, fun _ => rfl⟩
    case isFalse h2 => exact ⟨fun e => absurd e (hm _ (by omega)), fun e => absurd e.2 h2⟩
theorem famN_le {n : Nat} {b : Nat → Nat} (hn : n ≤ 31) : famN n b ≤ 8 := by unfold famN; split <;> omega
theorem famM_le {n : Nat} {b : Nat → Nat} (hn : n ≤ 23) : famM n b ≤ 8 := by unfold famM; split <;> omega
theorem fam_t {n : Nat} {b : Nat → Nat} {t : Nat} (ht : t < famN n b) : 4 * t + 2 < n ∧ 49 ≤ b (4 * t) ∧ b (4 * t) ≤ 57 ∧ 48 ≤ b (4 * t + 1) ∧ b (4 * t + 1) ≤ 55 ∧ (b (4 * t + 2) = 111 ∨ b (4 * t + 2) = 115 ∨ b (4 * t + 2) = 102) := by
  unfold famN at ht
  split at ht
  case isFalse => omega
  case isTrue h =>
    obtain ⟨h1, h2⟩ := gd_all h
    have hlt : 4 * t + 2 < n := by omega
    have a0 := h1 (4 * t) (by omega)
    have a1 := h1 (4 * t + 1) (by omega)
    have a2 := h1 (4 * t + 2) hlt
    unfold okT0 at a0 a1 a2
    rw [show 4 * t % 4 = 0 by omega] at a0
    rw [show (4 * t + 1) % 4 = 1 by omega] at a1
    rw [show (4 * t + 2) % 4 = 2 by omega] at a2
    simp [okA] at a0 a1 a2
    exact ⟨hlt, a0.1, a0.2, a1.1, a1.2, a2⟩
theorem fam_c {n : Nat} {b : Nat → Nat} {c : Nat} (hc : c < famM n b) : 3 * c + 1 < n ∧ (b (3 * c) = 111 ∨ b (3 * c) = 104) ∧ ((48 ≤ b (3 * c + 1) ∧ b (3 * c + 1) ≤ 55) ∨ b (3 * c + 1) = 46) := by
  unfold famM at hc
  split at hc
  case isFalse => omega
  case isTrue h =>
    obtain ⟨h1, h2⟩ := gd_all h
    have hlt : 3 * c + 1 < n := by omega
    have a0 := h1 (3 * c) (by omega)
    have a1 := h1 (3 * c + 1) hlt
    unfold okT1 at a0 a1
    rw [show 3 * c % 3 = 0 by omega] at a0
    rw [show (3 * c + 1) % 3 = 1 by omega] at a1
    simp [okB] at a0 a1
    exact ⟨hlt, a0, a1⟩
/-- the texts, as the class has them -/
def TxC (n0 : Nat) (b0 : Nat → Nat) (n1 : Nat) (b1 : Nat → Nat) (H : Hi) : Prop := H 1 4 = nI 3 ∧ H 1 5 = nI n0 ∧ n0 ≤ 31 ∧ (∀ i, i < n0 → H 2 i = nI (b0 i) ∧ b0 i < 256) ∧ H 3 4 = nI 2 ∧ H 3 5 = nI n1 ∧ n1 ≤ 23 ∧ (∀ i, i < n1 → H 4 i = nI (b1 i) ∧ b1 i < 256)
theorem tx_keep {n0 n1 : Nat} {b0 b1 : Nat → Nat} {H H' : Hi} (hT : TxC n0 b0 n1 b1 H) (h : ∀ c, 1 ≤ c → c ≤ 4 → H' c = H c) : TxC n0 b0 n1 b1 H' := by
  unfold TxC
  rw [h 1 (by decide) (by decide), h 2 (by decide) (by decide), h 3 (by decide) (by decide), h 4 (by decide) (by decide)]
  exact hT
theorem div_n {n d : Nat} (hn : n ≤ 31) (hd : 0 < d) (hd2 : d < 2 ^ 31) : (nI n + 1) / nI d = nI ((n + 1) / d) := by
  rw [nI_1]; exact pk_div (by omega) hd hd2
theorem ct_items1 {E : En} {Q : Option Value → Hi → Prop} {H : Hi} {n0 n1 : Nat} {b0 b1 : Nat → Nat} (hT : TxC n0 b0 n1 b1 H) (hq : Q (some (.int (nI (famN n0 b0)))) H) : Cm E mX7_items [rf E 1] H Q := by
  obtain ⟨h4, h5, hn, hb, -⟩ := hT
  refine cmX7_items_i1 ?_
  refine ct_fw1 h4 h5 hn hb ⟨_, rfl, fun z => ?_, fun z => ?_⟩
  · have hg := (flt_gd (by omega)).mp z
    rw [h4, h5]
    refine ⟨fun _ => ?_, fun z2 => absurd z2 (by decide)⟩
    rw [show (4 : Int32) = nI 4 from rfl, div_n hn (by decide) (by decide)]
    unfold famN at hq
    rw [if_pos hg] at hq
    exact hq
  · unfold famN at hq
    rw [if_neg (fun q => z ((flt_gd (by omega)).mpr q))] at hq
    exact hq
theorem ct_items3 {E : En} {Q : Option Value → Hi → Prop} {H : Hi} {n0 n1 : Nat} {b0 b1 : Nat → Nat} (hT : TxC n0 b0 n1 b1 H) (hq : Q (some (.int (nI (famM n1 b1)))) H) : Cm E mX7_items [rf E 3] H Q := by
  obtain ⟨-, -, -, -, h4, h5, hn, hb⟩ := hT
  refine cmX7_items_i3 ?_
  refine ct_fw3 h4 h5 hn hb ⟨_, rfl, fun z => ?_, fun z => ?_⟩
  · have hg := (flt_gd (by omega)).mp z
    rw [h4, h5]
    refine ⟨fun z2 => absurd rfl z2, fun _ => ?_⟩
    rw [show (3 : Int32) = nI 3 from rfl, div_n (by omega) (by decide) (by decide)]
    unfold famM at hq
    rw [if_pos hg] at hq
    exact hq
  · unfold famM at hq
    rw [if_neg (fun q => z ((flt_gd (by omega)).mpr q))] at hq
    exact hq
theorem ct_sign1 {E : En} {Q : Option Value → Hi → Prop} {H : Hi} {n0 n1 : Nat} {b0 b1 : Nat → Nat} {t r : Nat} (hT : TxC n0 b0 n1 b1 H) (hr : r < 3) (hi : 4 * t + r < n0) (hq : Q (some (.int (ixB r (b0 (4 * t + r))))) H) : Cm E mX7_sign [rf E 1, .int (nI t), .int (nI r)] H Q := by
  obtain ⟨h4, h5, hn, hb, -⟩ := hT
  refine cmX7_sign_i1 ?_
  intro x ex
  have ex' : x = nI (4 * t + r) := by rw [ex, h4, nI_1, pk_mul, nI_add]; congr 1; omega
  subst ex'
  obtain ⟨g1, g2⟩ := hb _ hi
  refine ⟨fun z => absurd z (nI_pos (by omega)), fun _ => ⟨fun _ => ?_, fun z => ?_⟩⟩
  case refine_2 => rw [h5, nI_ltI (by omega) (by omega)] at z; omega
  have fin : ∀ j, j = r → ∃ zj : Nat, (zj < 31 ∧ nI (4 * t + r) = nI zj) ∧ Cm E mJ0_indexOf_0f7a4 [rf E (1000 + j), .int (i2c (H 2 zj))] H (fun w zH => ∃ zr : Int32, w = some (.int zr) ∧ Q (some (.int zr)) zH) := by
    intro j hj
    subst hj
    refine ⟨4 * t + j, ⟨by omega, rfl⟩, ?_⟩
    rw [g1, i2c_b _ g2]
    exact ct_indexOf (by omega) g2 ⟨_, rfl, hq⟩
  refine cmX7_signs_i1 ⟨fun z0 => ⟨fun z1 => ?_, fun z1 => ?_⟩, fun z0 => ?_⟩
  · have h0 : ¬ r = 0 := fun e => z0 (by rw [e]; rfl)
    have h1 : ¬ r = 1 := fun e => z1 (by rw [e]; rfl)
    exact Or.inr (Or.inr ⟨rfl, fin 2 (by omega)⟩)
  · have e : r = 1 := nI_inj (by omega) (by decide) z1
    exact Or.inr (Or.inl ⟨rfl, fin 1 e.symm⟩)
  · have e : r = 0 := nI_inj (by omega) (by decide) z0
    exact Or.inl ⟨rfl, fin 0 e.symm⟩
theorem ct_sign3 {E : En} {Q : Option Value → Hi → Prop} {H : Hi} {n0 n1 : Nat} {b0 b1 : Nat → Nat} {t r : Nat} (hT : TxC n0 b0 n1 b1 H) (hr : r < 2) (hi : 3 * t + r < n1) (hq : Q (some (.int (ixB (3 + r) (b1 (3 * t + r))))) H) : Cm E mX7_sign [rf E 3, .int (nI t), .int (nI r)] H Q := by
  obtain ⟨-, -, -, -, h4, h5, hn, hb⟩ := hT
  refine cmX7_sign_i3 ?_
  intro x ex
  have ex' : x = nI (3 * t + r) := by rw [ex, h4, nI_1, pk_mul, nI_add]; congr 1; omega
  subst ex'
  obtain ⟨g1, g2⟩ := hb _ hi
  refine ⟨fun z => absurd z (nI_pos (by omega)), fun _ => ⟨fun _ => ?_, fun z => ?_⟩⟩
  case refine_2 => rw [h5, nI_ltI (by omega) (by omega)] at z; omega
  have fin : ∀ j, j = 3 + r → ∃ zj : Nat, (zj < 23 ∧ nI (3 * t + r) = nI zj) ∧ Cm E mJ0_indexOf_0f7a4 [rf E (1000 + j), .int (i2c (H 4 zj))] H (fun w zH => ∃ zr : Int32, w = some (.int zr) ∧ Q (some (.int zr)) zH) := by
    intro j hj
    subst hj
    refine ⟨3 * t + r, ⟨by omega, rfl⟩, ?_⟩
    rw [g1, i2c_b _ g2]
    exact ct_indexOf (by omega) g2 ⟨_, rfl, hq⟩
  refine cmX7_signs_i3 ⟨fun z0 => ⟨fun z1 => ?_, fun z1 => ?_⟩, fun z0 => ?_⟩
  · have h0 : ¬ r = 0 := fun e => z0 (by rw [e]; rfl)
    have h1 : ¬ r = 1 := fun e => z1 (by rw [e]; rfl)
    omega
  · have e : r = 1 := nI_inj (by omega) (by decide) z1
    exact Or.inr (Or.inl ⟨rfl, fin 4 (by omega)⟩)
  · have e : r = 0 := nI_inj (by omega) (by decide) z0
    exact Or.inl ⟨rfl, fin 3 (by omega)⟩
theorem bs_succ {p : Nat → Bool} {t : Nat} : bs p (t + 1) = if p t = true then bs p t ||| 2 ^ t else bs p t := by
  have e : bs p (t + 1) = bs p t + bw p t * 2 ^ t := rfl
  rw [e]
  unfold bw
  split
  · have := Nat.two_pow_add_eq_or_of_lt (bs_lt p t) 1
    rw [Nat.mul_one] at this
    rw [Nat.or_comm, ← this]; omega
  · omega
