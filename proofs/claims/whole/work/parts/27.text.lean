/-! texts -/
def ixF (j : Nat) (x : Int32) : Nat → Nat → Int32
  | 0, _ => -1
  | m + 1, i => if (skByt.getD j []).getD i 0 = x then nI i else ixF j x m (i + 1)
def ixB (j b : Nat) : Int32 := ixF j (nI b).toInt8.toInt32 (skLen.getD j 0) 0
theorem ixc_loop {E : En} {Q : Option Value → Hi → Prop} {H : Hi} {j : Nat} {x : Int32} (hj : j < 6) :
    ∀ (m i : Nat), i + m = skLen.getD j 0 → Q (some (.int (ixF j x m i))) H →
      Rm E mJ1_indexOfChar_4cfef Q 7 [some (rv E j), none, none, some (.int (nI (skLen.getD j 0))), some (.int x), some (.int (nI i))] [] H := by
  intro m
  induction m with
  | zero =>
    intro i hi hq
    have e : i = skLen.getD j 0 := by omega
    rw [e]
    exact sgJ1_indexOfChar_4cfef_7 hj ⟨fun _ => hq, fun z => absurd (Int32.le_refl _) z⟩
  | succ m ih =>
    intro i hi hq
    have hl := skL j
    refine sgJ1_indexOfChar_4cfef_7 hj ⟨fun z => ?_, fun _ => ?_⟩
    · rw [nI_leI (by omega) (by omega)] at z; omega
    refine ⟨i, ⟨by omega, rfl⟩, ⟨fun z => ?_, fun z => ?_⟩⟩
    · intro y ey
      rw [nI_1] at ey
      subst ey
      simp only [ixF] at hq
      rw [if_neg z] at hq
      exact ih (i + 1) (by omega) hq
    · simp only [ixF] at hq
      rw [if_pos z] at hq
      exact hq
theorem sk_le9 : ∀ j, j < 6 → skLen.getD j 0 ≤ 9 := by decide
theorem ct_indexOf {E : En} {Q : Option Value → Hi → Prop} {H : Hi} {j b : Nat} (hj : j < 6) (hb : b < 256) (hq : Q (some (.int (ixB j b))) H) : Cm E mJ0_indexOf_0f7a4 [rf E (1000 + j), .int (nI b)] H Q := by
  have h9 := sk_le9 j hj
  refine cmJ0_indexOf_0f7a4 hj ?_
  refine cmJ0_indexOf_7cf53 hj ?_
  refine cmJ0_isLatin1_aae02 hj ⟨fun z => absurd z (by decide), fun _ => ⟨fun z => absurd rfl z, fun _ => ?_⟩⟩
  refine ⟨_, rfl, fun z => absurd z (by decide), fun _ => ?_⟩
  refine cmJ0_length_8abf5 hj ?_
  refine cmJ0_coder_7d493 hj ⟨fun z => absurd z (by decide), fun _ => ?_⟩
  refine ⟨_, rfl, _, rfl, ?_⟩
  have e0 : nI (skLen.getD j 0) >>> ((0 : Int32) &&& 31) = nI (skLen.getD j 0) := by
    rw [show (0 : Int32) = nI 0 from rfl, i_shr (by omega) (by decide)]; simp
  rw [e0]
  refine cmJ1_indexOf_4cfef hj ?_
  refine cmJ1_canEncode_9a6ad ⟨fun z => ?_, fun _ => ⟨fun z => ?_, fun _ => ?_⟩⟩
  · exact absurd z (nI_pos (by omega))
  · rw [show (255 : Int32) = nI 255 from rfl, nI_ltI (by omega) (by omega)] at z; omega
  refine ⟨_, rfl, fun _ => ?_, fun z => absurd z (by decide)⟩
  intro x2 e2 x3 e3
  have e2' : x2 = nI 0 := by rw [e2]; decide
  have e3' : x3 = nI (skLen.getD j 0) := by rw [e3]; unfold mmin; split <;> rfl
  subst e2'; subst e3'
  refine ⟨fun _ => ?_, fun z => ?_⟩
  · refine cmJ1_indexOfChar_4cfef hj ?_
    intro x4 e4
    subst e4
    exact ixc_loop hj _ 0 (by omega) ⟨_, rfl, _, rfl, _, rfl, hq⟩
  · have hz : skLen.getD j 0 = 0 := by
      rw [nI_ltI (by omega) (by omega)] at z; omega
    refine ⟨_, rfl, _, rfl, ?_⟩
    unfold ixB at hq
    rw [hz] at hq
    exact hq
theorem ix_0 : ∀ b, b < 256 → ixB 0 b = if 49 ≤ b ∧ b ≤ 57 then nI (b - 49) else -1 := by decide +kernel
theorem ix_1 : ∀ b, b < 256 → ixB 1 b = if 48 ≤ b ∧ b ≤ 55 then nI (b - 48) else -1 := by decide +kernel
theorem ix_2 : ∀ b, b < 256 → ixB 2 b = if b = 111 then nI 0 else if b = 115 then nI 1 else if b = 102 then nI 2 else -1 := by decide +kernel
theorem ix_3 : ∀ b, b < 256 → ixB 3 b = if b = 111 then nI 0 else if b = 104 then nI 1 else -1 := by decide +kernel
theorem ix_4 : ∀ b, b < 256 → ixB 4 b = if 48 ≤ b ∧ b ≤ 55 then nI (b - 48) else if b = 46 then nI 8 else -1 := by decide +kernel
theorem i2c_b : ∀ b, b < 256 → i2c (nI b) = nI b := by decide +kernel
def okA (r b : Nat) : Bool := if r = 0 then decide (49 ≤ b ∧ b ≤ 57) else if r = 1 then decide (48 ≤ b ∧ b ≤ 55) else if r = 2 then decide (b = 111 ∨ b = 115 ∨ b = 102) else decide (b = 59)
def okB (r b : Nat) : Bool := if r = 0 then decide (b = 111 ∨ b = 104) else if r = 1 then decide ((48 ≤ b ∧ b ≤ 55) ∨ b = 46) else decide (b = 59)
theorem lt0_0 : ∀ b, b < 256 → (ixB 0 b < 0 ↔ okA 0 b = false) := by decide +kernel
theorem lt0_1 : ∀ b, b < 256 → (ixB 1 b < 0 ↔ okA 1 b = false) := by decide +kernel
theorem lt0_2 : ∀ b, b < 256 → (ixB 2 b < 0 ↔ okA 2 b = false) := by decide +kernel
theorem lt0_3 : ∀ b, b < 256 → (ixB 3 b < 0 ↔ okB 0 b = false) := by decide +kernel
theorem lt0_4 : ∀ b, b < 256 → (ixB 4 b < 0 ↔ okB 1 b = false) := by decide +kernel
theorem b_if {b : Bool} : (b = true → (if b = true then (1 : Nat) else 0) = 1) ∧ (b = false → (if b = true then (1 : Nat) else 0) = 0) := by cases b <;> simp
set_option maxHeartbeats 1000000 in
theorem ct_fits1 {E : En} {Q : Option Value → Hi → Prop} {H : Hi} {r b : Nat} (h4 : H 1 4 = nI 3) (hr : r < 4) (hb : b < 256) (hq : Q (some (.int (nI (if okA r b = true then 1 else 0)))) H) : Cm E mX7_fits [rf E 1, .int (nI r), .int (nI b)] H Q := by
  have fin : ∀ (j : Nat) (hj : j < 6), (ixB j b < 0 ↔ okA r b = false) → Cm E mJ0_indexOf_0f7a4 [rf E (1000 + j), .int (i2c (nI b))] H (fun w zH => ∃ zr : Int32, w = some (.int zr) ∧ ((zr < 0 → Q (some (.int 0)) zH) ∧ (¬ zr < 0 → Q (some (.int 1)) zH))) := by
    intro j hj hl
    rw [i2c_b b hb]
    refine ct_indexOf hj hb ⟨_, rfl, fun z => ?_, fun z => ?_⟩
    · rw [b_if.2 (hl.mp z)] at hq; exact hq
    · have : okA r b = true := by cases e : okA r b with
        | true => rfl
        | false => exact absurd (hl.mpr e) z
      rw [b_if.1 this] at hq; exact hq
  refine cmX7_fits_i1 ?_
  rw [h4]
  refine ⟨fun z => ?_, fun z => ?_⟩
  · have hr3 : r < 3 := by
      have : ¬ r = 3 := fun e => z (by rw [e])
      omega
    refine cmX7_signs_i1 ⟨fun z0 => ⟨fun z1 => ?_, fun z1 => ?_⟩, fun z0 => ?_⟩
    · have h0 : ¬ r = 0 := fun e => z0 (by rw [e]; rfl)
      have h1 : ¬ r = 1 := fun e => z1 (by rw [e]; rfl)
      have e : r = 2 := by omega
      subst e
      exact Or.inr (Or.inr ⟨rfl, fin 2 (by decide) (lt0_2 b hb)⟩)
    · have e : r = 1 := nI_inj (by omega) (by decide) z1
      subst e
      exact Or.inr (Or.inl ⟨rfl, fin 1 (by decide) (lt0_1 b hb)⟩)
    · have e : r = 0 := nI_inj (by omega) (by decide) z0
      subst e
      exact Or.inl ⟨rfl, fin 0 (by decide) (lt0_0 b hb)⟩
  · have e : r = 3 := nI_inj (by omega) (by decide) z
    subst e
    refine ⟨fun z2 => ?_, fun z2 => ?_⟩
    · have : okA 3 b = false := by
        have : ¬ b = 59 := fun e => z2 (by rw [e]; rfl)
        simp [okA, this]
      rw [b_if.2 this] at hq; exact hq
    · have : okA 3 b = true := by
        have : b = 59 := nI_inj (by omega) (by decide) z2
        simp [okA, this]
      rw [b_if.1 this] at hq; exact hq
set_option maxHeartbeats 1000000 in
theorem ct_fits3 {E : En} {Q : Option Value → Hi → Prop} {H : Hi} {r b : Nat} (h4 : H 3 4 = nI 2) (hr : r < 3) (hb : b < 256) (hq : Q (some (.int (nI (if okB r b = true then 1 else 0)))) H) : Cm E mX7_fits [rf E 3, .int (nI r), .int (nI b)] H Q := by
  have fin : ∀ (j : Nat) (hj : j < 6), (ixB j b < 0 ↔ okB r b = false) → Cm E mJ0_indexOf_0f7a4 [rf E (1000 + j), .int (i2c (nI b))] H (fun w zH => ∃ zr : Int32, w = some (.int zr) ∧ ((zr < 0 → Q (some (.int 0)) zH) ∧ (¬ zr < 0 → Q (some (.int 1)) zH))) := by
    intro j hj hl
    rw [i2c_b b hb]
    refine ct_indexOf hj hb ⟨_, rfl, fun z => ?_, fun z => ?_⟩
    · rw [b_if.2 (hl.mp z)] at hq; exact hq
    · have : okB r b = true := by cases e : okB r b with
        | true => rfl
        | false => exact absurd (hl.mpr e) z
      rw [b_if.1 this] at hq; exact hq
  refine cmX7_fits_i3 ?_
  rw [h4]
  refine ⟨fun z => ?_, fun z => ?_⟩
  · have hr3 : r < 2 := by
      have : ¬ r = 2 := fun e => z (by rw [e])
      omega
    refine cmX7_signs_i3 ⟨fun z0 => ⟨fun z1 => ?_, fun z1 => ?_⟩, fun z0 => ?_⟩
    · have h0 : ¬ r = 0 := fun e => z0 (by rw [e]; rfl)
      have h1 : ¬ r = 1 := fun e => z1 (by rw [e]; rfl)
      omega
    · have e : r = 1 := nI_inj (by omega) (by decide) z1
      subst e
      exact Or.inr (Or.inl ⟨rfl, fin 4 (by decide) (lt0_4 b hb)⟩)
    · have e : r = 0 := nI_inj (by omega) (by decide) z0
      subst e
      exact Or.inl ⟨rfl, fin 3 (by decide) (lt0_3 b hb)⟩
  · have e : r = 2 := nI_inj (by omega) (by decide) z
    subst e
    refine ⟨fun z2 => ?_, fun z2 => ?_⟩
    · have : okB 2 b = false := by
        have : ¬ b = 59 := fun e => z2 (by rw [e]; rfl)
        simp [okB, this]
      rw [b_if.2 this] at hq; exact hq
    · have : okB 2 b = true := by
        have : b = 59 := nI_inj (by omega) (by decide) z2
        simp [okB, this]
      rw [b_if.1 this] at hq; exact hq
/-- the first place that is not well, from i on -/
def fbF (ok : Nat → Bool) : Nat → Nat → Nat
  | 0, i => i
  | m + 1, i => if ok i = true then fbF ok m (i + 1) else i
def gd (w : Nat) (ok : Nat → Bool) (n : Nat) : Bool := decide (fbF ok n 0 = n) && decide (n = 0 ∨ n % (w + 1) = w)
def flt (w : Nat) (ok : Nat → Bool) (n : Nat) : Int32 := if fbF ok n 0 < n then nI (fbF ok n 0) else if n = 0 ∨ n % (w + 1) = w then -1 else nI n
def okT0 (b : Nat → Nat) : Nat → Bool := fun i => okA (i % 4) (b i)
def okT1 (b : Nat → Nat) : Nat → Bool := fun i => okB (i % 3) (b i)
theorem fbF_ge (ok : Nat → Bool) : ∀ m i, i ≤ fbF ok m i ∧ fbF ok m i ≤ i + m
  | 0, i => by simp [fbF]
  | m + 1, i => by
    simp only [fbF]
    split
    · have := fbF_ge ok m (i + 1); omega
    · omega
theorem fw1_loop {E : En} {Q : Option Value → Hi → Prop} {H : Hi} {n : Nat} {b : Nat → Nat} (h4 : H 1 4 = nI 3) (h5 : H 1 5 = nI n) (hn : n ≤ 31) (hb : ∀ i, i < n → H 2 i = nI (b i) ∧ b i < 256) :
    ∀ (m i : Nat), i + m = n → Q (some (.int (if fbF (okT0 b) m i < n then nI (fbF (okT0 b) m i) else if n = 0 ∨ n % 4 = 3 then -1 else nI n))) H →
      Rm E mX7_firstWrong Q 4 [some (rf E 1), some (.int (nI (i % 4))), some (.int (nI i))] [] H := by
  intro m
  induction m with
  | zero =>
    intro i hi hq
    have e : i = n := by omega
    subst e
    have e0 : fbF (okT0 b) 0 i = i := rfl
    rw [e0, if_neg (Nat.lt_irrefl _)] at hq
    refine sgX7_firstWrong_i1_4 ?_
    rw [h5, h4]
    refine ⟨fun _ => ⟨fun z => ?_, fun z => ⟨fun z2 => ?_, fun z2 => ?_⟩⟩, fun z => absurd (Int32.le_refl _) z⟩
    · have : i = 0 := nI_inj (by omega) (by decide) z
      rw [if_pos (Or.inl this)] at hq; exact hq
    · rw [if_neg] at hq
      · exact hq
      · rintro (q | q)
        · exact z (by rw [q]; rfl)
        · exact z2 (by rw [q])
    · have : i % 4 = 3 := nI_inj (by omega) (by decide) z2
      rw [if_pos (Or.inr this)] at hq; exact hq
  | succ m ih =>
    intro i hi hq
    refine sgX7_firstWrong_i1_4 ?_
    rw [h5]
    refine ⟨fun z => ?_, fun _ => ?_⟩
    · rw [nI_leI (by omega) (by omega)] at z; omega
    refine ⟨i, ⟨by omega, rfl⟩, ?_⟩
    obtain ⟨hb1, hb2⟩ := hb i (by omega)
    rw [hb1]
    refine ct_fits1 h4 (by omega) hb2 ?_
    refine ⟨_, rfl, fun z => ?_, fun z => ?_⟩
    · have hok : okT0 b i = true := by
        unfold okT0
        cases e : okA (i % 4) (b i) with
        | true => rfl
        | false => rw [e] at z; exact absurd rfl z
      have e1 : fbF (okT0 b) (m + 1) i = fbF (okT0 b) m (i + 1) := by simp only [fbF]; rw [if_pos hok]
      rw [e1] at hq
      rw [h4]
      refine ⟨fun z2 => ?_, fun z2 => ?_⟩
      · intro x1 e1 x2 e2
        rw [nI_1] at e1 e2
        subst e1; subst e2
        have h3 : ¬ i % 4 = 3 := fun q => z2 (by rw [q])
        have := ih (i + 1) (by omega) hq
        rw [show (i + 1) % 4 = i % 4 + 1 by omega] at this
        exact this
      · intro x2 e2
        rw [nI_1] at e2
        subst e2
        have h3 : i % 4 = 3 := nI_inj (by omega) (by decide) z2
        have := ih (i + 1) (by omega) hq
        rw [show (i + 1) % 4 = 0 by omega] at this
        exact this
    · have hok : ¬ okT0 b i = true := by
        unfold okT0
        intro e
        rw [if_pos e] at z; exact absurd z (by decide)
      have e1 : fbF (okT0 b) (m + 1) i = i := by simp only [fbF]; rw [if_neg hok]
      rw [e1, if_pos (by omega)] at hq
      exact hq
theorem ct_fw1 {E : En} {Q : Option Value → Hi → Prop} {H : Hi} {n : Nat} {b : Nat → Nat} (h4 : H 1 4 = nI 3) (h5 : H 1 5 = nI n) (hn : n ≤ 31) (hb : ∀ i, i < n → H 2 i = nI (b i) ∧ b i < 256)
    (hq : Q (some (.int (flt 3 (okT0 b) n))) H) : Cm E mX7_firstWrong [rf E 1] H Q := by
  refine cmX7_firstWrong_i1 ?_
  exact fw1_loop h4 h5 hn hb n 0 (by omega) hq
theorem fw3_loop {E : En} {Q : Option Value → Hi → Prop} {H : Hi} {n : Nat} {b : Nat → Nat} (h4 : H 3 4 = nI 2) (h5 : H 3 5 = nI n) (hn : n ≤ 23) (hb : ∀ i, i < n → H 4 i = nI (b i) ∧ b i < 256) :
    ∀ (m i : Nat), i + m = n → Q (some (.int (if fbF (okT1 b) m i < n then nI (fbF (okT1 b) m i) else if n = 0 ∨ n % 3 = 2 then -1 else nI n))) H →
      Rm E mX7_firstWrong Q 4 [some (rf E 3), some (.int (nI (i % 3))), some (.int (nI i))] [] H := by
  intro m
  induction m with
  | zero =>
    intro i hi hq
    have e : i = n := by omega
    subst e
    have e0 : fbF (okT1 b) 0 i = i := rfl
    rw [e0, if_neg (Nat.lt_irrefl _)] at hq
    refine sgX7_firstWrong_i3_4 ?_
    rw [h5, h4]
    refine ⟨fun _ => ⟨fun z => ?_, fun z => ⟨fun z2 => ?_, fun z2 => ?_⟩⟩, fun z => absurd (Int32.le_refl _) z⟩
    · have : i = 0 := nI_inj (by omega) (by decide) z
      rw [if_pos (Or.inl this)] at hq; exact hq
    · rw [if_neg] at hq
      · exact hq
      · rintro (q | q)
        · exact z (by rw [q]; rfl)
        · exact z2 (by rw [q])
    · have : i % 3 = 2 := nI_inj (by omega) (by decide) z2
      rw [if_pos (Or.inr this)] at hq; exact hq
  | succ m ih =>
    intro i hi hq
    refine sgX7_firstWrong_i3_4 ?_
    rw [h5]
    refine ⟨fun z => ?_, fun _ => ?_⟩
    · rw [nI_leI (by omega) (by omega)] at z; omega
    refine ⟨i, ⟨by omega, rfl⟩, ?_⟩
    obtain ⟨hb1, hb2⟩ := hb i (by omega)
    rw [hb1]
    refine ct_fits3 h4 (by omega) hb2 ?_
    refine ⟨_, rfl, fun z => ?_, fun z => ?_⟩
    · have hok : okT1 b i = true := by
        unfold okT1
        cases e : okB (i % 3) (b i) with
        | true => rfl
        | false => rw [e] at z; exact absurd rfl z
      have e1 : fbF (okT1 b) (m + 1) i = fbF (okT1 b) m (i + 1) := by simp only [fbF]; rw [if_pos hok]
      rw [e1] at hq
      rw [h4]
      refine ⟨fun z2 => ?_, fun z2 => ?_⟩
      · intro x1 e1 x2 e2
        rw [nI_1] at e1 e2
        subst e1; subst e2
        have h3 : ¬ i % 3 = 2 := fun q => z2 (by rw [q])
        have := ih (i + 1) (by omega) hq
        rw [show (i + 1) % 3 = i % 3 + 1 by omega] at this
        exact this
      · intro x2 e2
        rw [nI_1] at e2
        subst e2
        have h3 : i % 3 = 2 := nI_inj (by omega) (by decide) z2
        have := ih (i + 1) (by omega) hq
        rw [show (i + 1) % 3 = 0 by omega] at this
        exact this
    · have hok : ¬ okT1 b i = true := by
        unfold okT1
        intro e
        rw [if_pos e] at z; exact absurd z (by decide)
      have e1 : fbF (okT1 b) (m + 1) i = i := by simp only [fbF]; rw [if_neg hok]
      rw [e1, if_pos (by omega)] at hq
      exact hq
theorem ct_fw3 {E : En} {Q : Option Value → Hi → Prop} {H : Hi} {n : Nat} {b : Nat → Nat} (h4 : H 3 4 = nI 2) (h5 : H 3 5 = nI n) (hn : n ≤ 23) (hb : ∀ i, i < n → H 4 i = nI (b i) ∧ b i < 256)
    (hq : Q (some (.int (flt 2 (okT1 b) n))) H) : Cm E mX7_firstWrong [rf E 3] H Q := by
  refine cmX7_firstWrong_i3 ?_
  exact fw3_loop h4 h5 hn hb n 0 (by omega) hq
