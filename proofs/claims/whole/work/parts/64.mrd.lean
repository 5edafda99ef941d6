/-! the model reads its texts -/
theorem mt_in {E : En} {Q : Option Value → Hi → Prop} {H : Hi} {x lo hi : Int32} (hq : Q (some (.int (bI (decide (lo.toInt ≤ x.toInt ∧ x.toInt ≤ hi.toInt))))) H) : Cm E mX10_in [.int x, .int lo, .int hi] H Q := by
  refine cmX10_in ⟨fun z => ?_, fun z => ⟨fun z2 => ?_, fun z2 => ?_⟩⟩
  · rw [Int32.lt_iff_toInt_lt] at z
    rw [decide_eq_false (by omega)] at hq; exact hq
  · rw [Int32.lt_iff_toInt_lt] at z2
    rw [decide_eq_false (by omega)] at hq; exact hq
  · rw [Int32.lt_iff_toInt_lt] at z z2
    rw [decide_eq_true (by omega)] at hq; exact hq
theorem mt_inN {E : En} {Q : Option Value → Hi → Prop} {H : Hi} {x hi : Int32} {N : Nat} (h : hi.toInt = (N : Int) - 1) (hq : Q (some (.int (bI (inN N x)))) H) : Cm E mX10_in [.int x, .int 0, .int hi] H Q := by
  refine mt_in ?_
  have e : decide ((0 : Int32).toInt ≤ x.toInt ∧ x.toInt ≤ hi.toInt) = inN N x := by
    have e0 : (0 : Int32).toInt = 0 := by decide
    unfold inN
    rw [e0, h]
    by_cases q : 0 ≤ x.toInt ∧ x.toInt < (N : Int)
    · rw [decide_eq_true q, decide_eq_true (by omega)]
    · rw [decide_eq_false q, decide_eq_false (by omega)]
  rw [e]; exact hq
def TxM (n0 : Nat) (b0 : Nat → Nat) (n1 : Nat) (b1 : Nat → Nat) (H : Hi) : Prop := H 100 0 = nI n0 ∧ n0 ≤ 31 ∧ (∀ i, i < n0 → H 101 i = nI (b0 i) ∧ b0 i < 256) ∧ H 100 1 = nI n1 ∧ n1 ≤ 23 ∧ (∀ i, i < n1 → H 101 (31 + i) = nI (b1 i) ∧ b1 i < 256)
theorem txm_keep {n0 n1 : Nat} {b0 b1 : Nat → Nat} {H H' : Hi} (h : TxM n0 b0 n1 b1 H) (h1 : H' 100 = H 100) (h2 : H' 101 = H 101) : TxM n0 b0 n1 b1 H' := by
  unfold TxM
  rw [h1, h2]; exact h
def byA (n : Nat) (b : Nat → Nat) (k : Nat) : Int32 := if k < n then nI (b k) else -1
theorem mt_by0 {E : En} {Q : Option Value → Hi → Prop} {H : Hi} {n0 n1 k : Nat} {b0 b1 : Nat → Nat} {x : Int32} (hT : TxM n0 b0 n1 b1 H) (hk : k < 2 ^ 31) (ex : x = nI k) (hq : Q (some (.int (byA n0 b0 k))) H) : Cm E mX10_byteAt [rf E 99, .int 0, .int x] H Q := by
  have t2 := hT.2.1
  refine cmX10_byteAt ⟨0, ⟨by decide, rfl⟩, ?_⟩
  rw [hT.1, ex, nI_leI (by omega) hk]
  refine ⟨fun z => ?_, fun z => ⟨k, ⟨by omega, ?_⟩, ?_⟩⟩
  · have e : byA n0 b0 k = -1 := if_neg (by omega)
    rw [e] at hq; exact hq
  · show nI 31 * nI 0 + nI k = nI k
    rw [ni_mulN, nI_add, Nat.mul_zero, Nat.zero_add]
  · have e : byA n0 b0 k = nI (b0 k) := if_pos (by omega)
    rw [e] at hq
    rw [(hT.2.2.1 k (by omega)).1]; exact hq
theorem mt_by1 {E : En} {Q : Option Value → Hi → Prop} {H : Hi} {n0 n1 k : Nat} {b0 b1 : Nat → Nat} {x : Int32} (hT : TxM n0 b0 n1 b1 H) (hk : k < 2 ^ 31) (ex : x = nI k) (hq : Q (some (.int (byA n1 b1 k))) H) : Cm E mX10_byteAt [rf E 99, .int 1, .int x] H Q := by
  have t2 := hT.2.2.2.2.1
  refine cmX10_byteAt ⟨1, ⟨by decide, rfl⟩, ?_⟩
  rw [hT.2.2.2.1, ex, nI_leI (by omega) hk]
  refine ⟨fun z => ?_, fun z => ⟨31 + k, ⟨by omega, ?_⟩, ?_⟩⟩
  · have e : byA n1 b1 k = -1 := if_neg (by omega)
    rw [e] at hq; exact hq
  · show nI 31 * nI 1 + nI k = nI (31 + k)
    rw [ni_mulN, nI_add]
  · have e : byA n1 b1 k = nI (b1 k) := if_pos (by omega)
    rw [e] at hq
    rw [(hT.2.2.2.2.2 k (by omega)).1]; exact hq
theorem s48 : ∀ v, v < 256 → (nI v - 48).toInt = (v : Int) - 48 := by decide +kernel
theorem s48n : ∀ v, v < 256 → 48 ≤ v → nI v - 48 = nI (v - 48) := by decide +kernel
theorem by_ok0 {n k : Nat} {b : Nat → Nat} (h : k < n → b k < 256) : decide ((1 : Int32).toInt ≤ (byA n b k - 48).toInt ∧ (byA n b k - 48).toInt ≤ (9 : Int32).toInt) = (decide (k < n) && okA 0 (b k)) := by
  have e1 : (1 : Int32).toInt = 1 := by decide
  have e9 : (9 : Int32).toInt = 9 := by decide
  rw [e1, e9]
  unfold byA
  by_cases q : k < n
  · rw [if_pos q, s48 _ (h q), decide_eq_true q]
    show _ = decide (49 ≤ b k ∧ b k ≤ 57)
    by_cases q2 : 49 ≤ b k ∧ b k ≤ 57
    · rw [decide_eq_true q2, decide_eq_true (by omega)]
    · rw [decide_eq_false q2, decide_eq_false (by omega)]
  · rw [if_neg q, decide_eq_false q, Bool.false_and]
    decide
theorem by_ok1 {n k : Nat} {b : Nat → Nat} (h : k < n → b k < 256) : inN 8 (byA n b k - 48) = (decide (k < n) && okA 1 (b k)) := by
  unfold byA inN
  by_cases q : k < n
  · rw [if_pos q, s48 _ (h q), decide_eq_true q]
    show _ = decide (48 ≤ b k ∧ b k ≤ 55)
    by_cases q2 : 48 ≤ b k ∧ b k ≤ 55
    · rw [decide_eq_true q2, decide_eq_true (by omega)]
    · rw [decide_eq_false q2, decide_eq_false (by omega)]
  · rw [if_neg q, decide_eq_false q, Bool.false_and]
    decide
theorem by_eq {n k v : Nat} {b : Nat → Nat} (h : k < n → b k < 256) (hv : v < 256) : byA n b k = nI v ↔ k < n ∧ b k = v := by
  unfold byA
  by_cases q : k < n
  · rw [if_pos q]
    exact ⟨fun e => ⟨q, nI_inj (by have := h q; omega) (by omega) e⟩, fun e => by rw [e.2]⟩
  · rw [if_neg q]
    refine ⟨fun e => ?_, fun e => absurd e.1 q⟩
    have e2 := congrArg Int32.toInt e
    rw [nI_toInt (by omega)] at e2
    have h2 : (-1 : Int32).toInt = -1 := by decide
    omega
theorem rt_tail {E : En} {Q : Option Value → Hi → Prop} {H : Hi} {x3 x4 kd : Int32} {g : Nat} (hg : g < 9) (o0 o1 : Bool) (e0 : decide ((1 : Int32).toInt ≤ x3.toInt ∧ x3.toInt ≤ (9 : Int32).toInt) = o0) (e1 : inN 8 x4 = o1)
    (h0 : o0 = false → Q (some (.int 0)) H) (h1 : o0 = true → o1 = false → Q (some (.int 1)) H) (h2 : o0 = true → o1 = true → kd = -1 → Q (some (.int 2)) H)
    (h3 : o0 = true → o1 = true → ¬ kd = -1 → Q (some (.int 3)) (up (up (up H 102 g x3) 103 g x4) 104 g kd)) :
    Cm E mX10_in [.int x3, .int 1, .int 9] H (fun w zH_14 => ∃ zr_15 : Int32, w = some (.int zr_15) ∧ ((¬ zr_15 = 0 → (Cm E mX10_isEight [.int x4] zH_14 (fun w zH_17 => ∃ zr_18 : Int32, w = some (.int zr_18) ∧ ((¬ zr_18 = 0 → ((¬ kd = -1 → (∃ zj_21 : Nat, (zj_21 < 9 ∧ nI g = nI zj_21) ∧ (∀ zH_22 : Hi, zH_22 = up zH_17 102 zj_21 x3 → (∃ zj_23 : Nat, (zj_23 < 9 ∧ nI g = nI zj_23) ∧ (∀ zH_24 : Hi, zH_24 = up zH_22 103 zj_23 x4 → (∃ zj_25 : Nat, (zj_25 < 9 ∧ nI g = nI zj_25) ∧ (∀ zH_26 : Hi, zH_26 = up zH_24 104 zj_25 kd → (Q (some (.int 3)) zH_26)))))))) ∧ (kd = -1 → (Q (some (.int 2)) zH_17)))) ∧ (zr_18 = 0 → (Q (some (.int 1)) zH_17)))))) ∧ (zr_15 = 0 → (Q (some (.int 0)) zH_14)))) := by
  refine mt_in ⟨_, rfl, fun z => ?_, fun z => h0 (by rw [← e0]; exact bI_0.mp z)⟩
  have z' : o0 = true := by rw [← e0]; exact bI_1 z
  refine cmX10_isEight (mt_inN (N := 8) (by decide) ⟨_, rfl, bI_nar _, _, rfl, fun z2 => ⟨fun z3 => ?_, fun z3 => h2 z' (by rw [← e1]; exact bI_1 z2) z3⟩, fun z2 => h1 z' (by rw [← e1]; exact bI_0.mp z2)⟩)
  refine ⟨g, ⟨hg, rfl⟩, fun Ha ga => ⟨g, ⟨hg, rfl⟩, fun Hb gb => ⟨g, ⟨hg, rfl⟩, fun Hc gc => ?_⟩⟩⟩
  have h := h3 z' (by rw [← e1]; exact bI_1 z2) z3
  rw [← ga, ← gb, ← gc] at h
  exact h
def gT3 (n : Nat) (b : Nat → Nat) (i : Nat) : Bool := decide (i < n) && okT0 b i
set_option maxHeartbeats 1000000 in
theorem mt_rThing {E : En} {Q : Option Value → Hi → Prop} {H : Hi} {n0 n1 g : Nat} {b0 b1 : Nat → Nat} (hT : TxM n0 b0 n1 b1 H) (hg : g < 8)
    (h0 : gT3 n0 b0 (4 * g) = false → Q (some (.int 0)) H) (h1 : gT3 n0 b0 (4 * g) = true → gT3 n0 b0 (4 * g + 1) = false → Q (some (.int 1)) H)
    (h2 : gT3 n0 b0 (4 * g) = true → gT3 n0 b0 (4 * g + 1) = true → gT3 n0 b0 (4 * g + 2) = false → Q (some (.int 2)) H)
    (h3 : gT3 n0 b0 (4 * g) = true → gT3 n0 b0 (4 * g + 1) = true → gT3 n0 b0 (4 * g + 2) = true → Q (some (.int 3)) (up (up (up H 102 g (nI (tSz b0 g))) 103 g (nI (tOw b0 g))) 104 g (nI (tKd b0 g)))) :
    Cm E mX10_readsThing [rf E 99, .int (nI g), .int (nI (4 * g))] H Q := by
  have bl : ∀ k, k < n0 → b0 k < 256 := fun k hk => (hT.2.2.1 k hk).2
  refine cmX10_readsThing (mt_by0 hT (k := 4 * g) (by omega) rfl ⟨_, rfl, fun x3 e3 => mt_by0 hT (k := 4 * g + 1) (by omega) (by rw [nI_succ]) ⟨_, rfl, fun x4 e4 => mt_by0 hT (k := 4 * g + 2) (by omega) (by show nI (4 * g) + nI 2 = _; rw [nI_add]) ⟨_, rfl, ?_⟩⟩⟩)
  have g0 : gT3 n0 b0 (4 * g) = (decide (4 * g < n0) && okA 0 (b0 (4 * g))) := by unfold gT3 okT0; rw [show 4 * g % 4 = 0 by omega]
  have g1 : gT3 n0 b0 (4 * g + 1) = (decide (4 * g + 1 < n0) && okA 1 (b0 (4 * g + 1))) := by unfold gT3 okT0; rw [show (4 * g + 1) % 4 = 1 by omega]
  have g2 : gT3 n0 b0 (4 * g + 2) = (decide (4 * g + 2 < n0) && okA 2 (b0 (4 * g + 2))) := by unfold gT3 okT0; rw [show (4 * g + 2) % 4 = 2 by omega]
  have e0 : decide ((1 : Int32).toInt ≤ x3.toInt ∧ x3.toInt ≤ (9 : Int32).toInt) = gT3 n0 b0 (4 * g) := by rw [e3, g0]; exact by_ok0 (bl _)
  have e1 : inN 8 x4 = gT3 n0 b0 (4 * g + 1) := by rw [e4, g1]; exact by_ok1 (bl _)
  -- the kind
  have kk : ∀ kd : Int32, (gT3 n0 b0 (4 * g + 2) = true → kd = nI (tKd b0 g)) → (kd = -1 ↔ gT3 n0 b0 (4 * g + 2) = false) → _ := fun kd q1 q2 =>
    rt_tail (E := E) (Q := Q) (H := H) (x3 := x3) (x4 := x4) (kd := kd) (g := g) (by omega) _ _ e0 e1 h0 h1 (fun a1 a2 a3 => h2 a1 a2 (q2.mp a3)) (fun a1 a2 a3 => by
      have t2 : gT3 n0 b0 (4 * g + 2) = true := by
        cases e : gT3 n0 b0 (4 * g + 2)
        · exact absurd (q2.mpr e) a3
        · rfl
      have h := h3 a1 a2 t2
      rw [← q1 t2] at h
      have s3 : x3 = nI (tSz b0 g) := by
        rw [g0, Bool.and_eq_true] at a1
        have l := of_decide_eq_true a1.1
        have l2 : 49 ≤ b0 (4 * g) ∧ b0 (4 * g) ≤ 57 := of_decide_eq_true a1.2
        rw [e3]
        unfold byA
        rw [if_pos l, s48n _ (bl _ l) (by omega)]; rfl
      have s4 : x4 = nI (tOw b0 g) := by
        rw [g1, Bool.and_eq_true] at a2
        have l := of_decide_eq_true a2.1
        have l2 : 48 ≤ b0 (4 * g + 1) ∧ b0 (4 * g + 1) ≤ 55 := of_decide_eq_true a2.2
        rw [e4]
        unfold byA
        rw [if_pos l, s48n _ (bl _ l) (by omega)]; rfl
      rw [← s3, ← s4] at h
      exact h)
  have c111 : byA n0 b0 (4 * g + 2) = 111 ↔ 4 * g + 2 < n0 ∧ b0 (4 * g + 2) = 111 := by_eq (v := 111) (bl _) (by decide)
  have c115 : byA n0 b0 (4 * g + 2) = 115 ↔ 4 * g + 2 < n0 ∧ b0 (4 * g + 2) = 115 := by_eq (v := 115) (bl _) (by decide)
  have c102 : byA n0 b0 (4 * g + 2) = 102 ↔ 4 * g + 2 < n0 ∧ b0 (4 * g + 2) = 102 := by_eq (v := 102) (bl _) (by decide)
  have o2 : okA 2 (b0 (4 * g + 2)) = decide (b0 (4 * g + 2) = 111 ∨ b0 (4 * g + 2) = 115 ∨ b0 (4 * g + 2) = 102) := by simp [okA]
  refine ⟨fun z1 => ⟨fun z2 => ⟨fun z3 => ?_, fun z3 => ?_⟩, fun z2 => ?_⟩, fun z1 => ?_⟩
  · have f2 : gT3 n0 b0 (4 * g + 2) = false := by
      rw [g2, o2]
      by_cases l : 4 * g + 2 < n0
      · have no : ¬ (b0 (4 * g + 2) = 111 ∨ b0 (4 * g + 2) = 115 ∨ b0 (4 * g + 2) = 102) := by
          rintro (q | q | q)
          · exact z1 (c111.mpr ⟨l, q⟩)
          · exact z2 (c115.mpr ⟨l, q⟩)
          · exact z3 (c102.mpr ⟨l, q⟩)
        rw [decide_eq_false no]; simp
      · rw [decide_eq_false l]; rfl
    exact kk (-1) (fun q => by rw [f2] at q; exact absurd q (by decide)) ⟨fun _ => f2, fun _ => rfl⟩
  · obtain ⟨l, l2⟩ := c102.mp z3
    have f2 : gT3 n0 b0 (4 * g + 2) = true := by rw [g2, o2, decide_eq_true l, decide_eq_true (Or.inr (Or.inr l2))]; rfl
    refine kk 2 (fun _ => ?_) ⟨fun q => absurd q (by decide), fun q => by rw [f2] at q; exact absurd q (by decide)⟩
    unfold tKd; rw [l2]; rfl
  · obtain ⟨l, l2⟩ := c115.mp z2
    have f2 : gT3 n0 b0 (4 * g + 2) = true := by rw [g2, o2, decide_eq_true l, decide_eq_true (Or.inr (Or.inl l2))]; rfl
    refine kk 1 (fun _ => ?_) ⟨fun q => absurd q (by decide), fun q => by rw [f2] at q; exact absurd q (by decide)⟩
    unfold tKd; rw [l2]; rfl
  · obtain ⟨l, l2⟩ := c111.mp z1
    have f2 : gT3 n0 b0 (4 * g + 2) = true := by rw [g2, o2, decide_eq_true l, decide_eq_true (Or.inl l2)]; rfl
    refine kk 0 (fun _ => ?_) ⟨fun q => absurd q (by decide), fun q => by rw [f2] at q; exact absurd q (by decide)⟩
    unfold tKd; rw [l2]; rfl
