/-! rows told; lend and sort of the class -/
def isR (x : Int32) : Bool := decide (x = -1) || inN 2 x
def rowT (v : Int32 × Int32 × Int32) (i : Int32) : Int32 := if i = -1 then v.1 else if i < v.1 then (if i = 0 then v.2.1 else v.2.2) else -1
theorem ct_isRow {E : En} {Q : Option Value → Hi → Prop} {H : Hi} {x : Int32} (hq : Q (some (.int (bI (isR x)))) H) : Cm E mX9_isRowPlace [.int x] H Q := by
  refine cmX9_isRowPlace ⟨fun z => ?_, fun z => ct_isBit ⟨_, rfl, fun z2 => ?_, fun z2 => ?_⟩⟩
  · have e : isR x = true := by unfold isR; rw [decide_eq_true z]; rfl
    rw [e] at hq; exact hq
  · have e : isR x = false := by unfold isR; rw [decide_eq_false z, bI_0.mp z2]; rfl
    rw [e] at hq; exact hq
  · have e : isR x = true := by unfold isR; rw [bI_1 z2]; simp
    rw [e] at hq; exact hq
theorem ct_told76 {E : En} {Q : Option Value → Hi → Prop} {H : Hi} {x : Int32} {v : Int32 × Int32 × Int32} (hr : RowC (H 76) v) (hq : Q (some (.int (rowT v x))) H) : Cm E mX4_told [rf E 76, .int x] H Q := by
  refine cmX4_told_i76 ?_
  rw [hr.1, hr.2.1, hr.2.2]
  unfold rowT at hq
  refine ⟨fun z => ⟨fun z2 => ⟨fun z3 => ?_, fun z3 => ?_⟩, fun z2 => ?_⟩, fun z => ?_⟩
  · rw [if_neg z, if_pos z2, if_neg z3] at hq; exact hq
  · rw [if_neg z, if_pos z2, if_pos z3] at hq; exact hq
  · rw [if_neg z, if_neg z2] at hq; exact hq
  · rw [if_pos z] at hq; exact hq
theorem ct_told77 {E : En} {Q : Option Value → Hi → Prop} {H : Hi} {x : Int32} {v : Int32 × Int32 × Int32} (hr : RowC (H 77) v) (hq : Q (some (.int (rowT v x))) H) : Cm E mX4_told [rf E 77, .int x] H Q := by
  refine cmX4_told_i77 ?_
  rw [hr.1, hr.2.1, hr.2.2]
  unfold rowT at hq
  refine ⟨fun z => ⟨fun z2 => ⟨fun z3 => ?_, fun z3 => ?_⟩, fun z2 => ?_⟩, fun z => ?_⟩
  · rw [if_neg z, if_pos z2, if_neg z3] at hq; exact hq
  · rw [if_neg z, if_pos z2, if_pos z3] at hq; exact hq
  · rw [if_neg z, if_neg z2] at hq; exact hq
  · rw [if_pos z] at hq; exact hq
theorem cb_frP {b : Bd} {H H' : Hi} (hB : CB b H) (h : frP H H') : CB b H' :=
  cb_keep hB (fun c z1 z2 => h c (by omega)) (fun c z1 z2 => h c (by omega)) (fun c z1 z2 => h c (by omega)) (by rw [h 0 (by decide)]) (fun k z1 z2 => by rw [h 23 (by decide)]; exact hB.2.2.2.2.2.2 k z1 z2)
def sLend (b : Bd) (x1 x2 x3 x4 x5 : Int32) : Int32 × Bd :=
  if inN (pM (dP b)) x1 = true ∧ inN (pN (dP b)) x2 = true ∧ inN 24 x3 = true ∧ inN 24 x4 = true ∧ isR x5 = true then (rowT (lendS (dP b) (dH b) (dA b) (un x1) (un x2) (un x3) (un x4)) x5, b) else (-2, b)
theorem cc_lend {E : En} {b : Bd} {x1 x2 x3 x4 x5 : Int32} : Cc E mX9_lend [rf E 0, .int x1, .int x2, .int x3, .int x4, .int x5] b (sLend b x1 x2 x3 x4 x5) := by
  intro H0 Q hC hq
  refine cmX9_lend (ct_refresh hC fun H kH hB hF h9 => ⟨rfl, ?_⟩)
  have ok := hF.1.1
  have n8 := ok.1
  have m8 := ok.2.1
  have bad : sLend b x1 x2 x3 x4 x5 = (-2, b) → Q (some (.int (-2))) H := fun e => by
    rw [e] at hq; exact hq H kH (ci_fr hB hF)
  refine ct_isCousin hF.1 ⟨_, rfl, fun z => bad (if_neg (by rw [bI_0.mp z]; simp)), fun z1 => ?_⟩
  refine ct_isThing hF.1 ⟨_, rfl, fun z => bad (if_neg (by rw [bI_0.mp z]; simp)), fun z2 => ?_⟩
  refine ct_isHour ⟨_, rfl, fun z => bad (if_neg (by rw [bI_0.mp z]; simp)), fun z3 => ?_⟩
  refine ct_isHour ⟨_, rfl, fun z => bad (if_neg (by rw [bI_0.mp z]; simp)), fun z4 => ?_⟩
  refine ct_isRow ⟨_, rfl, fun z5 => ?_, fun z => bad (if_neg (by rw [bI_0.mp z]; simp))⟩
  obtain ⟨c, a1, b1, d1⟩ := inN_of (bI_1 z1) (by omega)
  obtain ⟨t, a2, b2, d2⟩ := inN_of (bI_1 z2) (by omega)
  obtain ⟨h, a3, b3, d3⟩ := inN_of (bI_1 z3) (by decide)
  obtain ⟨to, a4, b4, d4⟩ := inN_of (bI_1 z4) (by decide)
  have e : sLend b x1 x2 x3 x4 x5 = _ := if_pos ⟨bI_1 z1, bI_1 z2, bI_1 z3, bI_1 z4, bI_1 z5⟩
  rw [e, d1, d2, d3, d4] at hq
  rw [b1, b2, b3, b4]
  refine ct_planLend hF (by omega) a2 a3 a4 (fun H' f' F' r' => ⟨rfl, ct_told76 r' ⟨_, rfl, ?_⟩⟩)
  exact hq H' (fun c hc => by rw [f' c (by omega)]; exact kH c hc) (ci_fr (cb_frP hB f') F')
/-! the first bulge -/
def blg (P : Pm) (hd : Hd) (bd au : Nat) (h : Nat) : Bool := decide (bd < ld P (stN P hd au (h + 1)))
def fbl (P : Pm) (hd : Hd) (bd au : Nat) : Nat := (fnd (blg P hd bd au) 24).getD 24
theorem fb_loop {E : En} {Q : Option Value → Hi → Prop} {H0 : Hi} {P : Pm} {hd : Hd} {a bd au : Nat} (hFa : FamC P H0) (hTa : ToldC P hd a H0) (hb : bd ≤ 72) (hau : au < 2 ^ 24) :
    ∀ (m h : Nat) (H : Hi), h + m = 24 → (∀ d, d ≠ 80 → H d = H0 d) → Rs P (stN P hd au h) (H 80) →
      (∀ H' : Hi, (∀ d, d ≠ 80 → H' d = H0 d) → Q (some (.int (nI ((fndF (blg P hd bd au) m h).getD 24)))) H') →
      Rm E mX3_firstBulge Q 21 [some (rf E 75), some (.int (nI bd)), some (.int (nI au)), some (rf E 80), some (.int (nI h))] [] H := by
  have ok := hFa.1
  have m8 := ok.2.1
  intro m
  induction m with
  | zero =>
    intro h H hh f1 r1 hq
    have e : h = 24 := by omega
    subst e
    exact sgX3_firstBulge_21 st_80 ⟨fun _ => hq H f1, fun z => absurd (show nI 24 ≤ nI 24 from nI_le (by omega) (by omega)) z⟩
  | succ m ih =>
    intro h H hh f1 r1 hq
    refine sgX3_firstBulge_21 st_80 ⟨fun z => absurd z ?_, fun _ => ?_⟩
    · show ¬ nI 24 ≤ nI h
      rw [nI_leI (by decide) (by omega)]; omega
    · refine ct_open (fam_keep st_80 hFa f1) (told_keep st_80 hTa f1) st_80 r1 (stN_wf m8 h) (by omega) ?_
      intro H1 g1 s1
      have f2 : ∀ d, d ≠ 80 → H1 d = H0 d := fun d q => by rw [g1 d q, f1 d q]
      refine ⟨_, rfl, ct_close (fam_keep st_80 hFa f2) (told_keep st_80 hTa f2) st_80 s1 (mid_wf (stN_wf m8 h)) (by omega) hau ?_⟩
      intro H2 g2 s2
      have f3 : ∀ d, d ≠ 80 → H2 d = H0 d := fun d q => by rw [g2 d q, f2 d q]
      have s3 : Rs P (stN P hd au (h + 1)) (H2 80) := s2
      have l3 := ld_le (s := stN P hd au (h + 1)) ok
      have cmp : H2 80 2 ≤ nI bd ↔ ld P (stN P hd au (h + 1)) ≤ bd := by rw [s3.2.2.1]; exact nI_leI (by omega) (by omega)
      refine ⟨rfl, fun z x ex => ?_, fun z => ?_⟩
      · rw [ex, ← nI_succ]
        refine ih (h + 1) H2 (by omega) f3 s3 ?_
        have z' := cmp.mp z
        have e : fndF (blg P hd bd au) (m + 1) h = fndF (blg P hd bd au) m (h + 1) := by
          show (if _ then _ else _) = _
          rw [if_neg (by unfold blg; rw [decide_eq_false (by omega)]; decide)]
        rw [e] at hq; exact hq
      · have z' : ¬ ld P (stN P hd au (h + 1)) ≤ bd := fun q => z (cmp.mpr q)
        have e : fndF (blg P hd bd au) (m + 1) h = some h := by
          show (if _ then _ else _) = _
          rw [if_pos (by unfold blg; exact decide_eq_true (by omega))]
        have hq2 := hq H2 f3
        rw [e] at hq2
        exact hq2
theorem ct_fb {E : En} {Q : Option Value → Hi → Prop} {H : Hi} {P : Pm} {hd : Hd} {a bd au : Nat} (hFa : FamC P H) (hTa : ToldC P hd a H) (h23 : Rs P (st0 P) (H 23)) (hb : bd ≤ 72) (hau : au < 2 ^ 24)
    (hq : ∀ H' : Hi, (∀ d, d ≠ 80 → H' d = H d) → Q (some (.int (nI (fbl P hd bd au)))) H') : Cm E mX3_firstBulge [rf E 75, .int (nI bd), .int (nI au)] H Q := by
  refine cmX3_firstBulge (ct_become st_80 st_23 h23 ?_)
  intro H1 g1 s1
  exact ⟨rfl, fb_loop hFa hTa hb hau 24 0 H1 rfl g1 s1 hq⟩
theorem fbl_le {P : Pm} {hd : Hd} {bd au : Nat} : fbl P hd bd au ≤ 24 := by
  unfold fbl
  cases e : fnd (blg P hd bd au) 24 with
  | none => exact Nat.le_refl _
  | some k =>
    have := (fndF_so 24 0 k e).2.2
    show k ≤ 24
    omega
theorem fbl_sok {P : Pm} {hd : Hd} {bd au : Nat} : fbl P hd bd au = 24 ↔ sok P hd bd au = true := by
  unfold sok
  rw [List.all_eq_true]
  unfold fbl
  cases e : fnd (blg P hd bd au) 24 with
  | none =>
    refine ⟨fun _ h hh => ?_, fun _ => rfl⟩
    have q := of_decide_eq_false (fndF_no 24 0 e h (Nat.zero_le h) (by have := List.mem_range.mp hh; omega))
    exact decide_eq_true (by omega)
  | some k =>
    obtain ⟨q, -, q2⟩ := fndF_so 24 0 k e
    refine ⟨fun z => ?_, fun z => ?_⟩
    · have z' : k = 24 := z
      omega
    · have z2 := of_decide_eq_true (z k (List.mem_range.mpr (by omega)))
      have q' := of_decide_eq_true q
      omega
theorem fbl_at {P : Pm} {hd : Hd} {bd au : Nat} (h : fbl P hd bd au < 24) : bd < ld P (stN P hd au (fbl P hd bd au + 1)) := by
  unfold fbl at h ⊢
  cases e : fnd (blg P hd bd au) 24 with
  | none => rw [e] at h; exact absurd h (by decide)
  | some k => exact of_decide_eq_true (fndF_so 24 0 k e).1
theorem stN_cong {P : Pm} {hd : Hd} {a a' : Nat} : ∀ h, (∀ j, j < h → a.testBit j = a'.testBit j) → stN P hd a h = stN P hd a' h
  | 0, _ => rfl
  | h + 1, q => by
    show hr P hd a h (stN P hd a h) = hr P hd a' h (stN P hd a' h)
    rw [stN_cong h (fun j hj => q j (by omega))]
    unfold hr clo
    rw [q h (Nat.lt_succ_self h)]
theorem sok_no {P : Pm} {hd : Hd} {bd au h : Nat} (hh : h < 24) (q : bd < ld P (stN P hd au (h + 1))) : sok P hd bd au = false := by
  cases e : sok P hd bd au
  · rfl
  · unfold sok at e
    rw [List.all_eq_true] at e
    have := of_decide_eq_true (e h (List.mem_range.mpr hh))
    omega
theorem late1 {P : Pm} {hd : Hd} {bd n k : Nat} (hn : n = fbl P hd bd 0) (h24 : n < 24) (hk : n < k) : sok P hd bd (2 ^ k) = false := by
  subst hn
  refine sok_no h24 ?_
  rw [stN_cong (a' := 0) _ (fun j hj => ?_)]
  · exact fbl_at h24
  · rw [Nat.testBit_two_pow_of_ne (by omega), Nat.zero_testBit]
theorem late2 {P : Pm} {hd : Hd} {bd n k l : Nat} (hn : n = fbl P hd bd 0) (h24 : n < 24) (hk : n < k) (hl : n < l) : sok P hd bd (2 ^ k ||| 2 ^ l) = false := by
  subst hn
  refine sok_no h24 ?_
  rw [stN_cong (a' := 0) _ (fun j hj => ?_)]
  · exact fbl_at h24
  · rw [Nat.testBit_or, Nat.testBit_two_pow_of_ne (by omega), Nat.testBit_two_pow_of_ne (by omega), Nat.zero_testBit]; rfl
theorem late3 {P : Pm} {hd : Hd} {bd k l : Nat} (h24 : fbl P hd bd (2 ^ k) < 24) (hl : fbl P hd bd (2 ^ k) < l) : sok P hd bd (2 ^ k ||| 2 ^ l) = false := by
  refine sok_no h24 ?_
  rw [stN_cong (a' := 2 ^ k) _ (fun j hj => ?_)]
  · exact fbl_at h24
  · rw [Nat.testBit_or, Nat.testBit_two_pow_of_ne (n := l) (by omega), Bool.or_false]
theorem fndF_mi {p : Nat → Bool} : ∀ (n i k : Nat), fndF p n i = some k → ∀ j, i ≤ j → j < k → p j = false
  | 0, _, _, h, _, _, _ => by cases h
  | n + 1, i, k, h, j, h1, h2 => by
    have h' : (if p i = true then some i else fndF p n (i + 1)) = some k := h
    by_cases e : p i = true
    · rw [if_pos e] at h'
      cases h'
      omega
    · rw [if_neg e] at h'
      by_cases e2 : j = i
      · rw [e2]; exact Bool.eq_false_iff.mpr e
      · exact fndF_mi n (i + 1) k h' j (by omega) h2
theorem fnd_is {p : Nat → Bool} {n k : Nat} (hk : k < n) (h : p k = true) (h2 : ∀ j, j < k → p j = false) : fnd p n = some k := by
  cases e : fnd p n with
  | none =>
    have q := fndF_no n 0 e k (Nat.zero_le k) (by omega)
    rw [h] at q; exact absurd q (by decide)
  | some j =>
    by_cases q : j = k
    · rw [q]
    · by_cases q2 : j < k
      · have := (fndF_so n 0 j e).1
        rw [h2 j q2] at this; exact absurd this (by decide)
      · have := fndF_mi n 0 j e k (Nat.zero_le k) (by omega)
        rw [h] at this; exact absurd this (by decide)
