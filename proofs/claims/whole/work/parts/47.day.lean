/-! a day by lot -/
def nxL (x : Int32) : Int32 := 1103515245 * x + 12345
/-- the upper half of a lot -/
def upH (x : Int32) : Nat := x.toBitVec.toNat / 65536
theorem upH_lt (x : Int32) : upH x < 65536 := by
  have := x.toBitVec.isLt
  unfold upH; omega
theorem nI_bv (x : Int32) : x = nI x.toBitVec.toNat := by
  apply Int32.toBitVec_inj.mp
  apply BitVec.eq_of_toNat_eq
  show x.toBitVec.toNat = (Int32.ofNat x.toBitVec.toNat).toBitVec.toNat
  rw [Int32.toBitVec_ofNat', BitVec.toNat_ofNat]
  exact (Nat.mod_eq_of_lt x.toBitVec.isLt).symm
theorem up_16 (x : Int32) : ushr x 16 = nI (upH x) := by
  have h := i_ush (a := x.toBitVec.toNat) (t := 16) x.toBitVec.isLt (by decide)
  rw [← nI_bv x] at h
  exact h
theorem ct_drawn {E : En} {Q : Option Value → Hi → Prop} {H : Hi} {x : Int32} {m : Nat} (h0 : 0 < m) (hm : m < 2 ^ 31) (hq : Q (some (.int (nI (upH x % m)))) H) : Cm E mX2_drawn [.int x, .int (nI m)] H Q := by
  have n0 : ¬ nI m ≤ 0 := by
    show ¬ nI m ≤ nI 0
    rw [nI_leI hm (by decide)]; omega
  refine cmX2_drawn ⟨fun z => absurd z n0, fun _ => ⟨fun q => n0 (by rw [q]; decide), ?_⟩⟩
  rw [up_16, pk_rem (Nat.lt_trans (upH_lt x) (by decide)) h0 hm]
  exact hq
abbrev Dy : Type := Int32 × Nat × Sg
def dyK (b : Bd) (x : Int32) : Nat := 64 * (upH (nxL (nxL (nxL x))) % 2) + 8 * (upH (nxL x) % pM (dP b)) + upH (nxL (nxL x)) % pN (dP b)
def dy1 (b : Bd) (d : Dy) (h : Nat) : Dy :=
  if 0 < pN (dP b) ∧ 0 < pM (dP b) then
    (nxL (nxL (nxL d.1)), d.2.1 + (if (rch (dP b) (mid (dP b) (dH b) h d.2.2) (dyK b d.1)).isSome = true then 1 else 0), clo (dP b) (dA b) h (act (dP b) (mid (dP b) (dH b) h d.2.2) (dyK b d.1)))
  else (d.1, d.2.1, clo (dP b) (dA b) h (mid (dP b) (dH b) h d.2.2))
def frD (H0 H : Hi) : Prop := ∀ c, c ≠ 26 → H c = H0 c
theorem day_loop {E : En} {Q : Option Value → Hi → Prop} {H0 : Hi} {b : Bd} {n l : Nat} {x3 : Int32} (hF0 : FR b H0) (hn : n < 24) (hl : l = if 0 < pN (dP b) ∧ 0 < pM (dP b) then 1 else 0) :
    ∀ (m h : Nat) (H : Hi) (d : Dy), h + m = n + 1 → frD H0 H → Wf (dP b) d.2.2 → Rs (dP b) d.2.2 (H 26) →
      (∀ H' : Hi, frD H0 H' → Wf (dP b) (itF (dy1 b) h m d).2.2 → Rs (dP b) (itF (dy1 b) h m d).2.2 (H' 26) → (¬ x3 = -1 → Cm E mX6_placeOf [rf E 26, .int x3] H' (fun w zH => ∃ r : Int32, w = some (.int r) ∧ Q (some (.int r)) zH)) ∧ (x3 = -1 → Q (some (.int (nI (itF (dy1 b) h m d).2.1))) H')) →
      Rm E mX2_dayBySeed Q 47 [some (rf E 22), none, some (.int (nI n)), some (.int x3), some (.int (nI l)), some (.int d.1), some (.int (nI d.2.1)), some (.int (nI h)), none, none] [] H := by
  have ok := hF0.1.1
  have m8 := ok.2.1
  have n8 := ok.1
  intro m
  induction m with
  | zero =>
    intro h H d hh fH hw hr hq
    exact sgX2_dayBySeed_47 ⟨fun _ => hq H fH hw hr, fun z => absurd (nI_lt (by omega) (by omega)) z⟩
  | succ m ih =>
    intro h H d hh fH hw hr hq
    have hF : FR b H := fr_k2 hF0 (fun c z1 z2 z3 => fH c z3)
    have al : dA b < 2 ^ 24 := hF.2.1.2.2.2.2.2.2.2
    have au : H 11 1 = nI (dA b) := hF.2.1.2.2.2.2.2.2.1
    refine sgX2_dayBySeed_47 ⟨fun z => absurd z (by rw [nI_ltI (by omega) (by omega)]; omega), fun _ => ?_⟩
    refine ct_open hF.1 hF.2.1 st_26 hr hw (by omega) ?_
    intro H1 f1 s1
    have hF1 : FR b H1 := fr_k2 hF (fun c z1 z2 z3 => f1 c z3)
    have w1 := mid_wf (hd := dH b) (h := h) hw
    refine ⟨_, rfl, fun z => ?_, fun z => ?_⟩
    · have z' : ¬ (0 < pN (dP b) ∧ 0 < pM (dP b)) := fun q => by
        rw [hl, if_pos q] at z; exact absurd z (by decide)
      have e : dy1 b d h = (d.1, d.2.1, clo (dP b) (dA b) h (mid (dP b) (dH b) h d.2.2)) := if_neg z'
      rw [f1 11 (by decide), au]
      refine ct_close hF1.1 hF1.2.1 st_26 s1 w1 (by omega) al ?_
      intro H2 f2 s2
      refine ⟨rfl, fun x gx => ?_⟩
      rw [gx, ← nI_succ]
      have e2 : itF (dy1 b) h (m + 1) d = itF (dy1 b) (h + 1) m (dy1 b d h) := rfl
      rw [e2, e] at hq
      exact ih (h + 1) H2 (d.1, d.2.1, clo (dP b) (dA b) h (mid (dP b) (dH b) h d.2.2)) (by omega) (fun c q => by rw [f2 c q, f1 c q]; exact fH c q) (clo_wf m8 w1) s2 hq
    · have z' : 0 < pN (dP b) ∧ 0 < pM (dP b) := Classical.byContradiction fun q => z (by rw [hl, if_neg q]; rfl)
      have e : dy1 b d h = _ := if_pos z'
      have e2 : itF (dy1 b) h (m + 1) d = itF (dy1 b) (h + 1) m (dy1 b d h) := rfl
      rw [e2, e] at hq
      refine cmX2_nextLot ⟨_, rfl, ?_⟩
      rw [hF1.1.2.2.1]
      refine ct_drawn z'.2 (by omega) ⟨_, rfl, cmX2_nextLot ⟨_, rfl, ?_⟩⟩
      rw [hF1.1.2.1]
      refine ct_drawn z'.1 (by omega) ⟨_, rfl, cmX2_nextLot ⟨_, rfl, ?_⟩⟩
      refine ct_drawn (m := 2) (by decide) (by decide) ⟨_, rfl, ?_⟩
      have ek : (64 : Int32) * nI (upH (nxL (nxL (nxL d.1))) % 2) + 8 * nI (upH (nxL d.1) % pM (dP b)) + nI (upH (nxL (nxL d.1)) % pN (dP b)) = nI (dyK b d.1) := by
        show nI 64 * _ + nI 8 * _ + _ = _
        rw [ni_mulN, ni_mulN, nI_add, nI_add]; rfl
      have k128 : dyK b d.1 < 128 := by
        have q1 := Nat.mod_lt (upH (nxL d.1)) z'.2
        have q2 := Nat.mod_lt (upH (nxL (nxL d.1))) z'.1
        unfold dyK; omega
      show Cm E mX2_reach [rf E 22, rf E 26, .int ((64 : Int32) * nI (upH (nxL (nxL (nxL d.1))) % 2) + 8 * nI (upH (nxL d.1) % pM (dP b)) + nI (upH (nxL (nxL d.1)) % pN (dP b)))] H1 _
      rw [ek]
      refine ct_reach hF1.1 st_26 s1 w1 k128 ?_
      intro H2 f2 s2
      have hF2 : FR b H2 := fr_k2 hF1 (fun c z1 z2 z3 => f2 c z3)
      have go : ∀ y : Int32, y = nI (d.2.1 + (if (rch (dP b) (mid (dP b) (dH b) h d.2.2) (dyK b d.1)).isSome = true then 1 else 0)) → Cm E mX2_close [rf E 22, rf E 26, .int (nI h), .int (H2 11 1)] H2 (fun w zH => w = none ∧ (∀ x : Int32, x = nI h + 1 → (Rm E mX2_dayBySeed Q 47 [some (rf E 22), none, some (.int (nI n)), some (.int x3), some (.int (nI l)), some (.int (nxL (nxL (nxL d.1)))), some (.int y), some (.int x), none, none] [] zH))) := by
        intro y gy
        rw [f2 11 (by decide), f1 11 (by decide), au, gy]
        refine ct_close hF2.1 hF2.2.1 st_26 s2 (act_wf w1) (by omega) al ?_
        intro H3 f3 s3
        refine ⟨rfl, fun x gx => ?_⟩
        rw [gx, ← nI_succ]
        exact ih (h + 1) H3 (nxL (nxL (nxL d.1)), d.2.1 + (if (rch (dP b) (mid (dP b) (dH b) h d.2.2) (dyK b d.1)).isSome = true then 1 else 0), clo (dP b) (dA b) h (act (dP b) (mid (dP b) (dH b) h d.2.2) (dyK b d.1))) (by omega) (fun c q => by rw [f3 c q, f2 c q, f1 c q]; exact fH c q) (clo_wf m8 (act_wf w1)) s3 hq
      refine ⟨_, rfl, fun q y gy => go y ?_, fun q y gy => go y ?_⟩
      · rw [gy]
        by_cases r : (rch (dP b) (mid (dP b) (dH b) h d.2.2) (dyK b d.1)).isSome = true
        · rw [if_pos r] at q; exact absurd q (by decide)
        · rw [if_neg r]; show nI d.2.1 + nI 0 = _; rw [nI_add]
      · rw [gy]
        by_cases r : (rch (dP b) (mid (dP b) (dH b) h d.2.2) (dyK b d.1)).isSome = true
        · rw [if_pos r, nI_succ]
        · rw [if_neg r] at q; exact absurd rfl q
def dyE (b : Bd) (x : Int32) (n : Nat) : Dy := itF (dy1 b) 0 (n + 1) (x, 0, st0 (dP b))
def dayS (b : Bd) (x : Int32) (n : Nat) (y : Int32) : Int32 := if y = -1 then nI (dyE b x n).2.1 else nI ((dyE b x n).2.2.1 (un y))
theorem ct_day {E : En} {Q : Option Value → Hi → Prop} {H : Hi} {b : Bd} {n : Nat} {x y : Int32} (hF : FR b H) (hn : n < 24) (hy : y = -1 ∨ inN (pN (dP b)) y = true)
    (hq : ∀ H' : Hi, frD H H' → Q (some (.int (dayS b x n y))) H') : Cm E mX2_dayBySeed [rf E 22, .int x, .int (nI n), .int y] H Q := by
  have ok := hF.1.1
  have m8 := ok.2.1
  have n8 := ok.1
  have go : ∀ l : Nat, (l = if 0 < pN (dP b) ∧ 0 < pM (dP b) then 1 else 0) → Cm E mX6_become [rf E 26, rf E 23] H (fun w zH => w = none ∧ (Rm E mX2_dayBySeed Q 47 [some (rf E 22), none, some (.int (nI n)), some (.int y), some (.int (nI l)), some (.int x), some (.int 0), some (.int 0), none, none] [] zH)) := by
    intro l hl
    refine ct_become st_26 st_23 hF.2.2.1.1 ?_
    intro H1 f1 s1
    refine ⟨rfl, ?_⟩
    refine day_loop (b := b) hF hn hl (n + 1) 0 H1 (x, 0, st0 (dP b)) (by omega) f1 (st0_wf m8) s1 ?_
    intro H2 f2 w2 s2
    refine ⟨fun z => ?_, fun z => ?_⟩
    · have iy : inN (pN (dP b)) y = true := hy.resolve_left z
      obtain ⟨t, a1, b1, d1⟩ := inN_of iy (by omega)
      have hq2 := hq H2 f2
      unfold dayS at hq2
      rw [if_neg z, d1] at hq2
      rw [b1]
      exact ct_placeOf ok.1 st_26 s2 w2 a1 ⟨_, rfl, hq2⟩
    · have hq2 := hq H2 f2
      unfold dayS at hq2
      rw [if_pos z] at hq2
      exact hq2
  refine cmX2_dayBySeed ?_
  rw [hF.1.2.1, hF.1.2.2.1]
  have z1 : nI (pN (dP b)) ≤ 0 ↔ pN (dP b) ≤ 0 := nI_leI (by omega) (by decide)
  have z2 : nI (pM (dP b)) ≤ 0 ↔ pM (dP b) ≤ 0 := nI_leI (by omega) (by decide)
  rw [z1, z2]
  exact ⟨fun q => go 0 (by rw [if_neg (by omega)]), fun q => ⟨fun q2 => go 0 (by rw [if_neg (by omega)]), fun q2 => go 1 (by rw [if_pos (by omega)])⟩⟩
theorem ci_frD {b : Bd} {H H' : Hi} (hB : CB b H) (hF : FR b H) (h : frD H H') : CI b H' :=
  ci_fr (cb_keep hB (fun c z1 z2 => h c (by omega)) (fun c z1 z2 => h c (by omega)) (fun c z1 z2 => h c (by omega)) (by rw [h 0 (by decide)]) (fun k z1 z2 => by rw [h 23 (by decide)]; exact hB.2.2.2.2.2.2 k z1 z2)) (fr_k2 hF (fun c z1 z2 z3 => h c z3))
def sDay (b : Bd) (x1 x2 x3 : Int32) : Int32 × Bd :=
  if inN 24 x2 = true ∧ (x3 = -1 ∨ inN (pN (dP b)) x3 = true) then (dayS b x1 (un x2) x3, b) else (-2, b)
theorem cc_day {E : En} {b : Bd} {x1 x2 x3 : Int32} : Cc E mX9_day [rf E 0, .int x1, .int x2, .int x3] b (sDay b x1 x2 x3) := by
  intro H0 Q hC hq
  refine cmX9_day (ct_refresh hC fun H kH hB hF h9 => ⟨rfl, ?_⟩)
  have bad : sDay b x1 x2 x3 = (-2, b) → Q (some (.int (-2))) H := fun e => by
    rw [e] at hq; exact hq H kH (ci_fr hB hF)
  refine ct_isHour ⟨_, rfl, fun z => bad (if_neg (by rw [bI_0.mp z]; simp)), fun z1 => ?_⟩
  obtain ⟨n, a1, b1, d1⟩ := inN_of (bI_1 z1) (by decide)
  have go : (x3 = -1 ∨ inN (pN (dP b)) x3 = true) → Cm E mX2_dayBySeed [rf E 22, .int x1, .int x2, .int x3] H (fun w zH => ∃ r : Int32, w = some (.int r) ∧ Q (some (.int r)) zH) := by
    intro hy
    have e : sDay b x1 x2 x3 = _ := if_pos ⟨bI_1 z1, hy⟩
    rw [e, d1] at hq
    rw [b1]
    exact ct_day hF a1 hy (fun H' f' => ⟨_, rfl, hq H' (fun c hc => by rw [f' c (by omega)]; exact kH c hc) (ci_frD hB hF f')⟩)
  refine ⟨fun z => go (Or.inl z), fun z => ct_isThing hF.1 ⟨_, rfl, fun z2 => go (Or.inr (bI_1 z2)), fun z2 => bad (if_neg ?_)⟩⟩
  rintro ⟨-, q | q⟩
  · exact z q
  · rw [bI_0.mp z2] at q; exact absurd q (by decide)
