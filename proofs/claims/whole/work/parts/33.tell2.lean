/-! telling: room, aunt, hands, holes; the family -/
def sRoom (b : Bd) (x : Int32) : Int32 × Bd :=
  if inN 73 x = true ∧ ¬ x = 0 then (nI (dRm b), wRm b (un x)) else (-2, b)
def sAunt (b : Bd) (x : Int32) : Int32 × Bd :=
  if inN 16777216 x = true then (nI (dA b), wA b (un x)) else (-2, b)
theorem lt1_0 {x : Int32} : x < 1 ↔ x < 0 ∨ x = 0 := by
  rw [Int32.lt_iff_toInt_lt, i_lt0, ← Int32.toInt_inj]
  have e1 : (1 : Int32).toInt = 1 := by decide
  have e0 : (0 : Int32).toInt = 0 := by decide
  rw [e1, e0]; omega
theorem inN_le {N : Nat} {x : Int32} (hN : N < 2 ^ 31) (h0 : ¬ x < 0) (h : x ≤ nI N) : inN (N + 1) x = true := by
  have h1 := (i_len hN).mp h
  rw [i_lt0] at h0
  exact decide_eq_true (by omega)
theorem inN_nle {N : Nat} {x : Int32} (hN : N < 2 ^ 31) (h : ¬ x ≤ nI N) : inN (N + 1) x = false := by
  have h1 := mt (i_len hN).mpr h
  exact decide_eq_false (by omega)
theorem inN_lt {N : Nat} {x : Int32} (hN : N < 2 ^ 31) (h0 : ¬ x < 0) (h : x < nI N) : inN N x = true := by
  have h1 := (i_ltn hN).mp h
  rw [i_lt0] at h0
  exact decide_eq_true (by omega)
theorem inN_nlt {N : Nat} {x : Int32} (hN : N < 2 ^ 31) (h : ¬ x < nI N) : inN N x = false := by
  have h1 := mt (i_ltn hN).mpr h
  exact decide_eq_false (by omega)
theorem cb_told {b b' : Bd} {H H' : Hi} (hC : CB b H) (e1 : b'.1 = b.1) (e2 : b'.2.2.2.2 = b.2.2.2.2) (hB : ToB (dP b') (dH b') (dA b') H') (hr : dRm b' ≤ 72) (h : ∀ c, c ≠ 11 → c ≠ 12 → c ≠ 13 → c ≠ 14 → c ≠ 15 → H' c = H c) (h8 : H' 11 8 = H 11 8) : CB b' H' := by
  obtain ⟨a1, -, -, a4, a5, a6, a7⟩ := hC
  refine ⟨?_, hB, hr, ?_, ?_, ?_, fun k z1 z2 => by rw [h 23 (by decide) (by decide) (by decide) (by decide) (by decide)]; exact a7 k z1 z2⟩
  · unfold dn0 db0 dn1 db1 at *
    rw [e1]
    exact tx_keep a1 (fun c z1 z2 => h c (by omega) (by omega) (by omega) (by omega) (by omega))
  · have ef : dF b' = dF b := by unfold dF; rw [e2]
    unfold FeC
    rw [ef, h8, h 16 (by decide) (by decide) (by decide) (by decide) (by decide), h 17 (by decide) (by decide) (by decide) (by decide) (by decide), h 18 (by decide) (by decide) (by decide) (by decide) (by decide)]
    exact a4
  · have es : dS b' = dS b := by unfold dS; rw [e2]
    intro s hs
    rw [es, h (91 + 2 * s) (by omega) (by omega) (by omega) (by omega) (by omega), h (92 + 2 * s) (by omega) (by omega) (by omega) (by omega) (by omega)]
    exact a5 s hs
  · have es : dFi b' = dFi b := by unfold dFi; rw [e2]
    rw [es, h 0 (by decide) (by decide) (by decide) (by decide) (by decide)]
    exact a6
theorem cc_room {E : En} {b : Bd} {x : Int32} : Cc E mX9_room [rf E 0, .int x] b (sRoom b x) := by
  intro H Q hC hq
  refine cmX9_room ⟨fun z => ?_, fun z => ⟨fun z2 => ?_, fun z2 => ?_⟩⟩
  · have e : sRoom b x = (-2, b) := if_neg (by
      rcases lt1_0.mp z with q | q
      · rw [inN_f0 q]; simp
      · simp [q])
    rw [e] at hq; exact hq H (fun _ _ => rfl) hC
  · have n0 : ¬ x < 0 ∧ ¬ x = 0 := by rw [lt1_0] at z; exact ⟨fun q => z (Or.inl q), fun q => z (Or.inr q)⟩
    have i1 : inN 73 x = true := inN_le (N := 72) (by decide) n0.1 z2
    have e : sRoom b x = _ := if_pos ⟨i1, n0.2⟩
    rw [e] at hq
    obtain ⟨j, j1, j2, j3⟩ := inN_of i1 (by decide)
    intro H1 g1 y gy H2 g2
    have B1 := cb_st hC.1
    rw [← g1] at B1
    have o1 : H1 0 9 = 1 := by rw [g1, up_s, upd_s]
    have k1 : ∀ c, 99 ≤ c → H1 c = H c := fun c hc => by rw [g1, up_n (by omega)]
    have kk : ∀ c, c ≠ 11 → H2 c = H1 c := fun c z1 => by rw [g2, up_n z1]
    obtain ⟨c1, c2, c3, c4, c5, c6, c7, c8, c9⟩ := B1.2.1
    have e11 : ∀ k, k ≠ 0 → H2 11 k = H1 11 k := fun k hk => by rw [g2, up_s, upd_n hk]
    have ey : y = nI (dRm b) := by rw [gy]; exact c9
    rw [ey]
    refine hq H2 (fun c hc => by rw [kk c (by omega), k1 c hc]) (ci_stale (cb_told (b' := wRm b (un x)) B1 rfl rfl ?_ (by show un x ≤ 72; omega) (fun c z1 _ _ _ _ => kk c z1) (e11 8 (by decide))) (by rw [kk 0 (by decide), o1]))
    exact ⟨c1, by rw [e11 2 (by decide)]; exact c2, by rw [kk 12 (by decide), kk 13 (by decide)]; exact c3, by rw [e11 5 (by decide)]; exact c4, c5, by rw [kk 14 (by decide), kk 15 (by decide)]; exact c6, by rw [e11 1 (by decide)]; exact c7, c8, by rw [g2, up_s, upd_s]; show x = nI (un x); rw [j3]; exact j2⟩
  · have e : sRoom b x = (-2, b) := if_neg (by rw [inN_nle (N := 72) (by decide) z2]; simp)
    rw [e] at hq; exact hq H (fun _ _ => rfl) hC
theorem cc_aunt {E : En} {b : Bd} {x : Int32} : Cc E mX9_aunt [rf E 0, .int x] b (sAunt b x) := by
  intro H Q hC hq
  refine cmX9_aunt ⟨fun z => ?_, fun z => ⟨fun z2 => ?_, fun z2 => ?_⟩⟩
  · have e : sAunt b x = (-2, b) := if_neg (by rw [inN_f0 z]; simp)
    rw [e] at hq; exact hq H (fun _ _ => rfl) hC
  · have i1 : inN 16777216 x = true := inN_lt (N := 16777216) (by decide) z z2
    have e : sAunt b x = _ := if_pos i1
    rw [e] at hq
    obtain ⟨j, j1, j2, j3⟩ := inN_of i1 (by decide)
    intro H1 g1 y gy H2 g2
    have B1 := cb_st hC.1
    rw [← g1] at B1
    have o1 : H1 0 9 = 1 := by rw [g1, up_s, upd_s]
    have k1 : ∀ c, 99 ≤ c → H1 c = H c := fun c hc => by rw [g1, up_n (by omega)]
    have kk : ∀ c, c ≠ 11 → H2 c = H1 c := fun c z1 => by rw [g2, up_n z1]
    have br := B1.2.2.1
    obtain ⟨c1, c2, c3, c4, c5, c6, c7, c8, c9⟩ := B1.2.1
    have e11 : ∀ k, k ≠ 1 → H2 11 k = H1 11 k := fun k hk => by rw [g2, up_s, upd_n hk]
    have ey : y = nI (dA b) := by rw [gy]; exact c7
    rw [ey]
    refine hq H2 (fun c hc => by rw [kk c (by omega), k1 c hc]) (ci_stale (cb_told (b' := wA b (un x)) B1 rfl rfl ?_ br (fun c z1 _ _ _ _ => kk c z1) (e11 8 (by decide))) (by rw [kk 0 (by decide), o1]))
    exact ⟨c1, by rw [e11 2 (by decide)]; exact c2, by rw [kk 12 (by decide), kk 13 (by decide)]; exact c3, by rw [e11 5 (by decide)]; exact c4, c5, by rw [kk 14 (by decide), kk 15 (by decide)]; exact c6, by rw [g2, up_s, upd_s]; show x = nI (un x); rw [j3]; exact j2, by show un x < 2 ^ 24; omega, by rw [e11 0 (by decide)]; exact c9⟩
  · have e : sAunt b x = (-2, b) := if_neg (by rw [inN_nlt (N := 16777216) (by decide) z2]; simp)
    rw [e] at hq; exact hq H (fun _ _ => rfl) hC
theorem ni_mulN (a b : Nat) : nI a * nI b = nI (a * b) := (Int32.ofNat_mul a b).symm
def sHand (b : Bd) (x1 x2 x3 x4 : Int32) : Int32 × Bd :=
  if inN 24 x1 = true ∧ inN 8 x2 = true ∧ inN 8 x3 = true ∧ inN 2 x4 = true then
    (if (dH b).1 < 20 then (nI ((dH b).1 + 1), wH b ((dH b).1 + 1, nup (dH b).2.1 (dH b).1 (un x1), nup (dH b).2.2 (dH b).1 (64 * un x4 + 8 * un x2 + un x3))) else (-4, b))
  else (-2, b)
/-- addHand, whatever stands of stale -/
theorem ct_addHand {E : En} {Q : Option Value → Hi → Prop} {H : Hi} {b : Bd} {x1 x2 x3 x4 : Int32} (hC : CB b H) (h9 : H 0 9 = 1)
    (hq : ∀ H' : Hi, (∀ c, 99 ≤ c → H' c = H c) → CB (sHand b x1 x2 x3 x4).2 H' → H' 0 9 = 1 → Q (some (.int (sHand b x1 x2 x3 x4).1)) H') : Cm E mX8_addHand [rf E 11, .int x1, .int x2, .int x3, .int x4] H Q := by
  have bad : sHand b x1 x2 x3 x4 = (-2, b) → Q (some (.int (-2))) H := fun e => by
    rw [e] at hq; exact hq H (fun _ _ => rfl) hC h9
  refine cmX8_addHand (ct_isHour ⟨_, rfl, fun z => bad (if_neg (by rw [bI_0.mp z]; simp)), fun z1 => ct_isEighth ⟨_, rfl, fun z => bad (if_neg (by rw [bI_0.mp z]; simp)), fun z2 => ct_isEighth ⟨_, rfl, fun z => bad (if_neg (by rw [bI_0.mp z]; simp)), fun z3 => ct_isBit ⟨_, rfl, fun z4 => ?_, fun z => bad (if_neg (by rw [bI_0.mp z]; simp))⟩⟩⟩⟩)
  have e : sHand b x1 x2 x3 x4 = _ := if_pos ⟨bI_1 z1, bI_1 z2, bI_1 z3, bI_1 z4⟩
  rw [e] at hq
  obtain ⟨j1, a1, b1, d1⟩ := inN_of (bI_1 z1) (by decide)
  obtain ⟨j2, a2, b2, d2⟩ := inN_of (bI_1 z2) (by decide)
  obtain ⟨j3, a3, b3, d3⟩ := inN_of (bI_1 z3) (by decide)
  obtain ⟨j4, a4, b4, d4⟩ := inN_of (bI_1 z4) (by decide)
  have br := hC.2.2.1
  obtain ⟨c1, c2, c3, c4, c5, c6, c7, c8, c9⟩ := hC.2.1
  rw [c2]
  refine ⟨fun z5 => ?_, fun z5 => ?_⟩
  · have n5 : (dH b).1 < 20 := (nI_ltI (by omega) (by decide)).mp z5
    rw [if_pos n5] at hq
    refine ⟨(dH b).1, ⟨n5, rfl⟩, ?_⟩
    intro H1 g1
    refine ⟨(dH b).1, ⟨n5, by rw [g1, up_n (by decide), c2]⟩, ?_⟩
    intro H2 g2 H3 g3
    have e3 : H3 11 2 = nI ((dH b).1 + 1) := by rw [g3, up_s, upd_s, g2, up_n (by decide), g1, up_n (by decide), c2, nI_succ]
    rw [e3]
    have kk : ∀ c, c ≠ 11 → c ≠ 12 → c ≠ 13 → H3 c = H c := fun c z1 z2 z3 => by rw [g3, up_n z1, g2, up_n z3, g1, up_n z2]
    have e11 : ∀ k, k ≠ 2 → H3 11 k = H 11 k := fun k hk => by rw [g3, up_s, upd_n hk, g2, up_n (by decide), g1, up_n (by decide)]
    refine hq H3 (fun c hc => kk c (by omega) (by omega) (by omega)) (cb_told hC rfl rfl ?_ br (fun c z1 z2 z3 _ _ => kk c z1 z2 z3) (e11 8 (by decide))) (by rw [kk 0 (by decide) (by decide) (by decide), h9])
    refine ⟨Nat.succ_le_of_lt n5, e3, fun k hk => ?_, by rw [e11 5 (by decide)]; exact c4, c5, by rw [kk 14 (by decide) (by decide) (by decide), kk 15 (by decide) (by decide) (by decide)]; exact c6, by rw [e11 1 (by decide)]; exact c7, c8, by rw [e11 0 (by decide)]; exact c9⟩
    have hk' : k < (dH b).1 + 1 := hk
    have f12 : H3 12 = upd (H 12) (dH b).1 x1 := by rw [g3, up_n (by decide), g2, up_n (by decide), g1, up_s]
    have f13 : H3 13 = upd (H 13) (dH b).1 (((64 * x4) + (8 * x2)) + x3) := by rw [g3, up_n (by decide), g2, up_s, g1, up_n (by decide)]
    rw [f12, f13]
    show upd _ _ _ k = nI (nup (dH b).2.1 (dH b).1 (un x1) k) ∧ nup (dH b).2.1 (dH b).1 (un x1) k < 24 ∧ upd _ _ _ k = nI (nup (dH b).2.2 (dH b).1 (64 * un x4 + 8 * un x2 + un x3) k) ∧ nup (dH b).2.2 (dH b).1 (64 * un x4 + 8 * un x2 + un x3) k < 128
    unfold nup
    by_cases ek : k = (dH b).1
    · rw [if_pos ek, if_pos ek, ek, upd_s, upd_s, d1, d2, d3, d4]
      refine ⟨b1, a1, ?_, by omega⟩
      rw [b2, b3, b4]
      show nI 64 * nI j4 + nI 8 * nI j2 + nI j3 = _
      rw [ni_mulN, ni_mulN, nI_add, nI_add]
    · rw [if_neg ek, if_neg ek, upd_n ek, upd_n ek]
      exact c3 k (by omega)
  · have n5 : ¬ (dH b).1 < 20 := fun q => z5 (nI_lt q (by decide))
    rw [if_neg n5] at hq
    exact hq H (fun _ _ => rfl) hC h9
theorem cc_hand {E : En} {b : Bd} {x1 x2 x3 x4 : Int32} : Cc E mX9_hand [rf E 0, .int x1, .int x2, .int x3, .int x4] b (sHand b x1 x2 x3 x4) := by
  intro H Q hC hq
  refine cmX9_hand ?_
  intro H1 g1
  have B1 := cb_st hC.1
  rw [← g1] at B1
  exact ct_addHand B1 (by rw [g1, up_s, upd_s]) (fun H' f' c' h' => ⟨_, rfl, hq H' (fun c hc => by rw [f' c hc, g1, up_n (by omega)]) (ci_stale c' h')⟩)
