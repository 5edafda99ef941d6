/-! holes, back, felt, forget; the family and the hours asked -/
def sHole (b : Bd) (x1 x2 : Int32) : Int32 × Bd :=
  if inN 24 x1 = true ∧ inN 10 x2 = true ∧ ¬ x2 = 0 then
    (if (dO b).1 < 6 then (nI ((dO b).1 + 1), wO b ((dO b).1 + 1, nup (dO b).2.1 (dO b).1 (un x1), nup (dO b).2.2 (dO b).1 (un x2))) else (-4, b))
  else (-2, b)
theorem cc_hole {E : En} {b : Bd} {x1 x2 : Int32} : Cc E mX9_hole [rf E 0, .int x1, .int x2] b (sHole b x1 x2) := by
  intro H0 Q hC0 hq0
  refine cmX9_hole ?_
  intro H g0
  have hC := cb_st hC0.1
  rw [← g0] at hC
  have h9 : H 0 9 = 1 := by rw [g0, up_s, upd_s]
  have hq : ∀ H' : Hi, (∀ c, 99 ≤ c → H' c = H c) → CB (sHole b x1 x2).2 H' → H' 0 9 = 1 → Q (some (.int (sHole b x1 x2).1)) H' := fun H' f' c' h' => hq0 H' (fun c hc => by rw [f' c hc, g0, up_n (by omega)]) (ci_stale c' h')
  have bad : sHole b x1 x2 = (-2, b) → ∃ r : Int32, some (Value.int (-2)) = some (.int r) ∧ Q (some (.int r)) H := fun e => by
    rw [e] at hq; exact ⟨_, rfl, hq H (fun _ _ => rfl) hC h9⟩
  refine cmX8_addHole (ct_isHour ⟨_, rfl, fun z => bad (if_neg (by rw [bI_0.mp z]; simp)), fun z1 => ⟨fun z => bad (if_neg ?_), fun z2 => ⟨fun z3 => ?_, fun z => bad (if_neg (by rw [inN_nle (N := 9) (by decide) z]; simp))⟩⟩⟩)
  · rcases lt1_0.mp z with q | q
    · rw [inN_f0 q]; simp
    · simp [q]
  have n0 : ¬ x2 < 0 ∧ ¬ x2 = 0 := by rw [lt1_0] at z2; exact ⟨fun q => z2 (Or.inl q), fun q => z2 (Or.inr q)⟩
  have i2 : inN 10 x2 = true := inN_le (N := 9) (by decide) n0.1 z3
  have e : sHole b x1 x2 = _ := if_pos ⟨bI_1 z1, i2, n0.2⟩
  rw [e] at hq
  obtain ⟨j1, a1, b1, d1⟩ := inN_of (bI_1 z1) (by decide)
  obtain ⟨j2, a2, b2, d2⟩ := inN_of i2 (by decide)
  have br := hC.2.2.1
  obtain ⟨c1, c2, c3, c4, c5, c6, c7, c8, c9⟩ := hC.2.1
  have c4' : H 11 5 = nI (dO b).1 := c4
  have c5' : (dO b).1 ≤ 6 := c5
  rw [c4']
  refine ⟨fun z5 => ?_, fun z5 => ?_⟩
  · have n5 : (dO b).1 < 6 := (nI_ltI (by omega) (by decide)).mp z5
    rw [if_pos n5] at hq
    refine ⟨(dO b).1, ⟨n5, rfl⟩, ?_⟩
    intro H1 g1
    refine ⟨(dO b).1, ⟨n5, by rw [g1, up_n (by decide), c4']⟩, ?_⟩
    intro H2 g2 H3 g3
    have e3 : H3 11 5 = nI ((dO b).1 + 1) := by rw [g3, up_s, upd_s, g2, up_n (by decide), g1, up_n (by decide), c4', nI_succ]
    rw [e3]
    refine ⟨_, rfl, ?_⟩
    have kk : ∀ c, c ≠ 11 → c ≠ 14 → c ≠ 15 → H3 c = H c := fun c z1 z2 z3 => by rw [g3, up_n z1, g2, up_n z3, g1, up_n z2]
    have e11 : ∀ k, k ≠ 5 → H3 11 k = H 11 k := fun k hk => by rw [g3, up_s, upd_n hk, g2, up_n (by decide), g1, up_n (by decide)]
    refine hq H3 (fun c hc => kk c (by omega) (by omega) (by omega)) (cb_told hC rfl rfl ?_ br (fun c z1 _ _ z2 z3 => kk c z1 z2 z3) (e11 8 (by decide))) (by rw [kk 0 (by decide) (by decide) (by decide), h9])
    refine ⟨c1, by rw [e11 2 (by decide)]; exact c2, by rw [kk 12 (by decide) (by decide) (by decide), kk 13 (by decide) (by decide) (by decide)]; exact c3, e3, Nat.succ_le_of_lt n5, fun k hk => ?_, by rw [e11 1 (by decide)]; exact c7, c8, by rw [e11 0 (by decide)]; exact c9⟩
    have hk' : k < (dO b).1 + 1 := hk
    have f14 : H3 14 = upd (H 14) (dO b).1 x1 := by rw [g3, up_n (by decide), g2, up_n (by decide), g1, up_s]
    have f15 : H3 15 = upd (H 15) (dO b).1 x2 := by rw [g3, up_n (by decide), g2, up_s, g1, up_n (by decide)]
    rw [f14, f15]
    show upd _ _ _ k = nI (nup (dO b).2.1 (dO b).1 (un x1) k) ∧ nup (dO b).2.1 (dO b).1 (un x1) k < 24 ∧ upd _ _ _ k = nI (nup (dO b).2.2 (dO b).1 (un x2) k) ∧ nup (dO b).2.2 (dO b).1 (un x2) k ≤ 9
    unfold nup
    by_cases ek : k = (dO b).1
    · rw [if_pos ek, if_pos ek, ek, upd_s, upd_s, d1, d2]
      exact ⟨b1, a1, b2, by omega⟩
    · rw [if_neg ek, if_neg ek, upd_n ek, upd_n ek]
      exact c6 k (show k < (dO b).1 by omega)
  · have n5 : ¬ (dO b).1 < 6 := fun q => z5 (nI_lt q (by decide))
    rw [if_neg n5] at hq
    exact ⟨_, rfl, hq H (fun _ _ => rfl) hC h9⟩
def sBack (b : Bd) (x : Int32) : Int32 × Bd :=
  if inN 2 x = true then
    (if x = 0 then (if (dH b).1 = 0 then (-3, b) else (nI ((dH b).1 - 1), wH b ((dH b).1 - 1, (dH b).2)))
     else (if (dO b).1 = 0 then (-3, b) else (nI ((dO b).1 - 1), wO b ((dO b).1 - 1, (dO b).2))))
  else (-2, b)
theorem cc_back {E : En} {b : Bd} {x : Int32} : Cc E mX9_back [rf E 0, .int x] b (sBack b x) := by
  intro H Q hC hq
  refine cmX9_back (ct_isBit ⟨_, rfl, fun z => ?_, fun z => ?_⟩)
  · have e : sBack b x = _ := if_pos (bI_1 z)
    rw [e] at hq
    obtain ⟨c1, c2, c3, c4, c5, c6, c7, c8, c9⟩ := hC.1.2.1
    have c4' : H 11 5 = nI (dO b).1 := c4
    have c5' : (dO b).1 ≤ 6 := c5
    refine ⟨fun z4 y gy => ?_, fun z4 y gy => ?_⟩
    · rw [if_neg z4] at hq
      rw [gy, c4', nI_eq0 (by omega)]
      refine ⟨fun n0 => ?_, fun n0 => ?_⟩
      · rw [if_neg n0] at hq
        intro H1 g1
        refine ⟨fun _ => ?_, fun q => absurd q z4⟩
        intro H2 g2
        have B1 := cb_st hC.1
        rw [← g1] at B1
        have o1 : H1 0 9 = 1 := by rw [g1, up_s, upd_s]
        have k1 : ∀ c, 99 ≤ c → H1 c = H c := fun c hc => by rw [g1, up_n (by omega)]
        have br := B1.2.2.1
        obtain ⟨c1, c2, c3, c4, c5, c6, c7, c8, c9⟩ := B1.2.1
        have kk : ∀ c, c ≠ 11 → H2 c = H1 c := fun c z1 => by rw [g2, up_n z1]
        have e11 : ∀ k, k ≠ 5 → H2 11 k = H1 11 k := fun k hk => by rw [g2, up_s, upd_n hk]
        have e3 : H2 11 5 = nI ((dO b).1 - 1) := by rw [g2, up_s, upd_s, ni_prd n0]
        rw [ni_prd n0]
        refine hq H2 (fun c hc => by rw [kk c (by omega), k1 c hc]) (ci_stale (cb_told B1 rfl rfl ?_ br (fun c z1 _ _ _ _ => kk c z1) (e11 8 (by decide))) (by rw [kk 0 (by decide), o1]))
        exact ⟨c1, by rw [e11 2 (by decide)]; exact c2, by rw [kk 12 (by decide), kk 13 (by decide)]; exact c3, e3, Nat.le_trans (Nat.sub_le _ _) c5', fun k hk => by rw [kk 14 (by decide), kk 15 (by decide)]; exact c6 k (Nat.lt_of_lt_of_le hk (Nat.sub_le _ _)), by rw [e11 1 (by decide)]; exact c7, c8, by rw [e11 0 (by decide)]; exact c9⟩
      · rw [if_pos n0] at hq
        exact hq H (fun _ _ => rfl) hC
    · rw [if_pos z4] at hq
      rw [gy, c2, nI_eq0 (by omega)]
      refine ⟨fun n0 => ?_, fun n0 => ?_⟩
      · rw [if_neg n0] at hq
        intro H1 g1
        refine ⟨fun q => absurd z4 q, fun _ => ?_⟩
        intro H2 g2
        have B1 := cb_st hC.1
        rw [← g1] at B1
        have o1 : H1 0 9 = 1 := by rw [g1, up_s, upd_s]
        have k1 : ∀ c, 99 ≤ c → H1 c = H c := fun c hc => by rw [g1, up_n (by omega)]
        have br := B1.2.2.1
        have c1' := c1
        obtain ⟨c1, c2, c3, c4, c5, c6, c7, c8, c9⟩ := B1.2.1
        have kk : ∀ c, c ≠ 11 → H2 c = H1 c := fun c z1 => by rw [g2, up_n z1]
        have e11 : ∀ k, k ≠ 2 → H2 11 k = H1 11 k := fun k hk => by rw [g2, up_s, upd_n hk]
        have e3 : H2 11 2 = nI ((dH b).1 - 1) := by rw [g2, up_s, upd_s, ni_prd n0]
        rw [ni_prd n0]
        refine hq H2 (fun c hc => by rw [kk c (by omega), k1 c hc]) (ci_stale (cb_told B1 rfl rfl ?_ br (fun c z1 _ _ _ _ => kk c z1) (e11 8 (by decide))) (by rw [kk 0 (by decide), o1]))
        exact ⟨Nat.le_trans (Nat.sub_le _ _) c1', e3, fun k hk => by rw [kk 12 (by decide), kk 13 (by decide)]; exact c3 k (Nat.lt_of_lt_of_le hk (Nat.sub_le _ _)), by rw [e11 5 (by decide)]; exact c4, c5, by rw [kk 14 (by decide), kk 15 (by decide)]; exact c6, by rw [e11 1 (by decide)]; exact c7, c8, by rw [e11 0 (by decide)]; exact c9⟩
      · rw [if_pos n0] at hq
        exact hq H (fun _ _ => rfl) hC
  · have e : sBack b x = (-2, b) := if_neg (by rw [bI_0.mp z]; simp)
    rw [e] at hq; exact hq H (fun _ _ => rfl) hC
