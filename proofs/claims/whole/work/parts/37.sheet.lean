/-! felt, forget; sheets -/
theorem fr_keep {b b' : Bd} {H H' : Hi} (hF : FR b H) (e1 : dP b' = dP b) (e2 : dH b' = dH b) (e3 : dA b' = dA b) (h : ∀ c, 1 ≤ c → c ≤ 90 → c ≠ 11 → c ≠ 16 → c ≠ 17 → c ≠ 18 → H' c = H c) (h11 : ∀ k, k ≠ 8 → H' 11 k = H 11 k) : FR b' H' := by
  have k : ∀ c, (1 ≤ c ∧ c ≤ 10) ∨ (12 ≤ c ∧ c ≤ 15) ∨ (19 ≤ c ∧ c ≤ 90) → H' c = H c := fun c hc => h c (by omega) (by omega) (by omega) (by omega) (by omega) (by omega)
  obtain ⟨f1, f2, f3, f4⟩ := hF
  refine ⟨?_, ?_, ?_, ?_⟩
  · rw [e1]
    unfold FamC
    rw [k 5 (by omega), k 6 (by omega), k 7 (by omega), k 8 (by omega), k 9 (by omega), k 10 (by omega), h11 0 (by decide)]
    exact f1
  · rw [e1, e2, e3]
    unfold ToldC
    rw [k 13 (by omega), k 19 (by omega), k 20 (by omega), k 21 (by omega), h11 1 (by decide)]
    exact f2
  · rw [e1, e2, e3]
    obtain ⟨o1, o2, o3, o4⟩ := f3
    refine ⟨by rw [k 23 (by omega)]; exact o1, by rw [k 23 (by omega)]; exact o2, by rw [k 22 (by omega)]; exact o3, fun j hj => ?_⟩
    rw [k (27 + 2 * j) (by omega), k (28 + 2 * j) (by omega)]
    exact o4 j hj
  · rw [e1, e2, e3]
    unfold PlC
    rw [k 75 (by omega), k 76 (by omega), k 77 (by omega)]
    exact f4
theorem cb_felt {b : Bd} {H H' : Hi} {f : Nat × (Nat → Nat) × (Nat → Nat) × (Nat → Nat)} (hC : CB b H) (h : ∀ c, c ≠ 11 → c ≠ 16 → c ≠ 17 → c ≠ 18 → H' c = H c) (h11 : ∀ k, k ≠ 8 → H' 11 k = H 11 k) (hf : FeC (wF b f) H') : CB (wF b f) H' := by
  obtain ⟨a1, a2, a3, a4, a5, a6, a7⟩ := hC
  refine ⟨?_, ?_, a3, hf, ?_, by rw [h 0 (by decide) (by decide) (by decide) (by decide)]; exact a6, by rw [h 23 (by decide) (by decide) (by decide) (by decide)]; exact a7⟩
  · exact tx_keep (H := H) a1 (fun c z1 z2 => h c (by omega) (by omega) (by omega) (by omega))
  · show ToB (dP b) (dH b) (dA b) H'
    unfold ToB
    rw [h11 2 (by decide), h11 5 (by decide), h11 1 (by decide), h11 0 (by decide), h 12 (by decide) (by decide) (by decide) (by decide), h 13 (by decide) (by decide) (by decide) (by decide), h 14 (by decide) (by decide) (by decide) (by decide), h 15 (by decide) (by decide) (by decide) (by decide)]
    exact a2
  · intro s hs
    rw [h (91 + 2 * s) (by omega) (by omega) (by omega) (by omega), h (92 + 2 * s) (by omega) (by omega) (by omega) (by omega)]
    exact a5 s hs
theorem ci_felt {b : Bd} {H H' : Hi} {f : Nat × (Nat → Nat) × (Nat → Nat) × (Nat → Nat)} (hC : CI b H) (h : ∀ c, c ≠ 11 → c ≠ 16 → c ≠ 17 → c ≠ 18 → H' c = H c) (h11 : ∀ k, k ≠ 8 → H' 11 k = H 11 k) (hf : FeC (wF b f) H') : CI (wF b f) H' :=
  ⟨cb_felt hC.1 h h11 hf, fun z => fr_keep (hC.2 (by rw [h 0 (by decide) (by decide) (by decide) (by decide)] at z; exact z)) rfl rfl rfl (fun c _ _ z1 z2 z3 z4 => h c z1 z2 z3 z4) h11⟩
def sForget (b : Bd) : Int32 × Bd := (nI (dF b).1, wF b (0, (dF b).2))
theorem cc_forget {E : En} {b : Bd} : Cc E mX9_forget [rf E 0] b (sForget b) := by
  intro H Q hC hq
  refine cmX9_forget ?_
  intro x gx H1 g1
  have fe := hC.1.2.2.2.1
  rw [gx, fe.2.1]
  have e11 : ∀ k, k ≠ 8 → H1 11 k = H 11 k := fun k hk => by rw [g1, up_s, upd_n hk]
  refine hq H1 (fun c hc => by rw [g1, up_n (by omega)]) (ci_felt hC (fun c z1 _ _ _ => by rw [g1, up_n z1]) e11 ?_)
  exact ⟨Nat.zero_le _, by rw [g1, up_s, upd_s]; rfl, fun k hk => absurd hk (Nat.not_lt_zero k)⟩
def sFelt (b : Bd) (x1 x2 x3 : Int32) : Int32 × Bd :=
  if inN 24 x1 = true ∧ inN 8 x2 = true ∧ inN 2 x3 = true then
    (if (dF b).1 < 8 then (nI ((dF b).1 + 1), wF b ((dF b).1 + 1, nup (dF b).2.1 (dF b).1 (un x1), nup (dF b).2.2.1 (dF b).1 (un x2), nup (dF b).2.2.2 (dF b).1 (un x3))) else (-4, b))
  else (-2, b)
theorem cc_felt {E : En} {b : Bd} {x1 x2 x3 : Int32} : Cc E mX9_felt [rf E 0, .int x1, .int x2, .int x3] b (sFelt b x1 x2 x3) := by
  intro H Q hC hq
  refine cmX9_felt ?_
  have bad : sFelt b x1 x2 x3 = (-2, b) → ∃ r : Int32, some (Value.int (-2)) = some (.int r) ∧ Q (some (.int r)) H := fun e => by
    rw [e] at hq; exact ⟨_, rfl, hq H (fun _ _ => rfl) hC⟩
  refine cmX8_addFelt (ct_isHour ⟨_, rfl, fun z => bad (if_neg (by rw [bI_0.mp z]; simp)), fun z1 => ct_isEighth ⟨_, rfl, fun z => bad (if_neg (by rw [bI_0.mp z]; simp)), fun z2 => ct_isBit ⟨_, rfl, fun z3 => ?_, fun z => bad (if_neg (by rw [bI_0.mp z]; simp))⟩⟩⟩)
  have e : sFelt b x1 x2 x3 = _ := if_pos ⟨bI_1 z1, bI_1 z2, bI_1 z3⟩
  rw [e] at hq
  obtain ⟨j1, a1, b1, d1⟩ := inN_of (bI_1 z1) (by decide)
  obtain ⟨j2, a2, b2, d2⟩ := inN_of (bI_1 z2) (by decide)
  obtain ⟨j3, a3, b3, d3⟩ := inN_of (bI_1 z3) (by decide)
  obtain ⟨f1, f2, f3⟩ := hC.1.2.2.2.1
  rw [f2]
  refine ⟨fun z5 => ?_, fun z5 => ?_⟩
  · have n5 : (dF b).1 < 8 := (nI_ltI (by omega) (by decide)).mp z5
    rw [if_pos n5] at hq
    refine ⟨(dF b).1, ⟨n5, rfl⟩, ?_⟩
    intro H1 g1
    refine ⟨(dF b).1, ⟨n5, by rw [g1, up_n (by decide), f2]⟩, ?_⟩
    intro H2 g2
    refine ⟨(dF b).1, ⟨n5, by rw [g2, up_n (by decide), g1, up_n (by decide), f2]⟩, ?_⟩
    intro H3 g3 H4 g4
    have e4 : H4 11 8 = nI ((dF b).1 + 1) := by rw [g4, up_s, upd_s, g3, up_n (by decide), g2, up_n (by decide), g1, up_n (by decide), f2, nI_succ]
    rw [e4]
    refine ⟨_, rfl, ?_⟩
    have kk : ∀ c, c ≠ 11 → c ≠ 16 → c ≠ 17 → c ≠ 18 → H4 c = H c := fun c z1 z2 z3 z4 => by rw [g4, up_n z1, g3, up_n z4, g2, up_n z3, g1, up_n z2]
    have e11 : ∀ k, k ≠ 8 → H4 11 k = H 11 k := fun k hk => by rw [g4, up_s, upd_n hk, g3, up_n (by decide), g2, up_n (by decide), g1, up_n (by decide)]
    refine hq H4 (fun c hc => kk c (by omega) (by omega) (by omega) (by omega)) (ci_felt hC kk e11 ⟨Nat.succ_le_of_lt n5, e4, fun k hk => ?_⟩)
    have hk' : k < (dF b).1 + 1 := hk
    have k16 : H4 16 = upd (H 16) (dF b).1 x1 := by rw [g4, up_n (by decide), g3, up_n (by decide), g2, up_n (by decide), g1, up_s]
    have k17 : H4 17 = upd (H 17) (dF b).1 x2 := by rw [g4, up_n (by decide), g3, up_n (by decide), g2, up_s, g1, up_n (by decide)]
    have k18 : H4 18 = upd (H 18) (dF b).1 x3 := by rw [g4, up_n (by decide), g3, up_s, g2, up_n (by decide), g1, up_n (by decide)]
    rw [k16, k17, k18]
    show upd _ _ _ k = nI (nup (dF b).2.1 (dF b).1 (un x1) k) ∧ nup (dF b).2.1 (dF b).1 (un x1) k < 24 ∧ upd _ _ _ k = nI (nup (dF b).2.2.1 (dF b).1 (un x2) k) ∧ nup (dF b).2.2.1 (dF b).1 (un x2) k < 8 ∧ upd _ _ _ k = nI (nup (dF b).2.2.2 (dF b).1 (un x3) k) ∧ nup (dF b).2.2.2 (dF b).1 (un x3) k < 2
    unfold nup
    by_cases ek : k = (dF b).1
    · rw [if_pos ek, if_pos ek, if_pos ek, ek, upd_s, upd_s, upd_s, d1, d2, d3]
      exact ⟨b1, a1, b2, a2, b3, a3⟩
    · rw [if_neg ek, if_neg ek, if_neg ek, upd_n ek, upd_n ek, upd_n ek]
      exact f3 k (by omega)
  · have n5 : ¬ (dF b).1 < 8 := fun q => z5 (nI_lt q (by decide))
    rw [if_neg n5] at hq
    exact ⟨_, rfl, hq H (fun _ _ => rfl) hC⟩
/-! a finding -/
theorem ci_found {b : Bd} {H : Hi} {k : Nat} (hC : CI b H) : CI (wFi b k) (up H 0 8 (nI k)) := by
  have h : ∀ c, c ≠ 0 → up H 0 8 (nI k) c = H c := fun c hc => up_n hc
  obtain ⟨⟨a1, a2, a3, a4, a5, a6, a7⟩, hF⟩ := hC
  refine ⟨⟨?_, ?_, a3, ?_, ?_, by rw [up_s, upd_s]; rfl, by rw [h 23 (by decide)]; exact a7⟩, fun z => ?_⟩
  · exact tx_keep (H := H) a1 (fun c z1 z2 => h c (by omega))
  · exact toB_keep (H := H) a2 (fun c z1 z2 => h c (by omega))
  · unfold FeC
    rw [h 11 (by decide), h 16 (by decide), h 17 (by decide), h 18 (by decide)]
    exact a4
  · intro s hs
    rw [h (91 + 2 * s) (by omega), h (92 + 2 * s) (by omega)]
    exact a5 s hs
  · rw [up_s, upd_n (by decide)] at z
    exact fr_keep (hF z) rfl rfl rfl (fun c z1 _ _ _ _ _ => h c (by omega)) (fun k _ => by rw [h 11 (by decide)])
theorem ct_found {E : En} {Q : Option Value → Hi → Prop} {H : Hi} {b : Bd} {k : Nat} (hC : CI b H) (hq : ∀ H' : Hi, (∀ c, 99 ≤ c → H' c = H c) → CI (wFi b k) H' → Q (some (.int (-10 - nI k))) H') : Cm E mX9_found [rf E 0, .int (nI k)] H Q := by
  refine cmX9_found ?_
  intro H1 g1
  rw [g1]
  exact hq _ (fun c hc => up_n (by omega)) (ci_found hC)
def sFound (b : Bd) (k : Nat) : Int32 × Bd := (-10 - nI k, wFi b k)
