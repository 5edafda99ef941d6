/-! the model: thing, cousin, room, aunt, hand, hole, back -/
theorem mc_thing {E : En} {b : Bd} {x y : Int32} : Mc E mX10_thing [rf E 99, .int x, .int y] b (sThing b x y) := by
  intro H0 Q hO hM0 hq
  refine cmX10_thing (mt_isThing hO hM0 (fun H f r => ⟨_, rfl, fun z => ?_, fun z => mt_inN (N := 3) (by decide) ⟨_, rfl, fun z2 => ?_, fun z2 => ?_⟩⟩))
  · have e : sThing b x y = (-2, b) := if_neg (by rw [bI_0.mp z]; simp)
    rw [e] at hq; exact hq H (fx_1 f) (mi_fx hM0 f)
  · have e : sThing b x y = (-2, b) := if_neg (by rw [bI_0.mp z2]; simp)
    rw [e] at hq; exact hq H (fx_1 f) (mi_fx hM0 f)
  · have e : sThing b x y = _ := if_pos ⟨bI_1 z, bI_1 z2⟩
    rw [e] at hq
    have n8 := r.1.1
    obtain ⟨j, a1, b1, d1⟩ := inN_of (bI_1 z) (by omega)
    have g := r.2.2.2.1 j a1
    have hq' := hq H (fx_1 f) (mi_fx hM0 f)
    rw [d1] at hq'
    refine cmX10_thingOf ⟨fun q0 => ⟨fun q1 => ⟨j, ⟨by omega, b1⟩, _, rfl, ?_⟩, fun q1 => ⟨j, ⟨by omega, b1⟩, _, rfl, ?_⟩⟩, fun q0 => ⟨j, ⟨by omega, b1⟩, _, rfl, ?_⟩⟩
    · rw [g.2.2]; simp only [if_neg q0, if_neg q1] at hq'; exact hq'
    · rw [g.2.1]; simp only [if_neg q0, if_pos q1] at hq'; exact hq'
    · rw [g.1]; simp only [if_pos q0] at hq'; exact hq'
theorem mc_cousin {E : En} {b : Bd} {x y : Int32} : Mc E mX10_cousin [rf E 99, .int x, .int y] b (sCousin b x y) := by
  intro H0 Q hO hM0 hq
  refine cmX10_cousin (mt_isCousin hO hM0 (fun H f r => ⟨_, rfl, fun z => ?_, fun z => mt_inN (N := 2) (by decide) ⟨_, rfl, fun z2 => ?_, fun z2 => ?_⟩⟩))
  · have e : sCousin b x y = (-2, b) := if_neg (by rw [bI_0.mp z]; simp)
    rw [e] at hq; exact hq H (fx_1 f) (mi_fx hM0 f)
  · have e : sCousin b x y = (-2, b) := if_neg (by rw [bI_0.mp z2]; simp)
    rw [e] at hq; exact hq H (fx_1 f) (mi_fx hM0 f)
  · have e : sCousin b x y = _ := if_pos ⟨bI_1 z, bI_1 z2⟩
    rw [e] at hq
    have m8 := r.1.2.1
    obtain ⟨j, a1, b1, d1⟩ := inN_of (bI_1 z) (by omega)
    have g := r.2.2.2.2.1 j a1
    have hq' := hq H (fx_1 f) (mi_fx hM0 f)
    rw [d1] at hq'
    refine ⟨fun q0 => ⟨j, ⟨by omega, b1⟩, ?_⟩, fun q0 => ⟨j, ⟨by omega, b1⟩, ?_⟩⟩
    · rw [g.2]; simp only [if_neg q0] at hq'; exact hq'
    · rw [g.1]; simp only [if_pos q0] at hq'; exact hq'
/-- only what stands in the model's own cell has changed -/
theorem mi_99 {b b' : Bd} {H H' : Hi} (hM : MI b H) (f : ∀ c, c ≠ 99 → H' c = H c) (e : b'.1 = b.1 ∧ (dF b') = dF b ∧ dS b' = dS b) (h9 : H' 99 9 = nI (dRm b') ∧ H' 99 10 = nI (dA b')) (ha : MHa (dH b') H') (ho : MHo (dO b') H') (h30 : H' 99 30 = H 99 30) (h41 : H' 99 41 = nI (dFi b')) : MI b' H' := by
  obtain ⟨m1, m2, m3, m4, m5, m6, m7⟩ := hM
  refine ⟨?_, h9, ha, ho, ?_, ?_, h41⟩
  · unfold dn0 db0 dn1 db1
    rw [e.1]
    exact txm_keep m1 (f 100 (by decide)) (f 101 (by decide))
  · rw [e.2.1]; exact mfe_k m5 h30 (f 122 (by decide)) (f 123 (by decide)) (f 124 (by decide))
  · rw [e.2.2]; exact msh_k m6 (f 126 (by decide)) (f 127 (by decide)) (f 128 (by decide)) (f 129 (by decide))
theorem in_1N {N : Nat} {x : Int32} (hi : Int32) (h : hi.toInt = (N : Int) - 1) : decide ((1 : Int32).toInt ≤ x.toInt ∧ x.toInt ≤ hi.toInt) = true ↔ inN N x = true ∧ ¬ x = 0 := by
  have e1 : (1 : Int32).toInt = 1 := by decide
  have e0 : (0 : Int32).toInt = 0 := by decide
  have ez : x = 0 ↔ x.toInt = 0 := by rw [← Int32.toInt_inj, e0]
  unfold inN
  rw [decide_eq_true_iff, decide_eq_true_iff, e1, h, ez]
  omega
theorem mc_room {E : En} {b : Bd} {x : Int32} : Mc E mX10_room [rf E 99, .int x] b (sRoom b x) := by
  intro H Q hO hM hq
  have ec := in_1N (N := 73) (x := x) 72 (by decide)
  refine cmX10_room (mt_in ⟨_, rfl, fun z => fun y ey H1 g1 => ?_, fun z => ?_⟩)
  · have e : sRoom b x = _ := if_pos (ec.mp (bI_1 z))
    rw [e] at hq
    obtain ⟨j, j1, j2, j3⟩ := inN_of (ec.mp (bI_1 z)).1 (by decide)
    rw [ey, hM.2.1.1]
    refine hq H1 (fun c hc => by rw [g1, up_n (by omega)]) (mi_99 hM (fun c p => by rw [g1, up_n p]) ⟨rfl, rfl, rfl⟩ ⟨?_, ?_⟩ (mha_k hM.2.2.1 ?_ (fun k _ => ⟨by rw [g1, up_n (by decide)], by rw [g1, up_n (by decide)]⟩)) (mho_k hM.2.2.2.1 ?_ (by rw [g1, up_n (by decide)]) (by rw [g1, up_n (by decide)])) ?_ ?_)
    · rw [g1, up_s, upd_s]
      show x = nI (un x)
      rw [j3]; exact j2
    · rw [g1, up_s, upd_n (by decide)]; exact hM.2.1.2
    · rw [g1, up_s, upd_n (by decide)]
    · rw [g1, up_s, upd_n (by decide)]
    · rw [g1, up_s, upd_n (by decide)]
    · rw [g1, up_s, upd_n (by decide)]; exact hM.2.2.2.2.2.2
  · have e : sRoom b x = (-2, b) := if_neg (fun p => by rw [bI_0] at z; rw [ec.mpr p] at z; exact absurd z (by decide))
    rw [e] at hq; exact hq H (fun _ _ => rfl) hM
theorem mc_aunt {E : En} {b : Bd} {x : Int32} : Mc E mX10_aunt [rf E 99, .int x] b (sAunt b x) := by
  intro H Q hO hM hq
  refine cmX10_aunt (mt_inN (N := 16777216) (by decide) ⟨_, rfl, fun z => fun y ey H1 g1 => ?_, fun z => ?_⟩)
  · have e : sAunt b x = _ := if_pos (bI_1 z)
    rw [e] at hq
    obtain ⟨j, j1, j2, j3⟩ := inN_of (bI_1 z) (by decide)
    rw [ey, hM.2.1.2]
    refine hq H1 (fun c hc => by rw [g1, up_n (by omega)]) (mi_99 hM (fun c p => by rw [g1, up_n p]) ⟨rfl, rfl, rfl⟩ ⟨?_, ?_⟩ (mha_k hM.2.2.1 ?_ (fun k _ => ⟨by rw [g1, up_n (by decide)], by rw [g1, up_n (by decide)]⟩)) (mho_k hM.2.2.2.1 ?_ (by rw [g1, up_n (by decide)]) (by rw [g1, up_n (by decide)])) ?_ ?_)
    · rw [g1, up_s, upd_n (by decide)]; exact hM.2.1.1
    · rw [g1, up_s, upd_s]
      show x = nI (un x)
      rw [j3]; exact j2
    · rw [g1, up_s, upd_n (by decide)]
    · rw [g1, up_s, upd_n (by decide)]
    · rw [g1, up_s, upd_n (by decide)]
    · rw [g1, up_s, upd_n (by decide)]; exact hM.2.2.2.2.2.2
  · have e : sAunt b x = (-2, b) := if_neg (by rw [bI_0.mp z]; simp)
    rw [e] at hq; exact hq H (fun _ _ => rfl) hM
set_option maxHeartbeats 1000000 in
theorem mc_hand {E : En} {b : Bd} {x1 x2 x3 x4 : Int32} : Mc E mX10_hand [rf E 99, .int x1, .int x2, .int x3, .int x4] b (sHand b x1 x2 x3 x4) := by
  intro H Q hO hM hq
  have bad : sHand b x1 x2 x3 x4 = (-2, b) → Q (some (.int (-2))) H := fun e => by
    rw [e] at hq; exact hq H (fun _ _ => rfl) hM
  have d20 := hO.2.2.2.2.1.1
  refine cmX10_hand (mt_isHour ⟨_, rfl, fun z => bad (if_neg (by rw [bI_0.mp z]; simp)), fun z1 => mt_isEight ⟨_, rfl, fun z => bad (if_neg (by rw [bI_0.mp z]; simp)), fun z2 => mt_isEight ⟨_, rfl, fun z => bad (if_neg (by rw [bI_0.mp z]; simp)), fun z3 => mt_inN (N := 2) (by decide) ⟨_, rfl, fun z4 => ?_, fun z => bad (if_neg (by rw [bI_0.mp z]; simp))⟩⟩⟩⟩)
  have e : sHand b x1 x2 x3 x4 = _ := if_pos ⟨bI_1 z1, bI_1 z2, bI_1 z3, bI_1 z4⟩
  rw [e] at hq
  obtain ⟨j1, p1, q1, r1⟩ := inN_of (bI_1 z1) (by decide)
  obtain ⟨j2, p2, q2, r2⟩ := inN_of (bI_1 z2) (by decide)
  obtain ⟨j3, p3, q3, r3⟩ := inN_of (bI_1 z3) (by decide)
  obtain ⟨j4, p4, q4, r4⟩ := inN_of (bI_1 z4) (by decide)
  obtain ⟨m1, m2, m3, m4, m5, m6, m7⟩ := id hM
  rw [m3.1]
  refine ⟨fun z5 => ⟨(dH b).1, ⟨by omega, rfl⟩, fun H1 g1 => ⟨(dH b).1, ⟨by omega, by rw [g1, up_n (by decide), m3.1]⟩, fun H2 g2 H3 g3 => ?_⟩⟩, fun z5 => ?_⟩
  · have z5' : ¬ (dH b).1 = 20 := fun p => z5 (by rw [p]; rfl)
    rw [if_pos (by omega)] at hq
    have e3 : H3 99 11 = nI ((dH b).1 + 1) := by rw [g3, up_s, upd_s, g2, up_n (by decide), g1, up_n (by decide), m3.1, nI_succ]
    have k3 : ∀ k, k ≠ 11 → H3 99 k = H 99 k := fun k p => by rw [g3, up_s, upd_n p, g2, up_n (by decide), g1, up_n (by decide)]
    have kk : ∀ c, c ≠ 99 → c ≠ 107 → c ≠ 108 → H3 c = H c := fun c a1 a2 a3 => by rw [g3, up_n a1, g2, up_n a3, g1, up_n a2]
    rw [e3]
    refine hq H3 (fun c hc => kk c (by omega) (by omega) (by omega)) ⟨txm_keep m1 (kk 100 (by decide) (by decide) (by decide)) (kk 101 (by decide) (by decide) (by decide)), ⟨by rw [k3 9 (by decide)]; exact m2.1, by rw [k3 10 (by decide)]; exact m2.2⟩, ⟨e3, fun k hk => ?_⟩, mho_k m4 (k3 14 (by decide)) (kk 109 (by decide) (by decide) (by decide)) (kk 110 (by decide) (by decide) (by decide)), mfe_k m5 (k3 30 (by decide)) (kk 122 (by decide) (by decide) (by decide)) (kk 123 (by decide) (by decide) (by decide)) (kk 124 (by decide) (by decide) (by decide)), msh_k m6 (kk 126 (by decide) (by decide) (by decide)) (kk 127 (by decide) (by decide) (by decide)) (kk 128 (by decide) (by decide) (by decide)) (kk 129 (by decide) (by decide) (by decide)), by rw [k3 41 (by decide)]; exact m7⟩
    have hk' : k < (dH b).1 + 1 := hk
    show H3 107 k = nI (nup (dH b).2.1 (dH b).1 (un x1) k) ∧ H3 108 k = nI (nup (dH b).2.2 (dH b).1 (64 * un x4 + 8 * un x2 + un x3) k)
    unfold nup
    by_cases ek : k = (dH b).1
    · rw [if_pos ek, if_pos ek, ek]
      refine ⟨?_, ?_⟩
      · rw [g3, up_n (by decide), g2, up_n (by decide), g1, up_s, upd_s, r1]; exact q1
      · rw [g3, up_n (by decide), g2, up_s, upd_s, r2, r3, r4, q2, q3, q4]
        show nI 64 * nI j4 + nI 8 * nI j2 + nI j3 = _
        rw [ni_mulN, ni_mulN, nI_add, nI_add]
    · rw [if_neg ek, if_neg ek]
      refine ⟨?_, ?_⟩
      · rw [g3, up_n (by decide), g2, up_n (by decide), g1, up_s, upd_n ek]; exact (m3.2 k (by omega)).1
      · rw [g3, up_n (by decide), g2, up_s, upd_n ek, g1, up_n (by decide)]; exact (m3.2 k (by omega)).2
  · have z5' : (dH b).1 = 20 := nI_inj (by omega) (by decide) z5
    rw [if_neg (by omega)] at hq
    exact hq H (fun _ _ => rfl) hM
set_option maxHeartbeats 1000000 in
theorem mc_hole {E : En} {b : Bd} {x1 x2 : Int32} : Mc E mX10_hole [rf E 99, .int x1, .int x2] b (sHole b x1 x2) := by
  intro H Q hO hM hq
  have bad : sHole b x1 x2 = (-2, b) → Q (some (.int (-2))) H := fun e => by
    rw [e] at hq; exact hq H (fun _ _ => rfl) hM
  have ec := in_1N (N := 10) (x := x2) 9 (by decide)
  have o6 := hO.2.2.2.2.2.1.1
  refine cmX10_hole (mt_isHour ⟨_, rfl, fun z => bad (if_neg (by rw [bI_0.mp z]; simp)), fun z1 => mt_in ⟨_, rfl, fun z2 => ?_, fun z => bad (if_neg (fun p => by rw [bI_0] at z; rw [ec.mpr p.2] at z; exact absurd z (by decide)))⟩⟩)
  have e : sHole b x1 x2 = _ := if_pos ⟨bI_1 z1, ec.mp (bI_1 z2)⟩
  rw [e] at hq
  obtain ⟨j1, p1, q1, r1⟩ := inN_of (bI_1 z1) (by decide)
  obtain ⟨j2, p2, q2, r2⟩ := inN_of (ec.mp (bI_1 z2)).1 (by decide)
  obtain ⟨m1, m2, m3, m4, m5, m6, m7⟩ := id hM
  rw [m4.1]
  have lt6 : ¬ nI (dO b).1 = 6 → (dO b).1 < 6 := fun z5 => by
    have z5' : ¬ (dO b).1 = 6 := fun p => z5 (by rw [p]; rfl)
    omega
  refine ⟨fun z5 => ⟨(dO b).1, ⟨lt6 z5, rfl⟩, fun H1 g1 => ⟨(dO b).1, ⟨lt6 z5, by rw [g1, up_n (by decide), m4.1]⟩, fun H2 g2 H3 g3 => ?_⟩⟩, fun z5 => ?_⟩
  · rw [if_pos (lt6 z5)] at hq
    have e3 : H3 99 14 = nI ((dO b).1 + 1) := by rw [g3, up_s, upd_s, g2, up_n (by decide), g1, up_n (by decide), m4.1, nI_succ]
    have k3 : ∀ k, k ≠ 14 → H3 99 k = H 99 k := fun k p => by rw [g3, up_s, upd_n p, g2, up_n (by decide), g1, up_n (by decide)]
    have kk : ∀ c, c ≠ 99 → c ≠ 109 → c ≠ 110 → H3 c = H c := fun c a1 a2 a3 => by rw [g3, up_n a1, g2, up_n a3, g1, up_n a2]
    rw [e3]
    refine hq H3 (fun c hc => kk c (by omega) (by omega) (by omega)) ⟨txm_keep m1 (kk 100 (by decide) (by decide) (by decide)) (kk 101 (by decide) (by decide) (by decide)), ⟨by rw [k3 9 (by decide)]; exact m2.1, by rw [k3 10 (by decide)]; exact m2.2⟩, mha_k m3 (k3 11 (by decide)) (fun k _ => ⟨by rw [kk 107 (by decide) (by decide) (by decide)], by rw [kk 108 (by decide) (by decide) (by decide)]⟩), ⟨e3, fun k hk => ?_⟩, mfe_k m5 (k3 30 (by decide)) (kk 122 (by decide) (by decide) (by decide)) (kk 123 (by decide) (by decide) (by decide)) (kk 124 (by decide) (by decide) (by decide)), msh_k m6 (kk 126 (by decide) (by decide) (by decide)) (kk 127 (by decide) (by decide) (by decide)) (kk 128 (by decide) (by decide) (by decide)) (kk 129 (by decide) (by decide) (by decide)), by rw [k3 41 (by decide)]; exact m7⟩
    have hk' : k < (dO b).1 + 1 := hk
    show H3 109 k = nI (nup (dO b).2.1 (dO b).1 (un x1) k) ∧ H3 110 k = nI (nup (dO b).2.2 (dO b).1 (un x2) k)
    unfold nup
    by_cases ek : k = (dO b).1
    · rw [if_pos ek, if_pos ek, ek]
      refine ⟨?_, ?_⟩
      · rw [g3, up_n (by decide), g2, up_n (by decide), g1, up_s, upd_s, r1]; exact q1
      · rw [g3, up_n (by decide), g2, up_s, upd_s, r2]; exact q2
    · rw [if_neg ek, if_neg ek]
      refine ⟨?_, ?_⟩
      · rw [g3, up_n (by decide), g2, up_n (by decide), g1, up_s, upd_n ek]; exact (m4.2 k (by omega)).1
      · rw [g3, up_n (by decide), g2, up_s, upd_n ek, g1, up_n (by decide)]; exact (m4.2 k (by omega)).2
  · have z5' : (dO b).1 = 6 := nI_inj (by omega) (by decide) z5
    rw [if_neg (by omega)] at hq
    exact hq H (fun _ _ => rfl) hM
theorem i_s0 (x : Int32) : x - 0 = x := Int32.sub_zero x
set_option maxHeartbeats 1000000 in
theorem mc_back {E : En} {b : Bd} {x : Int32} : Mc E mX10_back [rf E 99, .int x] b (sBack b x) := by
  intro H Q hO hM hq
  have d20 := hO.2.2.2.2.1.1
  have o6 := hO.2.2.2.2.2.1.1
  obtain ⟨m1, m2, m3, m4, m5, m6, m7⟩ := id hM
  refine cmX10_back (mt_inN (N := 2) (by decide) ⟨_, rfl, fun z => ?_, fun z => ?_⟩)
  · have e : sBack b x = _ := if_pos (bI_1 z)
    rw [e] at hq
    rcases inN_2.mp (bI_1 z) with ex | ex
    · subst ex
      rw [if_pos rfl] at hq
      refine ⟨fun p => absurd rfl p, fun _ y ey => ?_⟩
      rw [ey, m3.1, nI_eq0 (by omega)]
      refine ⟨fun z2 => ⟨fun p => absurd rfl p, fun _ H1 g1 => ⟨fun _ H2 g2 => ?_, fun p => absurd p (by decide)⟩⟩, fun z2 => ?_⟩
      · rw [if_neg z2] at hq
        rw [ni_prd z2]
        have k2 : ∀ k, k ≠ 11 → H2 99 k = H 99 k := fun k p => by
          rw [g2, up_s]
          by_cases p2 : k = 14
          · rw [p2, upd_s, i_s0, g1, up_s, upd_n (by decide)]
          · rw [upd_n p2, g1, up_s, upd_n p]
        have e2 : H2 99 11 = nI ((dH b).1 - 1) := by rw [g2, up_s, upd_n (by decide), g1, up_s, upd_s, ni_prd z2]
        have kk : ∀ c, c ≠ 99 → H2 c = H c := fun c p => by rw [g2, up_n p, g1, up_n p]
        exact hq H2 (fun c hc => kk c (by omega)) (mi_99 hM kk ⟨rfl, rfl, rfl⟩ ⟨by rw [k2 9 (by decide)]; exact m2.1, by rw [k2 10 (by decide)]; exact m2.2⟩ ⟨e2, fun k hk => by
          have hk' : k < (dH b).1 - 1 := hk
          rw [kk 107 (by decide), kk 108 (by decide)]; exact m3.2 k (by omega)⟩ (mho_k m4 (k2 14 (by decide)) (kk 109 (by decide)) (kk 110 (by decide))) (k2 30 (by decide)) (by rw [k2 41 (by decide)]; exact m7))
      · rw [if_pos z2] at hq
        exact hq H (fun _ _ => rfl) hM
    · subst ex
      rw [if_neg (by decide)] at hq
      refine ⟨fun _ y ey => ?_, fun p => absurd p (by decide)⟩
      rw [ey, m4.1, nI_eq0 (by omega)]
      refine ⟨fun z2 => ⟨fun _ H1 g1 => ⟨fun p => absurd rfl p, fun _ H2 g2 => ?_⟩, fun p => absurd p (by decide)⟩, fun z2 => ?_⟩
      · rw [if_neg z2] at hq
        rw [ni_prd z2]
        have k2 : ∀ k, k ≠ 14 → H2 99 k = H 99 k := fun k p => by
          rw [g2, up_s, upd_n p, g1, up_s]
          by_cases p2 : k = 11
          · rw [p2, upd_s, i_s0]
          · rw [upd_n p2]
        have e2 : H2 99 14 = nI ((dO b).1 - 1) := by rw [g2, up_s, upd_s, g1, up_s, upd_n (by decide), m4.1, ni_prd z2]
        have kk : ∀ c, c ≠ 99 → H2 c = H c := fun c p => by rw [g2, up_n p, g1, up_n p]
        exact hq H2 (fun c hc => kk c (by omega)) (mi_99 hM kk ⟨rfl, rfl, rfl⟩ ⟨by rw [k2 9 (by decide)]; exact m2.1, by rw [k2 10 (by decide)]; exact m2.2⟩ (mha_k m3 (k2 11 (by decide)) (fun k _ => ⟨by rw [kk 107 (by decide)], by rw [kk 108 (by decide)]⟩)) ⟨e2, fun k hk => by
          have hk' : k < (dO b).1 - 1 := hk
          rw [kk 109 (by decide), kk 110 (by decide)]; exact m4.2 k (by omega)⟩ (k2 30 (by decide)) (by rw [k2 41 (by decide)]; exact m7))
      · rw [if_pos z2] at hq
        exact hq H (fun _ _ => rfl) hM
  · have e : sBack b x = (-2, b) := if_neg (by rw [bI_0.mp z]; simp)
    rw [e] at hq; exact hq H (fun _ _ => rfl) hM
