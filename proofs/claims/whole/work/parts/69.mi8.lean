/-! the model: felt, sheets, count -/
theorem mt_meets {E : En} {Q : Option Value → Hi → Prop} {H : Hi} {b : Bd} {k : Nat} (hM : MI b H) (hq : ∀ H' : Hi, fx1 H H' → MI (sFound b k).2 H' → Q (some (.int (sFound b k).1)) H') : Cm E mX10_meets [rf E 99, .int (nI k)] H Q := by
  refine cmX10_meets (fun H1 g1 => ?_)
  have k1 : ∀ j, j ≠ 41 → H1 99 j = H 99 j := fun j p => by rw [g1, up_s, upd_n p]
  have kk : ∀ c, c ≠ 99 → H1 c = H c := fun c p => by rw [g1, up_n p]
  obtain ⟨m1, m2, m3, m4, m5, m6, m7⟩ := id hM
  exact hq H1 (fun c hc => kk c (by omega)) (mi_99 hM kk ⟨rfl, rfl, rfl⟩ ⟨by rw [k1 9 (by decide)]; exact m2.1, by rw [k1 10 (by decide)]; exact m2.2⟩ (mha_k m3 (k1 11 (by decide)) (fun k _ => ⟨by rw [kk 107 (by decide)], by rw [kk 108 (by decide)]⟩)) (mho_k m4 (k1 14 (by decide)) (kk 109 (by decide)) (kk 110 (by decide))) (k1 30 (by decide)) (by rw [g1, up_s, upd_s]; rfl))
theorem mc_forget {E : En} {b : Bd} : Mc E mX10_forget [rf E 99] b (sForget b) := by
  intro H Q hO hM hq
  refine cmX10_forget (fun x ex H1 g1 => ?_)
  obtain ⟨m1, m2, m3, m4, m5, m6, m7⟩ := id hM
  have k1 : ∀ j, j ≠ 30 → H1 99 j = H 99 j := fun j p => by rw [g1, up_s, upd_n p]
  have kk : ∀ c, c ≠ 99 → H1 c = H c := fun c p => by rw [g1, up_n p]
  rw [ex, m5.1]
  exact hq H1 (fun c hc => kk c (by omega)) ⟨txm_keep m1 (kk 100 (by decide)) (kk 101 (by decide)), ⟨by rw [k1 9 (by decide)]; exact m2.1, by rw [k1 10 (by decide)]; exact m2.2⟩, mha_k m3 (k1 11 (by decide)) (fun k _ => ⟨by rw [kk 107 (by decide)], by rw [kk 108 (by decide)]⟩), mho_k m4 (k1 14 (by decide)) (kk 109 (by decide)) (kk 110 (by decide)), ⟨by rw [g1, up_s, upd_s]; rfl, fun k hk => absurd hk (Nat.not_lt_zero k)⟩, msh_k m6 (kk 126 (by decide)) (kk 127 (by decide)) (kk 128 (by decide)) (kk 129 (by decide)), by rw [k1 41 (by decide)]; exact m7⟩
set_option maxHeartbeats 1000000 in
theorem mc_felt {E : En} {b : Bd} {x1 x2 x3 : Int32} : Mc E mX10_felt [rf E 99, .int x1, .int x2, .int x3] b (sFelt b x1 x2 x3) := by
  intro H Q hO hM hq
  have bad : sFelt b x1 x2 x3 = (-2, b) → Q (some (.int (-2))) H := fun e => by
    rw [e] at hq; exact hq H (fun _ _ => rfl) hM
  have f8 := hO.2.2.2.2.2.2.1.1
  refine cmX10_felt (mt_isHour ⟨_, rfl, fun z => bad (if_neg (by rw [bI_0.mp z]; simp)), fun z1 => mt_isEight ⟨_, rfl, fun z => bad (if_neg (by rw [bI_0.mp z]; simp)), fun z2 => mt_inN (N := 2) (by decide) ⟨_, rfl, fun z3 => ?_, fun z => bad (if_neg (by rw [bI_0.mp z]; simp))⟩⟩⟩)
  have e : sFelt b x1 x2 x3 = _ := if_pos ⟨bI_1 z1, bI_1 z2, bI_1 z3⟩
  rw [e] at hq
  obtain ⟨j1, p1, q1, r1⟩ := inN_of (bI_1 z1) (by decide)
  obtain ⟨j2, p2, q2, r2⟩ := inN_of (bI_1 z2) (by decide)
  obtain ⟨j3, p3, q3, r3⟩ := inN_of (bI_1 z3) (by decide)
  obtain ⟨m1, m2, m3, m4, m5, m6, m7⟩ := id hM
  rw [m5.1]
  have lt8 : ¬ nI (dF b).1 = 8 → (dF b).1 < 8 := fun z5 => by
    have z5' : ¬ (dF b).1 = 8 := fun p => z5 (by rw [p]; rfl)
    omega
  refine ⟨fun z5 => ⟨(dF b).1, ⟨lt8 z5, rfl⟩, fun H1 g1 => ⟨(dF b).1, ⟨lt8 z5, by rw [g1, up_n (by decide), m5.1]⟩, fun H2 g2 => ⟨(dF b).1, ⟨lt8 z5, by rw [g2, up_n (by decide), g1, up_n (by decide), m5.1]⟩, fun H3 g3 H4 g4 => ?_⟩⟩⟩, fun z5 => ?_⟩
  · rw [if_pos (lt8 z5)] at hq
    have e4 : H4 99 30 = nI ((dF b).1 + 1) := by rw [g4, up_s, upd_s, g3, up_n (by decide), g2, up_n (by decide), g1, up_n (by decide), m5.1, nI_succ]
    have k4 : ∀ k, k ≠ 30 → H4 99 k = H 99 k := fun k p => by rw [g4, up_s, upd_n p, g3, up_n (by decide), g2, up_n (by decide), g1, up_n (by decide)]
    have kk : ∀ c, c ≠ 99 → c ≠ 122 → c ≠ 123 → c ≠ 124 → H4 c = H c := fun c a1 a2 a3 a4 => by rw [g4, up_n a1, g3, up_n a4, g2, up_n a3, g1, up_n a2]
    rw [e4]
    refine hq H4 (fun c hc => kk c (by omega) (by omega) (by omega) (by omega)) ⟨txm_keep m1 (kk 100 (by decide) (by decide) (by decide) (by decide)) (kk 101 (by decide) (by decide) (by decide) (by decide)), ⟨by rw [k4 9 (by decide)]; exact m2.1, by rw [k4 10 (by decide)]; exact m2.2⟩, mha_k m3 (k4 11 (by decide)) (fun k _ => ⟨by rw [kk 107 (by decide) (by decide) (by decide) (by decide)], by rw [kk 108 (by decide) (by decide) (by decide) (by decide)]⟩), mho_k m4 (k4 14 (by decide)) (kk 109 (by decide) (by decide) (by decide) (by decide)) (kk 110 (by decide) (by decide) (by decide) (by decide)), ⟨e4, fun k hk => ?_⟩, msh_k m6 (kk 126 (by decide) (by decide) (by decide) (by decide)) (kk 127 (by decide) (by decide) (by decide) (by decide)) (kk 128 (by decide) (by decide) (by decide) (by decide)) (kk 129 (by decide) (by decide) (by decide) (by decide)), by rw [k4 41 (by decide)]; exact m7⟩
    have hk' : k < (dF b).1 + 1 := hk
    show H4 122 k = nI (nup (dF b).2.1 (dF b).1 (un x1) k) ∧ H4 123 k = nI (nup (dF b).2.2.1 (dF b).1 (un x2) k) ∧ H4 124 k = nI (nup (dF b).2.2.2 (dF b).1 (un x3) k)
    unfold nup
    by_cases ek : k = (dF b).1
    · rw [if_pos ek, if_pos ek, if_pos ek, ek]
      refine ⟨?_, ?_, ?_⟩
      · rw [g4, up_n (by decide), g3, up_n (by decide), g2, up_n (by decide), g1, up_s, upd_s, r1]; exact q1
      · rw [g4, up_n (by decide), g3, up_n (by decide), g2, up_s, upd_s, r2]; exact q2
      · rw [g4, up_n (by decide), g3, up_s, upd_s, r3]; exact q3
    · rw [if_neg ek, if_neg ek, if_neg ek]
      obtain ⟨s1, s2, s3⟩ := m5.2 k (by omega)
      refine ⟨?_, ?_, ?_⟩
      · rw [g4, up_n (by decide), g3, up_n (by decide), g2, up_n (by decide), g1, up_s, upd_n ek]; exact s1
      · rw [g4, up_n (by decide), g3, up_n (by decide), g2, up_s, upd_n ek, g1, up_n (by decide)]; exact s2
      · rw [g4, up_n (by decide), g3, up_s, upd_n ek, g2, up_n (by decide), g1, up_n (by decide)]; exact s3
  · have z5' : (dF b).1 = 8 := nI_inj (by omega) (by decide) z5
    rw [if_neg (by omega)] at hq
    exact hq H (fun _ _ => rfl) hM
theorem mi_sh {b : Bd} {H H' : Hi} {s : (Nat → Bool) × (Nat → Nat) × (Nat → Nat) × (Nat → Nat → Int32)} (hM : MI b H) (hS : MSh s H') (f : ∀ c, c ≠ 126 → c ≠ 127 → c ≠ 128 → c ≠ 129 → c ≠ 130 → H' c = H c) : MI (wS b s) H' := by
  obtain ⟨m1, m2, m3, m4, m5, m6, m7⟩ := hM
  have g : ∀ c, c < 126 → H' c = H c := fun c hc => f c (by omega) (by omega) (by omega) (by omega) (by omega)
  have g99 := g 99 (by decide)
  exact ⟨txm_keep m1 (g 100 (by decide)) (g 101 (by decide)), ⟨by rw [g99]; exact m2.1, by rw [g99]; exact m2.2⟩, mha_k m3 (by rw [g99]) (fun k _ => ⟨by rw [g 107 (by decide)], by rw [g 108 (by decide)]⟩), mho_k m4 (by rw [g99]) (g 109 (by decide)) (g 110 (by decide)), mfe_k m5 (by rw [g99]) (g 122 (by decide)) (g 123 (by decide)) (g 124 (by decide)), hS, by rw [g99]; exact m7⟩
theorem i_60 {s i : Nat} : (60 : Int32) * nI s + nI i = nI (60 * s + i) := by
  show nI 60 * nI s + nI i = _
  rw [ni_mulN, nI_add]
set_option maxHeartbeats 1000000 in
theorem mc_sheet {E : En} {b : Bd} {x1 x2 x3 : Int32} : Mc E mX10_sheet [rf E 99, .int x1, .int x2, .int x3] b (sSheet b x1 x2 x3) := by
  intro H Q hO hM hq
  have bad : sSheet b x1 x2 x3 = (-2, b) → Q (some (.int (-2))) H := fun e => by
    rw [e] at hq; exact hq H (fun _ _ => rfl) hM
  refine cmX10_sheet (mt_isSheet ⟨_, rfl, fun z => bad (if_neg (by rw [bI_0.mp z]; simp)), fun z1 => mt_inN (N := 3) (by decide) ⟨_, rfl, fun z => bad (if_neg (by rw [bI_0.mp z]; simp)), fun z2 => ⟨fun z3 => ?_, fun z => bad (if_neg (fun p => z p.2.2))⟩⟩⟩)
  have e : sSheet b x1 x2 x3 = _ := if_pos ⟨bI_1 z1, bI_1 z2, z3⟩
  rw [e] at hq
  refine ⟨fun z4 => ?_, fun z4 => ?_⟩
  · rw [if_pos z4] at hq
    obtain ⟨s, p1, q1, r1⟩ := inN_of (bI_1 z1) (by decide)
    obtain ⟨j2, p2, q2, r2⟩ := inN_of (bI_1 z2) (by decide)
    have x60 : x3 ≤ nI 60 := z3
    have i3 : inN 61 x3 = true := inN_le (N := 60) (by decide) (i_0le.mp z4) x60
    obtain ⟨j3, p3, q3, r3⟩ := inN_of i3 (by decide)
    rw [r1, r2, r3] at hq
    refine ⟨s, ⟨p1, q1⟩, fun H1 g1 => ⟨s, ⟨p1, q1⟩, fun H2 g2 => ⟨s, ⟨p1, q1⟩, fun H3 g3 => ?_⟩⟩⟩
    obtain ⟨m1, m2, m3, m4, m5, m6, m7⟩ := id hM
    have lp : ∀ (m i : Nat) (H4 : Hi), i + m = 60 → (∀ c, c ≠ 129 → H4 c = H3 c) → (∀ s' j, s' < 4 → j < 60 → H4 129 (60 * s' + j) = if s' = s ∧ j < i then 0 else (dS b).2.2.2 s' j) → Rm E mX10_sheet Q 59 [some (rf E 99), some (.int x1), none, some (.int x3), some (.int (nI i))] [] H4 := by
      intro m
      induction m with
      | zero =>
        intro i H4 hi f4 it
        have ei : i = 60 := by omega
        subst ei
        refine sgX10_sheet_59 ⟨fun _ => ?_, fun z => absurd (show nI 60 ≤ nI 60 from nI_le (by omega) (by omega)) z⟩
        refine hq H4 (fun c hc => by rw [f4 c (by omega), g3, up_n (by omega), g2, up_n (by omega), g1, up_n (by omega)]) (mi_sh hM (fun s' hs' => ?_) (fun c a1 a2 a3 a4 _ => by rw [f4 c a4, g3, up_n a3, g2, up_n a2, g1, up_n a1]))
        obtain ⟨t1, t2, t3, t4⟩ := m6 s' hs'
        refine ⟨?_, ?_, ?_, fun j hj => ?_⟩
        · rw [f4 126 (by decide), g3, up_n (by decide), g2, up_n (by decide), g1, up_s]
          show _ = bI (bup (dS b).1 s true s')
          unfold bup
          by_cases es : s' = s
          · rw [es, upd_s, if_pos rfl]; rfl
          · rw [upd_n es, if_neg es]; exact t1
        · rw [f4 127 (by decide), g3, up_n (by decide), g2, up_s]
          show _ = nI (nup (dS b).2.1 s j2 s')
          unfold nup
          by_cases es : s' = s
          · rw [es, upd_s, if_pos rfl]; exact q2
          · rw [upd_n es, if_neg es, g1, up_n (by decide)]; exact t2
        · rw [f4 128 (by decide), g3, up_s]
          show _ = nI (nup (dS b).2.2.1 s j3 s')
          unfold nup
          by_cases es : s' = s
          · rw [es, upd_s, if_pos rfl]; exact q3
          · rw [upd_n es, if_neg es, g2, up_n (by decide), g1, up_n (by decide)]; exact t3
        · rw [it s' j hs' hj]
          show _ = if s' = s then 0 else (dS b).2.2.2 s' j
          by_cases es : s' = s
          · rw [if_pos ⟨es, hj⟩, if_pos es]
          · rw [if_neg (fun p => es p.1), if_neg es]
      | succ m ih =>
        intro i H4 hi f4 it
        refine sgX10_sheet_59 ⟨fun z => ?_, fun _ => ⟨60 * s + i, ⟨by omega, by rw [q1, i_60]⟩, fun H5 g5 x ex => ?_⟩⟩
        · have := (nI_leI (a := 60) (by omega) (by omega)).mp z; omega
        · rw [ex, ← nI_succ]
          refine ih (i + 1) H5 (by omega) (fun c p => by rw [g5, up_n p]; exact f4 c p) (fun s' j hs' hj => ?_)
          rw [g5, up_s]
          by_cases ej : s' = s ∧ j = i
          · rw [ej.1, ej.2, upd_s, if_pos ⟨rfl, Nat.lt_succ_self i⟩]
          · rw [upd_n (by omega), it s' j hs' hj]
            by_cases es : s' = s ∧ j < i
            · rw [if_pos es, if_pos ⟨es.1, by omega⟩]
            · rw [if_neg es, if_neg (by omega)]
    refine lp 60 0 H3 rfl (fun _ _ => rfl) (fun s' j hs' hj => ?_)
    rw [g3, up_n (by decide), g2, up_n (by decide), g1, up_n (by decide), if_neg (by omega)]
    exact (m6 s' hs').2.2.2 j hj
  · rw [if_neg z4] at hq
    exact mt_meets (k := 5) hM (fun H' f' m' => ⟨_, rfl, hq H' f' m'⟩)
theorem mc_lose {E : En} {b : Bd} {x : Int32} : Mc E mX10_lose [rf E 99, .int x] b (sLose b x) := by
  intro H Q hO hM hq
  obtain ⟨m1, m2, m3, m4, m5, m6, m7⟩ := id hM
  refine cmX10_lose (mt_isSheet ⟨_, rfl, fun z => ?_, fun z => ?_⟩)
  · have e : sLose b x = _ := if_pos (bI_1 z)
    rw [e] at hq
    obtain ⟨s, p1, q1, r1⟩ := inN_of (bI_1 z) (by decide)
    rw [r1] at hq
    refine ⟨s, ⟨p1, q1⟩, ?_⟩
    obtain ⟨t1, t2, t3, t4⟩ := m6 s p1
    rw [t1]
    refine ⟨fun z2 => ⟨s, ⟨p1, q1⟩, fun H1 g1 => ⟨s, ⟨p1, q1⟩, ?_⟩⟩, fun z2 => ?_⟩
    · rw [if_pos (bI_1 z2)] at hq
      have e3 : H1 128 s = nI ((dS b).2.2.1 s) := by rw [g1, up_n (by decide)]; exact t3
      rw [e3]
      refine hq H1 (fun c hc => by rw [g1, up_n (by omega)]) (mi_sh hM (fun s' hs' => ?_) (fun c a1 _ _ _ _ => by rw [g1, up_n a1]))
      obtain ⟨u1, u2, u3, u4⟩ := m6 s' hs'
      refine ⟨?_, by rw [g1, up_n (by decide)]; exact u2, by rw [g1, up_n (by decide)]; exact u3, fun j hj => by rw [g1, up_n (by decide)]; exact u4 j hj⟩
      rw [g1, up_s]
      show _ = bI (bup (dS b).1 s false s')
      unfold bup
      by_cases es : s' = s
      · rw [es, upd_s, if_pos rfl]; rfl
      · rw [upd_n es, if_neg es]; exact u1
    · rw [if_neg (by rw [bI_0.mp z2]; decide)] at hq
      exact mt_meets (k := 1) hM (fun H' f' m' => ⟨_, rfl, hq H' f' m'⟩)
  · have e : sLose b x = (-2, b) := if_neg (by rw [bI_0.mp z]; simp)
    rw [e] at hq; exact hq H (fun _ _ => rfl) hM
theorem mt_lacks {E : En} {Q : Option Value → Hi → Prop} {H : Hi} {b : Bd} {s : Nat} {f i : Int32} (hO : BOk b) (hM : MI b H) (hs : s < 4) (hq : Q (some (.int (nI (rfs b s f i)))) H) : Cm E mX10_lacks [rf E 99, .int (nI s), .int f, .int i] H Q := by
  obtain ⟨t1, t2, t3, t4⟩ := hM.2.2.2.2.2.1 s hs
  have o := hO.2.2.2.2.2.2.2 s hs
  unfold rfs at hq
  refine cmX10_lacks ⟨s, ⟨hs, rfl⟩, ?_⟩
  rw [t1]
  refine ⟨fun z => ⟨s, ⟨hs, rfl⟩, ?_⟩, fun z => ?_⟩
  · rw [if_pos (bI_1 z)] at hq
    rw [t2]
    refine ⟨fun z2 => ⟨s, ⟨hs, rfl⟩, ?_⟩, fun z2 => ?_⟩
    · rw [if_pos z2] at hq
      rw [t3]
      refine mt_inN (N := (dS b).2.2.1 s) (ni_m1 (by omega)) ⟨_, rfl, fun z3 => ?_, fun z3 => ?_⟩
      · rw [if_neg (by rw [bI_0.mp z3]; decide)] at hq; exact hq
      · rw [if_pos (bI_1 z3)] at hq; exact hq
    · rw [if_neg z2] at hq; exact hq
  · rw [if_neg (by rw [bI_0.mp z]; decide)] at hq; exact hq
theorem mt_keepS {E : En} {Q : Option Value → Hi → Prop} {H : Hi} {b : Bd} {s i : Nat} {x : Int32} (hO : BOk b) (hM : MI b H) (hs : s < 4) (hi : i < 60)
    (hq : ∀ H' : Hi, (∀ c, c ≠ 129 → H' c = H c) → MI (wI b s i (nrw ((dS b).2.1 s) x)) H' → Q none H') : Cm E mX10_keep [rf E 99, .int (nI s), .int (nI i), .int x] H Q := by
  obtain ⟨t1, t2, t3, t4⟩ := hM.2.2.2.2.2.1 s hs
  have o := hO.2.2.2.2.2.2.2 s hs
  have fin : ∀ (y : Int32) (H' : Hi), y = nrw ((dS b).2.1 s) x → H' = up H 129 (60 * s + i) y → Q none H' := by
    intro y H' ey g
    refine hq H' (fun c p => by rw [g, up_n p]) (mi_sh hM (fun s' hs' => ?_) (fun c _ _ _ a4 _ => by rw [g, up_n a4]))
    obtain ⟨u1, u2, u3, u4⟩ := hM.2.2.2.2.2.1 s' hs'
    refine ⟨by rw [g, up_n (by decide)]; exact u1, by rw [g, up_n (by decide)]; exact u2, by rw [g, up_n (by decide)]; exact u3, fun j hj => ?_⟩
    rw [g, up_s]
    show _ = iup (dS b).2.2.2 s i (nrw ((dS b).2.1 s) x) s' j
    unfold iup
    by_cases es : s' = s ∧ j = i
    · rw [if_pos es, es.1, es.2, upd_s, ey]
    · rw [if_neg es, upd_n (by omega)]; exact u4 j hj
  have ix : (60 : Int32) * nI s + nI i = nI (60 * s + i) := i_60
  refine cmX10_keep ⟨s, ⟨hs, rfl⟩, ?_⟩
  rw [t2, nI_eq0 (by omega)]
  refine ⟨fun z => ⟨s, ⟨hs, rfl⟩, ?_⟩, fun z => ⟨60 * s + i, ⟨by omega, ix⟩, fun H' g => fin _ H' (by unfold nrw; rw [if_pos z]) g⟩⟩
  rw [t2]
  refine ⟨fun z2 => ⟨60 * s + i, ⟨by omega, ix⟩, fun H' g => fin _ H' ?_ g⟩, fun z2 => ⟨60 * s + i, ⟨by omega, ix⟩, fun H' g => fin _ H' ?_ g⟩⟩
  · unfold nrw
    rw [if_neg z, if_neg (fun p => z2 (by rw [p]; rfl))]
  · unfold nrw
    rw [if_neg z, if_pos (nI_inj (by omega) (by decide) z2)]
theorem rfs_lt {b : Bd} {s : Nat} {f i : Int32} : rfs b s f i < 4 := by unfold rfs; split; split; split; all_goals decide
theorem mc_put {E : En} {b : Bd} {x1 x2 x3 x4 : Int32} : Mc E mX10_put [rf E 99, .int x1, .int x2, .int x3, .int x4] b (sPut b x1 x2 x3 x4) := by
  intro H Q hO hM hq
  have bad : sPut b x1 x2 x3 x4 = (-2, b) → Q (some (.int (-2))) H := fun e => by
    rw [e] at hq; exact hq H (fun _ _ => rfl) hM
  refine cmX10_put (mt_isSheet ⟨_, rfl, fun z => bad (if_neg (by rw [bI_0.mp z]; simp)), fun z1 => mt_inN (N := 3) (by decide) ⟨_, rfl, fun z2 => ?_, fun z => bad (if_neg (by rw [bI_0.mp z]; simp))⟩⟩)
  have e : sPut b x1 x2 x3 x4 = _ := if_pos ⟨bI_1 z1, bI_1 z2⟩
  rw [e] at hq
  obtain ⟨s, p1, q1, r1⟩ := inN_of (bI_1 z1) (by decide)
  rw [r1] at hq
  rw [q1]
  have l4 := rfs_lt (b := b) (s := s) (f := x2) (i := x3)
  have le0 : nI (rfs b s x2 x3) ≤ 0 ↔ rfs b s x2 x3 ≤ 0 := nI_leI (by omega) (by decide)
  refine mt_lacks hO hM p1 ⟨_, rfl, fun z3 => ?_, fun z3 => ?_⟩
  · have z3' : rfs b s x2 x3 = 0 := by have := le0.mp z3; omega
    rw [if_pos z3'] at hq
    have i0 : inN ((dS b).2.2.1 s) x3 = true := by
      unfold rfs at z3'
      by_cases a1 : (dS b).1 s = true
      · rw [if_pos a1] at z3'
        by_cases a2 : nI ((dS b).2.1 s) = x2
        · rw [if_pos a2] at z3'
          by_cases a3 : inN ((dS b).2.2.1 s) x3 = true
          · exact a3
          · rw [if_neg a3] at z3'; exact absurd z3' (by decide)
        · rw [if_neg a2] at z3'; exact absurd z3' (by decide)
      · rw [if_neg a1] at z3'; exact absurd z3' (by decide)
    have o := hO.2.2.2.2.2.2.2 s p1
    obtain ⟨i, p3, q3, r3⟩ := inN_of i0 (by omega)
    rw [r3] at hq
    rw [q3]
    exact mt_keepS hO hM p1 (by omega) (fun H' f' m' => ⟨rfl, hq H' (fun c hc => f' c (by omega)) m'⟩)
  · have z3' : ¬ rfs b s x2 x3 = 0 := fun p => z3 (le0.mpr (by omega))
    rw [if_neg z3'] at hq
    exact mt_meets hM (fun H' f' m' => ⟨_, rfl, hq H' f' m'⟩)
theorem mc_get {E : En} {b : Bd} {x1 x2 x3 : Int32} : Mc E mX10_get [rf E 99, .int x1, .int x2, .int x3] b (sGet b x1 x2 x3) := by
  intro H Q hO hM hq
  have bad : sGet b x1 x2 x3 = (-2147483648, b) → Q (some (.int (-2147483648))) H := fun e => by
    rw [e] at hq; exact hq H (fun _ _ => rfl) hM
  refine cmX10_get (mt_isSheet ⟨_, rfl, fun z => bad (if_neg (by rw [bI_0.mp z]; simp)), fun z1 => mt_inN (N := 3) (by decide) ⟨_, rfl, fun z2 => ?_, fun z => bad (if_neg (by rw [bI_0.mp z]; simp))⟩⟩)
  have e : sGet b x1 x2 x3 = _ := if_pos ⟨bI_1 z1, bI_1 z2⟩
  rw [e] at hq
  obtain ⟨s, p1, q1, r1⟩ := inN_of (bI_1 z1) (by decide)
  rw [r1] at hq
  rw [q1]
  have l4 := rfs_lt (b := b) (s := s) (f := x2) (i := x3)
  have le0 : nI (rfs b s x2 x3) ≤ 0 ↔ rfs b s x2 x3 ≤ 0 := nI_leI (by omega) (by decide)
  refine mt_lacks hO hM p1 ⟨_, rfl, fun z3 => ?_, fun z3 H1 g1 => ?_⟩
  · have z3' : rfs b s x2 x3 = 0 := by have := le0.mp z3; omega
    rw [if_pos z3'] at hq
    have i0 : inN ((dS b).2.2.1 s) x3 = true := by
      unfold rfs at z3'
      by_cases a1 : (dS b).1 s = true
      · rw [if_pos a1] at z3'
        by_cases a2 : nI ((dS b).2.1 s) = x2
        · rw [if_pos a2] at z3'
          by_cases a3 : inN ((dS b).2.2.1 s) x3 = true
          · exact a3
          · rw [if_neg a3] at z3'; exact absurd z3' (by decide)
        · rw [if_neg a2] at z3'; exact absurd z3' (by decide)
      · rw [if_neg a1] at z3'; exact absurd z3' (by decide)
    have o := hO.2.2.2.2.2.2.2 s p1
    obtain ⟨i, p3, q3, r3⟩ := inN_of i0 (by omega)
    rw [r3] at hq
    rw [q3]
    refine ⟨60 * s + i, ⟨by omega, i_60⟩, ?_⟩
    rw [(hM.2.2.2.2.2.1 s p1).2.2.2 i (by omega)]
    exact hq H (fun _ _ => rfl) hM
  · have z3' : ¬ rfs b s x2 x3 = 0 := fun p => z3 (le0.mpr (by omega))
    rw [if_neg z3'] at hq
    have k1 : ∀ j, j ≠ 41 → H1 99 j = H 99 j := fun j p => by rw [g1, up_s, upd_n p]
    have kk : ∀ c, c ≠ 99 → H1 c = H c := fun c p => by rw [g1, up_n p]
    obtain ⟨m1, m2, m3, m4, m5, m6, m7⟩ := id hM
    exact hq H1 (fun c hc => kk c (by omega)) (mi_99 hM kk ⟨rfl, rfl, rfl⟩ ⟨by rw [k1 9 (by decide)]; exact m2.1, by rw [k1 10 (by decide)]; exact m2.2⟩ (mha_k m3 (k1 11 (by decide)) (fun k _ => ⟨by rw [kk 107 (by decide)], by rw [kk 108 (by decide)]⟩)) (mho_k m4 (k1 14 (by decide)) (kk 109 (by decide)) (kk 110 (by decide))) (k1 30 (by decide)) (by rw [g1, up_s, upd_s]; rfl))
