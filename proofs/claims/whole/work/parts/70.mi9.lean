/-! the model: copy, read, write, count -/
theorem lg_s {x y : Int32} {n : Nat} (hx : 0 ≤ x.toInt) (hy : 0 ≤ y.toInt) (hn : n < 2 ^ 31) : lg_cmp (x.toInt64 + y.toInt64) ((nI n).toInt64) ≤ 0 ↔ x.toInt + y.toInt ≤ (n : Int) := by
  rw [lg_cmp_le, Int64.le_iff_toInt_le, Int64.toInt_add, Int32.toInt_toInt64, Int32.toInt_toInt64, Int32.toInt_toInt64, nI_toInt hn]
  have h1 := Int32.toInt_lt x
  have h2 := Int32.toInt_lt y
  rw [Int.bmod_eq_of_le_mul_two (by omega) (by omega)]
theorem gt_0 {x : Int32} : 0 < x ↔ ¬ x ≤ 0 := Int32.not_le.symm
theorem ge0_of {x : Int32} (h : ¬ x < 0) : 0 ≤ x.toInt := by
  rw [i_lt0] at h; omega
theorem un_is {x : Int32} (h : 0 ≤ x.toInt) : x = nI (un x) := by
  apply Int32.toInt_inj.mp
  have u := un_toInt h
  have l := Int32.toInt_lt x
  rw [nI_toInt (by omega), u]
set_option maxHeartbeats 2000000 in
theorem mc_copy {E : En} {b : Bd} {x1 x2 x3 x4 x5 : Int32} : Mc E mX10_copy [rf E 99, .int x1, .int x2, .int x3, .int x4, .int x5] b (sCopy b x1 x2 x3 x4 x5) := by
  intro H Q hO hM hq
  have bad : sCopy b x1 x2 x3 x4 x5 = (-2, b) → Q (some (.int (-2))) H := fun e => by
    rw [e] at hq; exact hq H (fun _ _ => rfl) hM
  refine cmX10_copy (mt_isSheet ⟨_, rfl, fun z => bad (if_neg (by rw [bI_0.mp z]; simp)), fun z1 => mt_isSheet ⟨_, rfl, fun z2 => ?_, fun z => bad (if_neg (by rw [bI_0.mp z]; simp))⟩⟩)
  have e : sCopy b x1 x2 x3 x4 x5 = _ := if_pos ⟨bI_1 z1, bI_1 z2⟩
  rw [e] at hq
  obtain ⟨s, a1, b1, d1⟩ := inN_of (bI_1 z1) (by decide)
  obtain ⟨t, a2, b2, d2⟩ := inN_of (bI_1 z2) (by decide)
  rw [d1, d2] at hq
  have S := hM.2.2.2.2.2.1 s a1
  have T := hM.2.2.2.2.2.1 t a2
  have oS := hO.2.2.2.2.2.2.2 s a1
  have oT := hO.2.2.2.2.2.2.2 t a2
  have m1 : sCopy b x1 x2 x3 x4 x5 = sCopy b x1 x2 x3 x4 x5 := rfl
  refine ⟨s, ⟨a1, b1⟩, ?_⟩
  rw [S.1]
  refine ⟨fun z => ?_, fun z => ⟨t, ⟨a2, b2⟩, ?_⟩⟩
  · rw [if_neg (fun p => by rw [bI_0.mp z] at p; exact absurd p.1 (by decide))] at hq
    exact mt_meets (k := 1) hM (fun H' f' m' => ⟨_, rfl, hq H' f' m'⟩)
  rw [T.1]
  refine ⟨fun z' => ⟨s, ⟨a1, b1⟩, t, ⟨a2, b2⟩, ?_⟩, fun z' => ?_⟩
  rotate_left
  · rw [if_neg (fun p => by rw [bI_0.mp z'] at p; exact absurd p.2 (by decide))] at hq
    exact mt_meets (k := 1) hM (fun H' f' m' => ⟨_, rfl, hq H' f' m'⟩)
  rw [if_pos ⟨bI_1 z, bI_1 z'⟩] at hq
  rw [S.2.1, T.2.1]
  have fe : nI ((dS b).2.1 s) = nI ((dS b).2.1 t) ↔ (dS b).2.1 s = (dS b).2.1 t := ⟨fun q => nI_inj (by omega) (by omega) q, fun q => by rw [q]⟩
  rw [fe]
  refine ⟨fun z3 => ?_, fun z3 => ?_⟩
  rotate_left
  · rw [if_neg z3] at hq
    exact mt_meets (k := 4) hM (fun H' f' m' => ⟨_, rfl, hq H' f' m'⟩)
  rw [if_pos z3] at hq
  have no : ¬ (hld b s x2 x5 = true ∧ hld b t x4 x5 = true) → Cm E mX10_meets [rf E 99, .int 2] H (fun w zH => ∃ zr : Int32, w = some (.int zr) ∧ (Q (some (.int zr)) zH)) := by
    intro p
    rw [if_neg p] at hq
    exact mt_meets (k := 2) hM (fun H' f' m' => ⟨_, rfl, hq H' f' m'⟩)
  refine ⟨fun z4 => no (fun p => ?_), fun z4 => ⟨fun z5 => no (fun p => ?_), fun z5 => ⟨fun z6 => no (fun p => ?_), fun z6 => ⟨s, ⟨a1, b1⟩, ?_⟩⟩⟩⟩
  · have := (of_decide_eq_true p.1).1; rw [i_lt0] at z4; omega
  · have := (of_decide_eq_true p.2).1; rw [i_lt0] at z5; omega
  · have := (of_decide_eq_true p.1).2.1; rw [i_lt0] at z6; omega
  have g2 := ge0_of z4
  have g4 := ge0_of z5
  have g5 := ge0_of z6
  rw [S.2.2.1, gt_0, lg_s g2 g5 (by omega)]
  refine ⟨fun z7 => no (fun p => z7 (of_decide_eq_true p.1).2.2), fun z7 => ⟨t, ⟨a2, b2⟩, ?_⟩⟩
  rw [T.2.2.1, lg_s g4 g5 (by omega)]
  refine ⟨fun z8 => ?_, fun z8 => no (fun p => z8 (of_decide_eq_true p.2).2.2)⟩
  have z7' : x2.toInt + x5.toInt ≤ (((dS b).2.2.1 s : Nat) : Int) := Classical.byContradiction (fun q => z7 q)
  rw [if_pos ⟨decide_eq_true ⟨g2, g5, z7'⟩, decide_eq_true ⟨g4, g5, z8⟩⟩] at hq
  have u2 := un_toInt g2
  have u4 := un_toInt g4
  have u5 := un_toInt g5
  have v2 := un_is g2
  have v4 := un_is g4
  have v5 := un_is g5
  generalize un x2 = i at *
  generalize un x4 = j at *
  generalize un x5 = n at *
  have i60 : i + n ≤ 60 := by omega
  have j60 : j + n ≤ 60 := by omega
  have l2 : ∀ (m k : Nat) (H1 : Hi), k + m = n → (∀ c, c ≠ 129 → c ≠ 130 → H1 c = H c) → (∀ q, q < n → H1 130 q = (dS b).2.2.2 s (i + q)) → (∀ s' q, s' < 4 → q < 60 → H1 129 (60 * s' + q) = if s' = t ∧ j ≤ q ∧ q < j + k then (dS b).2.2.2 s (i + (q - j)) else (dS b).2.2.2 s' q) →
      Rm E mX10_copy Q 157 [some (rf E 99), none, none, some (.int x3), some (.int x4), some (.int x5), some (.int (nI k))] [] H1 := by
    intro m
    induction m with
    | zero =>
      intro k H1 hk f1 mv it
      have ek : k = n := by omega
      refine sgX10_copy_157 ⟨fun _ => ?_, fun z => ?_⟩
      · refine hq H1 (fun c hc => f1 c (by omega) (by omega)) (mi_sh hM (fun s' hs' => ?_) (fun c _ _ _ p4 p5 => f1 c p4 p5))
        obtain ⟨t1, t2, t3, t4⟩ := hM.2.2.2.2.2.1 s' hs'
        refine ⟨by rw [f1 126 (by decide) (by decide)]; exact t1, by rw [f1 127 (by decide) (by decide)]; exact t2, by rw [f1 128 (by decide) (by decide)]; exact t3, fun q hq' => ?_⟩
        rw [it s' q hs' hq']
        show _ = (if s' = t then va_cpy ((dS b).2.2.2 s) ((dS b).2.2.2 t) i j n else (dS b).2.2.2 s') q
        by_cases es : s' = t
        · rw [if_pos es, es]
          unfold va_cpy
          by_cases er : j ≤ q ∧ q < j + n
          · rw [if_pos ⟨rfl, by omega⟩, if_pos er]
          · rw [if_neg (fun p => er (by omega)), if_neg er]
        · rw [if_neg es, if_neg (fun p => es p.1)]
      · rw [v5] at z
        exact absurd (nI_le (show n ≤ k by omega) (by omega)) z
    | succ m ih =>
      intro k H1 hk f1 mv it
      refine sgX10_copy_157 ⟨fun z => ?_, fun _ => ⟨k, ⟨by omega, rfl⟩, 60 * t + j + k, ⟨by omega, ?_⟩, fun H2 g2 x ex => ?_⟩⟩
      · rw [v5] at z
        have := (nI_leI (by omega) (by omega)).mp z; omega
      · rw [b2, v4, i_60, nI_add]
      · rw [ex, ← nI_succ]
        refine ih (k + 1) H2 (by omega) (fun c p1 p2 => by rw [g2, up_n p1]; exact f1 c p1 p2) (fun q hq' => by rw [g2, up_n (by decide)]; exact mv q hq') (fun s' q hs' hq' => ?_)
        rw [g2, up_s]
        by_cases es : s' = t ∧ q = j + k
        · rw [es.1, es.2, show 60 * t + (j + k) = 60 * t + j + k by omega, upd_s, if_pos ⟨rfl, by omega⟩, mv k (by omega), show j + k - j = k by omega]
        · rw [upd_n (by omega), it s' q hs' hq']
          by_cases er : s' = t ∧ j ≤ q ∧ q < j + k
          · rw [if_pos er, if_pos ⟨er.1, by omega⟩]
          · rw [if_neg er, if_neg (fun p => by omega)]
  have l1 : ∀ (m k : Nat) (H1 : Hi), k + m = n → (∀ c, c ≠ 130 → H1 c = H c) → (∀ q, q < k → H1 130 q = (dS b).2.2.2 s (i + q)) →
      Rm E mX10_copy Q 120 [some (rf E 99), some (.int x1), some (.int x2), some (.int x3), some (.int x4), some (.int x5), some (.int (nI k))] [] H1 := by
    intro m
    induction m with
    | zero =>
      intro k H1 hk f1 mv
      refine sgX10_copy_120 ⟨fun _ => l2 n 0 H1 (by omega) (fun c _ p2 => f1 c p2) (fun q hq' => mv q (by omega)) (fun s' q hs' hq' => ?_), fun z => ?_⟩
      · rw [f1 129 (by decide), if_neg (by omega)]
        exact (hM.2.2.2.2.2.1 s' hs').2.2.2 q hq'
      · rw [v5] at z
        exact absurd (nI_le (show n ≤ k by omega) (by omega)) z
    | succ m ih =>
      intro k H1 hk f1 mv
      refine sgX10_copy_120 ⟨fun z => ?_, fun _ => ⟨60 * s + i + k, ⟨by omega, ?_⟩, k, ⟨by omega, rfl⟩, fun H2 g2 x ex => ?_⟩⟩
      · rw [v5] at z
        have := (nI_leI (by omega) (by omega)).mp z; omega
      · rw [b1, v2, i_60, nI_add]
      · rw [ex, ← nI_succ]
        refine ih (k + 1) H2 (by omega) (fun c p1 => by rw [g2, up_n p1]; exact f1 c p1) (fun q hq' => ?_)
        rw [g2, up_s]
        by_cases es : q = k
        · rw [es, upd_s, f1 129 (by decide), show 60 * s + i + k = 60 * s + (i + k) by omega]
          exact S.2.2.2 (i + k) (by omega)
        · rw [upd_n es]; exact mv q (by omega)
  exact l1 n 0 H (Nat.zero_add _) (fun _ _ => rfl) (fun q hq' => absurd hq' (Nat.not_lt_zero q))
theorem bok_hand {b : Bd} {x1 x2 x3 x4 : Int32} (hO : BOk b) : BOk (sHand b x1 x2 x3 x4).2 := by
  unfold sHand
  split
  case isFalse => exact hO
  case isTrue h =>
    split
    case isFalse => exact hO
    case isTrue h2 =>
      obtain ⟨j1, p1, q1, r1⟩ := inN_of h.1 (by decide)
      obtain ⟨j2, p2, q2, r2⟩ := inN_of h.2.1 (by decide)
      obtain ⟨j3, p3, q3, r3⟩ := inN_of h.2.2.1 (by decide)
      obtain ⟨j4, p4, q4, r4⟩ := inN_of h.2.2.2 (by decide)
      obtain ⟨o1, o2, o3, o4, o5, o6, o7, o8⟩ := hO
      refine ⟨o1, o2, o3, o4, ⟨?_, fun k hk => ?_⟩, o6, o7, o8⟩
      · show (dH b).1 + 1 ≤ 20; omega
      · have hk' : k < (dH b).1 + 1 := hk
        show nup (dH b).2.1 (dH b).1 (un x1) k < 24 ∧ nup (dH b).2.2 (dH b).1 (64 * un x4 + 8 * un x2 + un x3) k < 128
        unfold nup
        by_cases ek : k = (dH b).1
        · rw [if_pos ek, if_pos ek]; omega
        · rw [if_neg ek, if_neg ek]; exact o5.2 k (by omega)
theorem hand_r {b : Bd} {x1 x2 x3 x4 : Int32} (hO : BOk b) : (sHand b x1 x2 x3 x4).1 ≤ 0 ↔ ¬ 0 ≤ (sHand b x1 x2 x3 x4).1 := by
  have d20 := hO.2.2.2.2.1.1
  unfold sHand
  split
  case isFalse =>
    show (-2 : Int32) ≤ 0 ↔ ¬ 0 ≤ (-2 : Int32)
    decide
  case isTrue h =>
    split
    case isFalse =>
      show (-4 : Int32) ≤ 0 ↔ ¬ 0 ≤ (-4 : Int32)
      decide
    case isTrue h2 =>
      show nI ((dH b).1 + 1) ≤ nI 0 ↔ ¬ nI 0 ≤ nI ((dH b).1 + 1)
      rw [nI_leI (by omega) (by decide), nI_leI (by decide) (by omega)]; omega
theorem mc_read {E : En} {b : Bd} {x : Int32} : Mc E mX10_read [rf E 99, .int x] b (sRead b x) := by
  intro H Q hO hM hq
  refine cmX10_read (mt_isSheet ⟨_, rfl, fun z => ?_, fun z => ?_⟩)
  · have e : sRead b x = _ := if_pos (bI_1 z)
    rw [e] at hq
    obtain ⟨s, p1, q1, r1⟩ := inN_of (bI_1 z) (by decide)
    rw [r1] at hq
    refine ⟨s, ⟨p1, q1⟩, ?_⟩
    rw [(hM.2.2.2.2.2.1 s p1).1]
    refine ⟨fun z2 => ?_, fun z2 => ?_⟩
    · rw [if_pos (bI_1 z2)] at hq
      rw [q1]
      have lp : ∀ (m i : Nat) (b : Bd) (H1 : Hi), i + m = 15 → BOk b → MI b H1 → (∀ H' : Hi, fx1 H1 H' → MI (rdS s m i b).2 H' → Q (some (.int (nI (rdS s m i b).1))) H') → Rm E mX10_read Q 27 [some (rf E 99), some (.int (nI s)), some (.int (nI i))] [] H1 := by
        intro m
        induction m with
        | zero =>
          intro i b H1 hi o1 m1 hq1
          have oS := o1.2.2.2.2.2.2.2 s p1
          refine sgX10_read_27 ⟨s, ⟨p1, rfl⟩, fun _ => hq1 H1 (fun _ _ => rfl) m1, fun z3 => ?_⟩
          rw [(m1.2.2.2.2.2.1 s p1).2.2.1] at z3
          have e3 : (4 : Int32) * nI i + 3 = nI (4 * i + 3) := by
            show nI 4 * nI i + nI 3 = _
            rw [ni_mulN, nI_add]
          rw [e3, nI_leI (by omega) (by omega)] at z3
          omega
        | succ m ih =>
          intro i b H1 hi o1 m1 hq1
          have oS := o1.2.2.2.2.2.2.2 s p1
          have mS := m1.2.2.2.2.2.1 s p1
          have e3 : (4 : Int32) * nI i + 3 = nI (4 * i + 3) := by
            show nI 4 * nI i + nI 3 = _
            rw [ni_mulN, nI_add]
          have e4 : (4 : Int32) * nI i = nI (4 * i) := ni_mulN 4 i
          refine sgX10_read_27 ⟨s, ⟨p1, rfl⟩, ?_⟩
          rw [mS.2.2.1, e3, nI_leI (by omega) (by omega), e4, i_60]
          refine ⟨fun z3 => ?_, fun z3 => ⟨60 * s + 4 * i, ⟨by omega, rfl⟩, 60 * s + 4 * i + 1, ⟨by omega, by rw [nI_succ]⟩, 60 * s + 4 * i + 2, ⟨by omega, by show _ + nI 2 = _; rw [nI_add]⟩, 60 * s + 4 * i + 3, ⟨by omega, by show _ + nI 3 = _; rw [nI_add]⟩, ?_⟩⟩
          · have er : rdS s (m + 1) i b = (i, b) := by
              simp only [rdS]
              rw [if_neg (by omega)]
            rw [er] at hq1
            exact hq1 H1 (fun _ _ => rfl) m1
          · rw [show 60 * s + 4 * i + 1 = 60 * s + (4 * i + 1) by omega, show 60 * s + 4 * i + 2 = 60 * s + (4 * i + 2) by omega, show 60 * s + 4 * i + 3 = 60 * s + (4 * i + 3) by omega]
            rw [mS.2.2.2 (4 * i) (by omega), mS.2.2.2 (4 * i + 1) (by omega), mS.2.2.2 (4 * i + 2) (by omega), mS.2.2.2 (4 * i + 3) (by omega)]
            refine mc_hand H1 _ o1 m1 (fun H2 f2 m2 => ⟨_, rfl, fun z4 => ?_, fun z4 x ex => ?_⟩)
            · have er : rdS s (m + 1) i b = (i, (sHand b ((dS b).2.2.2 s (4 * i)) ((dS b).2.2.2 s (4 * i + 1)) ((dS b).2.2.2 s (4 * i + 2)) ((dS b).2.2.2 s (4 * i + 3))).2) := by
                simp only [rdS]
                rw [if_pos (by omega), if_neg ((hand_r o1).mp z4)]
              rw [er] at hq1
              exact hq1 H2 f2 m2
            · have z4' : 0 ≤ (sHand b ((dS b).2.2.2 s (4 * i)) ((dS b).2.2.2 s (4 * i + 1)) ((dS b).2.2.2 s (4 * i + 2)) ((dS b).2.2.2 s (4 * i + 3))).1 := Classical.byContradiction (fun p => z4 ((hand_r o1).mpr p))
              have er : rdS s (m + 1) i b = rdS s m (i + 1) (sHand b ((dS b).2.2.2 s (4 * i)) ((dS b).2.2.2 s (4 * i + 1)) ((dS b).2.2.2 s (4 * i + 2)) ((dS b).2.2.2 s (4 * i + 3))).2 := by
                simp only [rdS]
                rw [if_pos (by omega), if_pos z4']
              rw [er] at hq1
              rw [ex, ← nI_succ]
              exact ih (i + 1) _ H2 (by omega) (bok_hand o1) m2 (fun H' f' m' => hq1 H' (fun c hc => by rw [f' c hc, f2 c hc]) m')
      exact lp 15 0 b H rfl hO hM hq
    · rw [if_neg (by rw [bI_0.mp z2]; decide)] at hq
      exact mt_meets (k := 1) hM (fun H' f' m' => ⟨_, rfl, hq H' f' m'⟩)
  · have e : sRead b x = (-2, b) := if_neg (by rw [bI_0.mp z]; simp)
    rw [e] at hq; exact hq H (fun _ _ => rfl) hM
set_option maxHeartbeats 1000000 in
theorem mc_write {E : En} {b : Bd} {x y : Int32} : Mc E mX10_write [rf E 99, .int x, .int y] b (sWrite b x y) := by
  intro H Q hO hM hq
  have bad : sWrite b x y = (-2, b) → Q (some (.int (-2))) H := fun e => by
    rw [e] at hq; exact hq H (fun _ _ => rfl) hM
  refine cmX10_write (mt_inN (N := 2) (by decide) ⟨_, rfl, fun z => bad (if_neg (by rw [bI_0.mp z]; simp)), fun z1 => mt_isSheet ⟨_, rfl, fun z2 => ?_, fun z => bad (if_neg (by rw [bI_0.mp z]; simp))⟩⟩)
  have e : sWrite b x y = _ := if_pos ⟨bI_1 z1, bI_1 z2⟩
  rw [e] at hq
  obtain ⟨s, p1, q1, r1⟩ := inN_of (bI_1 z2) (by decide)
  rw [r1] at hq
  have oS := hO.2.2.2.2.2.2.2 s p1
  refine ⟨s, ⟨p1, q1⟩, ?_⟩
  rw [(hM.2.2.2.2.2.1 s p1).1]
  refine ⟨fun z3 => ?_, fun z3 => ?_⟩
  · rw [if_pos (bI_1 z3)] at hq
    rw [q1]
    have mn : Nat.min ((dS b).2.2.1 s) 24 ≤ (dS b).2.2.1 s ∧ Nat.min ((dS b).2.2.1 s) 24 ≤ 24 ∧ (Nat.min ((dS b).2.2.1 s) 24 = (dS b).2.2.1 s ∨ Nat.min ((dS b).2.2.1 s) 24 = 24) := by
      have : Nat.min ((dS b).2.2.1 s) 24 = min ((dS b).2.2.1 s) 24 := rfl
      omega
    have lp : ∀ (m h : Nat) (H1 : Hi), h + m = Nat.min ((dS b).2.2.1 s) 24 → fx1 H H1 → MI (wW b s (wrV b x ((dS b).2.1 s)) h) H1 → Rm E mX10_write Q 36 [some (rf E 99), some (.int x), some (.int (nI s)), some (.int (nI h))] [] H1 := by
      intro m
      induction m with
      | zero =>
        intro h H1 hh f1 m1
        have eh : h = Nat.min ((dS b).2.2.1 s) 24 := by omega
        have fin : Q (some (.int (nI h))) H1 := by
          rw [eh]
          rw [eh] at m1
          exact hq H1 f1 m1
        refine sgX10_write_36 ⟨s, ⟨p1, rfl⟩, fun _ => fin, fun z4 => ⟨fun _ => fin, fun z5 => ?_⟩⟩
        have e8 : H1 128 s = nI ((dS b).2.2.1 s) := (m1.2.2.2.2.2.1 s p1).2.2.1
        rw [e8, nI_leI (by omega) (by omega)] at z4
        have z5' : ¬ nI 24 ≤ nI h := z5
        rw [nI_leI (by decide) (by omega)] at z5'
        omega
      | succ m ih =>
        intro h H1 hh f1 m1
        have e8 : H1 128 s = nI ((dS b).2.2.1 s) := (m1.2.2.2.2.2.1 s p1).2.2.1
        have o1 : BOk (wW b s (wrV b x ((dS b).2.1 s)) h) := hO
        refine sgX10_write_36 ⟨s, ⟨p1, rfl⟩, fun z4 => ?_, fun _ => ⟨fun z5 => ?_, fun _ => ⟨fun z6 => ?_, fun z6 => ?_⟩⟩⟩
        · rw [e8, nI_leI (by omega) (by omega)] at z4; omega
        · have := (nI_leI (a := 24) (by omega) (by omega)).mp z5; omega
        · refine mt_happyOf o1 m1 (by omega) (fun H2 f2 r2 => ⟨_, rfl, mt_keepS o1 (mi_fx m1 f2) p1 (by omega) (fun H3 f3 m3 => ⟨rfl, fun y' ey' => ?_⟩)⟩)
          rw [ey', ← nI_succ]
          refine ih (h + 1) H3 (by omega) (fun c hc => by rw [f3 c (by omega), f2.1 c (by omega), f1 c hc]) ?_
          rw [← wW_s]
          have ev : wrV b x ((dS b).2.1 s) h = nrw ((dS b).2.1 s) (nI (bs (hapB b h) (pM (dP b)))) := by unfold wrV; rw [if_neg z6]
          rw [ev]
          exact m3
        · refine mt_loadOf o1 m1 (by omega) (fun H2 f2 r2 => ⟨_, rfl, mt_keepS o1 (mi_fx m1 f2) p1 (by omega) (fun H3 f3 m3 => ⟨rfl, fun y' ey' => ?_⟩)⟩)
          rw [ey', ← nI_succ]
          refine ih (h + 1) H3 (by omega) (fun c hc => by rw [f3 c (by omega), f2.1 c (by omega), f1 c hc]) ?_
          rw [← wW_s]
          have ev : wrV b x ((dS b).2.1 s) h = nrw ((dS b).2.1 s) (nI (ld (dP b) (dSt b (h + 1)))) := by unfold wrV; rw [if_pos z6]
          rw [ev]
          exact m3
    refine lp _ 0 H (Nat.zero_add _) (fun _ _ => rfl) ?_
    have e0 : wW b s (wrV b x ((dS b).2.1 s)) 0 = b := by
      unfold wW wS
      have : (fun s' i => if s' = s ∧ i < 0 then wrV b x ((dS b).2.1 s) i else (dS b).2.2.2 s' i) = (dS b).2.2.2 := by
        funext s' i
        rw [if_neg (fun p => Nat.not_lt_zero i p.2)]
      rw [this]
      rfl
    rw [e0]; exact hM
  · rw [if_neg (by rw [bI_0.mp z3]; decide)] at hq
    exact mt_meets (k := 1) hM (fun H' f' m' => ⟨_, rfl, hq H' f' m'⟩)
theorem wkF_in {P : Pm} {hd : Hd} {h j : Nat} : ∀ (m k : Nat) (s : Sg) (r : Nat), (wkF P hd h k m s r).testBit j = true → r.testBit j = true ∨ j < k + m
  | 0, _, _, _, q => Or.inl q
  | m + 1, k, s, r, q => by
    rcases wkF_in m (k + 1) _ _ q with e | e
    · by_cases c : hd.2.1 k = h ∧ (rch P s (hd.2.2 k)).isSome = true
      · rw [if_pos c, Nat.testBit_or, Bool.or_eq_true] at e
        rcases e with e | e
        · exact Or.inl e
        · rw [Nat.testBit_two_pow] at e
          have := of_decide_eq_true e
          exact Or.inr (by omega)
      · rw [if_neg c] at e; exact Or.inl e
    · exact Or.inr (by omega)
theorem wkA_out {P : Pm} {hd : Hd} {a j : Nat} (hj : hd.1 ≤ j) : ∀ h, (wkA P hd a h).testBit j = false
  | 0 => Nat.zero_testBit j
  | h + 1 => by
    show (wkA P hd a h ||| wkH P hd h (stN P hd a h)).testBit j = false
    rw [Nat.testBit_or, wkA_out hj h]
    cases e : (wkH P hd h (stN P hd a h)).testBit j
    · rfl
    · rcases wkF_in hd.1 0 (putB P (stN P hd a h)) 0 e with q2 | q2
      · rw [Nat.zero_testBit] at q2; exact absurd q2 (by decide)
      · omega
theorem sm_ext {f : Nat → Nat} {n : Nat} : ∀ m, (∀ k, n ≤ k → k < n + m → f k = 0) → sm f (n + m) = sm f n
  | 0, _ => rfl
  | m + 1, h => by
    show sm f (n + m) + f (n + m) = _
    rw [sm_ext m (fun k h1 h2 => h k h1 (by omega)), h (n + m) (by omega) (by omega), Nat.add_zero]
theorem pop_h {b : Bd} (hO : BOk b) : sm (fun k => dW b / 2 ^ k % 2) (dH b).1 = pop (dW b) 20 := by
  have d20 := hO.2.2.2.2.1.1
  unfold pop
  have e : (20 : Nat) = (dH b).1 + (20 - (dH b).1) := by omega
  rw [e, sm_ext]
  intro k h1 h2
  rw [← tb_dm]
  have := wkA_out (P := dP b) (hd := dH b) (a := dA b) (j := k) h1 24
  have q : (dW b).testBit k = false := this
  rw [q]; rfl
theorem mt_sumOf {E : En} {Q : Option Value → Hi → Prop} {H : Hi} {b : Bd} {x : Int32} (hO : BOk b) (hM : MI b H)
    (hq : ∀ H' : Hi, frX (dH b).1 H H' → RdC (dP b) H' → Q (some (.int (if x = 0 then nI (pN (dP b)) else if x = 1 then nI (pM (dP b)) else nI (pop (dW b) 20)))) H') : Cm E mX10_sumOf [rf E 99, .int x] H Q := by
  have d20 := hO.2.2.2.2.1.1
  refine cmX10_sumOf (mt_toldN (n := 23) hO hM (by decide) (fun H' f' t' n' => ⟨rfl, ?_⟩))
  have hM' := mi_fx hM f'
  have ew : ∀ k, k < 44 → H' 115 k = nI (dW b / 2 ^ k % 2) := fun k hk => by rw [n'.2 k hk, tb_dm]; rfl
  have h := hq H' f' t'.1
  have lp : ∀ (m k : Nat), k + m = (dH b).1 → Rm E mX10_sumOf Q 10 [some (rf E 99), some (.int x), some (.int (nI (sm (fun k => dW b / 2 ^ k % 2) k))), some (.int (nI k))] [] H' := by
    intro m
    induction m with
    | zero =>
      intro k hk
      refine sgX10_sumOf_10 ⟨fun _ => ⟨fun z => ⟨fun z2 => ?_, fun z2 => ?_⟩, fun z => ?_⟩, fun z => ?_⟩
      · have ek : k = (dH b).1 := by omega
        rw [if_neg z, if_neg z2] at h
        rw [ek, pop_h hO]; exact h
      · rw [if_neg z, if_pos z2] at h
        rw [t'.1.2.2.1]; exact h
      · rw [if_pos z] at h
        rw [t'.1.2.1]; exact h
      · rw [hM'.2.2.1.1] at z
        exact absurd (nI_le (show (dH b).1 ≤ k by omega) (by omega)) z
    | succ m ih =>
      intro k hk
      have md := Nat.mod_lt (dW b / 2 ^ k) (show 2 > 0 by decide)
      have es : sm (fun k => dW b / 2 ^ k % 2) (k + 1) = sm (fun k => dW b / 2 ^ k % 2) k + dW b / 2 ^ k % 2 := rfl
      refine sgX10_sumOf_10 ⟨fun z => ?_, fun _ => ⟨k, ⟨by omega, rfl⟩, ?_⟩⟩
      · rw [hM'.2.2.1.1] at z
        have := (nI_leI (by omega) (by omega)).mp z; omega
      · rw [ew k (by omega), nI_eq0 (by omega)]
        refine ⟨fun z y ey w ew' => ?_, fun z y ey w ew' => ?_⟩
        · have e2 : y = nI (sm (fun k => dW b / 2 ^ k % 2) (k + 1)) := by
            rw [ey, es, z]
            exact nI_add _ 0
          rw [ew', ← nI_succ, e2]
          exact ih (k + 1) (by omega)
        · have e2 : y = nI (sm (fun k => dW b / 2 ^ k % 2) (k + 1)) := by
            have z1 : dW b / 2 ^ k % 2 = 1 := by omega
            rw [ey, es, z1, nI_succ]
          rw [ew', ← nI_succ, e2]
          exact ih (k + 1) (by omega)
  exact lp _ 0 (Nat.zero_add _)
theorem mt_count {E : En} {Q : Option Value → Hi → Prop} {H : Hi} {b : Bd} {x : Int32} (hO : BOk b) (hM : MI b H)
    (hq : ∀ H' : Hi, frX (dH b).1 H H' → Q (some (.int (tly b x))) H') : Cm E mX10_count [rf E 99, .int x] H Q := by
  have pick : ∀ n : Nat, n < 9 → x.toInt = (n : Int) → x = nI n ∧ tly b x = tlK b n := by
    intro n hn e
    have e1 : x = nI n := by
      apply Int32.toInt_inj.mp
      rw [nI_toInt (by omega), e]
    refine ⟨e1, ?_⟩
    unfold tly
    rw [e1, if_pos (inN_nI hn (by decide)), un_nI (by omega)]
  obtain ⟨m1, m2, m3, m4, m5, m6, m7⟩ := id hM
  refine cmX10_count ⟨fun z => ?_, fun z => ?_, fun z => ?_, fun z => ?_, fun z => ?_, fun z => ?_, fun z => ?_, fun z => ?_, fun z => ?_, fun z => ?_, trivial⟩
  · have e : tly b x = -2 := if_neg (fun p => by
      have := of_decide_eq_true p
      omega)
    have h := hq H fx_rf
    rw [e] at h; exact h
  · obtain ⟨e1, e2⟩ := pick 0 (by decide) z
    refine mt_sumOf hO hM (fun H' f' _ => ⟨_, rfl, ?_⟩)
    have h := hq H' f'
    rw [e2] at h
    rw [if_pos (show x = 0 from e1)]; exact h
  · obtain ⟨e1, e2⟩ := pick 1 (by decide) z
    refine mt_sumOf hO hM (fun H' f' _ => ⟨_, rfl, ?_⟩)
    have h := hq H' f'
    rw [e2] at h
    rw [if_neg (by rw [e1]; decide), if_pos (show x = 1 from e1)]; exact h
  · obtain ⟨e1, e2⟩ := pick 2 (by decide) z
    have h := hq H fx_rf
    rw [e2] at h
    refine ⟨0, ⟨by decide, by rw [e1]; decide⟩, ?_⟩
    rw [m1.1]; exact h
  · obtain ⟨e1, e2⟩ := pick 3 (by decide) z
    have h := hq H fx_rf
    rw [e2] at h
    refine ⟨1, ⟨by decide, by rw [e1]; decide⟩, ?_⟩
    rw [m1.2.2.2.1]; exact h
  · obtain ⟨e1, e2⟩ := pick 4 (by decide) z
    have h := hq H fx_rf
    rw [e2] at h
    rw [m3.1]; exact h
  · obtain ⟨e1, e2⟩ := pick 5 (by decide) z
    refine mt_sumOf hO hM (fun H' f' _ => ⟨_, rfl, ?_⟩)
    have h := hq H' f'
    rw [e2] at h
    rw [if_neg (by rw [e1]; decide), if_neg (by rw [e1]; decide)]; exact h
  · obtain ⟨e1, e2⟩ := pick 6 (by decide) z
    have h := hq H fx_rf
    rw [e2] at h
    rw [m4.1]; exact h
  · obtain ⟨e1, e2⟩ := pick 7 (by decide) z
    have h := hq H fx_rf
    rw [e2] at h
    rw [m5.1]; exact h
  · obtain ⟨e1, e2⟩ := pick 8 (by decide) z
    have h := hq H fx_rf
    rw [e2] at h
    rw [m7]; exact h
theorem mc_count {E : En} {b : Bd} {x : Int32} : Mc E mX10_count [rf E 99, .int x] b (sCount b x) := by
  intro H Q hO hM hq
  exact mt_count hO hM (fun H' f' => hq H' (fx_1 f') (mi_fx hM f'))
