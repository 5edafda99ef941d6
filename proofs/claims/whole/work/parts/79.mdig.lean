/-! the model: digest -/
theorem lend_n2 {P : Pm} {hd : Hd} {a c t h to : Nat} : ¬ (lendS P hd a c t h to).1 = -2 := by
  unfold lendS
  by_cases h1 : to < h
  · rw [if_pos h1]
    by_cases h2 : (stN P hd a (to + 1)).1 t = c
    · rw [if_pos h2]
      show ¬ (0 : Int32) = -2
      decide
    · rw [if_neg h2]
      show ¬ (-1 : Int32) = -2
      decide
  · rw [if_neg h1]
    by_cases h2 : chk P hd a c t h to (mid P hd h (stN P hd a h)) = true
    · rw [if_pos h2]
      show ¬ (0 : Int32) = -2
      decide
    · rw [if_neg h2]
      cases len1 P hd a c t h to (mid P hd h (stN P hd a h)) with
      | some k =>
        show ¬ (1 : Int32) = -2
        decide
      | none =>
        cases len2 P hd a c t h to (mid P hd h (stN P hd a h)) with
        | some k =>
          show ¬ (2 : Int32) = -2
          decide
        | none =>
          show ¬ (-1 : Int32) = -2
          decide
theorem inN_0 {N : Nat} : inN N 0 = decide (0 < N) := by
  unfold inN
  have e0 : (0 : Int32).toInt = 0 := by decide
  rw [e0]
  exact decide_eq_decide.mpr (by omega)
theorem mt_lendD {E : En} {Q : Option Value → Hi → Prop} {H : Hi} {b : Bd} {t : Nat} (hO : BOk b) (hM : MI b H) (ht : t < pN (dP b))
    (h1 : 0 < pM (dP b) → ∀ H' : Hi, frX (dH b).1 H H' → RowM (lendS (dP b) (dH b) (dA b) 0 t 3 4) H' → Q (some (.int (lendS (dP b) (dH b) (dA b) 0 t 3 4).1)) H')
    (h0 : ¬ 0 < pM (dP b) → ∀ H' : Hi, frX (dH b).1 H H' → Q (some (.int (-2))) H') : Cm E mX10_lend [rf E 99, .int 0, .int (nI t), .int 3, .int 4, .int (-1)] H Q := by
  have n8 := (bok_pm hO).1
  refine cmX10_lend (mt_isCousin hO hM (fun H1 f1 r1 => ⟨_, rfl, fun z => ?_, fun z1 => mt_isThing hO (mi_fx hM f1) (fun H2 f2 r2 => ⟨_, rfl, fun z => ?_, fun z2 => mt_isHour ⟨_, rfl, fun z => absurd z (by decide), fun z3 => mt_isHour ⟨_, rfl, fun z => absurd z (by decide), fun z4 => mt_in ⟨_, rfl, fun z => absurd z (by decide), fun z5 => ?_⟩⟩⟩⟩)⟩))
  · have z' := bI_0.mp z
    rw [inN_0] at z'
    exact h0 (of_decide_eq_false z') H1 f1
  · have z' := bI_0.mp z
    rw [inN_nI ht (by omega)] at z'
    exact absurd z' (by decide)
  · have p1 := bI_1 z1
    rw [inN_0] at p1
    have f12 := fx_tr f1 f2
    have e : rowT (lendS (dP b) (dH b) (dA b) 0 t 3 4) (-1) = (lendS (dP b) (dH b) (dA b) 0 t 3 4).1 := if_pos rfl
    refine cmX10_lendOf (mt_lendBy (c := 0) (h := 3) (to := 4) hO (mi_fx hM f12) (by decide) ht (by decide) (by decide) (fun H3 f3 r3 row => ⟨_, rfl, mt_ofRow (by decide) row ⟨_, rfl, _, rfl, ?_⟩⟩))
    rw [e]
    exact h1 (of_decide_eq_true p1) H3 (fx_tr f12 f3) row
theorem mt_whenD {E : En} {Q : Option Value → Hi → Prop} {H : Hi} {b : Bd} {c : Nat} (hO : BOk b) (hM : MI b H) (hc : c < pM (dP b))
    (hq : ∀ H' : Hi, frX (dH b).1 H H' → RdC (dP b) H' → Q (some (.int (gWh b c))) H') : Cm E mX10_when [rf E 99, .int (nI c), .int 0] H Q := by
  have n8 := (bok_pm hO).1
  have m8 := (bok_pm hO).2.1
  refine cmX10_when (mt_isCousin hO hM (fun H1 f1 r1 => ⟨_, rfl, fun z => ?_, fun z1 => mt_isThing hO (mi_fx hM f1) (fun H2 f2 r2 => ⟨_, rfl, fun z2 => ?_, fun z2 => ?_⟩)⟩))
  · have z' := bI_0.mp z
    rw [inN_nI hc (by omega)] at z'
    exact absurd z' (by decide)
  · have z' := bI_0.mp z2
    rw [inN_0] at z'
    have e : gWh b c = -2 := if_neg (of_decide_eq_false z')
    have h := hq H2 (fx_tr f1 f2) r2
    rw [e] at h; exact h
  · have z' := bI_1 z2
    rw [inN_0] at z'
    have z0 := of_decide_eq_true z'
    have f12 := fx_tr f1 f2
    refine mt_whenOf (t := 0) hO (mi_fx hM f12) (by omega) z0 (fun H3 f3 r3 => ⟨_, rfl, ?_⟩)
    have e : gWh b c = nI (bs (whB b c 0) 24) := if_pos z0
    have h := hq H3 (fx_tr f12 f3) r3
    rw [e] at h; exact h
theorem feel_0 {b : Bd} {t : Nat} (n8 : pN (dP b) ≤ 8) (ht : t < pN (dP b)) : sFeel b 0 (nI t) = (gFe b t, b) := by
  unfold sFeel gFe
  by_cases q : 0 < pM (dP b)
  · rw [if_pos ⟨by rw [inN_0]; exact decide_eq_true q, inN_nI ht (by omega)⟩, if_pos q, un_nI (by omega)]; rfl
  · rw [if_neg (fun p => by have := p.1; rw [inN_0] at this; exact q (of_decide_eq_true this)), if_neg q]
def JR (b : Bd) (H0 H : Hi) : Prop := MI b H ∧ fx1 H0 H
theorem jr_x {b : Bd} {H0 H H' : Hi} (h : JR b H0 H) (f : frX (dH b).1 H H') : JR b H0 H' := ⟨mi_fx h.1 f, fun c hc => by rw [fx_1 f c hc, h.2 c hc]⟩
theorem mt_ofT {E : En} {Q : Option Value → Hi → Prop} {H : Hi} {P : Pm} {j : Nat} {y : Int32} (hR : RdC P H) (a1 : j < pN P) (hq : Q (some (.int (if y = 0 then nI (pSz P j) else if y = 1 then nI (pOw P j) else nI (pKd P j)))) H) : Cm E mX10_thingOf [rf E 99, .int (nI j), .int y] H Q := by
  have n8 := hR.1.1
  have g := hR.2.2.2.1 j a1
  refine cmX10_thingOf ⟨fun q0 => ⟨fun q1 => ⟨j, ⟨by omega, rfl⟩, ?_⟩, fun q1 => ⟨j, ⟨by omega, rfl⟩, ?_⟩⟩, fun q0 => ⟨j, ⟨by omega, rfl⟩, ?_⟩⟩
  · rw [g.2.2]; rw [if_neg q0, if_neg q1] at hq; exact hq
  · rw [g.2.1]; rw [if_neg q0, if_pos q1] at hq; exact hq
  · rw [g.1]; rw [if_pos q0] at hq; exact hq
set_option maxHeartbeats 2000000 in
theorem mt_thingD {E : En} {Q : Option Value → Hi → Prop} {H0 H : Hi} {b : Bd} {t : Nat} {y : Int64} (hO : BOk b) (hJ : JR b H0 H) (hR : RdC (dP b) H) (ht : t < pN (dP b)) (hq : ∀ H' : Hi, JR b H0 H' → RdC (dP b) H' → Q (some (.long (gT b y t))) H') : Cm E mX10_thingDigest [rf E 99, .long y, .int (nI t)] H Q := by
  have n8 := (bok_pm hO).1
  -- behind the plan
  have tail : ∀ (H1 : Hi) (v : Int64), JR b H0 H1 → v = f31 (f31 (gTH b y t) (gLe b t (-1))) (gLe b t 0) →
      Cm E mX10_thiefOf [rf E 99, .int (nI t)] H1 (fun w zH_19 => ∃ zr_20 : Int32, w = some (.int zr_20) ∧ (∀ zx4_21 : Int64, zx4_21 = ((31 : Int64) * v) + (zr_20.toInt64) → (Cm E mX10_feel [rf E 99, .int 0, .int (nI t)] zH_19 (fun w zH_22 => ∃ zr_23 : Int32, w = some (.int zr_23) ∧ (∀ zx4_24 : Int64, zx4_24 = ((31 : Int64) * zx4_21) + (zr_23.toInt64) → (Cm E mX10_jumpsOf [rf E 99, .int 5, .int (nI t), .int 9, .int 0] zH_22 (fun w zH_25 => ∃ zr_26 : Int64, w = some (.long zr_26) ∧ (∀ zx4_27 : Int64, zx4_27 = ((31 : Int64) * zx4_24) + zr_26 → (Cm E mX10_jumpsOf [rf E 99, .int 5, .int (nI t), .int 9, .int 1] zH_25 (fun w zH_28 => ∃ zr_29 : Int64, w = some (.long zr_29) ∧ (∀ zx4_30 : Int64, zx4_30 = ((31 : Int64) * zx4_27) + zr_29 → (Cm E mX10_dayOf [rf E 99, .int 7, .int 12, .int (nI t)] zH_28 (fun w zH_31 => ∃ zr_32 : Int32, w = some (.int zr_32) ∧ (Q (some (.long (((31 : Int64) * zx4_30) + (zr_32.toInt64)))) zH_31)))))))))))))) := by
    intro H1 v j1 ev
    refine mt_thiefOf hO j1.1 ht (fun H2 f2 r2 => ⟨_, rfl, fun h2 e2 => ?_⟩)
    have j2 := jr_x j1 f2
    refine mc_feel H2 _ hO j2.1 (fun H3 f3 m3 => ?_)
    rw [feel_0 n8 ht] at m3 ⊢
    have j3 : JR b H0 H3 := ⟨m3, fun c hc => by rw [f3 c hc, j2.2 c hc]⟩
    refine ⟨_, rfl, fun h3 e3 => ?_⟩
    refine mt_jumpsOf (c := 5) (n := 9) hO j3.1 (by decide) ht (by decide) (fun H4 f4 r4 => ⟨_, rfl, fun h4 e4 => ?_⟩)
    have j4 := jr_x j3 f4
    refine mt_jumpsOf (c := 5) (n := 9) hO j4.1 (by decide) ht (by decide) (fun H5 f5 r5 => ⟨_, rfl, fun h5 e5 => ?_⟩)
    have j5 := jr_x j4 f5
    refine mt_dayOf (n := 12) hO j5.1 (by decide) (Or.inr (inN_nI ht (by omega))) (fun H6 f6 r6 => ⟨_, rfl, ?_⟩)
    have h := hq H6 (jr_x j5 f6) r6
    rw [e5, e4, e3, e2, ev]
    exact h
  refine cmX10_thingDigest (sgX10_thingDigest_6 ⟨fun z => absurd z (by decide), fun _ => mt_ofT hR ht ⟨_, rfl, fun h1 e1 x1 g1 => ?_⟩⟩)
  rw [g1]
  refine sgX10_thingDigest_6 ⟨fun z => absurd z (by decide), fun _ => mt_ofT hR ht ⟨_, rfl, fun h2 e2 x2 g2 => ?_⟩⟩
  rw [g2]
  refine sgX10_thingDigest_6 ⟨fun z => absurd z (by decide), fun _ => mt_ofT hR ht ⟨_, rfl, fun h3 e3 x3 g3 => ?_⟩⟩
  rw [g3]
  refine sgX10_thingDigest_6 ⟨fun _ => ?_, fun z => absurd (by decide) z⟩
  refine mt_whereOf (n := 5) hO hJ.1 (by decide) ht (fun H1 f1 r1 => ⟨_, rfl, fun h4 e4 => ?_⟩)
  have j1 := jr_x hJ f1
  refine mt_whereOf (n := 23) hO j1.1 (by decide) ht (fun H2 f2 r2 => ⟨_, rfl, fun h5 e5 => ?_⟩)
  have j2 := jr_x j1 f2
  refine mt_wentOf hO j2.1 ht (fun H3 f3 r3 => ⟨_, rfl, fun h6 e6 => ?_⟩)
  have j3 := jr_x j2 f3
  have e6' : h6 = gTH b y t := by rw [e6, e5, e4, e3, e2, e1]; rfl
  refine mt_lendD hO j3.1 ht (fun hp H4 f4 row => ⟨_, rfl, fun h7 e7 => ⟨fun _ => ?_, fun z => absurd z lend_n2⟩⟩) (fun hp H4 f4 => ⟨_, rfl, fun h7 e7 => ⟨fun z => absurd rfl z, fun _ h8 e8 => ?_⟩⟩)
  · have j4 := jr_x j3 f4
    refine mt_ofRow (by decide) row ⟨_, rfl, fun h8 e8 => tail H4 h8 j4 ?_⟩
    rw [e8, e7, e6']
    unfold gLe
    rw [if_pos hp, if_pos hp]; rfl
  · have j4 := jr_x j3 f4
    refine tail H4 h8 j4 ?_
    rw [e8, e7, e6']
    unfold gLe
    rw [if_neg hp, if_neg hp]; rfl
theorem mt_hourD {E : En} {Q : Option Value → Hi → Prop} {H0 H : Hi} {b : Bd} {n : Nat} {y : Int64} (hO : BOk b) (hJ : JR b H0 H) (hn : n < 24) (hq : ∀ H' : Hi, JR b H0 H' → RdC (dP b) H' → Q (some (.long (gH b y n))) H') : Cm E mX10_hourDigest [rf E 99, .long y, .int (nI n)] H Q := by
  refine cmX10_hourDigest (mt_loadOf hO hJ.1 hn (fun H1 f1 r1 => ⟨_, rfl, fun h1 e1 => ?_⟩))
  have j1 := jr_x hJ f1
  refine mt_happyOf hO j1.1 hn (fun H2 f2 r2 => ⟨_, rfl, fun h2 e2 => ?_⟩)
  have j2 := jr_x j1 f2
  refine mt_hangsOf hO j2.1 hn (fun H3 f3 r3 => ⟨_, rfl, ?_⟩)
  rw [e2, e1]
  exact hq H3 (jr_x j2 f3) r3
theorem mdg_w {E : En} {Q : Option Value → Hi → Prop} {H0 : Hi} {b : Bd} (hO : BOk b) : ∀ (m k : Nat) (H : Hi) (y : Int64), JR b H0 H → k + m = (dH b).1 → (∀ H' : Hi, JR b H0 H' → Q (some (.long (gEnd b (itF (gW b) k m y)))) H') → Rm E mX10_digest Q 192 [some (rf E 99), some (.long y), none, some (.int (nI k))] [] H := by
  have d20 := hO.2.2.2.2.1.1
  intro m
  induction m with
  | zero =>
    intro k H y hJ hk hq
    refine sgX10_digest_192 ⟨fun _ => mt_failsNow hO hJ.1 (fun H1 f1 r1 => ⟨_, rfl, fun h1 e1 => ?_⟩), fun z => ?_⟩
    · have j1 := jr_x hJ f1
      have e0 : rowT (sortS (dP b) (dH b) 9) (-1) = (sortS (dP b) (dH b) 9).1 := if_pos rfl
      refine mt_sortBy (bd := 9) hO j1.1 (by decide) (fun H2 f2 r2 row => ⟨_, rfl, fun h2 e2 => ?_⟩)
      have j2 := jr_x j1 f2
      refine mt_ofRow (by decide) row ⟨_, rfl, fun h3 e3 => ?_⟩
      refine mt_dayOf (n := 12) hO j2.1 (by decide) (Or.inl rfl) (fun H3 f3 r3 => ⟨_, rfl, ?_⟩)
      have h := hq H3 (jr_x j2 f3)
      unfold gEnd at h
      rw [e0] at h
      rw [e3, e2, e1]
      exact h
    · rw [hJ.1.2.2.1.1] at z
      exact absurd (nI_le (show (dH b).1 ≤ k by omega) (by omega)) z
  | succ m ih =>
    intro k H y hJ hk hq
    refine sgX10_digest_192 ⟨fun z => ?_, fun _ => mt_worksOf hO hJ.1 (by omega) (fun H1 f1 r1 => ⟨_, rfl, fun h1 e1 x ex => ?_⟩)⟩
    · rw [hJ.1.2.2.1.1] at z
      have := (nI_leI (by omega) (by omega)).mp z; omega
    · rw [ex, ← nI_succ, e1]
      exact ih (k + 1) H1 _ (jr_x hJ f1) (by omega) hq
theorem mdg_c {E : En} {Q : Option Value → Hi → Prop} {H0 : Hi} {b : Bd} (hO : BOk b) : ∀ (m c : Nat) (H : Hi) (y : Int64), JR b H0 H → RdC (dP b) H → c + m = pM (dP b) → (∀ H' : Hi, JR b H0 H' → Q (some (.long (gEnd b (itF (gW b) 0 (dH b).1 (gHs b (itF (gC b) c m y)))))) H') → Rm E mX10_digest Q 82 [some (rf E 99), some (.long y), none, some (.int (nI c))] [] H := by
  have m8 := (bok_pm hO).2.1
  intro m
  induction m with
  | zero =>
    intro c H y hJ hR hc hq
    refine sgX10_digest_82 ⟨fun _ => ?_, fun z => ?_⟩
    · refine mt_hourD (n := 0) hO hJ (by decide) (fun H1 j1 r1 => ⟨_, rfl, ?_⟩)
      refine mt_hourD (n := 1) hO j1 (by decide) (fun H2 j2 r2 => ⟨_, rfl, ?_⟩)
      refine mt_hourD (n := 5) hO j2 (by decide) (fun H3 j3 r3 => ⟨_, rfl, ?_⟩)
      refine mt_hourD (n := 12) hO j3 (by decide) (fun H4 j4 r4 => ⟨_, rfl, ?_⟩)
      refine mt_hourD (n := 23) hO j4 (by decide) (fun H5 j5 r5 => ⟨_, rfl, ?_⟩)
      exact mdg_w hO (dH b).1 0 H5 _ j5 (Nat.zero_add _) hq
    · rw [hR.2.2.1] at z
      exact absurd (nI_le (show pM (dP b) ≤ c by omega) (by omega)) z
  | succ m ih =>
    intro c H y hJ hR hc hq
    have g := hR.2.2.2.2.1 c (by omega)
    refine sgX10_digest_82 ⟨fun z => ?_, fun _ => ⟨c, ⟨by omega, rfl⟩, fun h1 e1 => ⟨c, ⟨by omega, rfl⟩, fun h2 e2 => ?_⟩⟩⟩
    · rw [hR.2.2.1] at z
      have := (nI_leI (by omega) (by omega)).mp z; omega
    · refine mt_hasOf (n := 9) hO hJ.1 (by decide) (by omega) (fun H1 f1 r1 => ⟨_, rfl, fun h3 e3 => ?_⟩)
      have j1 := jr_x hJ f1
      refine mt_whenD hO j1.1 (by omega) (fun H2 f2 r2 => ⟨_, rfl, fun h4 e4 x ex => ?_⟩)
      have eg : h4 = gC b y c := by rw [e4, e3, e2, e1, g.1, g.2]; rfl
      rw [ex, ← nI_succ, eg]
      exact ih (c + 1) H2 _ (jr_x j1 f2) r2 (by omega) hq
theorem mdg_t {E : En} {Q : Option Value → Hi → Prop} {H0 : Hi} {b : Bd} (hO : BOk b) : ∀ (m t : Nat) (H : Hi) (y : Int64), JR b H0 H → RdC (dP b) H → t + m = pN (dP b) → (∀ H' : Hi, JR b H0 H' → Q (some (.long (gEnd b (itF (gW b) 0 (dH b).1 (gHs b (itF (gC b) 0 (pM (dP b)) (itF (gT b) t m y))))))) H') → Rm E mX10_digest Q 59 [some (rf E 99), some (.long y), none, some (.int (nI t))] [] H := by
  have n8 := (bok_pm hO).1
  intro m
  induction m with
  | zero =>
    intro t H y hJ hR ht hq
    refine sgX10_digest_59 ⟨fun _ => mdg_c hO (pM (dP b)) 0 H y hJ hR (Nat.zero_add _) hq, fun z => ?_⟩
    rw [hR.2.1] at z
    exact absurd (nI_le (show pN (dP b) ≤ t by omega) (by omega)) z
  | succ m ih =>
    intro t H y hJ hR ht hq
    refine sgX10_digest_59 ⟨fun z => ?_, fun _ => mt_thingD hO hJ hR (by omega) (fun H1 j1 r1 => ⟨_, rfl, fun x ex => ?_⟩)⟩
    · rw [hR.2.1] at z
      have := (nI_leI (by omega) (by omega)).mp z; omega
    · rw [ex, ← nI_succ]
      exact ih (t + 1) H1 _ j1 r1 (by omega) hq
theorem mdg_y {E : En} {Q : Option Value → Hi → Prop} {H0 : Hi} {b : Bd} (hO : BOk b) : ∀ (m w : Nat) (H : Hi) (y : Int64), JR b H0 H → w + m = 8 → (∀ H' : Hi, JR b H0 H' → Q (some (.long (gEnd b (itF (gW b) 0 (dH b).1 (gHs b (itF (gC b) 0 (pM (dP b)) (itF (gT b) 0 (pN (dP b)) (gFw b (itF (gY b) w m y))))))))) H') → Rm E mX10_digest Q 6 [some (rf E 99), some (.long y), none, some (.int (nI w))] [] H := by
  intro m
  induction m with
  | zero =>
    intro w H y hJ hw hq
    have e : w = 8 := by omega
    subst e
    refine sgX10_digest_6 ⟨fun _ => mt_faultOf hO hJ.1 (fun H1 f1 r1 => ⟨_, rfl, fun h1 e1 => ?_⟩), fun z => absurd (show nI 8 ≤ nI 8 from nI_le (by omega) (by omega)) z⟩
    have j1 := jr_x hJ (fx_R f1)
    refine mt_faultOf hO j1.1 (fun H2 f2 r2 => ⟨_, rfl, fun h2 e2 => ?_⟩)
    rw [if_pos rfl] at e1
    rw [if_neg (by decide)] at e2
    rw [e2, e1]
    exact mdg_t hO (pN (dP b)) 0 H2 _ (jr_x j1 (fx_R f2)) r2 (Nat.zero_add _) hq
  | succ m ih =>
    intro w H y hJ hw hq
    refine sgX10_digest_6 ⟨fun z => ?_, fun _ => mt_count hO hJ.1 (fun H1 f1 => ⟨_, rfl, fun h1 e1 x ex => ?_⟩)⟩
    · have := (nI_leI (a := 8) (by omega) (by omega)).mp z; omega
    · rw [ex, ← nI_succ, e1]
      exact ih (w + 1) H1 _ (jr_x hJ f1) (by omega) hq
theorem mc_digest {E : En} {b : Bd} : McL E mX10_digest [rf E 99] b (sDigest b) := by
  intro H Q hO hM hq
  exact cmX10_digest (mdg_y hO 8 0 H 17 ⟨hM, fun _ _ => rfl⟩ rfl (fun H' j' => hq H' j'.2 j'.1))
