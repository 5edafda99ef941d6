/-! the model: lend, sort -/
theorem in_R {x : Int32} : decide ((-1 : Int32).toInt ≤ x.toInt ∧ x.toInt ≤ (1 : Int32).toInt) = isR x := by
  have e1 : (1 : Int32).toInt = 1 := by decide
  have em : (-1 : Int32).toInt = -1 := by decide
  unfold isR inN
  have ez : x = -1 ↔ x.toInt = -1 := by rw [← Int32.toInt_inj, em]
  rw [e1, em]
  by_cases q : x = -1
  · rw [decide_eq_true q, Bool.true_or, decide_eq_true (by rw [ez.mp q]; decide)]
  · have q' : ¬ x.toInt = -1 := fun p => q (ez.mpr p)
    rw [decide_eq_false q, Bool.false_or]
    exact decide_eq_decide.mpr (by omega)
def lndW (P : Pm) (hd : Hd) (a c t h to : Nat) (s : Sg) : Int32 × Int32 × Int32 :=
  if chk P hd a c t h to s = true then (0, -1, -1)
  else match len1 P hd a c t h to s with
    | some k => (1, nI k, -1)
    | none => match len2 P hd a c t h to s with
      | some k => (2, nI k, nO (len1 P hd a c t h to (act P s k)))
      | none => (-1, -1, -1)
set_option maxHeartbeats 4000000 in
theorem mt_lendBy {E : En} {Q : Option Value → Hi → Prop} {H : Hi} {b : Bd} {c t h to : Nat} (hO : BOk b) (hM : MI b H) (hc : c < 8) (ht : t < pN (dP b)) (hh : h < 24) (hto : to < 24)
    (hq : ∀ H' : Hi, frX (dH b).1 H H' → RdC (dP b) H' → RowM (lendS (dP b) (dH b) (dA b) c t h to) H' → Q (some (.int (lendS (dP b) (dH b) (dA b) c t h to).1)) H') : Cm E mX10_lendBy [rf E 99, .int (nI c), .int (nI t), .int (nI h), .int (nI to)] H Q := by
  have n8 := (bok_pm hO).1
  have m8 := (bok_pm hO).2.1
  have hle : nI h ≤ nI to ↔ h ≤ to := nI_leI (by omega) (by omega)
  by_cases c0 : h ≤ to
  · have z0 : nI h ≤ nI to := hle.mpr c0
    have nto : ¬ to < h := by omega
    generalize es : mid (dP b) (dH b) h (stN (dP b) (dH b) (dA b) h) = s at *
    have ws : Wf (dP b) s := by rw [← es]; exact mid_wf (stN_wf m8 h)
    have el : lendS (dP b) (dH b) (dA b) c t h to = lndW (dP b) (dH b) (dA b) c t h to s := by
      unfold lendS lndW
      rw [if_neg nto, es]
      rfl
    -- two hands
    have l134 : ∀ k, k < 128 → chk (dP b) (dH b) (dA b) c t h to s = false → len1 (dP b) (dH b) (dA b) c t h to s = none → (∀ j, j < k → (may (dP b) j && (len1 (dP b) (dH b) (dA b) c t h to (act (dP b) s j)).isSome) = false) →
        (∀ H1 : Hi, frX (dH b).1 H H1 → MT (dP b) (dH b) (dA b) H1 → MK (dP b) s H1 → (may (dP b) k && (len1 (dP b) (dH b) (dA b) c t h to (act (dP b) s k)).isSome) = false → Rm E mX10_lendBy Q 123 [some (rf E 99), some (.int (nI c)), some (.int (nI t)), some (.int (nI h)), some (.int (nI to)), some (.int (nI (k + 1))), none] [] H1) →
        ∀ (m l : Nat) (H1 : Hi), l + m = 128 → frX (dH b).1 H H1 → MT (dP b) (dH b) (dA b) H1 → MK (dP b) s H1 → (may (dP b) k = true → ∀ j, j < l → (may (dP b) j && chk (dP b) (dH b) (dA b) c t h to (act (dP b) (act (dP b) s k) j)) = false) →
          Rm E mX10_lendBy Q 134 [some (rf E 99), some (.int (nI c)), some (.int (nI t)), some (.int (nI h)), some (.int (nI to)), some (.int (nI k)), some (.int (nI l))] [] H1 := by
      intro k hk ch ln no hout m
      induction m with
      | zero =>
        intro l H1 hl f1 t1 k1 nl
        refine sgX10_lendBy_134 ⟨fun _ x ex => ?_, fun z => ?_⟩
        · rw [ex, ← nI_succ]
          refine hout H1 f1 t1 k1 ?_
          cases em : may (dP b) k
          · rfl
          · have e : len1 (dP b) (dH b) (dA b) c t h to (act (dP b) s k) = none := fnd_z (fun j hj => nl em j (by omega))
            rw [e]; rfl
        · have e : l = 128 := by omega
          subst e
          exact absurd (show nI 128 ≤ nI 128 from nI_le (by omega) (by omega)) z
      | succ m ih =>
        intro l H1 hl f1 t1 k1 nl
        have nx : ∀ (H2 : Hi) (x : Int32), x = nI l + 1 → frX (dH b).1 H H2 → MT (dP b) (dH b) (dA b) H2 → MK (dP b) s H2 → (may (dP b) k = true → (may (dP b) l && chk (dP b) (dH b) (dA b) c t h to (act (dP b) (act (dP b) s k) l)) = false) → Rm E mX10_lendBy Q 134 [some (rf E 99), some (.int (nI c)), some (.int (nI t)), some (.int (nI h)), some (.int (nI to)), some (.int (nI k)), some (.int x)] [] H2 := by
          intro H2 x ex f2 t2 k2 nn
          rw [ex, ← nI_succ]
          refine ih (l + 1) H2 (by omega) f2 t2 k2 (fun em j hj => ?_)
          by_cases q : j = l
          · rw [q]; exact nn em
          · exact nl em j (by omega)
        refine sgX10_lendBy_134 ⟨fun z => ?_, fun _ => mt_may t1.1 hk ⟨_, rfl, fun z x ex => nx H1 x ex f1 t1 k1 (fun em => by rw [bI_0.mp z] at em; exact absurd em (by decide)), fun z => mt_may t1.1 (by omega) ⟨_, rfl, fun z2 x ex => nx H1 x ex f1 t1 k1 (fun _ => by rw [bI_0.mp z2]; rfl), fun z2 => ?_⟩⟩⟩
        · have := (nI_leI (a := 128) (by omega) (by omega)).mp z; omega
        · have key := mt_lends (E := E) (Q := fun w zH_11 => ∃ zr_12 : Int32, w = some (.int zr_12) ∧ ((zr_12 = 0 → (∀ zx6_14 : Int32, zx6_14 = nI l + 1 → (Rm E mX10_lendBy Q 134 [some (rf E 99), some (.int (nI c)), some (.int (nI t)), some (.int (nI h)), some (.int (nI to)), some (.int (nI k)), some (.int zx6_14)] [] zH_11))) ∧ (¬ zr_12 = 0 → (Q (some (.int 2)) zH_11)))) (o1 := some k) (o2 := some l) t1 k1 ws ht hc c0 hto (fun j e => by cases e; exact hk) (fun j e => by cases e; omega) (fun H2 f2 e0 e1 => ⟨_, rfl, fun z3 x ex => ?_, fun z3 => ?_⟩)
          · exact key
          · refine nx H2 x ex (fx_tr f1 (fx_Q f2)) (mt_kQ t1 f2) (mk_keep n8 k1 (fun c p1 p2 => f2 c (by omega))) (fun _ => ?_)
            have z3' : chk (dP b) (dH b) (dA b) c t h to (act (dP b) (act (dP b) s k) l) = false := bI_0.mp z3
            rw [z3', Bool.and_false]
          · have z3' : chk (dP b) (dH b) (dA b) c t h to (act (dP b) (act (dP b) s k) l) = true := bI_1 z3
            have mk := bI_1 z
            have ml := bI_1 z2
            have e1' : len1 (dP b) (dH b) (dA b) c t h to (act (dP b) s k) = some l := fnd_is (by omega) (by rw [ml, z3']; rfl) (fun j hj => nl mk j hj)
            have e2' : len2 (dP b) (dH b) (dA b) c t h to s = some k := fnd_is hk (by rw [mk, e1']; rfl) no
            have ev : lendS (dP b) (dH b) (dA b) c t h to = (2, nI k, nI l) := by
              rw [el]; unfold lndW; rw [if_neg (by rw [ch]; decide), ln, e2']
              show (2, nI k, nO (len1 (dP b) (dH b) (dA b) c t h to (act (dP b) s k))) = _
              rw [e1']; rfl
            have h2 := hq H2 (fx_tr f1 (fx_Q f2)) (mt_kQ t1 f2).1 (by rw [ev]; exact ⟨fun _ => e0, fun _ => e1⟩)
            rw [ev] at h2; exact h2
    have l123 : chk (dP b) (dH b) (dA b) c t h to s = false → len1 (dP b) (dH b) (dA b) c t h to s = none → ∀ (m k : Nat) (H1 : Hi), k + m = 128 → frX (dH b).1 H H1 → MT (dP b) (dH b) (dA b) H1 → MK (dP b) s H1 → (∀ j, j < k → (may (dP b) j && (len1 (dP b) (dH b) (dA b) c t h to (act (dP b) s j)).isSome) = false) →
        Rm E mX10_lendBy Q 123 [some (rf E 99), some (.int (nI c)), some (.int (nI t)), some (.int (nI h)), some (.int (nI to)), some (.int (nI k)), none] [] H1 := by
      intro ch ln m
      induction m with
      | zero =>
        intro k H1 hk f1 t1 k1 no
        have e : k = 128 := by omega
        subst e
        refine sgX10_lendBy_123 ⟨fun _ => ?_, fun z => absurd (show nI 128 ≤ nI 128 from nI_le (by omega) (by omega)) z⟩
        have e2' : len2 (dP b) (dH b) (dA b) c t h to s = none := fnd_z (fun j hj => no j hj)
        have ev : lendS (dP b) (dH b) (dA b) c t h to = (-1, -1, -1) := by rw [el]; unfold lndW; rw [if_neg (by rw [ch]; decide), ln, e2']
        have h2 := hq H1 f1 t1.1 (by rw [ev]; exact ⟨fun p => absurd p (by decide), fun p => absurd p (by decide)⟩)
        rw [ev] at h2; exact h2
      | succ m ih =>
        intro k H1 hk f1 t1 k1 no
        refine sgX10_lendBy_123 ⟨fun z => ?_, fun _ => ?_⟩
        · have := (nI_leI (a := 128) (by omega) (by omega)).mp z; omega
        · refine l134 k (by omega) ch ln no (fun H2 f2 t2 k2 nk => ih (k + 1) H2 (by omega) f2 t2 k2 (fun j hj => ?_)) 128 0 H1 rfl f1 t1 k1 (fun _ j hj => absurd hj (Nat.not_lt_zero j))
          by_cases q : j = k
          · rw [q]; exact nk
          · exact no j (by omega)
    have l80 : chk (dP b) (dH b) (dA b) c t h to s = false → ∀ (m k : Nat) (H1 : Hi), k + m = 128 → frX (dH b).1 H H1 → MT (dP b) (dH b) (dA b) H1 → MK (dP b) s H1 → (∀ j, j < k → (may (dP b) j && chk (dP b) (dH b) (dA b) c t h to (act (dP b) s j)) = false) →
        Rm E mX10_lendBy Q 80 [some (rf E 99), some (.int (nI c)), some (.int (nI t)), some (.int (nI h)), some (.int (nI to)), some (.int (nI k)), none] [] H1 := by
      intro ch m
      induction m with
      | zero =>
        intro k H1 hk f1 t1 k1 no
        have e : k = 128 := by omega
        subst e
        have ln : len1 (dP b) (dH b) (dA b) c t h to s = none := fnd_z (fun j hj => no j hj)
        exact sgX10_lendBy_80 ⟨fun _ => l123 ch ln 128 0 H1 rfl f1 t1 k1 (fun j hj => absurd hj (Nat.not_lt_zero j)), fun z => absurd (show nI 128 ≤ nI 128 from nI_le (by omega) (by omega)) z⟩
      | succ m ih =>
        intro k H1 hk f1 t1 k1 no
        have nx : ∀ (H2 : Hi) (x : Int32), x = nI k + 1 → frX (dH b).1 H H2 → MT (dP b) (dH b) (dA b) H2 → MK (dP b) s H2 → (may (dP b) k && chk (dP b) (dH b) (dA b) c t h to (act (dP b) s k)) = false → Rm E mX10_lendBy Q 80 [some (rf E 99), some (.int (nI c)), some (.int (nI t)), some (.int (nI h)), some (.int (nI to)), some (.int x), none] [] H2 := by
          intro H2 x ex f2 t2 k2 nn
          rw [ex, ← nI_succ]
          refine ih (k + 1) H2 (by omega) f2 t2 k2 (fun j hj => ?_)
          by_cases q : j = k
          · rw [q]; exact nn
          · exact no j (by omega)
        refine sgX10_lendBy_80 ⟨fun z => ?_, fun _ => mt_may t1.1 (by omega) ⟨_, rfl, fun z x ex => nx H1 x ex f1 t1 k1 (by rw [bI_0.mp z]; rfl), fun z => ?_⟩⟩
        · have := (nI_leI (a := 128) (by omega) (by omega)).mp z; omega
        · have key := mt_lends (E := E) (Q := fun w zH_7 => ∃ zr_8 : Int32, w = some (.int zr_8) ∧ ((zr_8 = 0 → (∀ zx5_10 : Int32, zx5_10 = nI k + 1 → (Rm E mX10_lendBy Q 80 [some (rf E 99), some (.int (nI c)), some (.int (nI t)), some (.int (nI h)), some (.int (nI to)), some (.int zx5_10), none] [] zH_7))) ∧ (¬ zr_8 = 0 → (Q (some (.int 1)) zH_7)))) (o1 := some k) (o2 := none) t1 k1 ws ht hc c0 hto (fun j e => by cases e; omega) (fun j e => by cases e) (fun H2 f2 e0 e1 => ⟨_, rfl, fun z3 x ex => ?_, fun z3 => ?_⟩)
          · exact key
          · refine nx H2 x ex (fx_tr f1 (fx_Q f2)) (mt_kQ t1 f2) (mk_keep n8 k1 (fun c p1 p2 => f2 c (by omega))) ?_
            have z3' : chk (dP b) (dH b) (dA b) c t h to (act (dP b) s k) = false := bI_0.mp z3
            rw [z3', Bool.and_false]
          · have z3' : chk (dP b) (dH b) (dA b) c t h to (act (dP b) s k) = true := bI_1 z3
            have e1' : len1 (dP b) (dH b) (dA b) c t h to s = some k := fnd_is (by omega) (by rw [bI_1 z, z3']; rfl) no
            have ev : lendS (dP b) (dH b) (dA b) c t h to = (1, nI k, -1) := by rw [el]; unfold lndW; rw [if_neg (by rw [ch]; decide), e1']
            have h2 := hq H2 (fx_tr f1 (fx_Q f2)) (mt_kQ t1 f2).1 (by rw [ev]; exact ⟨fun _ => e0, fun p => absurd p (show ¬ (1 : Int32) < 1 by decide)⟩)
            rw [ev] at h2; exact h2
    -- from ahead of the hour on
    have body : ∀ H2 : Hi, frX (dH b).1 H H2 → MT (dP b) (dH b) (dA b) H2 → MW (dP b) (stN (dP b) (dH b) (dA b) h) H2 →
        Cm E mX10_putsBack [rf E 99] H2 (fun w zH_5 => w = none ∧ (Cm E mX10_handsOf [rf E 99, .int (nI h)] zH_5 (fun w zH_6 => w = none ∧ (Cm E mX10_keeps [rf E 99] zH_6 (fun w zH_7 => w = none ∧ (Cm E mX10_lends [rf E 99, .int (-1), .int (-1), .int (nI c), .int (nI t), .int (nI h), .int (nI to)] zH_7 (fun w zH_8 => ∃ zr_9 : Int32, w = some (.int zr_9) ∧ ((zr_9 = 0 → (Rm E mX10_lendBy Q 80 [some (rf E 99), some (.int (nI c)), some (.int (nI t)), some (.int (nI h)), some (.int (nI to)), some (.int 0), none] [] zH_8)) ∧ (¬ zr_9 = 0 → (Q (some (.int 0)) zH_8)))))))))) := by
      intro H2 f2 t2 w2
      refine mt_putsBack t2.1 w2 (stN_wf m8 h) (fun H3 f3 w3 => ⟨rfl, ?_⟩)
      have k3 : frK H2 H3 := fun c hc => f3 c (by omega) (by omega) (by omega)
      have t3 := mt_keep t2 k3
      refine mt_hands0 t3.1 w3 (putB_wf (stN_wf m8 h)) t3.2.1 hh (fun H4 f4 w4 => ⟨rfl, ?_⟩)
      have k4 : frK H2 H4 := fun c hc => by rw [f4 c (by omega) (by omega) (by omega)]; exact k3 c hc
      have t4 := mt_keep t2 k4
      have w4' : MW (dP b) s H4 := by rw [← es]; exact w4
      refine mt_keeps n8 w4' (fun H5 f5 k5 => ⟨rfl, ?_⟩)
      have q5 : frX (dH b).1 H H5 := fx_tr (fx_tr f2 (fx_K k4)) ⟨fun c hc => f5 c (by omega), fun k _ => by rw [f5 99 (by decide)], fun k _ => ⟨by rw [f5 107 (by decide)], by rw [f5 108 (by decide)]⟩⟩
      have t5 : MT (dP b) (dH b) (dA b) H5 := ⟨rd_keep t4.1 (fun c hc => f5 c (by omega)), mhd_keep t4.2.1 (fun c hc => f5 c (by omega)), by rw [f5 99 (by decide)]; exact t4.2.2.1, t4.2.2.2⟩
      have key := mt_lends (E := E) (Q := fun w zH_8 => ∃ zr_9 : Int32, w = some (.int zr_9) ∧ ((zr_9 = 0 → (Rm E mX10_lendBy Q 80 [some (rf E 99), some (.int (nI c)), some (.int (nI t)), some (.int (nI h)), some (.int (nI to)), some (.int 0), none] [] zH_8)) ∧ (¬ zr_9 = 0 → (Q (some (.int 0)) zH_8)))) (o1 := none) (o2 := none) t5 k5 ws ht hc c0 hto (fun j e => by cases e) (fun j e => by cases e) (fun H6 f6 e0 e1 => ⟨_, rfl, fun z3 => ?_, fun z3 => ?_⟩)
      · exact key
      · exact l80 (bI_0.mp z3) 128 0 H6 rfl (fx_tr q5 (fx_Q f6)) (mt_kQ t5 f6) (mk_keep n8 k5 (fun c p1 p2 => f6 c (by omega))) (fun j hj => absurd hj (Nat.not_lt_zero j))
      · have ch : chk (dP b) (dH b) (dA b) c t h to s = true := bI_1 z3
        have ev : lendS (dP b) (dH b) (dA b) c t h to = (0, -1, -1) := by rw [el]; unfold lndW; rw [if_pos ch]
        have h2 := hq H6 (fx_tr q5 (fx_Q f6)) (mt_kQ t5 f6).1 (by rw [ev]; exact ⟨fun p => absurd p (by decide), fun p => absurd p (by decide)⟩)
        rw [ev] at h2; exact h2
    refine cmX10_lendBy ⟨fun _ => ?_, fun z => absurd z0 z⟩
    refine mt_told hO hM (n := h) (by omega) (ni_m1 (by omega)) (fun H2 f2 t2 n2 => ⟨rfl, fun z => ⟨fun _ => body H2 f2 t2 n2.1, fun z2 => absurd z0 z2⟩, fun z => ?_⟩)
    refine mt_beg (hd := dH b) (a := dA b) t2.1 (fun H3 f3 n3 => ⟨rfl, fun _ => body H3 (fx_tr f2 (fx_K f3)) (mt_keep t2 f3) ?_, fun z2 => absurd z0 z2⟩)
    have h0 : h = 0 := (nI_eq0 (by omega)).mp z
    rw [h0]; exact n3.1
  · have z0 : ¬ nI h ≤ nI to := fun p => c0 (hle.mp p)
    have nh : ¬ nI h = 0 := fun p => by
      have := (nI_eq0 (n := h) (by omega)).mp p
      omega
    have lt : to < h := by omega
    refine cmX10_lendBy ⟨fun z => absurd z z0, fun _ => mt_toldN hO hM hto (fun H2 f2 t2 n2 => ⟨rfl, fun _ => ⟨fun z => absurd z z0, fun _ => ⟨t, ⟨by omega, rfl⟩, ?_⟩⟩, fun z => absurd z nh⟩)⟩
    have w := (stN_wf (P := dP b) (hd := dH b) (a := dA b) m8 (to + 1) t ht).1
    rw [mw_w n2.1 n8 ht]
    refine ⟨fun z => ?_, fun z => ?_⟩
    · have ev : lendS (dP b) (dH b) (dA b) c t h to = (-1, -1, -1) := by
        unfold lendS
        rw [if_pos lt, if_neg (fun p => z (by rw [p]))]
      have h2 := hq H2 f2 t2.1 (by rw [ev]; exact ⟨fun p => absurd p (by decide), fun p => absurd p (by decide)⟩)
      rw [ev] at h2; exact h2
    · have ev : lendS (dP b) (dH b) (dA b) c t h to = (0, -1, -1) := by
        unfold lendS
        rw [if_pos lt, if_pos (nI_inj (by omega) (by omega) z)]
      have h2 := hq H2 f2 t2.1 (by rw [ev]; exact ⟨fun p => absurd p (by decide), fun p => absurd p (by decide)⟩)
      rw [ev] at h2; exact h2
theorem mc_lend {E : En} {b : Bd} {x1 x2 x3 x4 x5 : Int32} : Mc E mX10_lend [rf E 99, .int x1, .int x2, .int x3, .int x4, .int x5] b (sLend b x1 x2 x3 x4 x5) := by
  intro H0 Q hO hM0 hq
  have n8 := (bok_pm hO).1
  have m8 := (bok_pm hO).2.1
  have bad : ∀ H : Hi, frX (dH b).1 H0 H → sLend b x1 x2 x3 x4 x5 = (-2, b) → Q (some (.int (-2))) H := by
    intro H f e
    rw [e] at hq; exact hq H (fx_1 f) (mi_fx hM0 f)
  refine cmX10_lend (mt_isCousin hO hM0 (fun H f r => ⟨_, rfl, fun z => bad H f (if_neg (by rw [bI_0.mp z]; simp)), fun z1 => mt_isThing hO (mi_fx hM0 f) (fun H2 f2 r2 => ⟨_, rfl, fun z => bad H2 (fx_tr f f2) (if_neg (by rw [bI_0.mp z]; simp)), fun z2 => mt_isHour ⟨_, rfl, fun z => bad H2 (fx_tr f f2) (if_neg (by rw [bI_0.mp z]; simp)), fun z3 => mt_isHour ⟨_, rfl, fun z => bad H2 (fx_tr f f2) (if_neg (by rw [bI_0.mp z]; simp)), fun z4 => mt_in ⟨_, rfl, ?_⟩⟩⟩⟩)⟩))
  rw [in_R]
  refine ⟨fun z => bad H2 (fx_tr f f2) (if_neg (by rw [bI_0.mp z]; simp)), fun z5 => ?_⟩
  have e : sLend b x1 x2 x3 x4 x5 = _ := if_pos ⟨bI_1 z1, bI_1 z2, bI_1 z3, bI_1 z4, bI_1 z5⟩
  rw [e] at hq
  obtain ⟨c, a1, b1, d1⟩ := inN_of (bI_1 z1) (by omega)
  obtain ⟨t, a2, b2, d2⟩ := inN_of (bI_1 z2) (by omega)
  obtain ⟨h, a3, b3, d3⟩ := inN_of (bI_1 z3) (by decide)
  obtain ⟨to, a4, b4, d4⟩ := inN_of (bI_1 z4) (by decide)
  rw [d1, d2, d3, d4] at hq
  rw [b1, b2, b3, b4]
  have f3 := fx_tr f f2
  refine cmX10_lendOf (mt_lendBy hO (mi_fx hM0 f3) (by omega) a2 a3 a4 (fun H' f' r' row => ⟨_, rfl, mt_ofRow (bI_1 z5) row ⟨_, rfl, _, rfl, ?_⟩⟩))
  have f4 := fx_tr f3 f'
  exact hq H' (fx_1 f4) (mi_fx hM0 f4)
/-! sort -/
theorem mt_sorts {E : En} {Q : Option Value → Hi → Prop} {H : Hi} {b : Bd} {au bd : Nat} (hO : BOk b) (hM : MI b H) (hR : RdC (dP b) H) (hau : au < 2 ^ 31) (hb : bd ≤ 72)
    (hq : ∀ H' : Hi, frX (dH b).1 H H' → RdC (dP b) H' → H' 119 = H 119 → Q (some (.int (bI (sok (dP b) (dH b) bd au)))) H') : Cm E mX10_sorts [rf E 99, .int (nI au), .int (nI bd)] H Q := by
  have m8 := (bok_pm hO).2.1
  refine cmX10_sorts (mt_asTold hO hM hR (fun H1 f1 t1 k1 => ⟨rfl, fun H2 g2 => ?_⟩))
  have t2 : MT (dP b) (dH b) au H2 := by
    refine ⟨rd_keep2 t1.1 (fun c hc => by rw [g2, up_n (by omega)]) (fun k hk => by rw [g2, up_s, upd_n (by omega)]), ?_, by rw [g2, up_s, upd_s], hau⟩
    obtain ⟨h1, h2, h3⟩ := t1.2.1
    refine ⟨by rw [g2, up_s, upd_n (by decide)]; exact h1, h2, fun k hk => ?_⟩
    rw [g2, up_n (by decide), up_n (by decide)]
    exact h3 k hk
  have f12 : frX (dH b).1 H1 H2 := ⟨fun c hc => by rw [g2, up_n (by omega)], fun k hk => by rw [g2, up_s, upd_n (by omega)], fun k _ => ⟨by rw [g2, up_n (by decide)], by rw [g2, up_n (by decide)]⟩⟩
  have fin : ∀ H3 : Hi, frK H2 H3 → frX (dH b).1 H H3 ∧ RdC (dP b) H3 ∧ H3 119 = H 119 := fun H3 f3 => ⟨fx_tr (fx_tr f1 f12) (fx_K f3), (mt_keep t2 f3).1, by rw [f3 119 (by decide), g2, up_n (by decide), k1 119 (by decide)]⟩
  refine mt_beg (hd := dH b) (a := au) t2.1 (fun H3 f3 n3 => ⟨rfl, ?_⟩)
  have lp : ∀ (m h : Nat) (H4 : Hi), h + m = 24 → frK H2 H4 → MN (dP b) (dH b) au h H4 → (∀ j, j < h → ld (dP b) (stN (dP b) (dH b) au (j + 1)) ≤ bd) → Rm E mX10_sorts Q 15 [some (rf E 99), none, some (.int (nI bd)), some (.int (nI h))] [] H4 := by
    intro m
    induction m with
    | zero =>
      intro h H4 hh f4 n4 al
      have e : h = 24 := by omega
      subst e
      obtain ⟨p1, p2, p3⟩ := fin H4 f4
      refine sgX10_sorts_15 ⟨fun _ => ?_, fun z => absurd (show nI 24 ≤ nI 24 from nI_le (by omega) (by omega)) z⟩
      have e : sok (dP b) (dH b) bd au = true := by
        unfold sok
        rw [List.all_eq_true]
        exact fun j hj => decide_eq_true (al j (List.mem_range.mp hj))
      have h := hq H4 p1 p2 p3
      rw [e] at h; exact h
    | succ m ih =>
      intro h H4 hh f4 n4 al
      refine sgX10_sorts_15 ⟨fun z => ?_, fun _ => mt_go (mt_keep t2 f4) n4 (by omega) (fun H5 f5 n5 => ⟨rfl, ?_⟩)⟩
      · have := (nI_leI (a := 24) (by omega) (by omega)).mp z; omega
      · have k5 : frK H2 H5 := fun c hc => by rw [f5 c hc]; exact f4 c hc
        obtain ⟨p1, p2, p3⟩ := fin H5 k5
        have l72 := ld_le (s := stN (dP b) (dH b) au (h + 1)) p2.1
        refine mt_load p2 n5.1 (stN_wf m8 _) ⟨_, rfl, ?_⟩
        rw [nI_leI (by omega) (by omega)]
        refine ⟨fun z x ex => ?_, fun z => ?_⟩
        · rw [ex, ← nI_succ]
          refine ih (h + 1) H5 (by omega) k5 n5 (fun j hj => ?_)
          by_cases q : j = h
          · rw [q]; exact z
          · exact al j (by omega)
        · have e := sok_no (P := dP b) (hd := dH b) (bd := bd) (au := au) (h := h) (by omega) (by omega)
          have hh2 := hq H5 p1 p2 p3
          rw [e] at hh2; exact hh2
  exact lp 24 0 H3 rfl f3 n3 (fun j hj => absurd hj (Nat.not_lt_zero j))
set_option maxHeartbeats 2000000 in
theorem mt_sortBy {E : En} {Q : Option Value → Hi → Prop} {H : Hi} {b : Bd} {bd : Nat} (hO : BOk b) (hM : MI b H) (hb : bd ≤ 72)
    (hq : ∀ H' : Hi, frX (dH b).1 H H' → RdC (dP b) H' → RowM (sortS (dP b) (dH b) bd) H' → Q (some (.int (sortS (dP b) (dH b) bd).1)) H') : Cm E mX10_sortBy [rf E 99, .int (nI bd)] H Q := by
  have p119 : ∀ (H1 H2 : Hi), (∀ c, c ≠ 119 → H2 c = H1 c) → frX (dH b).1 H1 H2 := fun H1 H2 f => ⟨fun c hc => f c (by omega), fun k _ => by rw [f 99 (by decide)], fun k _ => ⟨by rw [f 107 (by decide)], by rw [f 108 (by decide)]⟩⟩
  have r119 : ∀ (H1 H2 : Hi), (∀ c, c ≠ 119 → H2 c = H1 c) → RdC (dP b) H1 → RdC (dP b) H2 := fun H1 H2 f r => rd_keep r (fun c hc => f c (by omega))
  have l61 : ∀ k, k < 24 → sok (dP b) (dH b) bd 0 = false → fnd (fun one => sok (dP b) (dH b) bd (2 ^ one)) 24 = none → (∀ j, j < k → (sor2 (dP b) (dH b) bd j).isSome = false) →
      (∀ H1 : Hi, frX (dH b).1 H H1 → RdC (dP b) H1 → sor2 (dP b) (dH b) bd k = none → Rm E mX10_sortBy Q 51 [some (rf E 99), some (.int (nI bd)), some (.int (nI (k + 1))), none] [] H1) →
      ∀ (m l : Nat) (H1 : Hi), l + m = 24 → k < l → frX (dH b).1 H H1 → RdC (dP b) H1 → (∀ j, k < j → j < l → sok (dP b) (dH b) bd (2 ^ k ||| 2 ^ j) = false) → Rm E mX10_sortBy Q 61 [some (rf E 99), some (.int (nI bd)), some (.int (nI k)), some (.int (nI l))] [] H1 := by
    intro k hk s0 s1 no hout m
    induction m with
    | zero =>
      intro l H1 hl hkl f1 r1 nl
      have e : l = 24 := by omega
      subst e
      refine sgX10_sortBy_61 ⟨fun _ x ex => ?_, fun z => absurd (show nI 24 ≤ nI 24 from nI_le (by omega) (by omega)) z⟩
      rw [ex, ← nI_succ]
      refine hout H1 f1 r1 (fnd_z (fun j hj => ?_))
      by_cases q : k < j
      · rw [nl j q hj, Bool.and_false]
      · rw [decide_eq_false q]; rfl
    | succ m ih =>
      intro l H1 hl hkl f1 r1 nl
      refine sgX10_sortBy_61 ⟨fun z => ?_, fun _ H2 g2 H3 g3 => ?_⟩
      · have := (nI_leI (a := 24) (by omega) (by omega)).mp z; omega
      · have k3 : ∀ c, c ≠ 119 → H3 c = H1 c := fun c p => by rw [g3, up_n p, g2, up_n p]
        have f3 := fx_tr f1 (p119 H1 H3 k3)
        rw [i_two (by omega) (by omega)]
        refine mt_sorts hO (mi_fx hM f3) (r119 H1 H3 k3 r1) (Nat.lt_of_lt_of_le (tw_lt hk (by omega)) (by decide)) hb (fun H4 f4 r4 e4 => ⟨_, rfl, fun z x ex => ?_, fun z => ?_⟩)
        · rw [ex, ← nI_succ]
          refine ih (l + 1) H4 (by omega) (by omega) (fx_tr f3 f4) r4 (fun j q1 q2 => ?_)
          by_cases q : j = l
          · rw [q]; exact bI_0.mp z
          · exact nl j q1 (by omega)
        · have e1 : sor2 (dP b) (dH b) bd k = some l := fnd_is (by omega) (by rw [decide_eq_true hkl, bI_1 z]; rfl) (fun j hj => by
            by_cases q : k < j
            · rw [nl j q hj, Bool.and_false]
            · rw [decide_eq_false q]; rfl)
          have e2 : fnd (fun one => (sor2 (dP b) (dH b) bd one).isSome) 24 = some k := fnd_is hk (by rw [e1]; rfl) no
          have ev : sortS (dP b) (dH b) bd = (2, nI k, nI l) := by rw [srt_2 s0 s1 e2, e1]; rfl
          have h := hq H4 (fx_tr f3 f4) r4 (by
            rw [ev]
            refine ⟨fun _ => ?_, fun _ => ?_⟩
            · rw [e4, g3, up_s, upd_n (by decide), g2, up_s, upd_s]
            · rw [e4, g3, up_s, upd_s])
          rw [ev] at h; exact h
  have l51 : sok (dP b) (dH b) bd 0 = false → fnd (fun one => sok (dP b) (dH b) bd (2 ^ one)) 24 = none → ∀ (m k : Nat) (H1 : Hi), k + m = 24 → frX (dH b).1 H H1 → RdC (dP b) H1 → (∀ j, j < k → (sor2 (dP b) (dH b) bd j).isSome = false) → Rm E mX10_sortBy Q 51 [some (rf E 99), some (.int (nI bd)), some (.int (nI k)), none] [] H1 := by
    intro s0 s1 m
    induction m with
    | zero =>
      intro k H1 hk f1 r1 no
      have e : k = 24 := by omega
      subst e
      refine sgX10_sortBy_51 ⟨fun _ => ?_, fun z => absurd (show nI 24 ≤ nI 24 from nI_le (by omega) (by omega)) z⟩
      have ev : sortS (dP b) (dH b) bd = (-1, -1, -1) := srt_n s0 s1 (fnd_z (fun j hj => no j hj))
      have h := hq H1 f1 r1 (by rw [ev]; exact ⟨fun p => absurd p (by decide), fun p => absurd p (by decide)⟩)
      rw [ev] at h; exact h
    | succ m ih =>
      intro k H1 hk f1 r1 no
      refine sgX10_sortBy_51 ⟨fun z => ?_, fun _ x ex => ?_⟩
      · have := (nI_leI (a := 24) (by omega) (by omega)).mp z; omega
      · rw [ex, ← nI_succ]
        refine l61 k (by omega) s0 s1 no (fun H2 f2 r2 e2 => ih (k + 1) H2 (by omega) f2 r2 (fun j hj => ?_)) (24 - (k + 1)) (k + 1) H1 (by omega) (by omega) f1 r1 (fun j q1 q2 => by omega)
        by_cases q : j = k
        · rw [q, e2]; rfl
        · exact no j (by omega)
  have l17 : sok (dP b) (dH b) bd 0 = false → ∀ (m k : Nat) (H1 : Hi), k + m = 24 → frX (dH b).1 H H1 → RdC (dP b) H1 → (∀ j, j < k → sok (dP b) (dH b) bd (2 ^ j) = false) → Rm E mX10_sortBy Q 17 [some (rf E 99), some (.int (nI bd)), some (.int (nI k)), none] [] H1 := by
    intro s0 m
    induction m with
    | zero =>
      intro k H1 hk f1 r1 no
      have e : k = 24 := by omega
      subst e
      exact sgX10_sortBy_17 ⟨fun _ => l51 s0 (fnd_z (fun j hj => no j hj)) 24 0 H1 rfl f1 r1 (fun j hj => absurd hj (Nat.not_lt_zero j)), fun z => absurd (show nI 24 ≤ nI 24 from nI_le (by omega) (by omega)) z⟩
    | succ m ih =>
      intro k H1 hk f1 r1 no
      refine sgX10_sortBy_17 ⟨fun z => ?_, fun _ H3 g3 => ?_⟩
      · have := (nI_leI (a := 24) (by omega) (by omega)).mp z; omega
      · have k3 : ∀ c, c ≠ 119 → H3 c = H1 c := fun c p => by rw [g3, up_n p]
        have f3 := fx_tr f1 (p119 H1 H3 k3)
        rw [i_one k (by omega)]
        refine mt_sorts hO (mi_fx hM f3) (r119 H1 H3 k3 r1) (Nat.lt_of_lt_of_le (Nat.pow_lt_pow_right (by decide) (show k < 24 by omega)) (by decide)) hb (fun H4 f4 r4 e4 => ⟨_, rfl, fun z x ex => ?_, fun z => ?_⟩)
        · rw [ex, ← nI_succ]
          refine ih (k + 1) H4 (by omega) (fx_tr f3 f4) r4 (fun j hj => ?_)
          by_cases q : j = k
          · rw [q]; exact bI_0.mp z
          · exact no j (by omega)
        · have e1 : fnd (fun one => sok (dP b) (dH b) bd (2 ^ one)) 24 = some k := fnd_is (by omega) (bI_1 z) no
          have ev : sortS (dP b) (dH b) bd = (1, nI k, -1) := srt_1 s0 e1
          have h := hq H4 (fx_tr f3 f4) r4 (by
            rw [ev]
            refine ⟨fun _ => ?_, fun p => absurd p (show ¬ (1 : Int32) < 1 by decide)⟩
            rw [e4, g3, up_s, upd_s])
          rw [ev] at h; exact h
  refine cmX10_sortBy (mt_reads hO hM (fun H1 f1 r1 => ⟨rfl, ?_⟩))
  refine mt_sorts (au := 0) hO (mi_fx hM (fx_R f1)) r1 (by decide) hb (fun H2 f2 r2 e2 => ⟨_, rfl, fun z => ?_, fun z => ?_⟩)
  · exact l17 (bI_0.mp z) 24 0 H2 rfl (fx_tr (fx_R f1) f2) r2 (fun j hj => absurd hj (Nat.not_lt_zero j))
  · have ev : sortS (dP b) (dH b) bd = (0, -1, -1) := by
      unfold sortS
      rw [if_pos (bI_1 z)]
    have h := hq H2 (fx_tr (fx_R f1) f2) r2 (by rw [ev]; exact ⟨fun p => absurd p (by decide), fun p => absurd p (by decide)⟩)
    rw [ev] at h; exact h
theorem mc_sort {E : En} {b : Bd} {x1 x2 : Int32} : Mc E mX10_sort [rf E 99, .int x1, .int x2] b (sSort b x1 x2) := by
  intro H0 Q hO hM0 hq
  have bad : sSort b x1 x2 = (-2, b) → Q (some (.int (-2))) H0 := by
    intro e
    rw [e] at hq; exact hq H0 (fun _ _ => rfl) hM0
  refine cmX10_sort (mt_inN (N := 73) (by decide) ⟨_, rfl, fun z => bad (if_neg (by rw [bI_0.mp z]; simp)), fun z1 => mt_in ⟨_, rfl, ?_⟩⟩)
  rw [in_R]
  refine ⟨fun z => bad (if_neg (by rw [bI_0.mp z]; simp)), fun z5 => ?_⟩
  have e : sSort b x1 x2 = _ := if_pos ⟨bI_1 z1, bI_1 z5⟩
  rw [e] at hq
  obtain ⟨n, a1, b1, d1⟩ := inN_of (bI_1 z1) (by decide)
  rw [d1] at hq
  rw [b1]
  exact mt_sortBy hO hM0 (by omega) (fun H' f' r' row => ⟨_, rfl, mt_ofRow (bI_1 z5) row ⟨_, rfl, hq H' (fx_1 f') (mi_fx hM0 f')⟩⟩)
