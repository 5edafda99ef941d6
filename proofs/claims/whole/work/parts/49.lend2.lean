/-! lend, in the class -/
theorem blk_le {P : Pm} (ok : PmOk P) : sm (pSz P) (pN P) ≤ 72 := by
  have h := ld_le (P := P) (s := (fun _ => 8, fun _ => false, fun _ => false, fun _ => false)) ok
  have e : ld P (fun _ => 8, fun _ => false, fun _ => false, fun _ => false) = sm (pSz P) (pN P) := sm_congr (fun i _ => if_pos rfl)
  omega
theorem ct_matters {E : En} {Q : Option Value → Hi → Prop} {H : Hi} {P : Pm} {k t : Nat} (hF : FamC P H) (hk : k < 128) (ht : t < 8) (hq : Q (some (.int (bI (mtr P t k)))) H) : Cm E mX3_matters [rf E 75, .int (nI k), .int (nI t)] H Q := by
  have hb := blk_le hF.1
  have hr := hF.1.2.2.2
  refine cmX3_matters ?_
  rw [hF.2.2.2.2.2.2.2.2.1, hF.2.2.2.2.2.2.1, i_and7 (by omega)]
  rw [nI_ltI (by omega) (by omega)]
  refine ⟨fun z => ?_, fun z => ⟨fun z2 => ?_, fun z2 => ?_⟩⟩
  · have e : mtr P t k = true := by unfold mtr; rw [decide_eq_true z]; rfl
    rw [e] at hq; exact hq
  · have e : mtr P t k = false := by unfold mtr; rw [decide_eq_false z, decide_eq_false (fun q => z2 (by rw [q]))]; rfl
    rw [e] at hq; exact hq
  · have e : mtr P t k = true := by unfold mtr; rw [decide_eq_true (nI_inj (by omega) (by omega) z2)]; simp
    rw [e] at hq; exact hq
theorem goN_wf {P : Pm} {hd : Hd} {a : Nat} (hm : pM P ≤ 8) : ∀ m h (s : Sg), Wf P s → Wf P (goN P hd a h m s)
  | 0, _, _, w => w
  | m + 1, h, _, w => goN_wf hm m (h + 1) _ (hr_wf hm w)
theorem st_80 : isSt 80 := (st_tri 0 (by decide)).1
theorem st_81 : isSt 81 := (st_tri 1 (by decide)).1
set_option maxHeartbeats 2000000 in
theorem least_loop {E : En} {Q : Option Value → Hi → Prop} {H0 : Hi} {P : Pm} {hd : Hd} {a c t h to : Nat} {s : Sg} (hFa : FamC P H0) (hTa : ToldC P hd a H0) (ht : t < pN P) (hc : c < 8) (hh : h ≤ to) (hto : to < 24) (hw : Wf P s) (h80 : Rs P s (H0 80)) :
    ∀ (m k : Nat) (H : Hi), k + m = 128 → (∀ d, d ≠ 81 → H d = H0 d) → Rs P s (H 81) →
      (∀ H' : Hi, (∀ d, d ≠ 81 → H' d = H0 d) → Q (some (.int (nO (fndF (lpr P hd a c t h to s) m k)))) H') →
      Rm E mX3_leastHand Q 22 [some (rf E 75), some (.int (nI c)), some (.int (nI t)), some (.int (nI h)), some (.int (nI to)), some (rf E 81), some (.int (nI k))] [] H := by
  have ok := hFa.1
  have n8 := ok.1
  intro m
  induction m with
  | zero =>
    intro k H hk f1 r1 hq
    have e : k = 128 := by omega
    subst e
    exact sgX3_leastHand_22 st_81 ⟨fun _ => hq H f1, fun z => absurd (show nI 128 ≤ nI 128 from nI_le (by omega) (by omega)) z⟩
  | succ m ih =>
    intro k H hk f1 r1 hq
    have hF := fam_keep st_81 hFa f1
    have hT := told_keep st_81 hTa f1
    have nx : ∀ (H' : Hi) (x : Int32), x = nI k + 1 → (∀ d, d ≠ 81 → H' d = H0 d) → Rs P s (H' 81) → lpr P hd a c t h to s k = false →
        Rm E mX3_leastHand Q 22 [some (rf E 75), some (.int (nI c)), some (.int (nI t)), some (.int (nI h)), some (.int (nI to)), some (rf E 81), some (.int x)] [] H' := by
      intro H' x ex f' r' hl
      rw [ex, ← nI_succ]
      refine ih (k + 1) H' (by omega) f' r' ?_
      have e : fndF (lpr P hd a c t h to s) (m + 1) k = fndF (lpr P hd a c t h to s) m (k + 1) := by
        show (if _ then _ else _) = _
        rw [if_neg (by rw [hl]; decide)]
      rw [e] at hq; exact hq
    refine sgX3_leastHand_22 st_81 ⟨fun z => absurd z ?_, fun _ => ?_⟩
    · show ¬ nI 128 ≤ nI k
      rw [nI_leI (by decide) (by omega)]; omega
    · refine ct_matters hF (by omega) (by omega) ⟨_, rfl, fun z x ex => ?_, fun z => ?_⟩
      · exact nx H x ex f1 r1 (by unfold lpr; rw [bI_0.mp z]; rfl)
      · refine ct_reach hF st_81 r1 hw (by omega) ?_
        intro H1 g1 s1
        have fr1 : ∀ d, d ≠ 81 → H1 d = H0 d := fun d q => by rw [g1 d q, f1 d q]
        refine ⟨_, rfl, fun z2 x ex => ?_, fun z2 => ?_⟩
        · have e : (rch P s k).isSome = false := by
            cases e : (rch P s k).isSome
            · rfl
            · rw [e] at z2; exact absurd z2 (by decide)
          rw [act_no e] at s1
          exact nx H1 x ex fr1 s1 (by unfold lpr; rw [e]; simp)
        · have e : (rch P s k).isSome = true := by
            cases e : (rch P s k).isSome
            · rw [e] at z2; exact absurd rfl z2
            · rfl
          have w1 : Wf P (act P s k) := act_wf hw
          refine ct_goOn (fam_keep st_81 hFa fr1) (told_keep st_81 hTa fr1) st_81 s1 w1 hh hto ?_
          intro H2 g2 s2
          have fr2 : ∀ d, d ≠ 81 → H2 d = H0 d := fun d q => by rw [g2 d q, fr1 d q]
          have w2 : Wf P (goN P hd a (h + 1) (to - h) (clo P a h (act P s k))) := goN_wf ok.2.1 _ _ _ (clo_wf ok.2.1 w1)
          have l2 := (w2 t ht).1
          refine ⟨rfl, ct_placeOf n8 st_81 s2 w2 ht ⟨_, rfl, fun z3 => ?_, fun z3 => ?_⟩⟩
          · refine ct_become st_81 st_80 (s := s) (P := P) (by rw [fr2 80 (by decide)]; exact h80) ?_
            intro H3 g3 s3
            refine ⟨rfl, fun x ex => nx H3 x ex (fun d q => by rw [g3 d q, fr2 d q]) s3 ?_⟩
            unfold lpr chk
            rw [decide_eq_false (fun q => z3 (by rw [q]))]; simp
          · have z3' := nI_inj (by omega) (by omega) z3
            have el : lpr P hd a c t h to s k = true := by
              unfold lpr chk
              rw [bI_1 z, e, decide_eq_true z3']; rfl
            have ef : fndF (lpr P hd a c t h to s) (m + 1) k = some k := by
              show (if _ then _ else _) = _
              rw [if_pos el]
            have hq2 := hq H2 fr2
            rw [ef] at hq2
            exact hq2
theorem ct_least {E : En} {Q : Option Value → Hi → Prop} {H : Hi} {P : Pm} {hd : Hd} {a c t h to : Nat} {s : Sg} (hFa : FamC P H) (hTa : ToldC P hd a H) (ht : t < pN P) (hc : c < 8) (hh : h ≤ to) (hto : to < 24) (hw : Wf P s) (h80 : Rs P s (H 80))
    (hq : ∀ H' : Hi, (∀ d, d ≠ 81 → H' d = H d) → Q (some (.int (nO (fnd (lpr P hd a c t h to s) 128)))) H') : Cm E mX3_leastHand [rf E 75, .int (nI c), .int (nI t), .int (nI h), .int (nI to)] H Q := by
  refine cmX3_leastHand (ct_become st_81 st_80 h80 ?_)
  intro H1 g1 s1
  exact ⟨rfl, least_loop hFa hTa ht hc hh hto hw h80 128 0 H1 rfl g1 s1 hq⟩
def row3 (H : Hi) (c : Nat) (v : Int32 × Int32 × Int32) : Hi := up (up (up H c 0 v.1) c 1 v.2.1) c 2 v.2.2
theorem row3_c {H : Hi} {c : Nat} {v : Int32 × Int32 × Int32} : RowC (row3 H c v c) v := by
  unfold row3
  refine ⟨?_, ?_, ?_⟩
  · rw [up_s, upd_n (by decide), up_s, upd_n (by decide), up_s, upd_s]
  · rw [up_s, upd_n (by decide), up_s, upd_s]
  · rw [up_s, upd_s]
theorem row3_n {H : Hi} {c d : Nat} {v : Int32 × Int32 × Int32} (h : d ≠ c) : row3 H c v d = H d := by
  unfold row3
  rw [up_n h, up_n h, up_n h]
theorem ct_plan76 {E : En} {Q : Option Value → Hi → Prop} {H : Hi} {x1 x2 x3 : Int32} (hq : Q none (row3 H 76 (x1, x2, x3))) : Cm E mX4_plan [rf E 76, .int x1, .int x2, .int x3] H Q := by
  refine cmX4_plan_i76 ?_
  intro H1 g1 H2 g2 H3 g3
  have e : H3 = row3 H 76 (x1, x2, x3) := by rw [g3, g2, g1]; rfl
  rw [e]; exact hq
theorem ct_plan77 {E : En} {Q : Option Value → Hi → Prop} {H : Hi} {x1 x2 x3 : Int32} (hq : Q none (row3 H 77 (x1, x2, x3))) : Cm E mX4_plan [rf E 77, .int x1, .int x2, .int x3] H Q := by
  refine cmX4_plan_i77 ?_
  intro H1 g1 H2 g2 H3 g3
  have e : H3 = row3 H 77 (x1, x2, x3) := by rw [g3, g2, g1]; rfl
  rw [e]; exact hq
theorem nO_no {o : Option Nat} (h : ∀ k, o = some k → k < 128) : nO o = -1 ↔ o = none := by
  cases o with
  | none => exact ⟨fun _ => rfl, fun _ => rfl⟩
  | some k =>
    have hk := h k rfl
    refine ⟨fun q => ?_, fun q => by cases q⟩
    have q' : nI k = -1 := q
    have q2 : (nI k).toInt = (-1 : Int32).toInt := by rw [q']
    rw [nI_toInt (by omega)] at q2
    exact absurd q2 (by
      have : (-1 : Int32).toInt = -1 := by decide
      rw [this]; omega)
theorem nO_fn {p : Nat → Bool} : nO (fnd p 128) = -1 ↔ fnd p 128 = none := nO_no (fun k e => by have := (fndF_so 128 0 k e).2.2; omega)
def frW (H0 H : Hi) : Prop := ∀ d, d ≠ 76 → d ≠ 80 → d ≠ 81 → H d = H0 d
set_option maxHeartbeats 2000000 in
theorem lend_loop {E : En} {Q : Option Value → Hi → Prop} {H0 : Hi} {P : Pm} {hd : Hd} {a c t h to : Nat} {s : Sg} (hFa : FamC P H0) (hTa : ToldC P hd a H0) (ht : t < pN P) (hc : c < 8) (hh : h ≤ to) (hto : to < 24) (hw : Wf P s) (hr : Rs P s (H0 (27 + 2 * h))) :
    ∀ (m k : Nat) (H : Hi), k + m = 128 → frW H0 H → RowC (H 76) (-1, -1, -1) →
      (∀ H' : Hi, frW H0 H' → RowC (H' 76) (lrw P hd a c t h to s (fndF (lnd2 P hd a c t h to s) m k)) → Q none H') →
      Rm E mX3_planLend Q 154 [some (rf E 75), some (.int (nI c)), some (.int (nI t)), some (.int (nI h)), some (.int (nI to)), none, some (rf E (27 + 2 * h)), none, some (.int (nI k))] [] H := by
  have ok := hFa.1
  have n8 := ok.1
  have sth := (st_mid h (by omega)).1
  intro m
  induction m with
  | zero =>
    intro k H hk f1 r1 hq
    have e : k = 128 := by omega
    subst e
    exact sgX3_planLend_154 sth ⟨fun _ => hq H f1 r1, fun z => absurd (show nI 128 ≤ nI 128 from nI_le (by omega) (by omega)) z⟩
  | succ m ih =>
    intro k H hk f1 r1 hq
    have nx : ∀ (H' : Hi) (x : Int32), x = nI k + 1 → frW H0 H' → RowC (H' 76) (-1, -1, -1) → lnd2 P hd a c t h to s k = false →
        Rm E mX3_planLend Q 154 [some (rf E 75), some (.int (nI c)), some (.int (nI t)), some (.int (nI h)), some (.int (nI to)), none, some (rf E (27 + 2 * h)), none, some (.int x)] [] H' := by
      intro H' x ex f' r' hl
      rw [ex, ← nI_succ]
      refine ih (k + 1) H' (by omega) f' r' ?_
      have e : fndF (lnd2 P hd a c t h to s) (m + 1) k = fndF (lnd2 P hd a c t h to s) m (k + 1) := by
        show (if _ then _ else _) = _
        rw [if_neg (by rw [hl]; decide)]
      rw [e] at hq; exact hq
    refine sgX3_planLend_154 sth ⟨fun z => absurd z ?_, fun _ => ⟨fun z => absurd r1.1 z, fun _ => ?_⟩⟩
    · show ¬ nI 128 ≤ nI k
      rw [nI_leI (by decide) (by omega)]; omega
    · refine ct_become st_80 sth (s := s) (P := P) (by rw [f1 (27 + 2 * h) (by omega) (by omega) (by omega)]; exact hr) ?_
      intro H1 g1 s1
      have fr1 : frW H0 H1 := fun d q1 q2 q3 => by rw [g1 d q2, f1 d q1 q2 q3]
      have hF1 : FamC P H1 := fam_keep2 hFa (fun d q1 q2 => fr1 d (by omega) (by omega) (by omega))
      have t1 : H1 76 = H 76 := g1 76 (by decide)
      refine ⟨rfl, ct_matters hF1 (by omega) (by omega) ⟨_, rfl, fun z x ex => ?_, fun z => ?_⟩⟩
      · exact nx H1 x ex fr1 (by rw [t1]; exact r1) (by unfold lnd2; rw [bI_0.mp z]; rfl)
      · refine ct_reach hF1 st_80 s1 hw (by omega) ?_
        intro H2 g2 s2
        have fr2 : frW H0 H2 := fun d q1 q2 q3 => by rw [g2 d q2, fr1 d q1 q2 q3]
        have t2 : H2 76 = H 76 := by rw [g2 76 (by decide), t1]
        have hF2 : FamC P H2 := fam_keep2 hFa (fun d q1 q2 => fr2 d (by omega) (by omega) (by omega))
        have hT2 : ToldC P hd a H2 := told_keep2 hTa (fun d q1 q2 => fr2 d (by omega) (by omega) (by omega))
        refine ⟨_, rfl, fun z2 x ex => ?_, fun z2 => ?_⟩
        · have e : (rch P s k).isSome = false := by
            cases e : (rch P s k).isSome
            · rfl
            · rw [e] at z2; exact absurd z2 (by decide)
          exact nx H2 x ex fr2 (by rw [t2]; exact r1) (by unfold lnd2; rw [e]; simp)
        · have e : (rch P s k).isSome = true := by
            cases e : (rch P s k).isSome
            · rw [e] at z2; exact absurd rfl z2
            · rfl
          refine ct_least hF2 hT2 ht hc hh hto (act_wf hw) s2 ?_
          intro H3 g3
          have fr3 : frW H0 H3 := fun d q1 q2 q3 => by rw [g3 d q3, fr2 d q1 q2 q3]
          have t3 : H3 76 = H 76 := by rw [g3 76 (by decide), t2]
          refine ⟨_, rfl, fun z3 x ex => ?_, fun z3 => ct_plan76 ⟨rfl, fun x ex => ?_⟩⟩
          · exact nx H3 x ex fr3 (by rw [t3]; exact r1) (by unfold lnd2; rw [nO_fn.mp z3]; simp)
          · have z3' : ¬ fnd (lpr P hd a c t h to (act P s k)) 128 = none := fun q => z3 (nO_fn.mpr q)
            have e3 : (fnd (lpr P hd a c t h to (act P s k)) 128).isSome = true := by
              cases q : fnd (lpr P hd a c t h to (act P s k)) 128 with
              | none => exact absurd q z3'
              | some j => rfl
            have el : lnd2 P hd a c t h to s k = true := by
              unfold lnd2
              rw [bI_1 z, e, e3]; rfl
            have ef : fndF (lnd2 P hd a c t h to s) (m + 1) k = some k := by
              show (if _ then _ else _) = _
              rw [if_pos el]
            rw [ef] at hq
            have hq2 := hq (row3 H3 76 (2, nI k, nO (fnd (lpr P hd a c t h to (act P s k)) 128))) (fun d q1 q2 q3 => by rw [row3_n q1]; exact fr3 d q1 q2 q3) row3_c
            have r0 : row3 H3 76 (2, nI k, nO (fnd (lpr P hd a c t h to (act P s k)) 128)) 76 0 = 2 := row3_c.1
            refine sgX3_planLend_154 sth ⟨fun _ => hq2, fun _ => ⟨fun _ => hq2, fun q => ?_⟩⟩
            rw [r0] at q
            exact absurd q (by decide)
/-- what plans may change -/
def frP (H0 H : Hi) : Prop := ∀ c, c ≤ 74 ∨ 86 ≤ c → H c = H0 c
theorem ho_keep {P : Pm} {hd : Hd} {a : Nat} {H H' : Hi} (hO : HoC P hd a 24 H) (h : ∀ c, 22 ≤ c → c ≤ 74 → c ≠ 26 → H' c = H c) : HoC P hd a 24 H' := by
  obtain ⟨o1, o2, o3, o4⟩ := hO
  refine ⟨by rw [h 23 (by decide) (by decide) (by decide)]; exact o1, by rw [h 23 (by decide) (by decide) (by decide)]; exact o2, by rw [h 22 (by decide) (by decide) (by decide)]; exact o3, fun j hj => ?_⟩
  rw [h (27 + 2 * j) (by omega) (by omega) (by omega), h (28 + 2 * j) (by omega) (by omega) (by omega)]
  exact o4 j hj
theorem lcd_inj {c t h to c' t' h' to' : Nat} (h1 : t < 8) (h2 : h < 24) (h3 : to < 24) (h4 : t' < 8) (h5 : h' < 24) (h6 : to' < 24) (e : lcode c t h to = lcode c' t' h' to') : c = c' ∧ t = t' ∧ h = h' ∧ to = to' := by
  unfold lcode at e
  omega
set_option maxHeartbeats 4000000 in
theorem ct_planLend {E : En} {Q : Option Value → Hi → Prop} {H : Hi} {b : Bd} {c t h to : Nat} (hF : FR b H) (hc : c < 8) (ht : t < pN (dP b)) (hh : h < 24) (hto : to < 24)
    (hq : ∀ H' : Hi, frP H H' → FR b H' → RowC (H' 76) (lendS (dP b) (dH b) (dA b) c t h to) → Q none H') : Cm E mX3_planLend [rf E 75, .int (nI c), .int (nI t), .int (nI h), .int (nI to)] H Q := by
  have ok := hF.1.1
  have n8 := ok.1
  have m8 := ok.2.1
  refine cmX3_planLend ?_
  intro x ex
  have ex' : x = nI (lcode c t h to) := by
    rw [ex]
    show ((nI c * nI 8 + nI t) * nI 24 + nI h) * nI 24 + nI to = _
    rw [ni_mulN, nI_add, ni_mulN, nI_add, ni_mulN, nI_add]; rfl
  have lc : lcode c t h to < 2 ^ 20 := by unfold lcode; omega
  refine ⟨fun z => ?_, fun z => ?_⟩
  · intro H1 g1
    refine ct_plan76 ⟨rfl, h, ⟨hh, rfl⟩, to, ⟨hto, rfl⟩, ?_⟩
    have k2 : ∀ d, d ≠ 75 → d ≠ 76 → row3 H1 76 (-1, -1, -1) d = H d := fun d q1 q2 => by rw [row3_n q2, g1, up_n q1]
    have k75 : row3 H1 76 (-1, -1, -1) 75 = upd (H 75) 5 x := by rw [row3_n (by decide), g1, up_s]
    -- what is to be shown of the end
    have fin : ∀ H' : Hi, (∀ d, d ≠ 75 → d ≠ 76 → d ≠ 80 → d ≠ 81 → H' d = H d) → H' 75 = upd (H 75) 5 x → RowC (H' 76) (lendS (dP b) (dH b) (dA b) c t h to) → Q none H' := by
      intro H' f' e75 hr
      refine hq H' (fun d hd => f' d (by omega) (by omega) (by omega) (by omega)) ⟨fam_keep2 hF.1 (fun d q1 q2 => f' d (by omega) (by omega) (by omega) (by omega)), told_keep2 hF.2.1 (fun d q1 q2 => f' d (by omega) (by omega) (by omega) (by omega)), ho_keep hF.2.2.1 (fun d q1 q2 q3 => f' d (by omega) (by omega) (by omega) (by omega)), Or.inr ⟨c, t, h, to, hc, by omega, hh, hto, by rw [e75, upd_s, ex'], hr⟩, ?_⟩ hr
      rw [e75, upd_n (by decide), f' 77 (by decide) (by decide) (by decide) (by decide)]
      exact hF.2.2.2.2
    have stw : ∀ j, Wf (dP b) (stN (dP b) (dH b) (dA b) j) := fun j => stN_wf m8 j
    have rb : Rs (dP b) (stN (dP b) (dH b) (dA b) (to + 1)) (row3 H1 76 (-1, -1, -1) (28 + 2 * to)) := by rw [k2 (28 + 2 * to) (by omega) (by omega)]; exact (hF.2.2.1.2.2.2 to hto).2
    have l1 := (stw (to + 1) t ht).1
    refine ct_placeOf n8 (st_beh to hto).1 rb (stw _) ht ⟨_, rfl, fun z2 => ?_, fun z2 => ?_⟩
    · have z2' : ¬ (stN (dP b) (dH b) (dA b) (to + 1)).1 t = c := fun q => z2 (by rw [q])
      refine ⟨fun q => absurd (row3_c (H := H1) (c := 76) (v := (-1, -1, -1))).1 (by rw [q]; decide), fun _ => ⟨fun z3 => ?_, fun z3 => ?_⟩⟩
      · have z3' : to < h := (nI_ltI (by omega) (by omega)).mp z3
        refine fin _ (fun d q1 q2 _ _ => k2 d q1 q2) k75 ?_
        have e : lendS (dP b) (dH b) (dA b) c t h to = (-1, -1, -1) := by unfold lendS; rw [if_pos z3', if_neg z2']
        rw [e]; exact row3_c
      · have z3' : ¬ to < h := fun q => z3 (nI_lt q (by omega))
        have wm : Wf (dP b) (mid (dP b) (dH b) h (stN (dP b) (dH b) (dA b) h)) := mid_wf (stw h)
        have rm : Rs (dP b) (mid (dP b) (dH b) h (stN (dP b) (dH b) (dA b) h)) (row3 H1 76 (-1, -1, -1) (27 + 2 * h)) := by rw [k2 (27 + 2 * h) (by omega) (by omega)]; exact (hF.2.2.1.2.2.2 h hh).1
        have hch : chk (dP b) (dH b) (dA b) c t h to (mid (dP b) (dH b) h (stN (dP b) (dH b) (dA b) h)) = false := by rw [chk_st z3']; exact decide_eq_false z2'
        have l2 := (wm t ht).1
        refine ct_placeOf n8 (st_mid h hh).1 rm wm ht ⟨_, rfl, fun z4 => ?_, fun z4 => ?_⟩
        · refine ct_become st_80 (st_mid h hh).1 rm ?_
          intro H3 g3 s3
          have k3 : ∀ d, d ≠ 75 → d ≠ 76 → d ≠ 80 → H3 d = H d := fun d q1 q2 q3 => by rw [g3 d q3, k2 d q1 q2]
          have hF3 : FamC (dP b) H3 := fam_keep2 hF.1 (fun d q1 q2 => k3 d (by omega) (by omega) (by omega))
          have hT3 : ToldC (dP b) (dH b) (dA b) H3 := told_keep2 hF.2.1 (fun d q1 q2 => k3 d (by omega) (by omega) (by omega))
          refine ⟨rfl, ct_least hF3 hT3 ht hc (by omega) hto wm s3 ?_⟩
          intro H4 g4
          have k4 : ∀ d, d ≠ 75 → d ≠ 76 → d ≠ 80 → d ≠ 81 → H4 d = H d := fun d q1 q2 q3 q4 => by rw [g4 d q4, k3 d q1 q2 q3]
          have k475 : H4 75 = upd (H 75) 5 x := by rw [g4 75 (by decide), g3 75 (by decide), k75]
          have hF4 : FamC (dP b) H4 := fam_keep2 hF.1 (fun d q1 q2 => k4 d (by omega) (by omega) (by omega) (by omega))
          have hT4 : ToldC (dP b) (dH b) (dA b) H4 := told_keep2 hF.2.1 (fun d q1 q2 => k4 d (by omega) (by omega) (by omega) (by omega))
          have el := lend_eq (P := dP b) (hd := dH b) (a := dA b) (c := c) (t := t) (h := h) (to := to) n8 z3' hch
          refine ⟨_, rfl, fun z5 => ?_, fun z5 => ?_⟩
          · have z5' := nO_fn.mp z5
            refine lend_loop (P := dP b) (hd := dH b) (a := dA b) (s := mid (dP b) (dH b) h (stN (dP b) (dH b) (dA b) h)) hF4 hT4 ht hc (by omega) hto wm (by rw [k4 (27 + 2 * h) (by omega) (by omega) (by omega) (by omega)]; exact (hF.2.2.1.2.2.2 h hh).1) 128 0 H4 rfl (fun _ _ _ _ => rfl) (by rw [g4 76 (by decide), g3 76 (by decide)]; exact row3_c) ?_
            intro H5 f5 r5
            refine fin H5 (fun d q1 q2 q3 q4 => by rw [f5 d q2 q3 q4, k4 d q1 q2 q3 q4]) (by rw [f5 75 (by decide) (by decide) (by decide), k475]) ?_
            rw [el]
            unfold lrw1
            rw [z5']
            exact r5
          · have e5 : ∃ j, fnd (lpr (dP b) (dH b) (dA b) c t h to (mid (dP b) (dH b) h (stN (dP b) (dH b) (dA b) h))) 128 = some j := by
              cases q : fnd (lpr (dP b) (dH b) (dA b) c t h to (mid (dP b) (dH b) h (stN (dP b) (dH b) (dA b) h))) 128 with
              | none => exact absurd (nO_fn.mpr q) z5
              | some j => exact ⟨j, rfl⟩
            obtain ⟨j, ej⟩ := e5
            rw [ej]
            refine ct_plan76 ⟨rfl, ?_⟩
            have r0 : row3 H4 76 (1, nO (some j), -1) 76 0 = 1 := row3_c.1
            have e6 : lendS (dP b) (dH b) (dA b) c t h to = (1, nO (some j), -1) := by
              rw [el]
              unfold lrw1
              rw [ej]; rfl
            have hq2 : Q none (row3 H4 76 (1, nO (some j), -1)) := fin _ (fun d q1 q2 q3 q4 => by rw [row3_n q2]; exact k4 d q1 q2 q3 q4) (by rw [row3_n (by decide)]; exact k475) (by rw [e6]; exact row3_c)
            refine sgX3_planLend_154 (st_mid h hh).1 ⟨fun _ => hq2, fun _ => ⟨fun _ => hq2, fun q => ?_⟩⟩
            rw [r0] at q
            exact absurd q (by decide)
        · have z4' := nI_inj (by omega) (by decide) z4
          refine fin _ (fun d q1 q2 _ _ => k2 d q1 q2) k75 ?_
          rw [lend_gn hc z3' z4']
          exact row3_c
    · have z2' : (stN (dP b) (dH b) (dA b) (to + 1)).1 t = c := nI_inj (by omega) (by omega) z2
      refine ct_plan76 ⟨rfl, fun _ => ?_, fun q => absurd (row3_c (H := row3 H1 76 (-1, -1, -1)) (c := 76) (v := (0, -1, -1))).1 q⟩
      refine fin _ (fun d q1 q2 _ _ => by rw [row3_n q2]; exact k2 d q1 q2) (by rw [row3_n (by decide)]; exact k75) ?_
      have e : lendS (dP b) (dH b) (dA b) c t h to = (0, -1, -1) := by
        unfold lendS
        by_cases q : to < h
        · rw [if_pos q, if_pos z2']
        · rw [if_neg q, if_pos (by rw [chk_st q]; exact decide_eq_true z2')]
      rw [e]; exact row3_c
  · rw [ex'] at z
    refine hq H (fun _ _ => rfl) hF ?_
    rcases hF.2.2.2.1 with q | ⟨c', t', h', to', q1, q2, q3, q4, q5, q6⟩
    · rw [q] at z
      have z2 : (nI (lcode c t h to)).toInt = (-1 : Int32).toInt := by rw [z]
      rw [nI_toInt (by omega)] at z2
      have : (-1 : Int32).toInt = -1 := by decide
      omega
    · rw [q5] at z
      have lc' : lcode c' t' h' to' < 2 ^ 20 := by unfold lcode; omega
      obtain ⟨e1, e2, e3, e4⟩ := lcd_inj (by omega) hh hto q2 q3 q4 (nI_inj (by omega) (by omega) z)
      rw [e1, e2, e3, e4]; exact q6
