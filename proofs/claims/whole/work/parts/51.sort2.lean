/-! sort -/
def frZ (H0 H : Hi) : Prop := ∀ d, d ≠ 77 → d ≠ 79 → d ≠ 80 → H d = H0 d
theorem i_two {k l : Nat} (hk : k < 32) (hl : l < 32) : ((1 : Int32) <<< (nI k &&& 31)) ||| ((1 : Int32) <<< (nI l &&& 31)) = nI (2 ^ k ||| 2 ^ l) := by
  rw [i_one k hk, i_one l hl, nI_or]
theorem tw_lt {k l : Nat} (hk : k < 24) (hl : l < 24) : 2 ^ k ||| 2 ^ l < 2 ^ 24 := Nat.or_lt_two_pow (Nat.pow_lt_pow_right (by decide) hk) (Nat.pow_lt_pow_right (by decide) hl)
set_option maxHeartbeats 2000000 in
theorem two_in {E : En} {Q : Option Value → Hi → Prop} {H0 : Hi} {P : Pm} {hd : Hd} {a bd n k : Nat} (hFa : FamC P H0) (hTa : ToldC P hd a H0) (h23 : Rs P (st0 P) (H0 23)) (hb : bd ≤ 72) (h24 : n < 24) (hkn : k ≤ n) (hb79 : H0 79 k = nI (fbl P hd bd (2 ^ k))) (hk24 : fbl P hd bd (2 ^ k) < 24)
    (hout : ∀ H : Hi, (∀ d, d ≠ 80 → H d = H0 d) → sor2 P hd bd k = none → Rm E mX3_planTwoSortings Q 2 [some (rf E 75), some (.int (nI bd)), some (.int (nI n)), some (.int (nI (k + 1))), none] [] H)
    (hfd : ∀ (H : Hi) (l : Nat), (∀ d, d ≠ 80 → H d = H0 d) → sor2 P hd bd k = some l → Q none (row3 H 77 (2, nI k, nI l))) :
    ∀ (m l : Nat) (H : Hi), l + m = 25 → k < l → (∀ d, d ≠ 80 → H d = H0 d) → (∀ j, k < j → j < l → sok P hd bd (2 ^ k ||| 2 ^ j) = false) →
      Rm E mX3_planTwoSortings Q 18 [some (rf E 75), some (.int (nI bd)), some (.int (nI n)), some (.int (nI k)), some (.int (nI l))] [] H := by
  have ex : ∀ (l : Nat) (H : Hi), l ≤ 25 → (∀ d, d ≠ 80 → H d = H0 d) → (∀ j, k < j → j < l → sok P hd bd (2 ^ k ||| 2 ^ j) = false) → fbl P hd bd (2 ^ k) < l → ∀ x : Int32, x = nI k + 1 →
      Rm E mX3_planTwoSortings Q 2 [some (rf E 75), some (.int (nI bd)), some (.int (nI n)), some (.int x), none] [] H := by
    intro l H hl f1 no hx x ex
    rw [ex, ← nI_succ]
    refine hout H f1 (fnd_z (fun j hj => ?_))
    by_cases q : k < j
    · have : sok P hd bd (2 ^ k ||| 2 ^ j) = false := by
        by_cases q2 : j < l
        · exact no j q q2
        · exact late3 hk24 (by omega)
      rw [this]; simp
    · rw [decide_eq_false q]; rfl
  intro m
  induction m with
  | zero =>
    intro l H hl hkl f1 no
    refine sgX3_planTwoSortings_18 ⟨k, ⟨by omega, rfl⟩, fun z x e => ex l H (by omega) f1 no (by omega) x e, fun z => ?_⟩
    rw [f1 79 (by decide), hb79] at z
    exact absurd (nI_lt (show fbl P hd bd (2 ^ k) < l by omega) (by omega)) z
  | succ m ih =>
    intro l H hl hkl f1 no
    refine sgX3_planTwoSortings_18 ⟨k, ⟨by omega, rfl⟩, fun z x e => ?_, fun z => ?_⟩
    · rw [f1 79 (by decide), hb79] at z
      exact ex l H (by omega) f1 no ((nI_ltI (by omega) (by omega)).mp z) x e
    · rw [f1 79 (by decide), hb79] at z
      have z' : ¬ fbl P hd bd (2 ^ k) < l := fun q => z (nI_lt q (by omega))
      have l24 : l < 24 := by omega
      rw [i_two (by omega) (by omega)]
      refine ct_fb (fam_keep st_80 hFa f1) (told_keep st_80 hTa f1) (by rw [f1 23 (by decide)]; exact h23) hb (tw_lt (by omega) l24) ?_
      intro H1 g1
      have f2 : ∀ d, d ≠ 80 → H1 d = H0 d := fun d q => by rw [g1 d q, f1 d q]
      have le := fbl_le (P := P) (hd := hd) (bd := bd) (au := 2 ^ k ||| 2 ^ l)
      refine ⟨_, rfl, fun z2 x e => ?_, fun z2 => ct_plan77 ⟨rfl, hfd H1 l f2 ?_⟩⟩
      · rw [e, ← nI_succ]
        refine ih (l + 1) H1 (by omega) (by omega) f2 (fun j q1 q2 => ?_)
        by_cases q : j = l
        · rw [q]
          refine Bool.eq_false_iff.mpr (fun q3 => z2 ?_)
          rw [fbl_sok.mpr q3]; rfl
        · exact no j q1 (by omega)
      · have z3 : fbl P hd bd (2 ^ k ||| 2 ^ l) = 24 := nI_inj (by omega) (by decide) z2
        refine fnd_is l24 ?_ (fun j hj => ?_)
        · rw [decide_eq_true hkl, fbl_sok.mp z3]; rfl
        · by_cases q : k < j
          · rw [no j q hj]; simp
          · rw [decide_eq_false q]; rfl
theorem srt_2 {P : Pm} {hd : Hd} {bd k : Nat} (h0 : sok P hd bd 0 = false) (h1 : fnd (fun one => sok P hd bd (2 ^ one)) 24 = none) (h2 : fnd (fun one => (sor2 P hd bd one).isSome) 24 = some k) : sortS P hd bd = (2, nI k, nO (sor2 P hd bd k)) := by
  unfold sortS
  rw [if_neg (by rw [h0]; decide), h1, h2]
theorem srt_n {P : Pm} {hd : Hd} {bd : Nat} (h0 : sok P hd bd 0 = false) (h1 : fnd (fun one => sok P hd bd (2 ^ one)) 24 = none) (h2 : fnd (fun one => (sor2 P hd bd one).isSome) 24 = none) : sortS P hd bd = (-1, -1, -1) := by
  unfold sortS
  rw [if_neg (by rw [h0]; decide), h1, h2]
theorem srt_1 {P : Pm} {hd : Hd} {bd k : Nat} (h0 : sok P hd bd 0 = false) (h1 : fnd (fun one => sok P hd bd (2 ^ one)) 24 = some k) : sortS P hd bd = (1, nI k, -1) := by
  unfold sortS
  rw [if_neg (by rw [h0]; decide), h1]
set_option maxHeartbeats 2000000 in
theorem two_out {E : En} {Q : Option Value → Hi → Prop} {H0 : Hi} {P : Pm} {hd : Hd} {a bd n : Nat} (hFa : FamC P H0) (hTa : ToldC P hd a H0) (h23 : Rs P (st0 P) (H0 23)) (hb : bd ≤ 72) (hn : n = fbl P hd bd 0) (h24 : n < 24) (hr : RowC (H0 77) (-1, -1, -1))
    (hb79 : ∀ k, k ≤ n → H0 79 k = nI (fbl P hd bd (2 ^ k)) ∧ fbl P hd bd (2 ^ k) < 24)
    (hq : ∀ H' : Hi, frZ H0 H' → RowC (H' 77) (sortS P hd bd) → Q none H') :
    ∀ (m k : Nat) (H : Hi), k + m = n + 1 → (∀ d, d ≠ 80 → H d = H0 d) → (∀ j, j < k → sor2 P hd bd j = none) →
      Rm E mX3_planTwoSortings Q 2 [some (rf E 75), some (.int (nI bd)), some (.int (nI n)), some (.int (nI k)), none] [] H := by
  have h0 : sok P hd bd 0 = false := by
    refine Bool.eq_false_iff.mpr (fun q => ?_)
    have := fbl_sok.mpr q
    omega
  have h1 : fnd (fun one => sok P hd bd (2 ^ one)) 24 = none := fnd_z (fun j hj => by
    by_cases q : j ≤ n
    · refine Bool.eq_false_iff.mpr (fun q2 => ?_)
      have := fbl_sok.mpr q2
      have := (hb79 j q).2
      omega
    · exact late1 hn h24 (by omega))
  intro m
  induction m with
  | zero =>
    intro k H hk f1 no
    have fin : Q none H := by
      refine hq H (fun d q1 q2 q3 => f1 d q3) ?_
      rw [srt_n h0 h1 (fnd_z (fun j hj => ?_)), f1 77 (by decide)]
      · exact hr
      · by_cases q : j < k
        · rw [no j q]; rfl
        · have e : sor2 P hd bd j = none := fnd_z (fun i hi => by
            by_cases q2 : j < i
            · rw [late2 hn h24 (by omega) (by omega)]; simp
            · rw [decide_eq_false q2]; rfl)
          rw [e]; rfl
    exact sgX3_planTwoSortings_2 ⟨fun _ => fin, fun z => absurd (nI_lt (show n < k by omega) (by omega)) z⟩
  | succ m ih =>
    intro k H hk f1 no
    refine sgX3_planTwoSortings_2 ⟨fun z => ?_, fun z => ⟨fun z2 => ?_, fun z2 x ex => ?_⟩⟩
    · have := (nI_ltI (by omega) (by omega)).mp z; omega
    · have := (nI_leI (a := 24) (by omega) (by omega)).mp z2; omega
    · rw [ex, ← nI_succ]
      refine two_in (k := k) (a := a) (fam_keep st_80 hFa f1) (told_keep st_80 hTa f1) (by rw [f1 23 (by decide)]; exact h23) hb h24 (by omega) (by rw [f1 79 (by decide)]; exact (hb79 k (by omega)).1) (hb79 k (by omega)).2 ?_ ?_ (24 - k) (k + 1) H (by omega) (by omega) (fun _ _ => rfl) (fun j q1 q2 => by omega)
      · intro H1 g1 e1
        refine ih (k + 1) H1 (by omega) (fun d q => by rw [g1 d q, f1 d q]) (fun j hj => ?_)
        by_cases q : j = k
        · rw [q]; exact e1
        · exact no j (by omega)
      · intro H1 l g1 e1
        refine hq _ (fun d q1 q2 q3 => by rw [row3_n q1, g1 d q3, f1 d q3]) ?_
        have e2 : fnd (fun one => (sor2 P hd bd one).isSome) 24 = some k := fnd_is (by omega) (by rw [e1]; rfl) (fun j hj => by rw [no j hj]; rfl)
        have e3 : sortS P hd bd = (2, nI k, nI l) := by
          rw [srt_2 h0 h1 e2, e1]; rfl
        rw [e3]; exact row3_c
set_option maxHeartbeats 2000000 in
theorem one_loop {E : En} {Q : Option Value → Hi → Prop} {H0 : Hi} {P : Pm} {hd : Hd} {a bd n : Nat} (hFa : FamC P H0) (hTa : ToldC P hd a H0) (h23 : Rs P (st0 P) (H0 23)) (hb : bd ≤ 72) (hn : n = fbl P hd bd 0) (h24 : n < 24) (hr : RowC (H0 77) (-1, -1, -1))
    (hq : ∀ H' : Hi, frZ H0 H' → RowC (H' 77) (sortS P hd bd) → Q none H') :
    ∀ (m k : Nat) (H : Hi), k + m = n + 1 → (∀ d, d ≠ 79 → d ≠ 80 → H d = H0 d) → (∀ j, j < k → H 79 j = nI (fbl P hd bd (2 ^ j)) ∧ fbl P hd bd (2 ^ j) < 24) →
      Rm E mX3_planSort Q 50 [some (rf E 75), some (.int (nI bd)), some (.int (nI n)), some (.int (nI k))] [] H := by
  have h0 : sok P hd bd 0 = false := by
    refine Bool.eq_false_iff.mpr (fun q => ?_)
    have := fbl_sok.mpr q
    omega
  intro m
  induction m with
  | zero =>
    intro k H hk f1 no
    have hF := fam_keep2 hFa (fun d q1 q2 => f1 d (by omega) (by omega))
    have hT := told_keep2 hTa (fun d q1 q2 => f1 d (by omega) (by omega))
    refine sgX3_planSort_50 ⟨fun _ => cmX3_planTwoSortings ?_, fun z => absurd (nI_lt (show n < k by omega) (by omega)) z⟩
    refine two_out hF hT (by rw [f1 23 (by decide) (by decide)]; exact h23) hb hn h24 (by rw [f1 77 (by decide) (by decide)]; exact hr) (fun j hj => no j (by omega)) ?_ (n + 1) 0 H (by omega) (fun _ _ => rfl) (fun j hj => absurd hj (Nat.not_lt_zero j))
    intro H1 g1 r1
    exact ⟨rfl, hq H1 (fun d q1 q2 q3 => by rw [g1 d q1 q2 q3, f1 d q2 q3]) r1⟩
  | succ m ih =>
    intro k H hk f1 no
    have hF := fam_keep2 hFa (fun d q1 q2 => f1 d (by omega) (by omega))
    have hT := told_keep2 hTa (fun d q1 q2 => f1 d (by omega) (by omega))
    refine sgX3_planSort_50 ⟨fun z => ?_, fun z => ?_⟩
    · have := (nI_ltI (by omega) (by omega)).mp z; omega
    · rw [i_one k (by omega)]
      refine ct_fb hF hT (by rw [f1 23 (by decide) (by decide)]; exact h23) hb (Nat.pow_lt_pow_right (by decide) (by omega)) ?_
      intro H1 g1
      refine ⟨_, rfl, k, ⟨by omega, rfl⟩, fun H2 g2 => ⟨k, ⟨by omega, rfl⟩, ?_⟩⟩
      have e79 : H2 79 k = nI (fbl P hd bd (2 ^ k)) := by rw [g2, up_s, upd_s]
      have f2 : ∀ d, d ≠ 79 → d ≠ 80 → H2 d = H0 d := fun d q1 q2 => by rw [g2, up_n q1, g1 d q2, f1 d q1 q2]
      have le := fbl_le (P := P) (hd := hd) (bd := bd) (au := 2 ^ k)
      rw [e79]
      refine ⟨fun z2 x ex => ?_, fun z2 => ct_plan77 ⟨rfl, ?_⟩⟩
      · rw [ex, ← nI_succ]
        have z3 : ¬ fbl P hd bd (2 ^ k) = 24 := fun q => z2 (by rw [q]; rfl)
        refine ih (k + 1) H2 (by omega) f2 (fun j hj => ?_)
        by_cases q : j = k
        · rw [q]; exact ⟨e79, by omega⟩
        · rw [g2, up_s, upd_n q, g1 79 (by decide)]
          exact no j (by omega)
      · have z3 : fbl P hd bd (2 ^ k) = 24 := nI_inj (by omega) (by decide) z2
        refine hq _ (fun d q1 q2 q3 => by rw [row3_n q1, f2 d q2 q3]) ?_
        have e1 : fnd (fun one => sok P hd bd (2 ^ one)) 24 = some k := fnd_is (by omega) (fbl_sok.mp z3) (fun j hj => by
          refine Bool.eq_false_iff.mpr (fun q => ?_)
          have := fbl_sok.mpr q
          have := (no j hj).2
          omega)
        rw [srt_1 h0 e1]; exact row3_c
set_option maxHeartbeats 2000000 in
theorem ct_planSort {E : En} {Q : Option Value → Hi → Prop} {H : Hi} {b : Bd} {bd : Nat} (hF : FR b H) (hb : bd ≤ 72)
    (hq : ∀ H' : Hi, frP H H' → FR b H' → RowC (H' 77) (sortS (dP b) (dH b) bd) → Q none H') : Cm E mX3_planSort [rf E 75, .int (nI bd)] H Q := by
  have ok := hF.1.1
  refine cmX3_planSort ⟨fun z H1 g1 => ct_plan77 ⟨rfl, ?_⟩, fun z => ?_⟩
  · have k2 : ∀ d, d ≠ 75 → d ≠ 77 → row3 H1 77 (-1, -1, -1) d = H d := fun d q1 q2 => by rw [row3_n q2, g1, up_n q1]
    have k75 : row3 H1 77 (-1, -1, -1) 75 = upd (H 75) 6 (nI bd) := by rw [row3_n (by decide), g1, up_s]
    have fin : ∀ H' : Hi, (∀ d, d ≠ 75 → d ≠ 77 → d ≠ 79 → d ≠ 80 → H' d = H d) → H' 75 = upd (H 75) 6 (nI bd) → RowC (H' 77) (sortS (dP b) (dH b) bd) → Q none H' := by
      intro H' f' e75 hr
      refine hq H' (fun d hd => f' d (by omega) (by omega) (by omega) (by omega)) ⟨fam_keep2 hF.1 (fun d q1 q2 => f' d (by omega) (by omega) (by omega) (by omega)), told_keep2 hF.2.1 (fun d q1 q2 => f' d (by omega) (by omega) (by omega) (by omega)), ho_keep hF.2.2.1 (fun d q1 q2 q3 => f' d (by omega) (by omega) (by omega) (by omega)), ?_, Or.inr ⟨bd, hb, by rw [e75, upd_s], hr⟩⟩ hr
      rw [e75, upd_n (by decide), f' 76 (by decide) (by decide) (by decide) (by decide)]
      exact hF.2.2.2.1
    have hF2 : FamC (dP b) (row3 H1 77 (-1, -1, -1)) := fam_keep2 hF.1 (fun d q1 q2 => k2 d (by omega) (by omega))
    have hT2 : ToldC (dP b) (dH b) (dA b) (row3 H1 77 (-1, -1, -1)) := told_keep2 hF.2.1 (fun d q1 q2 => k2 d (by omega) (by omega))
    refine ct_fb hF2 hT2 (by rw [k2 23 (by decide) (by decide)]; exact hF.2.2.1.1) hb (show 0 < 2 ^ 24 by decide) ?_
    intro H3 g3
    have le := fbl_le (P := dP b) (hd := dH b) (bd := bd) (au := 0)
    have k3 : ∀ d, d ≠ 75 → d ≠ 77 → d ≠ 80 → H3 d = H d := fun d q1 q2 q3 => by rw [g3 d q3, k2 d q1 q2]
    have k375 : H3 75 = upd (H 75) 6 (nI bd) := by rw [g3 75 (by decide), k75]
    refine ⟨_, rfl, fun z2 => ?_, fun z2 => ct_plan77 ⟨rfl, ?_⟩⟩
    · have z3 : ¬ fbl (dP b) (dH b) bd 0 = 24 := fun q => z2 (by rw [q]; rfl)
      refine one_loop (P := dP b) (hd := dH b) (a := dA b) (n := fbl (dP b) (dH b) bd 0) (fam_keep st_80 hF2 g3) (told_keep st_80 hT2 g3) (by rw [k3 23 (by decide) (by decide) (by decide)]; exact hF.2.2.1.1) hb rfl (by omega) (by rw [g3 77 (by decide)]; exact row3_c) ?_ (fbl (dP b) (dH b) bd 0 + 1) 0 H3 (by omega) (fun _ _ _ => rfl) (fun j hj => absurd hj (Nat.not_lt_zero j))
      intro H4 g4 r4
      exact fin H4 (fun d q1 q2 q3 q4 => by rw [g4 d q2 q3 q4, k3 d q1 q2 q4]) (by rw [g4 75 (by decide) (by decide) (by decide), k375]) r4
    · have z3 : fbl (dP b) (dH b) bd 0 = 24 := nI_inj (by omega) (by decide) z2
      refine fin _ (fun d q1 q2 q3 q4 => by rw [row3_n q2]; exact k3 d q1 q2 q4) (by rw [row3_n (by decide)]; exact k375) ?_
      have e : sortS (dP b) (dH b) bd = (0, -1, -1) := by unfold sortS; rw [if_pos (fbl_sok.mp z3)]
      rw [e]; exact row3_c
  · refine hq H (fun _ _ => rfl) hF ?_
    rcases hF.2.2.2.2 with q | ⟨bd', q1, q2, q3⟩
    · rw [q] at z
      have z2 : (nI bd).toInt = (-1 : Int32).toInt := by rw [z]
      rw [nI_toInt (by omega)] at z2
      have : (-1 : Int32).toInt = -1 := by decide
      omega
    · rw [q2] at z
      rw [nI_inj (by omega) (by omega) z]; exact q3
def sSort (b : Bd) (x1 x2 : Int32) : Int32 × Bd := if inN 73 x1 = true ∧ isR x2 = true then (rowT (sortS (dP b) (dH b) (un x1)) x2, b) else (-2, b)
theorem cc_sort {E : En} {b : Bd} {x1 x2 : Int32} : Cc E mX9_sort [rf E 0, .int x1, .int x2] b (sSort b x1 x2) := by
  intro H0 Q hC hq
  refine cmX9_sort (ct_refresh hC fun H kH hB hF h9 => ⟨rfl, ?_⟩)
  have bad : sSort b x1 x2 = (-2, b) → Q (some (.int (-2))) H := fun e => by
    rw [e] at hq; exact hq H kH (ci_fr hB hF)
  refine ⟨fun z => bad (if_neg (by rw [inN_f0 z]; simp)), fun z0 => ⟨fun z => bad (if_neg (by rw [inN_gt (N := 72) (by decide) z]; simp)), fun z1 => ?_⟩⟩
  have i1 := inN_ngt (N := 72) (by decide) z0 z1
  refine ct_isRow ⟨_, rfl, fun z5 => ?_, fun z => bad (if_neg (by rw [bI_0.mp z]; simp))⟩
  obtain ⟨n, a1, b1, d1⟩ := inN_of i1 (by decide)
  have e : sSort b x1 x2 = _ := if_pos ⟨i1, bI_1 z5⟩
  rw [e, d1] at hq
  rw [b1]
  refine ct_planSort hF (by omega) (fun H' f' F' r' => ⟨rfl, ct_told77 r' ⟨_, rfl, ?_⟩⟩)
  exact hq H' (fun c hc => by rw [f' c (by omega)]; exact kH c hc) (ci_fr (cb_frP hB f') F')
