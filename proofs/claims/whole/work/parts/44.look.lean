/-! one hand more -/
theorem fr_k2 {b : Bd} {H H' : Hi} (hF : FR b H) (h : ∀ c, 1 ≤ c → c ≤ 77 → c ≠ 26 → H' c = H c) : FR b H' := by
  have k : ∀ c, (1 ≤ c ∧ c ≤ 25) ∨ (27 ≤ c ∧ c ≤ 77) → H' c = H c := fun c hc => h c (by omega) (by omega) (by omega)
  obtain ⟨f1, f2, f3, f4⟩ := hF
  refine ⟨fam_keep2 f1 (fun c z1 z2 => k c (by omega)), told_keep2 f2 (fun c z1 z2 => k c (by omega)), ?_, ?_⟩
  · obtain ⟨o1, o2, o3, o4⟩ := f3
    refine ⟨by rw [k 23 (by omega)]; exact o1, by rw [k 23 (by omega)]; exact o2, by rw [k 22 (by omega)]; exact o3, fun j hj => ?_⟩
    rw [k (27 + 2 * j) (by omega), k (28 + 2 * j) (by omega)]
    exact o4 j hj
  · unfold PlC
    rw [k 75 (by omega), k 76 (by omega), k 77 (by omega)]
    exact f4
theorem goN_st {P : Pm} {hd : Hd} {a : Nat} : ∀ m h, goN P hd a h m (stN P hd a h) = stN P hd a (h + m)
  | 0, h => rfl
  | m + 1, h => by
    show goN P hd a (h + 1) m (stN P hd a (h + 1)) = _
    rw [goN_st m (h + 1), show h + 1 + m = h + (m + 1) by omega]
theorem goN_s {P : Pm} {hd : Hd} {a : Nat} : ∀ m h s, goN P hd a h (m + 1) s = hr P hd a (h + m) (goN P hd a h m s)
  | 0, h, s => rfl
  | m + 1, h, s => by
    show goN P hd a (h + 1) (m + 1) (hr P hd a h s) = hr P hd a (h + (m + 1)) (goN P hd a (h + 1) m (hr P hd a h s))
    rw [goN_s m (h + 1), show h + 1 + m = h + (m + 1) by omega]
def lkM (b : Bd) (g k : Nat) : Sg := act (dP b) (mid (dP b) (dH b) g (dSt b g)) k
def lkS (b : Bd) (g k h : Nat) : Sg := if h < g then dSt b (h + 1) else goN (dP b) (dH b) (dA b) (g + 1) (h - g) (clo (dP b) (dA b) g (lkM b g k))
theorem lkS_n {b : Bd} {g k h : Nat} (hn : (rch (dP b) (mid (dP b) (dH b) g (dSt b g)) k).isSome = false) : lkS b g k h = dSt b (h + 1) := by
  unfold lkS
  by_cases q : h < g
  · rw [if_pos q]
  · rw [if_neg q]
    have e : lkM b g k = mid (dP b) (dH b) g (dSt b g) := by
      unfold lkM act
      rw [Option.isSome_eq_false_iff, Option.isNone_iff_eq_none] at hn
      rw [hn]; rfl
    rw [e]
    show goN (dP b) (dH b) (dA b) (g + 1) (h - g) (stN (dP b) (dH b) (dA b) (g + 1)) = _
    rw [goN_st, show g + 1 + (h - g) = h + 1 by omega]
    rfl
theorem lkS_g {b : Bd} {g k : Nat} : lkS b g k g = clo (dP b) (dA b) g (lkM b g k) := by
  unfold lkS
  rw [if_neg (Nat.lt_irrefl _), Nat.sub_self]
  rfl
theorem lkS_s {b : Bd} {g k h : Nat} (hh : g ≤ h) : lkS b g k (h + 1) = hr (dP b) (dH b) (dA b) (h + 1) (lkS b g k h) := by
  unfold lkS
  rw [if_neg (by omega), if_neg (by omega), show h + 1 - g = (h - g) + 1 by omega, goN_s, show g + 1 + (h - g) = h + 1 by omega]
theorem lkM_wf {b : Bd} {g k : Nat} (hm : pM (dP b) ≤ 8) : Wf (dP b) (lkM b g k) := act_wf (mid_wf (stN_wf hm _))
theorem lkS_wf {b : Bd} {g k : Nat} (hm : pM (dP b) ≤ 8) : ∀ h, Wf (dP b) (lkS b g k h) := by
  intro h
  by_cases q : h < g
  · unfold lkS; rw [if_pos q]; exact stN_wf hm _
  · obtain ⟨m, rfl⟩ : ∃ m, h = g + m := ⟨h - g, by omega⟩
    induction m with
    | zero => rw [Nat.add_zero, lkS_g]; exact clo_wf hm (lkM_wf hm)
    | succ m ih => rw [← Nat.add_assoc, lkS_s (by omega)]; exact hr_wf hm (ih (by omega))
def SeC (b : Bd) (g k n : Nat) (H : Hi) : Prop := ∀ h, h < n → H 88 h = nI (bs (inP (lkS b g k h)) (pN (dP b)))
def frL (H0 H : Hi) : Prop := ∀ c, c ≠ 87 → c ≠ 88 → H c = H0 c
theorem look_loop {E : En} {Q : Option Value → Hi → Prop} {H0 : Hi} {b : Bd} {g k w : Nat} (hF0 : FR b H0) (hg : g < 24)
    (hw : w = if (rch (dP b) (mid (dP b) (dH b) g (dSt b g)) k).isSome = true then 1 else 0)
    (hq : ∀ H' : Hi, frL H0 H' → SeC b g k 24 H' → Q none H') :
    ∀ (m h : Nat) (H : Hi), h + m = 24 → frL H0 H → SeC b g k h H → (h ≤ g → Rs (dP b) (lkM b g k) (H 87)) → (g < h → w = 1 → Rs (dP b) (lkS b g k (h - 1)) (H 87)) →
      Rm E mX1_look Q 32 [some (rf E 86), some (.int (nI g)), none, some (.int (nI w)), some (.int (nI h))] [] H := by
  have ok := hF0.1.1
  have m8 := ok.2.1
  intro m
  induction m with
  | zero =>
    intro h H hh fH sH r1 r2
    have e : h = 24 := by omega
    subst e
    exact sgX1_look_32 ⟨fun _ => hq H fH sH, fun z => absurd (show nI 24 ≤ nI 24 from nI_le (by omega) (by omega)) z⟩
  | succ m ih =>
    intro h H hh fH sH r1 r2
    have hF : FR b H := fr_k2 hF0 (fun c z1 z2 _ => fH c (by omega) (by omega))
    have w1 : w < 2 := by rw [hw]; split <;> omega
    -- what is seen is put down
    have nx : ∀ (H1 H2 : Hi) (y x : Int32), frL H0 H1 → SeC b g k h H1 → y = nI (bs (inP (lkS b g k h)) (pN (dP b))) → H2 = up H1 88 h y → x = nI h + 1 → (h < g → Rs (dP b) (lkM b g k) (H1 87)) → (g ≤ h → w = 1 → Rs (dP b) (lkS b g k h) (H1 87)) →
        Rm E mX1_look Q 32 [some (rf E 86), some (.int (nI g)), none, some (.int (nI w)), some (.int x)] [] H2 := by
      intro H1 H2 y x f1 s1 ey e2 ex p1 p2
      rw [ex, ← nI_succ]
      refine ih (h + 1) H2 (by omega) (fun c z1 z2 => by rw [e2, up_n z2]; exact f1 c z1 z2) (fun j hj => ?_) (fun q => by rw [e2, up_n (by decide)]; exact p1 (by omega)) (fun q q2 => by rw [e2, up_n (by decide), Nat.add_sub_cancel]; exact p2 (by omega) q2)
      rw [e2, up_s]
      by_cases ej : j = h
      · rw [ej, upd_s]; exact ey
      · rw [upd_n ej]; exact s1 j (by omega)
    have wn : ¬ w = 1 → (rch (dP b) (mid (dP b) (dH b) g (dSt b g)) k).isSome = false := by
      intro q
      cases e : (rch (dP b) (mid (dP b) (dH b) g (dSt b g)) k).isSome
      · rfl
      · rw [e] at hw; exact absurd hw q
    have beh : H (28 + 2 * h) 1 = nI (bs (inP (dSt b (h + 1))) (pN (dP b))) := (hF.2.2.1.2.2.2 h (by omega)).2.2.1
    have au : H 11 1 = nI (dA b) := hF.2.1.2.2.2.2.2.2.1
    have al : dA b < 2 ^ 24 := hF.2.1.2.2.2.2.2.2.2
    refine sgX1_look_32 ⟨fun z => absurd z ?_, fun _ => ⟨fun z => ⟨h, ⟨by omega, rfl⟩, h, ⟨by omega, rfl⟩, fun H2 e2 x ex => ?_⟩, fun z => ⟨fun z2 => ?_, fun z2 => ⟨h, ⟨by omega, rfl⟩, h, ⟨by omega, rfl⟩, fun H2 e2 x ex => ?_⟩⟩⟩⟩
    · show ¬ nI 24 ≤ nI h
      rw [nI_leI (by decide) (by omega)]; omega
    · have w0 := (nI_eq0 (n := w) (by omega)).mp z
      refine nx H H2 _ x fH sH ?_ e2 ex (fun q => r1 (by omega)) (fun _ q => absurd q (by omega))
      rw [beh, lkS_n (wn (by omega))]
    · have w0 : w = 1 := by
        have : ¬ w = 0 := fun q => z (by rw [q]; rfl)
        omega
      have z2' : g ≤ h := (nI_leI (by omega) (by omega)).mp z2
      refine ⟨fun z3 => ?_, fun z3 => ?_⟩
      · have z3' : h ≤ g := (nI_leI (by omega) (by omega)).mp z3
        have eg : h = g := by omega
        rw [au]
        refine ct_close hF.1 hF.2.1 st_87 (r1 z3') (lkM_wf m8) (by omega) al ?_
        intro H1 f1 s1
        refine ⟨rfl, h, ⟨by omega, rfl⟩, fun H2 e2 x ex => ?_⟩
        have s1' : Rs (dP b) (lkS b g k h) (H1 87) := by rw [eg, lkS_g]; rw [eg] at s1; exact s1
        exact nx H1 H2 _ x (fun c q1 q2 => by rw [f1 c q1]; exact fH c q1 q2) (fun j hj => by rw [f1 88 (by decide)]; exact sH j hj) s1'.2.1 e2 ex (fun q => absurd q (by omega)) (fun _ _ => s1')
      · have z3' : g < h := by rw [nI_leI (by omega) (by omega)] at z3; omega
        refine ct_open hF.1 hF.2.1 st_87 (r2 z3' w0) (lkS_wf m8 _) (by omega) ?_
        intro H1 f1 s1
        refine ⟨_, rfl, ?_⟩
        have hF1 : FR b H1 := fr_k2 hF (fun c q1 q2 _ => f1 c (by omega))
        rw [f1 11 (by decide), au]
        refine ct_close hF1.1 hF1.2.1 st_87 s1 (mid_wf (lkS_wf m8 _)) (by omega) al ?_
        intro H2 f2 s2
        refine ⟨rfl, h, ⟨by omega, rfl⟩, fun H3 e3 x ex => ?_⟩
        have s2' : Rs (dP b) (lkS b g k h) (H2 87) := by
          have e := lkS_s (b := b) (k := k) (show g ≤ h - 1 by omega)
          rw [show h - 1 + 1 = h by omega] at e
          rw [e]; exact s2
        exact nx H2 H3 _ x (fun c q1 q2 => by rw [f2 c q1, f1 c q1]; exact fH c q1 q2) (fun j hj => by rw [f2 88 (by decide), f1 88 (by decide)]; exact sH j hj) s2'.2.1 e3 ex (fun q => absurd q (by omega)) (fun _ _ => s2')
    · have z2' : h < g := by rw [nI_leI (by omega) (by omega)] at z2; omega
      refine nx H H2 _ x fH sH ?_ e2 ex (fun q => r1 (by omega)) (fun q => absurd q (by omega))
      have e : lkS b g k h = dSt b (h + 1) := if_pos z2'
      rw [beh, e]
theorem ct_look {E : En} {Q : Option Value → Hi → Prop} {H : Hi} {b : Bd} {g k : Nat} (hF : FR b H) (hg : g < 24) (hk : k < 128)
    (hq : ∀ H' : Hi, frL H H' → SeC b g k 24 H' → Q none H') : Cm E mX1_look [rf E 86, .int (nI g), .int (nI k)] H Q := by
  have ok := hF.1.1
  have m8 := ok.2.1
  refine cmX1_look ⟨g, ⟨hg, rfl⟩, ?_⟩
  refine ct_become st_87 (st_mid g hg).1 (hF.2.2.1.2.2.2 g hg).1 ?_
  intro H1 f1 s1
  refine ⟨rfl, ?_⟩
  have hF1 : FR b H1 := fr_k2 hF (fun c q1 q2 _ => f1 c (by omega))
  refine ct_reach hF1.1 st_87 s1 (mid_wf (stN_wf m8 _)) hk ?_
  intro H2 f2 s2
  refine ⟨_, rfl, ?_⟩
  exact look_loop (b := b) (g := g) (k := k) hF hg rfl hq 24 0 H2 rfl (fun c q1 q2 => by rw [f2 c q1, f1 c q1]) (fun h hh => absurd hh (Nat.not_lt_zero h)) (fun _ => s2) (fun q => absurd q (Nat.not_lt_zero g))
