/-! guesses -/
def alF (p : Nat → Bool) : Nat → Nat → Bool
  | 0, _ => true
  | m + 1, i => if p i = true then alF p m (i + 1) else false
def fok (b : Bd) (g k j : Nat) : Bool := decide (bs (inP (lkS b g k ((dF b).2.1 j))) (pN (dP b)) / 2 ^ ((dF b).2.2.1 j) % 2 = (dF b).2.2.2 j)
def cmo (b : Bd) (g k : Nat) : Bool := alF (fok b g k) (dF b).1 0
theorem out_loop {E : En} {Q : Option Value → Hi → Prop} {H : Hi} {b : Bd} {g k : Nat} (n8 : pN (dP b) ≤ 8) (hf : FeC b H) (hS : SeC b g k 24 H) :
    ∀ (m j : Nat), j + m = (dF b).1 → Q (some (.int (bI (alF (fok b g k) m j)))) H → Rm E mX1_comesOut Q 2 [some (rf E 86), some (.int (nI j))] [] H := by
  obtain ⟨f1, f2, f3⟩ := hf
  intro m
  induction m with
  | zero =>
    intro j hj hq
    refine sgX1_comesOut_2 ⟨fun _ => hq, fun z => absurd ?_ z⟩
    rw [f2]; exact nI_le (by omega) (by omega)
  | succ m ih =>
    intro j hj hq
    obtain ⟨e1, e2, e3, e4, e5, e6⟩ := f3 j (by omega)
    refine sgX1_comesOut_2 ⟨fun z => absurd z ?_, fun _ => ⟨j, ⟨by omega, rfl⟩, (dF b).2.1 j, ⟨e2, e1⟩, j, ⟨by omega, rfl⟩, j, ⟨by omega, rfl⟩, ?_⟩⟩
    · rw [f2, nI_leI (by omega) (by omega)]; omega
    have lt : bs (inP (lkS b g k ((dF b).2.1 j))) (pN (dP b)) < 2 ^ 31 := Nat.lt_of_lt_of_le (bs_lt _ _) (Nat.pow_le_pow_right (by decide) (by omega))
    rw [hS _ e2, e3, e5, i_bitN lt (by omega)]
    have iff1 : nI (bs (inP (lkS b g k ((dF b).2.1 j))) (pN (dP b)) / 2 ^ ((dF b).2.2.1 j) % 2) = nI ((dF b).2.2.2 j) ↔ fok b g k j = true := by
      constructor
      · intro q; exact decide_eq_true (nI_inj (by omega) (by omega) q)
      · intro q; rw [of_decide_eq_true q]
    rw [iff1]
    refine ⟨fun z x gx => ?_, fun z => ?_⟩
    · have e : alF (fok b g k) (m + 1) j = alF (fok b g k) m (j + 1) := if_pos z
      rw [e] at hq
      rw [gx, ← nI_succ]
      exact ih (j + 1) (by omega) hq
    · have e : alF (fok b g k) (m + 1) j = false := if_neg z
      rw [e] at hq
      exact hq
theorem ct_out {E : En} {Q : Option Value → Hi → Prop} {H : Hi} {b : Bd} {g k : Nat} (n8 : pN (dP b) ≤ 8) (hf : FeC b H) (hS : SeC b g k 24 H) (hq : Q (some (.int (bI (cmo b g k)))) H) : Cm E mX1_comesOut [rf E 86] H Q :=
  cmX1_comesOut (out_loop n8 hf hS (dF b).1 0 (Nat.zero_add _) hq)
theorem fe_keep {b : Bd} {H H' : Hi} (hf : FeC b H) (h : ∀ c, 11 ≤ c → c ≤ 18 → H' c = H c) : FeC b H' := by
  unfold FeC
  rw [h 11 (by decide) (by decide), h 16 (by decide) (by decide), h 17 (by decide) (by decide), h 18 (by decide) (by decide)]
  exact hf
def whB (b : Bd) (c t : Nat) : Nat → Bool := fun g => cmo b g (64 + 8 * c + t)
theorem fit_loop {E : En} {Q : Option Value → Hi → Prop} {H0 : Hi} {b : Bd} {c t : Nat} (hF0 : FR b H0) (hf0 : FeC b H0) (hc : c < 8) (ht : t < 8)
    (hq : ∀ H' : Hi, frL H0 H' → Q (some (.int (nI (bs (whB b c t) 24)))) H') :
    ∀ (m h : Nat) (H : Hi), h + m = 24 → frL H0 H → Rm E mX1_fittingHours Q 5 [some (rf E 86), some (.int (nI c)), some (.int (nI t)), some (.int (nI (bs (whB b c t) h))), some (.int (nI h))] [] H := by
  have ok := hF0.1.1
  intro m
  induction m with
  | zero =>
    intro h H hh fH
    have e : h = 24 := by omega
    subst e
    exact sgX1_fittingHours_5 ⟨fun _ => hq H fH, fun z => absurd (show nI 24 ≤ nI 24 from nI_le (by omega) (by omega)) z⟩
  | succ m ih =>
    intro h H hh fH
    have hF : FR b H := fr_k2 hF0 (fun c z1 z2 _ => fH c (by omega) (by omega))
    refine sgX1_fittingHours_5 ⟨fun z => absurd z ?_, fun _ => ?_⟩
    · show ¬ nI 24 ≤ nI h
      rw [nI_leI (by decide) (by omega)]; omega
    have e : (64 : Int32) + 8 * nI c + nI t = nI (64 + 8 * c + t) := by
      show nI 64 + nI 8 * nI c + nI t = _
      rw [ni_mulN, nI_add, nI_add]
    rw [e]
    refine ct_look hF (show h < 24 by omega) (show 64 + 8 * c + t < 128 by omega) ?_
    intro H1 f1 s1
    refine ⟨rfl, ?_⟩
    have fH1 : frL H0 H1 := fun c q1 q2 => by rw [f1 c q1 q2]; exact fH c q1 q2
    refine ct_out ok.1 (fe_keep hf0 (fun c q1 q2 => fH1 c (by omega) (by omega))) s1 ⟨_, rfl, fun z x gx => ?_, fun z y gy x gx => ?_⟩
    · have e : bs (whB b c t) (h + 1) = bs (whB b c t) h := by rw [bs_succ, if_neg (by rw [show whB b c t h = false from bI_0.mp z]; simp)]
      have := ih (h + 1) H1 (by omega) fH1
      rw [e, nI_succ] at this
      rw [gx]; exact this
    · have e : bs (whB b c t) (h + 1) = bs (whB b c t) h ||| 2 ^ h := by rw [bs_succ, if_pos (show whB b c t h = true from bI_1 z)]
      have := ih (h + 1) H1 (by omega) fH1
      rw [e, nI_succ, ← nI_or] at this
      rw [gx, gy, i_one h (by omega)]; exact this
theorem ct_fit {E : En} {Q : Option Value → Hi → Prop} {H : Hi} {b : Bd} {c t : Nat} (hF : FR b H) (hf : FeC b H) (hc : c < 8) (ht : t < 8)
    (hq : ∀ H' : Hi, frL H H' → Q (some (.int (nI (bs (whB b c t) 24)))) H') : Cm E mX1_fittingHours [rf E 86, .int (nI c), .int (nI t)] H Q :=
  cmX1_fittingHours (fit_loop hF hf hc ht hq 24 0 H rfl (fun _ _ _ => rfl))
theorem ci_frL {b : Bd} {H H' : Hi} (hB : CB b H) (hF : FR b H) (h : frL H H') : CI b H' :=
  ci_fr (cb_keep hB (fun c z1 z2 => h c (by omega) (by omega)) (fun c z1 z2 => h c (by omega) (by omega)) (fun c z1 z2 => h c (by omega) (by omega)) (by rw [h 0 (by decide) (by decide)]) (fun k z1 z2 => by rw [h 23 (by decide) (by decide)]; exact hB.2.2.2.2.2.2 k z1 z2)) (fr_k2 hF (fun c z1 z2 _ => h c (by omega) (by omega)))
def sWhen (b : Bd) (x y : Int32) : Int32 × Bd :=
  if inN (pM (dP b)) x = true ∧ inN (pN (dP b)) y = true then (nI (bs (whB b (un x) (un y)) 24), b) else (-2, b)
theorem cc_when {E : En} {b : Bd} {x y : Int32} : Cc E mX9_when [rf E 0, .int x, .int y] b (sWhen b x y) := by
  intro H0 Q hC hq
  refine cmX9_when (ct_refresh hC fun H kH hB hF h9 => ⟨rfl, ?_⟩)
  have ok := hF.1.1
  have bad : sWhen b x y = (-2, b) → Q (some (.int (-2))) H := fun e => by
    rw [e] at hq; exact hq H kH (ci_fr hB hF)
  refine ct_isCousin hF.1 ⟨_, rfl, fun z => bad (if_neg (by rw [bI_0.mp z]; simp)), fun z1 => ct_isThing hF.1 ⟨_, rfl, fun z => bad (if_neg (by rw [bI_0.mp z]; simp)), fun z2 => ?_⟩⟩
  have e : sWhen b x y = _ := if_pos ⟨bI_1 z1, bI_1 z2⟩
  rw [e] at hq
  obtain ⟨c, a1, b1, d1⟩ := inN_of (bI_1 z1) (by have := ok.2.1; omega)
  obtain ⟨t, a2, b2, d2⟩ := inN_of (bI_1 z2) (by have := ok.1; omega)
  rw [d1, d2] at hq
  rw [b1, b2]
  exact ct_fit hF hB.2.2.2.1 (by have := ok.2.1; omega) (by have := ok.1; omega) (fun H' f' => ⟨_, rfl, hq H' (fun c hc => by rw [f' c (by omega) (by omega)]; exact kH c hc) (ci_frL hB hF f')⟩)
def thB (b : Bd) (t : Nat) : Nat → Bool := fun c => decide (bs (whB b c t) 24 ≠ 0)
theorem sus_loop {E : En} {Q : Option Value → Hi → Prop} {H0 : Hi} {b : Bd} {t : Nat} (hF0 : FR b H0) (hf0 : FeC b H0) (ht : t < 8)
    (hq : ∀ H' : Hi, frL H0 H' → Q (some (.int (nI (bs (thB b t) (pM (dP b)))))) H') :
    ∀ (m c : Nat) (H : Hi), c + m = pM (dP b) → frL H0 H → Rm E mX1_suspects Q 4 [some (rf E 86), some (.int (nI t)), some (.int (nI (bs (thB b t) c))), some (.int (nI c))] [] H := by
  have ok := hF0.1.1
  have m8 := ok.2.1
  intro m
  induction m with
  | zero =>
    intro c H hc fH
    have hF : FR b H := fr_k2 hF0 (fun c z1 z2 _ => fH c (by omega) (by omega))
    have e : c = pM (dP b) := by omega
    subst e
    refine sgX1_suspects_4 ⟨fun _ => hq H fH, fun z => absurd ?_ z⟩
    rw [hF.1.2.2.1]; exact nI_le (by omega) (by omega)
  | succ m ih =>
    intro c H hc fH
    have hF : FR b H := fr_k2 hF0 (fun c z1 z2 _ => fH c (by omega) (by omega))
    refine sgX1_suspects_4 ⟨fun z => absurd z ?_, fun _ => ?_⟩
    · rw [hF.1.2.2.1, nI_leI (by omega) (by omega)]; omega
    refine ct_fit hF (fe_keep hf0 (fun c q1 q2 => fH c (by omega) (by omega))) (show c < 8 by omega) ht ?_
    intro H1 f1
    have fH1 : frL H0 H1 := fun c q1 q2 => by rw [f1 c q1 q2]; exact fH c q1 q2
    have lt : bs (whB b c t) 24 < 2 ^ 31 := Nat.lt_of_lt_of_le (bs_lt _ _) (by decide)
    refine ⟨_, rfl, ?_⟩
    rw [nI_eq0 lt]
    refine ⟨fun z x gx => ?_, fun z y gy x gx => ?_⟩
    · have e : bs (thB b t) (c + 1) = bs (thB b t) c := by rw [bs_succ, if_neg (show ¬ thB b t c = true from fun q => of_decide_eq_true q z)]
      have := ih (c + 1) H1 (by omega) fH1
      rw [e, nI_succ] at this
      rw [gx]; exact this
    · have e : bs (thB b t) (c + 1) = bs (thB b t) c ||| 2 ^ c := by rw [bs_succ, if_pos (show thB b t c = true from decide_eq_true z)]
      have := ih (c + 1) H1 (by omega) fH1
      rw [e, nI_succ, ← nI_or] at this
      rw [gx, gy, i_one c (by omega)]; exact this
theorem ct_sus {E : En} {Q : Option Value → Hi → Prop} {H : Hi} {b : Bd} {t : Nat} (hF : FR b H) (hf : FeC b H) (ht : t < 8)
    (hq : ∀ H' : Hi, frL H H' → Q (some (.int (nI (bs (thB b t) (pM (dP b)))))) H') : Cm E mX1_suspects [rf E 86, .int (nI t)] H Q :=
  cmX1_suspects (sus_loop hF hf ht hq _ 0 H (Nat.zero_add _) (fun _ _ _ => rfl))
def sThief (b : Bd) (x : Int32) : Int32 × Bd :=
  if inN (pN (dP b)) x = true then (nI (bs (thB b (un x)) (pM (dP b))), b) else (-2, b)
theorem cc_thief {E : En} {b : Bd} {x : Int32} : Cc E mX9_thief [rf E 0, .int x] b (sThief b x) := by
  intro H0 Q hC hq
  refine cmX9_thief (ct_refresh hC fun H kH hB hF h9 => ⟨rfl, ?_⟩)
  have ok := hF.1.1
  have bad : sThief b x = (-2, b) → Q (some (.int (-2))) H := fun e => by
    rw [e] at hq; exact hq H kH (ci_fr hB hF)
  refine ct_isThing hF.1 ⟨_, rfl, fun z => bad (if_neg (by rw [bI_0.mp z]; simp)), fun z1 => ?_⟩
  have e : sThief b x = _ := if_pos (bI_1 z1)
  rw [e] at hq
  obtain ⟨t, a2, b2, d2⟩ := inN_of (bI_1 z1) (by have := ok.1; omega)
  rw [d2] at hq
  rw [b2]
  exact ct_sus hF hB.2.2.2.1 (by have := ok.1; omega) (fun H' f' => ⟨_, rfl, hq H' (fun c hc => by rw [f' c (by omega) (by omega)]; exact kH c hc) (ci_frL hB hF f')⟩)
