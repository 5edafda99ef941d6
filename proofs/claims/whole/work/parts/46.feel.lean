/-! feel -/
def frM (H0 H : Hi) : Prop := ∀ c, c ≠ 87 → c ≠ 88 → c ≠ 89 → H c = H0 c
def sn1 (b : Bd) (t g k h : Nat) : Nat := bs (inP (lkS b g k h)) (pN (dP b)) / 2 ^ t % 2
theorem seen_loop {E : En} {Q : Option Value → Hi → Prop} {H0 : Hi} {b : Bd} {t g k : Nat} {v : Nat → Nat} (n8 : pN (dP b) ≤ 8) (ht : t < 8) (hS : SeC b g k 24 H0)
    (hq : ∀ H' : Hi, (∀ c, c ≠ 89 → H' c = H0 c) → (∀ h, h < 24 → H' 89 h = nI (v h + sn1 b t g k h)) → Q none H') :
    ∀ (m h : Nat) (H : Hi), h + m = 24 → (∀ c, c ≠ 89 → H c = H0 c) → (∀ j, j < 24 → H 89 j = nI (if j < h then v j + sn1 b t g k j else v j)) →
      Rm E mX1_countSeen Q 2 [some (rf E 86), some (.int (nI t)), some (.int (nI h))] [] H := by
  intro m
  induction m with
  | zero =>
    intro h H hh fH sH
    have e : h = 24 := by omega
    subst e
    exact sgX1_countSeen_2 ⟨fun _ => hq H fH (fun j hj => by rw [sH j hj, if_pos hj]), fun z => absurd (show nI 24 ≤ nI 24 from nI_le (by omega) (by omega)) z⟩
  | succ m ih =>
    intro h H hh fH sH
    refine sgX1_countSeen_2 ⟨fun z => absurd z ?_, fun _ => ⟨h, ⟨by omega, rfl⟩, h, ⟨by omega, rfl⟩, h, ⟨by omega, rfl⟩, fun H1 g1 x gx => ?_⟩⟩
    · show ¬ nI 24 ≤ nI h
      rw [nI_leI (by decide) (by omega)]; omega
    have lt : bs (inP (lkS b g k h)) (pN (dP b)) < 2 ^ 31 := Nat.lt_of_lt_of_le (bs_lt _ _) (Nat.pow_le_pow_right (by decide) (by omega))
    rw [sH h (by omega), if_neg (Nat.lt_irrefl h), fH 88 (by decide), hS h (by omega), i_bitN lt (by omega), nI_add] at g1
    rw [gx, ← nI_succ]
    refine ih (h + 1) H1 (by omega) (fun c hc => by rw [g1, up_n hc]; exact fH c hc) (fun j hj => ?_)
    rw [g1, up_s]
    by_cases ej : j = h
    · subst ej
      rw [upd_s, if_pos (by omega)]
      rfl
    · rw [upd_n ej, sH j hj]
      by_cases q : j < h
      · rw [if_pos q, if_pos (by omega)]
      · rw [if_neg q, if_neg (by omega)]
theorem ct_seen {E : En} {Q : Option Value → Hi → Prop} {H : Hi} {b : Bd} {t g k : Nat} {v : Nat → Nat} (n8 : pN (dP b) ≤ 8) (ht : t < 8) (hS : SeC b g k 24 H) (hv : ∀ h, h < 24 → H 89 h = nI (v h))
    (hq : ∀ H' : Hi, (∀ c, c ≠ 89 → H' c = H c) → (∀ h, h < 24 → H' 89 h = nI (v h + sn1 b t g k h)) → Q none H') : Cm E mX1_countSeen [rf E 86, .int (nI t)] H Q :=
  cmX1_countSeen (seen_loop n8 ht hS hq 24 0 H rfl (fun _ _ => rfl) (fun j hj => by rw [hv j hj, if_neg (Nat.not_lt_zero j)]))
def alN (b : Bd) (k n : Nat) : Nat := sm (fun g => if cmo b g k = true then 1 else 0) n
def tmN (b : Bd) (t k n h : Nat) : Nat := sm (fun g => if cmo b g k = true then sn1 b t g k h else 0) n
theorem tm_al (b : Bd) (t k n h : Nat) : tmN b t k n h ≤ alN b k n := sm_le (fun g _ => by
  split
  · unfold sn1; omega
  · exact Nat.le_refl _)
theorem al_le (b : Bd) (k : Nat) : ∀ n, alN b k n ≤ n
  | 0 => Nat.le_refl _
  | n + 1 => by
    have := al_le b k n
    show alN b k n + (if cmo b n k = true then 1 else 0) ≤ n + 1
    split <;> omega
def mxA (a x : Nat) : Nat := if x < a - x then a - x else x
def bsF (a : Nat) (v : Nat → Nat) : Nat → Nat → Nat → Nat
  | 0, _, q => q
  | m + 1, h, q => bsF a v m (h + 1) (if mxA a (v h) < mxA a (v q) then h else q)
theorem best_loop {E : En} {Q : Option Value → Hi → Prop} {H : Hi} {a : Nat} {v : Nat → Nat} (ha : a ≤ 24) (hva : ∀ h, h < 24 → v h ≤ a) (hv : ∀ h, h < 24 → H 89 h = nI (v h)) :
    ∀ (m h q : Nat), h + m = 24 → q < 24 → Q (some (.int (nI (bsF a v m h q)))) H → Rm E mX1_bestHour Q 62 [some (rf E 86), none, none, some (.int (nI a)), some (.int (nI q)), some (.int (nI h))] [] H := by
  intro m
  induction m with
  | zero =>
    intro h q hh hq2 hq
    have e : h = 24 := by omega
    subst e
    exact sgX1_bestHour_62 ⟨fun _ => hq, fun z => absurd (show nI 24 ≤ nI 24 from nI_le (by omega) (by omega)) z⟩
  | succ m ih =>
    intro h q hh hq2 hq
    refine sgX1_bestHour_62 ⟨fun z => absurd z ?_, fun _ => ⟨h, ⟨by omega, rfl⟩, h, ⟨by omega, rfl⟩, q, ⟨hq2, rfl⟩, q, ⟨hq2, rfl⟩, ?_⟩⟩
    · show ¬ nI 24 ≤ nI h
      rw [nI_leI (by decide) (by omega)]; omega
    have vh := hva h (by omega)
    have vq := hva q hq2
    have m1 : ∀ x, x ≤ a → mxA a x ≤ 24 := fun x hx => by unfold mxA; split <;> omega
    have l1 := m1 _ vh
    have l2 := m1 _ vq
    have e1 : ∀ x, x ≤ a → mmax (nI x) (nI a - nI x) = nI (mxA a x) := fun x hx => by
      rw [pk_sub hx, mmax_n (by omega) (by omega)]; rfl
    rw [hv h (by omega), hv q hq2, e1 _ vh, e1 _ vq, nI_leI (by omega) (by omega)]
    refine ⟨fun z x gx => ?_, fun z x gx => ?_⟩
    · have e : bsF a v (m + 1) h q = bsF a v m (h + 1) q := by
        show bsF a v m (h + 1) (if mxA a (v h) < mxA a (v q) then h else q) = _
        rw [if_neg (by omega)]
      rw [e] at hq
      rw [gx, ← nI_succ]
      exact ih (h + 1) q (by omega) hq2 hq
    · have e : bsF a v (m + 1) h q = bsF a v m (h + 1) h := by
        show bsF a v m (h + 1) (if mxA a (v h) < mxA a (v q) then h else q) = _
        rw [if_pos (by omega)]
      rw [e] at hq
      rw [gx, ← nI_succ]
      exact ih (h + 1) h (by omega) (by omega) hq
def feS (b : Bd) (c t : Nat) : Nat := bsF (alN b (64 + 8 * c + t) 24) (tmN b t (64 + 8 * c + t) 24) 23 1 0
theorem bh_loop {E : En} {Q : Option Value → Hi → Prop} {H0 : Hi} {b : Bd} {c t : Nat} (hF0 : FR b H0) (hf0 : FeC b H0) (hc : c < 8) (ht : t < 8)
    (hq : ∀ H' : Hi, frM H0 H' → Q (some (.int (nI (feS b c t)))) H') :
    ∀ (m g : Nat) (H : Hi), g + m = 24 → frM H0 H → (∀ h, h < 24 → H 89 h = nI (tmN b t (64 + 8 * c + t) g h)) →
      Rm E mX1_bestHour Q 13 [some (rf E 86), some (.int (nI c)), some (.int (nI t)), some (.int (nI (alN b (64 + 8 * c + t) g))), some (.int (nI g)), none] [] H := by
  have ok := hF0.1.1
  intro m
  induction m with
  | zero =>
    intro g H hh fH sH
    have e : g = 24 := by omega
    subst e
    refine sgX1_bestHour_13 ⟨fun _ => ?_, fun z => absurd (show nI 24 ≤ nI 24 from nI_le (by omega) (by omega)) z⟩
    exact best_loop (al_le _ _ _) (fun h _ => tm_al b t _ 24 h) sH 23 1 0 rfl (by decide) (hq H fH)
  | succ m ih =>
    intro g H hh fH sH
    have hF : FR b H := fr_k2 hF0 (fun c z1 z2 _ => fH c (by omega) (by omega) (by omega))
    refine sgX1_bestHour_13 ⟨fun z => absurd z ?_, fun _ => ?_⟩
    · show ¬ nI 24 ≤ nI g
      rw [nI_leI (by decide) (by omega)]; omega
    have e : (64 : Int32) + 8 * nI c + nI t = nI (64 + 8 * c + t) := by
      show nI 64 + nI 8 * nI c + nI t = _
      rw [ni_mulN, nI_add, nI_add]
    rw [e]
    refine ct_look hF (show g < 24 by omega) (show 64 + 8 * c + t < 128 by omega) ?_
    intro H1 f1 s1
    refine ⟨rfl, ?_⟩
    have fH1 : frM H0 H1 := fun c q1 q2 q3 => by rw [f1 c q1 q2]; exact fH c q1 q2 q3
    have v1 : ∀ h, h < 24 → H1 89 h = nI (tmN b t (64 + 8 * c + t) g h) := fun h hh => by rw [f1 89 (by decide) (by decide)]; exact sH h hh
    have ea : alN b (64 + 8 * c + t) (g + 1) = alN b (64 + 8 * c + t) g + (if cmo b g (64 + 8 * c + t) = true then 1 else 0) := rfl
    have et : ∀ h, tmN b t (64 + 8 * c + t) (g + 1) h = tmN b t (64 + 8 * c + t) g h + (if cmo b g (64 + 8 * c + t) = true then sn1 b t g (64 + 8 * c + t) h else 0) := fun h => rfl
    refine ct_out ok.1 (fe_keep hf0 (fun c q1 q2 => fH1 c (by omega) (by omega) (by omega))) s1 ⟨_, rfl, fun z x gx => ?_, fun z y gy => ?_⟩
    · have z' : ¬ cmo b g (64 + 8 * c + t) = true := by rw [bI_0.mp z]; simp
      rw [if_neg z', Nat.add_zero] at ea
      have := ih (g + 1) H1 (by omega) fH1 (fun h hh => by rw [et h, if_neg z', Nat.add_zero]; exact v1 h hh)
      rw [ea, nI_succ] at this
      rw [gx]; exact this
    · have z' := bI_1 z
      rw [if_pos z'] at ea
      refine ct_seen ok.1 ht s1 v1 ?_
      intro H2 f2 v2
      refine ⟨rfl, fun x gx => ?_⟩
      have := ih (g + 1) H2 (by omega) (fun c q1 q2 q3 => by rw [f2 c q3]; exact fH1 c q1 q2 q3) (fun h hh => by rw [et h, if_pos z']; exact v2 h hh)
      rw [ea, nI_succ, nI_succ] at this
      rw [gx, gy]; exact this
theorem sh_89 : shp 89 = (100, 24) ∧ (89 : Nat) < nN ∧ rfL.getD 89 [] = [] ∧ (24 : Nat) < 2 ^ 31 := ⟨rfl, by decide, rfl, by decide⟩
theorem ct_best {E : En} {Q : Option Value → Hi → Prop} {H : Hi} {b : Bd} {c t : Nat} (hF : FR b H) (hf : FeC b H) (hc : c < 8) (ht : t < 8)
    (hq : ∀ H' : Hi, frM H H' → Q (some (.int (nI (feS b c t)))) H') : Cm E mX1_bestHour [rf E 86, .int (nI c), .int (nI t)] H Q := by
  refine cmX1_bestHour (ct_fill sh_89 ?_)
  intro H1 f1 v1
  refine ⟨rfl, ?_⟩
  exact bh_loop hF hf hc ht hq 24 0 H1 rfl (fun c _ _ q3 => f1 c q3) (fun h hh => by rw [v1 h hh]; rfl)
theorem ci_frM {b : Bd} {H H' : Hi} (hB : CB b H) (hF : FR b H) (h : frM H H') : CI b H' :=
  ci_fr (cb_keep hB (fun c z1 z2 => h c (by omega) (by omega) (by omega)) (fun c z1 z2 => h c (by omega) (by omega) (by omega)) (fun c z1 z2 => h c (by omega) (by omega) (by omega)) (by rw [h 0 (by decide) (by decide) (by decide)]) (fun k z1 z2 => by rw [h 23 (by decide) (by decide) (by decide)]; exact hB.2.2.2.2.2.2 k z1 z2)) (fr_k2 hF (fun c z1 z2 _ => h c (by omega) (by omega) (by omega)))
def sFeel (b : Bd) (x y : Int32) : Int32 × Bd :=
  if inN (pM (dP b)) x = true ∧ inN (pN (dP b)) y = true then (nI (feS b (un x) (un y)), b) else (-2, b)
theorem cc_feel {E : En} {b : Bd} {x y : Int32} : Cc E mX9_feel [rf E 0, .int x, .int y] b (sFeel b x y) := by
  intro H0 Q hC hq
  refine cmX9_feel (ct_refresh hC fun H kH hB hF h9 => ⟨rfl, ?_⟩)
  have ok := hF.1.1
  have bad : sFeel b x y = (-2, b) → Q (some (.int (-2))) H := fun e => by
    rw [e] at hq; exact hq H kH (ci_fr hB hF)
  refine ct_isCousin hF.1 ⟨_, rfl, fun z => bad (if_neg (by rw [bI_0.mp z]; simp)), fun z1 => ct_isThing hF.1 ⟨_, rfl, fun z => bad (if_neg (by rw [bI_0.mp z]; simp)), fun z2 => ?_⟩⟩
  have e : sFeel b x y = _ := if_pos ⟨bI_1 z1, bI_1 z2⟩
  rw [e] at hq
  obtain ⟨c, a1, b1, d1⟩ := inN_of (bI_1 z1) (by have := ok.2.1; omega)
  obtain ⟨t, a2, b2, d2⟩ := inN_of (bI_1 z2) (by have := ok.1; omega)
  rw [d1, d2] at hq
  rw [b1, b2]
  exact ct_best hF hB.2.2.2.1 (by have := ok.2.1; omega) (by have := ok.1; omega) (fun H' f' => ⟨_, rfl, hq H' (fun c hc => by rw [f' c (by omega) (by omega) (by omega)]; exact kH c hc) (ci_frM hB hF f')⟩)
