/-! has, happy, went, fails, felt, forget -/
def hasB (b : Bd) (h c : Nat) : Nat → Bool := fun t => decide ((dSt b (h + 1)).1 t = c)
theorem held_loop {E : En} {Q : Option Value → Hi → Prop} {H : Hi} {b : Bd} {h c : Nat} (hF : FR b H) (hh : h < 24) (hc : c < 2 ^ 31) (hq : Q (some (.int (nI (bs (hasB b h c) (pN (dP b)))))) H) :
    ∀ (m t : Nat), t + m = pN (dP b) → Rm E mX2_heldBy Q 5 [some (rf E 22), some (.int (nI h)), some (.int (nI c)), some (.int (nI (bs (hasB b h c) t))), some (.int (nI t))] [] H := by
  have ok := hF.1.1
  have n8 := ok.1
  intro m
  induction m with
  | zero =>
    intro t ht
    refine sgX2_heldBy_5 ⟨fun _ => ?_, fun z => absurd ?_ z⟩
    · have : t = pN (dP b) := by omega
      rw [this]; exact hq
    · rw [hF.1.2.1]; exact nI_le (by omega) (by omega)
  | succ m ih =>
    intro t ht
    refine sgX2_heldBy_5 ⟨fun z => absurd z ?_, fun _ => ⟨h, ⟨hh, rfl⟩, ?_⟩⟩
    · rw [hF.1.2.1, nI_leI (by omega) (by omega)]; omega
    refine ct_placeOf ok.1 (st_beh h hh).1 (hF.2.2.1.2.2.2 h hh).2 (stN_wf ok.2.1 _) (show t < pN (dP b) by omega) ⟨_, rfl, fun z x4 g4 => ?_, fun z x3 g3 x4 g4 => ?_⟩
    · have e : bs (hasB b h c) (t + 1) = bs (hasB b h c) t := by
        rw [bs_succ, if_neg]
        intro q
        exact z (congrArg nI (of_decide_eq_true q))
      have := ih (t + 1) (by omega)
      rw [e, nI_succ] at this
      rw [g4]; exact this
    · have w := (stN_wf (P := dP b) (hd := dH b) (a := dA b) ok.2.1 (h + 1)) t (by omega)
      have e : bs (hasB b h c) (t + 1) = bs (hasB b h c) t ||| 2 ^ t := by
        rw [bs_succ, if_pos]
        exact decide_eq_true (nI_inj (Nat.lt_of_le_of_lt w.1 (by decide)) (by omega) z)
      have := ih (t + 1) (by omega)
      rw [e, nI_succ, ← nI_or] at this
      rw [g4, g3, i_one t (by omega)]; exact this
def sHas (b : Bd) (x y : Int32) : Int32 × Bd :=
  if inN 24 x = true ∧ inN (pM (dP b)) y = true then (nI (bs (hasB b (un x) (un y)) (pN (dP b))), b) else (-2, b)
theorem cc_has {E : En} {b : Bd} {x y : Int32} : Cc E mX9_has [rf E 0, .int x, .int y] b (sHas b x y) := by
  intro H0 Q hC hq
  refine cmX9_has (ct_refresh hC fun H kH hB hF h9 => ⟨rfl, ?_⟩)
  have ok := hF.1.1
  refine ct_isHour ⟨_, rfl, fun z => ?_, fun z => ct_isCousin hF.1 ⟨_, rfl, fun z2 => ?_, fun z2 => ?_⟩⟩
  · have e : sHas b x y = (-2, b) := if_neg (by rw [bI_0.mp z]; simp)
    rw [e] at hq; exact hq H kH (ci_fr hB hF)
  · have e : sHas b x y = _ := if_pos ⟨bI_1 z, bI_1 z2⟩
    rw [e] at hq
    obtain ⟨j, a1, b1, d1⟩ := inN_of (bI_1 z) (by decide)
    obtain ⟨t, a2, b2, d2⟩ := inN_of (bI_1 z2) (by have := ok.2.1; omega)
    have hq' := hq H kH (ci_fr hB hF)
    rw [d1, d2] at hq'
    rw [b1, b2]
    exact cmX2_heldBy (held_loop (b := b) hF a1 (by have := ok.2.1; omega) ⟨_, rfl, hq'⟩ _ 0 (Nat.zero_add _))
  · have e : sHas b x y = (-2, b) := if_neg (by rw [bI_0.mp z2]; simp)
    rw [e] at hq; exact hq H kH (ci_fr hB hF)
def hapB (b : Bd) (h : Nat) : Nat → Bool := fun c => decide (pWi (dP b) c < 8 ∧ pWi (dP b) c < pN (dP b) ∧ (dSt b (h + 1)).1 (pWi (dP b) c) = c)
theorem hap_loop {E : En} {Q : Option Value → Hi → Prop} {H : Hi} {b : Bd} {h : Nat} (hF : FR b H) (hh : h < 24) (hq : Q (some (.int (nI (bs (hapB b h) (pM (dP b)))))) H) :
    ∀ (m c : Nat), c + m = pM (dP b) → Rm E mX2_content Q 4 [some (rf E 22), some (.int (nI h)), some (.int (nI (bs (hapB b h) c))), some (.int (nI c)), none] [] H := by
  have ok := hF.1.1
  have n8 := ok.1
  have m8 := ok.2.1
  intro m
  induction m with
  | zero =>
    intro c hc
    refine sgX2_content_4 ⟨fun _ => ?_, fun z => absurd ?_ z⟩
    · have : c = pM (dP b) := by omega
      rw [this]; exact hq
    · rw [hF.1.2.2.1]; exact nI_le (by omega) (by omega)
  | succ m ih =>
    intro c hc
    have skip : hapB b h c = false → ∀ x, x = nI c + 1 → Rm E mX2_content Q 4 [some (rf E 22), some (.int (nI h)), some (.int (nI (bs (hapB b h) c))), some (.int x), none] [] H := by
      intro q x gx
      have e : bs (hapB b h) (c + 1) = bs (hapB b h) c := by rw [bs_succ, if_neg (by rw [q]; simp)]
      have := ih (c + 1) (by omega)
      rw [e, nI_succ] at this
      rw [gx]; exact this
    refine sgX2_content_4 ⟨fun z => absurd z ?_, fun _ => ⟨c, ⟨by omega, rfl⟩, ?_⟩⟩
    · rw [hF.1.2.2.1, nI_leI (by omega) (by omega)]; omega
    intro x4 g4
    rw [hF.1.2.2.2.2.2.2.2.2.2 c (by omega)] at g4
    by_cases hw : pWi (dP b) c < 8
    · rw [if_pos hw] at g4
      refine ⟨fun z => ?_, fun _ => ⟨fun z => skip (decide_eq_false ?_), fun z => ⟨h, ⟨hh, rfl⟩, ?_⟩⟩⟩
      · exfalso
        rw [z] at g4
        have := congrArg Int32.toInt g4
        rw [nI_toInt (by omega)] at this
        have h2 : (-1 : Int32).toInt = -1 := by decide
        omega
      · rw [g4, hF.1.2.1, nI_leI (by omega) (by omega)] at z
        omega
      · rw [g4, hF.1.2.1, nI_leI (by omega) (by omega)] at z
        rw [g4]
        have w := (stN_wf (P := dP b) (hd := dH b) (a := dA b) ok.2.1 (h + 1)) (pWi (dP b) c) (by omega)
        refine ct_placeOf ok.1 (st_beh h hh).1 (hF.2.2.1.2.2.2 h hh).2 (stN_wf ok.2.1 _) (show pWi (dP b) c < pN (dP b) by omega) ⟨_, rfl, fun z2 => skip (decide_eq_false ?_), fun z2 x2 g2 x3 g3 => ?_⟩
        · rintro ⟨-, -, q⟩
          exact z2 (congrArg nI q)
        · have e : bs (hapB b h) (c + 1) = bs (hapB b h) c ||| 2 ^ c := by
            rw [bs_succ, if_pos]
            exact decide_eq_true ⟨hw, by omega, nI_inj (Nat.lt_of_le_of_lt w.1 (by decide)) (by omega) z2⟩
          have := ih (c + 1) (by omega)
          rw [e, nI_succ, ← nI_or] at this
          rw [g3, g2, i_one c (by omega)]; exact this
    · rw [if_neg hw] at g4
      exact ⟨fun z => skip (decide_eq_false (fun q => hw q.1)), fun z => absurd g4 z⟩
def sHappy (b : Bd) (x : Int32) : Int32 × Bd :=
  if inN 24 x = true then (nI (bs (hapB b (un x)) (pM (dP b))), b) else (-2, b)
theorem cc_happy {E : En} {b : Bd} {x : Int32} : Cc E mX9_happy [rf E 0, .int x] b (sHappy b x) := by
  intro H0 Q hC hq
  refine cmX9_happy (ct_refresh hC fun H kH hB hF h9 => ⟨rfl, ?_⟩)
  refine ct_isHour ⟨_, rfl, fun z => ?_, fun z => ?_⟩
  · have e : sHappy b x = (-2, b) := if_neg (by rw [bI_0.mp z]; simp)
    rw [e] at hq; exact hq H kH (ci_fr hB hF)
  · have e : sHappy b x = _ := if_pos (bI_1 z)
    rw [e] at hq
    obtain ⟨j, a1, b1, d1⟩ := inN_of (bI_1 z) (by decide)
    have hq' := hq H kH (ci_fr hB hF)
    rw [d1] at hq'
    rw [b1]
    exact cmX2_content (hap_loop (b := b) hF a1 ⟨_, rfl, hq'⟩ _ 0 (Nat.zero_add _))
def gonP (b : Bd) (t : Nat) : Nat → Bool := fun h => decide ((dSt b (h + 1)).1 t = 9)
def sWent (b : Bd) (x : Int32) : Int32 × Bd :=
  if inN (pN (dP b)) x = true then ((if (dSt b 0).1 (un x) = 9 then -1 else nO (fnd (gonP b (un x)) 24)), b) else (-2, b)
theorem ni_e9 {a : Nat} (h : a ≤ 9) : nI a = 9 ↔ a = 9 := ⟨fun q => nI_inj (by omega) (by decide) q, fun q => by rw [q]; rfl⟩
theorem gone_loop {E : En} {Q : Option Value → Hi → Prop} {H : Hi} {b : Bd} {t : Nat} (hF : FR b H) (ht : t < pN (dP b)) :
    ∀ (m h : Nat), h + m = 24 → Q (some (.int (nO (fndF (gonP b t) m h)))) H → Rm E mX2_firstGone Q 17 [some (rf E 22), some (.int (nI t)), some (.int (nI h))] [] H := by
  have ok := hF.1.1
  intro m
  induction m with
  | zero =>
    intro h hh hq
    refine sgX2_firstGone_17 ⟨fun _ => hq, fun z => absurd ?_ z⟩
    show nI 24 ≤ nI h
    exact nI_le (by omega) (by omega)
  | succ m ih =>
    intro h hh hq
    refine sgX2_firstGone_17 ⟨fun z => absurd z ?_, fun _ => ⟨h, ⟨by omega, rfl⟩, ?_⟩⟩
    · show ¬ nI 24 ≤ nI h
      rw [nI_leI (by decide) (by omega)]; omega
    have w := (stN_wf (P := dP b) (hd := dH b) (a := dA b) ok.2.1 (h + 1)) t ht
    refine ct_placeOf ok.1 (st_beh h (by omega)).1 (hF.2.2.1.2.2.2 h (by omega)).2 (stN_wf ok.2.1 _) ht ⟨_, rfl, ?_⟩
    rw [ni_e9 w.1]
    refine ⟨fun z x gx => ?_, fun z => ?_⟩
    · have e : fndF (gonP b t) (m + 1) h = fndF (gonP b t) m (h + 1) := if_neg (fun q => z (of_decide_eq_true q))
      rw [e] at hq
      have := ih (h + 1) (by omega) hq
      rw [nI_succ] at this
      rw [gx]; exact this
    · have e : fndF (gonP b t) (m + 1) h = some h := if_pos (decide_eq_true z)
      rw [e] at hq
      exact hq
theorem cc_went {E : En} {b : Bd} {x : Int32} : Cc E mX9_went [rf E 0, .int x] b (sWent b x) := by
  intro H0 Q hC hq
  refine cmX9_went (ct_refresh hC fun H kH hB hF h9 => ⟨rfl, ?_⟩)
  have ok := hF.1.1
  refine ct_isThing hF.1 ⟨_, rfl, fun z => ?_, fun z => ?_⟩
  · have e : sWent b x = (-2, b) := if_neg (by rw [bI_0.mp z]; simp)
    rw [e] at hq; exact hq H kH (ci_fr hB hF)
  · have e : sWent b x = _ := if_pos (bI_1 z)
    rw [e] at hq
    obtain ⟨t, a1, b1, d1⟩ := inN_of (bI_1 z) (by have := ok.1; omega)
    have hq' := hq H kH (ci_fr hB hF)
    rw [d1] at hq'
    rw [b1]
    have w := (st0_wf (P := dP b) ok.2.1) t a1
    refine cmX2_firstGone (ct_placeOf ok.1 st_23 hF.2.2.1.1 (st0_wf ok.2.1) a1 ⟨_, rfl, ?_⟩)
    rw [ni_e9 w.1]
    refine ⟨fun z2 => ?_, fun z2 => ?_⟩
    · have z2' : ¬ (dSt b 0).1 t = 9 := z2
      simp only [if_neg z2'] at hq'
      exact gone_loop (b := b) hF a1 24 0 rfl ⟨_, rfl, hq'⟩
    · have z2' : (dSt b 0).1 t = 9 := z2
      simp only [if_pos z2'] at hq'
      exact ⟨_, rfl, hq'⟩
/-! fails -/
def idK (w : Nat) (hd : Hd) (h : Nat) : Nat → Nat → Option Nat
  | 0, _ => none
  | m + 1, k => if hd.2.1 k = h ∧ w / 2 ^ k % 2 = 0 then some k else idK w hd h m (k + 1)
def idH (w : Nat) (hd : Hd) : Nat → Nat → Option Nat
  | 0, _ => none
  | m + 1, h => match idK w hd h hd.1 0 with
    | some k => some k
    | none => idH w hd m (h + 1)
def sFails (b : Bd) : Int32 × Bd := (nO (idH (dW b) (dH b) 24 0), b)
theorem cnt_24 {hd : Hd} (h : ∀ k, k < hd.1 → hd.2.1 k < 24) : cnt hd 24 = hd.1 := by
  unfold cnt
  have : ∀ n, n ≤ hd.1 → sm (fun k => if hd.2.1 k < 24 then 1 else 0) n = n := by
    intro n
    induction n with
    | zero => intro _; rfl
    | succ n ih => intro hn; simp only [sm]; rw [ih (by omega), if_pos (h n (by omega))]
  exact this _ (Nat.le_refl _)
theorem idle_in {E : En} {Q : Option Value → Hi → Prop} {H : Hi} {b : Bd} {h : Nat} (hB : CB b H) (hF : FR b H) (hh : h < 24) (o : Option Nat)
    (hout : Q (some (.int (nO o))) H → Rm E mX2_firstIdle Q 2 [some (rf E 22), some (.int (nI (cnt (dH b) (h + 1)))), none] [] H) :
    ∀ (m k : Nat), k + m = (dH b).1 → Q (some (.int (nO (match idK (dW b) (dH b) h m k with | some k => some k | none => o)))) H → Rm E mX2_firstIdle Q 2 [some (rf E 22), some (.int (nI (ps (dH b) h k))), none] [] H := by
  have c1 : (dH b).1 ≤ 20 := hB.2.1.1
  intro m
  induction m with
  | zero =>
    intro k hk hq
    have e : k = (dH b).1 := by omega
    rw [e, cnt_s]
    exact hout hq
  | succ m ih =>
    intro k hk hq
    by_cases ek : (dH b).2.1 k = h
    · have p1 : ps (dH b) h (k + 1) = ps (dH b) h k + 1 := by rw [ps_s, if_pos ek]
      have p2 : ps (dH b) h k < (dH b).1 := by
        have q1 := ps_lt (hd := dH b) (k := k) (by omega)
        rw [ek] at q1
        have q2 := cnt_le (dH b) (h + 1)
        omega
      refine sgX2_firstIdle_2 ⟨fun z => absurd z ?_, fun _ => ⟨ps (dH b) h k, ⟨by omega, rfl⟩, ?_⟩⟩
      · have c2 : H 11 2 = nI (dH b).1 := hB.2.1.2.1
        rw [c2, nI_leI (by omega) (by omega)]; omega
      intro x2 g2
      have o1 := hF.2.1.2.2.2.1 k (by omega)
      rw [ek] at o1
      rw [o1] at g2
      rw [g2, hF.2.2.1.2.2.1, i_bitN (Nat.lt_of_lt_of_le (wkA_lt c1 24) (by decide)) (by omega), nI_eq0 (by omega)]
      refine ⟨fun z x1 g1 => ?_, fun z => ?_⟩
      · have e : idK (dW b) (dH b) h (m + 1) k = idK (dW b) (dH b) h m (k + 1) := if_neg (fun q => z q.2)
        rw [e] at hq
        have := ih (k + 1) (by omega) hq
        rw [p1, nI_succ] at this
        rw [g1]; exact this
      · have e : idK (dW b) (dH b) h (m + 1) k = some k := if_pos ⟨ek, z⟩
        rw [e] at hq
        exact hq
    · have p1 : ps (dH b) h (k + 1) = ps (dH b) h k := by rw [ps_s, if_neg ek]; rfl
      have e : idK (dW b) (dH b) h (m + 1) k = idK (dW b) (dH b) h m (k + 1) := if_neg (fun q => ek q.1)
      rw [e] at hq
      have := ih (k + 1) (by omega) hq
      rw [p1] at this
      exact this
theorem idle_out {E : En} {Q : Option Value → Hi → Prop} {H : Hi} {b : Bd} (hB : CB b H) (hF : FR b H) :
    ∀ (m h : Nat), h + m = 24 → Q (some (.int (nO (idH (dW b) (dH b) m h)))) H → Rm E mX2_firstIdle Q 2 [some (rf E 22), some (.int (nI (cnt (dH b) h))), none] [] H := by
  have c1 : (dH b).1 ≤ 20 := hB.2.1.1
  have c2 : H 11 2 = nI (dH b).1 := hB.2.1.2.1
  intro m
  induction m with
  | zero =>
    intro h hh hq
    have e : h = 24 := by omega
    rw [e, cnt_24 (fun k hk => (hF.2.1.2.1 k hk).2.2)]
    refine sgX2_firstIdle_2 ⟨fun _ => hq, fun z => absurd ?_ z⟩
    rw [c2]; exact nI_le (by omega) (by omega)
  | succ m ih =>
    intro h hh hq
    have := idle_in (E := E) (Q := Q) (h := h) hB hF (by omega) (idH (dW b) (dH b) m (h + 1)) (fun q => ih (h + 1) (by omega) q) (dH b).1 0 (Nat.zero_add _) hq
    exact this
theorem cc_fails {E : En} {b : Bd} : Cc E mX9_fails [rf E 0] b (sFails b) := by
  intro H0 Q hC hq
  refine cmX9_fails (ct_refresh hC fun H kH hB hF h9 => ⟨rfl, ?_⟩)
  refine cmX2_firstIdle ?_
  have := idle_out (E := E) (Q := fun w zH => ∃ r : Int32, w = some (.int r) ∧ Q (some (.int r)) zH) hB hF 24 0 rfl ⟨_, rfl, hq H kH (ci_fr hB hF)⟩
  rw [cnt_0] at this
  exact this
