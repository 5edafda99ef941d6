/-! digest -/
def f31 (h : Int64) (x : Int32) : Int64 := (31 : Int64) * h + x.toInt64
def gLe (b : Bd) (t : Nat) (x : Int32) : Int32 := if 0 < pM (dP b) then rowT (lendS (dP b) (dH b) (dA b) 0 t 3 4) x else -2
def gFe (b : Bd) (t : Nat) : Int32 := if 0 < pM (dP b) then nI (feS b 0 t) else -2
def gWe (b : Bd) (t : Nat) : Int32 := if (dSt b 0).1 t = 9 then -1 else nO (fnd (gonP b t) 24)
def gWh (b : Bd) (c : Nat) : Int32 := if 0 < pN (dP b) then nI (bs (whB b c 0) 24) else -2
def gWi (b : Bd) (c : Nat) : Int32 := if pWi (dP b) c < 8 then nI (pWi (dP b) c) else -1
def gTH (b : Bd) (h : Int64) (t : Nat) : Int64 := f31 (f31 (f31 (f31 (f31 (f31 h (nI (pSz (dP b) t))) (nI (pOw (dP b) t))) (nI (pKd (dP b) t))) (nI ((dSt b 6).1 t))) (nI ((dSt b 24).1 t))) (gWe b t)
def gTG (b : Bd) (h : Int64) (t : Nat) : Int64 := f31 ((31 : Int64) * ((31 : Int64) * f31 (f31 (f31 (f31 h (gLe b t (-1))) (gLe b t 0)) (nI (bs (thB b t) (pM (dP b))))) (gFe b t) + jmp b 5 t 9 0) + jmp b 5 t 9 1) (dayS b 7 12 (nI t))
def gC (b : Bd) (h : Int64) (c : Nat) : Int64 := f31 (f31 (f31 (f31 h (nI (if pHo (dP b) c = true then 1 else 0))) (gWi b c)) (nI (bs (hasB b 9 c) (pN (dP b))))) (gWh b c)
def gH (b : Bd) (h : Int64) (n : Nat) : Int64 := f31 (f31 (f31 h (nI (ld (dP b) (dSt b (n + 1))))) (nI (bs (hapB b n) (pM (dP b))))) (nI (hgS b n))
def gW (b : Bd) (h : Int64) (k : Nat) : Int64 := f31 h (nI (dW b / 2 ^ k % 2))
def gEnd (b : Bd) (h : Int64) : Int64 := f31 (f31 (f31 (f31 h (nO (idH (dW b) (dH b) 24 0))) (rowT (sortS (dP b) (dH b) 9) (-1))) (rowT (sortS (dP b) (dH b) 9) 0)) (dayS b 7 12 (-1))
def gT (b : Bd) (h : Int64) (t : Nat) : Int64 := gTG b (gTH b h t) t
def gY (b : Bd) (h : Int64) (w : Nat) : Int64 := f31 h (tly b (nI w))
def gFw (b : Bd) (h : Int64) : Int64 := f31 (f31 h (flt 3 (okT0 (db0 b)) (dn0 b))) (flt 2 (okT1 (db1 b)) (dn1 b))
def gHs (b : Bd) (h : Int64) : Int64 := gH b (gH b (gH b (gH b (gH b h 0) 1) 5) 12) 23
def gAll (b : Bd) : Int64 := gEnd b (itF (gW b) 0 (dH b).1 (gHs b (itF (gC b) 0 (pM (dP b)) (itF (gT b) 0 (pN (dP b)) (gFw b (itF (gY b) 0 8 17))))))
def JJ (b : Bd) (H0 H : Hi) : Prop := CB b H ∧ FR b H ∧ ∀ c, 99 ≤ c → H c = H0 c
theorem jj_P {b : Bd} {H0 H H' : Hi} (h : JJ b H0 H) (f : frP H H') (F : FR b H') : JJ b H0 H' := ⟨cb_frP h.1 f, F, fun c hc => by rw [f c (by omega), h.2.2 c hc]⟩
theorem jj_g {b : Bd} {H0 H H' : Hi} (h : JJ b H0 H) (f : ∀ c, c ≠ 26 → c ≠ 87 → c ≠ 88 → c ≠ 89 → H' c = H c) : JJ b H0 H' :=
  ⟨cb_keep h.1 (fun c z1 z2 => f c (by omega) (by omega) (by omega) (by omega)) (fun c z1 z2 => f c (by omega) (by omega) (by omega) (by omega)) (fun c z1 z2 => f c (by omega) (by omega) (by omega) (by omega)) (by rw [f 0 (by decide) (by decide) (by decide) (by decide)]) (fun k z1 z2 => by rw [f 23 (by decide) (by decide) (by decide) (by decide)]; exact h.1.2.2.2.2.2.2 k z1 z2), fr_k2 h.2.1 (fun c z1 z2 z3 => f c z3 (by omega) (by omega) (by omega)), fun c hc => by rw [f c (by omega) (by omega) (by omega) (by omega), h.2.2 c hc]⟩
theorem ct_gone {E : En} {Q : Option Value → Hi → Prop} {H : Hi} {b : Bd} {t : Nat} (hF : FR b H) (a1 : t < pN (dP b)) (hq : Q (some (.int (gWe b t))) H) : Cm E mX2_firstGone [rf E 22, .int (nI t)] H Q := by
  have ok := hF.1.1
  have w := (st0_wf (P := dP b) ok.2.1) t a1
  unfold gWe at hq
  refine cmX2_firstGone (ct_placeOf ok.1 st_23 hF.2.2.1.1 (st0_wf ok.2.1) a1 ⟨_, rfl, ?_⟩)
  rw [ni_e9 w.1]
  refine ⟨fun z2 => ?_, fun z2 => ?_⟩
  · have z2' : ¬ (dSt b 0).1 t = 9 := z2
    rw [if_neg z2'] at hq
    exact gone_loop (b := b) hF a1 24 0 rfl hq
  · have z2' : (dSt b 0).1 t = 9 := z2
    rw [if_pos z2'] at hq
    exact hq
theorem ct_ofTh {E : En} {Q : Option Value → Hi → Prop} {H : Hi} {P : Pm} {j : Nat} {y : Int32} (hF : FamC P H) (a1 : j < pN P) (hq : Q (some (.int (if y = 0 then nI (pSz P j) else if y = 1 then nI (pOw P j) else nI (pKd P j)))) H) : Cm E mX0_ofThing [rf E 5, .int (nI j), .int y] H Q := by
  have j8 : j < 8 := by have := hF.1.1; omega
  have f := hF.2.2.2.1 j a1
  refine cmX0_ofThing ⟨fun q0 => ⟨fun q1 => ⟨j, ⟨j8, rfl⟩, ?_⟩, fun q1 => ⟨j, ⟨j8, rfl⟩, ?_⟩⟩, fun q0 => ⟨j, ⟨j8, rfl⟩, ?_⟩⟩
  · rw [f.2.2]; rw [if_neg q0, if_neg q1] at hq; exact hq
  · rw [f.2.1]; rw [if_neg q0, if_pos q1] at hq; exact hq
  · rw [f.1]; rw [if_pos q0] at hq; exact hq
theorem ct_ofCo0 {E : En} {Q : Option Value → Hi → Prop} {H : Hi} {P : Pm} {j : Nat} (hF : FamC P H) (a1 : j < pM P) (hq : Q (some (.int (nI (if pHo P j = true then 1 else 0)))) H) : Cm E mX0_ofCousin [rf E 5, .int (nI j), .int 0] H Q := by
  refine cmX0_ofCousin ⟨fun q0 => absurd rfl q0, fun q0 => ?_⟩
  rw [hF.2.2.2.2.1, i_bit (by have := hF.1.2.1; omega) a1]; exact hq
theorem ct_ofCo1 {E : En} {Q : Option Value → Hi → Prop} {H : Hi} {P : Pm} {j : Nat} (hF : FamC P H) (a1 : j < pM P) (hq : Q (some (.int (if pWi P j < 8 then nI (pWi P j) else -1))) H) : Cm E mX0_ofCousin [rf E 5, .int (nI j), .int 1] H Q := by
  have j8 : j < 8 := by have := hF.1.2.1; omega
  refine cmX0_ofCousin ⟨fun q0 => ⟨j, ⟨j8, rfl⟩, ?_⟩, fun q0 => absurd q0 (by decide)⟩
  rw [hF.2.2.2.2.2.2.2.2.2 j a1]; exact hq
theorem ct_fTH {E : En} {Q : Option Value → Hi → Prop} {H : Hi} {b : Bd} {t : Nat} {y : Int64} (hF : FR b H) (ht : t < pN (dP b)) (hq : Q (some (.long (gTH b y t))) H) : Cm E mX9_foldThingHours [rf E 0, .long y, .int (nI t)] H Q := by
  have ok := hF.1.1
  have wf : ∀ h, Wf (dP b) (stN (dP b) (dH b) (dA b) h) := fun h => stN_wf ok.2.1 h
  refine cmX9_foldThingHours (sgX9_foldThingHours_6 ⟨fun z => absurd z (by decide), fun _ => ct_ofTh hF.1 ht ⟨_, rfl, fun h1 e1 x1 g1 => ?_⟩⟩)
  rw [g1]
  refine sgX9_foldThingHours_6 ⟨fun z => absurd z (by decide), fun _ => ct_ofTh hF.1 ht ⟨_, rfl, fun h2 e2 x2 g2 => ?_⟩⟩
  rw [g2]
  refine sgX9_foldThingHours_6 ⟨fun z => absurd z (by decide), fun _ => ct_ofTh hF.1 ht ⟨_, rfl, fun h3 e3 x3 g3 => ?_⟩⟩
  rw [g3]
  refine sgX9_foldThingHours_6 ⟨fun _ => ?_, fun z => absurd z (by decide)⟩
  refine ct_placeOf ok.1 (st_beh 5 (by decide)).1 (hF.2.2.1.2.2.2 5 (by decide)).2 (wf _) ht ⟨_, rfl, fun h4 e4 => ?_⟩
  refine ct_placeOf ok.1 (st_beh 23 (by decide)).1 (hF.2.2.1.2.2.2 23 (by decide)).2 (wf _) ht ⟨_, rfl, fun h5 e5 => ?_⟩
  refine ct_gone hF ht ⟨_, rfl, ?_⟩
  rw [e5, e4, e3, e2, e1]
  exact hq
set_option maxHeartbeats 2000000 in
theorem ct_fTG {E : En} {Q : Option Value → Hi → Prop} {H0 H : Hi} {b : Bd} {t : Nat} {y : Int64} (hJ : JJ b H0 H) (ht : t < pN (dP b)) (hq : ∀ H' : Hi, JJ b H0 H' → Q (some (.long (gTG b y t))) H') : Cm E mX9_foldThingGuesses [rf E 0, .long y, .int (nI t)] H Q := by
  have hF := hJ.2.1
  have ok := hF.1.1
  have n8 := ok.1
  have m8 := ok.2.1
  -- behind all that hangs on somebody's being there
  have la : ∀ (H1 : Hi), JJ b H0 H1 → ∀ h4 : Int64, f31 h4 (dayS b 7 12 (nI t)) = f31 h4 (dayS b 7 12 (nI t)) → True := fun _ _ _ _ => trivial
  have s141 : ∀ (H1 : Hi) (v u : Int64) (x : Int32), JJ b H0 H1 → u + x.toInt64 = v → (31 : Int64) * ((31 : Int64) * v + jmp b 5 t 9 0) + jmp b 5 t 9 1 = (31 : Int64) * ((31 : Int64) * f31 (f31 (f31 (f31 y (gLe b t (-1))) (gLe b t 0)) (nI (bs (thB b t) (pM (dP b))))) (gFe b t) + jmp b 5 t 9 0) + jmp b 5 t 9 1 →
      Rm E mX9_foldThingGuesses Q 141 [some (rf E 0), none, none, some (.int (nI t)), none, none, none] [.int x, .long u] H1 := by
    intro H1 v u x j1 ev ee
    refine sgX9_foldThingGuesses_141 ?_
    intro h1 e1
    refine ct_stay (c := 5) (n := 9) j1.2.1 (by decide) ht (by decide) ⟨_, rfl, fun h2 e2 => ?_⟩
    refine ct_stay (c := 5) (n := 9) j1.2.1 (by decide) ht (by decide) ⟨_, rfl, fun h3 e3 => ?_⟩
    refine ct_day (n := 12) j1.2.1 (by decide) (Or.inr (inN_nI ht (by omega))) ?_
    intro H2 f2
    refine ⟨_, rfl, ?_⟩
    have e : h3 = (31 : Int64) * ((31 : Int64) * v + jmp b 5 t 9 0) + jmp b 5 t 9 1 := by rw [e3, e2, e1, ev]
    rw [e, ee]
    exact hq H2 (jj_g j1 (fun c z1 _ _ _ => f2 c z1))
  by_cases hm : 0 < pM (dP b)
  · have s94 : ∀ (H1 : Hi) (u : Int64) (x : Int32), JJ b H0 H1 → u + x.toInt64 = f31 (f31 y (gLe b t (-1))) (gLe b t 0) →
        Rm E mX9_foldThingGuesses Q 94 [some (rf E 0), none, none, some (.int (nI t)), none, none, some (.int 1)] [.int x, .long u] H1 := by
      intro H1 u x j1 ev
      refine sgX9_foldThingGuesses_94 ?_
      intro h1 e1
      refine ct_sus j1.2.1 j1.1.2.2.2.1 (by omega) ?_
      intro H2 f2
      have j2 : JJ b H0 H2 := jj_g j1 (fun c _ z2 z3 _ => f2 c z2 z3)
      refine ⟨_, rfl, fun h2 e2 => ⟨fun z => absurd z (by decide), fun _ => ?_⟩⟩
      refine ct_best (c := 0) j2.2.1 j2.1.2.2.2.1 (by decide) (by omega) ?_
      intro H3 f3
      refine ⟨_, rfl, s141 H3 (f31 (f31 (f31 (f31 y (gLe b t (-1))) (gLe b t 0)) (nI (bs (thB b t) (pM (dP b))))) (gFe b t)) _ _ (jj_g j2 (fun c _ z2 z3 z4 => f3 c z2 z3 z4)) ?_ rfl⟩
      rw [e2, e1, ev]
      unfold gFe
      rw [if_pos hm]; rfl
    refine cmX9_foldThingGuesses ⟨fun z => ?_, fun _ => ?_⟩
    · rw [hF.1.2.2.1] at z
      have : nI (pM (dP b)) ≤ nI 0 := z
      rw [nI_leI (by omega) (by decide)] at this
      omega
    refine sgX9_foldThingGuesses_18 ⟨fun z => absurd z (by decide), fun _ => ?_⟩
    refine ct_planLend (c := 0) (h := 3) (to := 4) hF (by decide) ht (by decide) (by decide) ?_
    intro H1 f1 F1 r1
    have j1 := jj_P hJ f1 F1
    refine ⟨rfl, sgX9_foldThingGuesses_36 ⟨fun z => absurd z (by decide), fun _ => ct_told76 r1 ⟨_, rfl, ?_⟩⟩⟩
    refine sgX9_foldThingGuesses_63 ?_
    intro h1 e1
    refine ⟨fun z => absurd z (by decide), fun _ => ct_told76 r1 ⟨_, rfl, ?_⟩⟩
    refine s94 H1 _ _ j1 ?_
    rw [e1]
    unfold gLe
    rw [if_pos hm, if_pos hm]; rfl
  · have s94 : ∀ (H1 : Hi) (u : Int64) (x : Int32), JJ b H0 H1 → u + x.toInt64 = f31 (f31 y (gLe b t (-1))) (gLe b t 0) →
        Rm E mX9_foldThingGuesses Q 94 [some (rf E 0), none, none, some (.int (nI t)), none, none, some (.int 0)] [.int x, .long u] H1 := by
      intro H1 u x j1 ev
      refine sgX9_foldThingGuesses_94 ?_
      intro h1 e1
      refine ct_sus j1.2.1 j1.1.2.2.2.1 (by omega) ?_
      intro H2 f2
      have j2 : JJ b H0 H2 := jj_g j1 (fun c _ z2 z3 _ => f2 c z2 z3)
      refine ⟨_, rfl, fun h2 e2 => ⟨fun _ => ?_, fun z => absurd rfl z⟩⟩
      refine s141 H2 (f31 (f31 (f31 (f31 y (gLe b t (-1))) (gLe b t 0)) (nI (bs (thB b t) (pM (dP b))))) (gFe b t)) _ _ j2 ?_ rfl
      rw [e2, e1, ev]
      unfold gFe
      rw [if_neg hm]; rfl
    refine cmX9_foldThingGuesses ⟨fun _ => ?_, fun z => ?_⟩
    · refine sgX9_foldThingGuesses_18 ⟨fun _ => ⟨fun _ => ?_, fun z => absurd rfl z⟩, fun z => absurd rfl z⟩
      refine sgX9_foldThingGuesses_63 ?_
      intro h1 e1
      refine ⟨fun _ => ?_, fun z => absurd rfl z⟩
      refine s94 H _ _ hJ ?_
      rw [e1]
      unfold gLe
      rw [if_neg hm, if_neg hm]; rfl
    · rw [hF.1.2.2.1] at z
      have e0 : pM (dP b) = 0 := by omega
      rw [e0] at z
      exact absurd (by decide) z
theorem ct_fC {E : En} {Q : Option Value → Hi → Prop} {H0 H : Hi} {b : Bd} {c : Nat} {y : Int64} (hJ : JJ b H0 H) (hc : c < pM (dP b)) (hq : ∀ H' : Hi, JJ b H0 H' → Q (some (.long (gC b y c))) H') : Cm E mX9_foldCousin [rf E 0, .long y, .int (nI c)] H Q := by
  have hF := hJ.2.1
  have ok := hF.1.1
  have n8 := ok.1
  have m8 := ok.2.1
  refine cmX9_foldCousin (ct_ofCo0 hF.1 hc ⟨_, rfl, fun h1 e1 => ct_ofCo1 hF.1 hc ⟨_, rfl, fun h2 e2 => ?_⟩⟩)
  refine cmX2_heldBy (held_loop (b := b) (h := 9) hF (by decide) (by omega) ⟨_, rfl, fun h3 e3 => ⟨fun z => ?_, fun z => ?_⟩⟩ _ 0 (Nat.zero_add _))
  · rw [hF.1.2.1] at z
    have z' : nI (pN (dP b)) ≤ nI 0 := z
    rw [nI_leI (by omega) (by decide)] at z'
    have h := hq H hJ
    have eg : gWh b c = -2 := if_neg (by omega)
    unfold gC at h
    rw [eg] at h
    rw [e3, e2, e1]
    exact h
  · rw [hF.1.2.1] at z
    have z' : ¬ pN (dP b) = 0 := fun q => z (by rw [q]; decide)
    refine ct_fit (t := 0) hF hJ.1.2.2.2.1 (by omega) (by decide) ?_
    intro H1 f1
    refine ⟨_, rfl, ?_⟩
    have h := hq H1 (jj_g hJ (fun c _ z2 z3 _ => f1 c z2 z3))
    have eg : gWh b c = nI (bs (whB b c 0) 24) := if_pos (by omega)
    unfold gC at h
    rw [eg] at h
    rw [e3, e2, e1]
    exact h
theorem ct_fH {E : En} {Q : Option Value → Hi → Prop} {H0 H : Hi} {b : Bd} {n : Nat} {y : Int64} (hJ : JJ b H0 H) (hn : n < 24) (hq : ∀ H' : Hi, JJ b H0 H' → Q (some (.long (gH b y n))) H') : Cm E mX9_foldHour [rf E 0, .long y, .int (nI n)] H Q := by
  have hF := hJ.2.1
  refine cmX9_foldHour ⟨n, ⟨hn, rfl⟩, fun h1 e1 => ?_⟩
  refine cmX2_content (hap_loop (b := b) hF hn ⟨_, rfl, fun h2 e2 => ?_⟩ _ 0 (Nat.zero_add _))
  refine ct_uns hF hn ?_
  intro H1 f1 F1
  refine ⟨_, rfl, ?_⟩
  rw [e2, e1, (hF.2.2.1.2.2.2 n hn).2.2.2.1]
  exact hq H1 (jj_P hJ f1 F1)
theorem ct_idle {E : En} {Q : Option Value → Hi → Prop} {H : Hi} {b : Bd} (hB : CB b H) (hF : FR b H) (hq : Q (some (.int (nO (idH (dW b) (dH b) 24 0)))) H) : Cm E mX2_firstIdle [rf E 22] H Q := by
  refine cmX2_firstIdle ?_
  have h := idle_out (E := E) hB hF 24 0 rfl hq
  rw [cnt_0] at h
  exact h
theorem dig_w {E : En} {Q : Option Value → Hi → Prop} {H0 H : Hi} {b : Bd} (hJ : JJ b H0 H) : ∀ (m k : Nat) (y : Int64), k + m = (dH b).1 → (∀ H' : Hi, JJ b H0 H' → Q (some (.long (gEnd b (itF (gW b) k m y)))) H') → Rm E mX9_digest Q 161 [some (rf E 0), some (.long y), none, some (.int (nI k))] [] H := by
  have hF := hJ.2.1
  have hB := hJ.1
  have c2 : H 11 2 = nI (dH b).1 := hB.2.1.2.1
  have c1 : (dH b).1 ≤ 20 := hB.2.1.1
  intro m
  induction m with
  | zero =>
    intro k y hk hq
    refine sgX9_digest_161 ⟨fun _ => ?_, fun z => ?_⟩
    · refine ct_idle hB hF ⟨_, rfl, fun h1 e1 => ?_⟩
      · refine ct_planSort (bd := 9) hF (by decide) ?_
        intro H1 f1 F1 r1
        refine ⟨rfl, ct_told77 r1 ⟨_, rfl, fun h2 e2 => ct_told77 r1 ⟨_, rfl, fun h3 e3 => ?_⟩⟩⟩
        refine ct_day (n := 12) F1 (by decide) (Or.inl rfl) ?_
        intro H2 f2
        refine ⟨_, rfl, ?_⟩
        rw [e3, e2, e1]
        exact hq H2 (jj_g (jj_P hJ f1 F1) (fun c z1 _ _ _ => f2 c z1))
    · rw [c2] at z
      exact absurd (nI_le (show (dH b).1 ≤ k by omega) (by omega)) z
  | succ m ih =>
    intro k y hk hq
    refine sgX9_digest_161 ⟨fun z => ?_, fun _ h1 e1 x ex => ?_⟩
    · rw [c2] at z
      have := (nI_leI (by omega) (by omega)).mp z; omega
    · rw [hF.2.2.1.2.2.1, i_bitN (Nat.lt_of_lt_of_le (wkA_lt c1 24) (by decide)) (by omega)] at e1
      rw [ex, ← nI_succ, e1]
      exact ih (k + 1) _ (by omega) hq
theorem dig_c {E : En} {Q : Option Value → Hi → Prop} {H0 : Hi} {b : Bd} : ∀ (m c : Nat) (H : Hi) (y : Int64), JJ b H0 H → c + m = pM (dP b) → (∀ H' : Hi, JJ b H0 H' → Q (some (.long (gEnd b (itF (gW b) 0 (dH b).1 (gHs b (itF (gC b) c m y)))))) H') → Rm E mX9_digest Q 98 [some (rf E 0), some (.long y), none, some (.int (nI c))] [] H := by
  intro m
  induction m with
  | zero =>
    intro c H y hJ hc hq
    have hF := hJ.2.1
    have m8 := hF.1.1.2.1
    refine sgX9_digest_98 ⟨fun _ => ?_, fun z => ?_⟩
    · refine ct_fH (n := 0) hJ (by decide) (fun H1 j1 => ⟨_, rfl, ?_⟩)
      refine ct_fH (n := 1) j1 (by decide) (fun H2 j2 => ⟨_, rfl, ?_⟩)
      refine ct_fH (n := 5) j2 (by decide) (fun H3 j3 => ⟨_, rfl, ?_⟩)
      refine ct_fH (n := 12) j3 (by decide) (fun H4 j4 => ⟨_, rfl, ?_⟩)
      refine ct_fH (n := 23) j4 (by decide) (fun H5 j5 => ⟨_, rfl, ?_⟩)
      exact dig_w (b := b) j5 (dH b).1 0 _ (Nat.zero_add _) hq
    · rw [hF.1.2.2.1] at z
      exact absurd (nI_le (show pM (dP b) ≤ c by omega) (by omega)) z
  | succ m ih =>
    intro c H y hJ hc hq
    have hF := hJ.2.1
    have m8 := hF.1.1.2.1
    refine sgX9_digest_98 ⟨fun z => ?_, fun _ => ?_⟩
    · rw [hF.1.2.2.1] at z
      have := (nI_leI (by omega) (by omega)).mp z; omega
    · refine ct_fC hJ (by omega) (fun H1 j1 => ⟨_, rfl, fun x ex => ?_⟩)
      rw [ex, ← nI_succ]
      exact ih (c + 1) H1 _ j1 (by omega) hq
theorem dig_t {E : En} {Q : Option Value → Hi → Prop} {H0 : Hi} {b : Bd} : ∀ (m t : Nat) (H : Hi) (y : Int64), JJ b H0 H → t + m = pN (dP b) → (∀ H' : Hi, JJ b H0 H' → Q (some (.long (gEnd b (itF (gW b) 0 (dH b).1 (gHs b (itF (gC b) 0 (pM (dP b)) (itF (gT b) t m y))))))) H') → Rm E mX9_digest Q 67 [some (rf E 0), some (.long y), none, some (.int (nI t))] [] H := by
  intro m
  induction m with
  | zero =>
    intro t H y hJ hc hq
    have hF := hJ.2.1
    have n8 := hF.1.1.1
    refine sgX9_digest_67 ⟨fun _ => dig_c (pM (dP b)) 0 H y hJ (Nat.zero_add _) hq, fun z => ?_⟩
    rw [hF.1.2.1] at z
    exact absurd (nI_le (show pN (dP b) ≤ t by omega) (by omega)) z
  | succ m ih =>
    intro t H y hJ hc hq
    have hF := hJ.2.1
    have n8 := hF.1.1.1
    refine sgX9_digest_67 ⟨fun z => ?_, fun _ => ?_⟩
    · rw [hF.1.2.1] at z
      have := (nI_leI (by omega) (by omega)).mp z; omega
    · refine ct_fTH hF (by omega) ⟨_, rfl, ct_fTG hJ (by omega) (fun H1 j1 => ⟨_, rfl, fun x ex => ?_⟩)⟩
      rw [ex, ← nI_succ]
      exact ih (t + 1) H1 _ j1 (by omega) hq
theorem dig_y {E : En} {Q : Option Value → Hi → Prop} {H0 H : Hi} {b : Bd} (hJ : JJ b H0 H) : ∀ (m w : Nat) (y : Int64), w + m = 8 → (∀ H' : Hi, JJ b H0 H' → Q (some (.long (gEnd b (itF (gW b) 0 (dH b).1 (gHs b (itF (gC b) 0 (pM (dP b)) (itF (gT b) 0 (pN (dP b)) (gFw b (itF (gY b) w m y))))))))) H') → Rm E mX9_digest Q 10 [some (rf E 0), some (.long y), none, some (.int (nI w))] [] H := by
  intro m
  induction m with
  | zero =>
    intro w y hw hq
    have e : w = 8 := by omega
    subst e
    refine sgX9_digest_10 ⟨fun _ => ?_, fun z => absurd (show nI 8 ≤ nI 8 from nI_le (by omega) (by omega)) z⟩
    obtain ⟨t1, t2, t3, t4, t5, t6, t7, t8⟩ := hJ.1.1
    refine ct_fw1 t1 t2 t3 t4 ⟨_, rfl, fun h1 e1 => ct_fw3 t5 t6 t7 t8 ⟨_, rfl, fun h2 e2 => ?_⟩⟩
    rw [e2, e1]
    exact dig_t (pN (dP b)) 0 H _ hJ (Nat.zero_add _) hq
  | succ m ih =>
    intro w y hw hq
    refine sgX9_digest_10 ⟨fun z => ?_, fun _ => ct_tally hJ.1 hJ.2.1 ⟨_, rfl, fun h1 e1 x ex => ?_⟩⟩
    · have := (nI_leI (a := 8) (by omega) (by omega)).mp z; omega
    · rw [ex, ← nI_succ, e1]
      exact ih (w + 1) _ (by omega) hq
def sDigest (b : Bd) : Int64 × Bd := (gAll b, b)
theorem cc_digest {E : En} {b : Bd} : CcL E mX9_digest [rf E 0] b (sDigest b) := by
  intro H0 Q hC hq
  refine cmX9_digest (ct_refresh hC fun H kH hB hF h9 => ⟨rfl, ?_⟩)
  exact dig_y (b := b) (H0 := H0) ⟨hB, hF, kH⟩ 8 0 17 rfl (fun H' j' => hq H' j'.2.2 (ci_fr j'.1 j'.2.1))
