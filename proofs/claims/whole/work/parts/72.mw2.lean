/-! the model: when, thief, feel -/
def MX (b : Bd) (k : Nat) (H : Hi) : Prop := MI b H ∧ RdC (dP b) H ∧ H 99 22 = nI ((dH b).1 + 1) ∧ H 108 (dH b).1 = nI k ∧ H 99 23 = nI (dA b)
theorem mx_F {b : Bd} {k : Nat} {H H' : Hi} (h : MX b k H) (f : frF H H') : MX b k H' :=
  ⟨mi_fx h.1 (fx_F f), rd_keep2 h.2.1 (fun c hc => f.1 c (by omega) (by omega)) (fun k hk => f.2 k (by omega)), by rw [f.2 22 (by decide)]; exact h.2.2.1, by rw [f.1 108 (by decide) (by decide)]; exact h.2.2.2.1, by rw [f.2 23 (by decide)]; exact h.2.2.2.2⟩
theorem mx_start {E : En} {R : Hi → Prop} {H : Hi} {b : Bd} {c t : Nat} (hO : BOk b) (hM : MI b H) (hR : ∀ H5 : Hi, frX (dH b).1 H H5 → MX b (64 + 8 * c + t) H5 → R H5) :
    Cm E mX10_reads [rf E 99] H (fun w zH_1 => w = none ∧ (Cm E mX10_asTold [rf E 99] zH_1 (fun w zH_2 => w = none ∧ (∀ zH_3 : Hi, zH_3 = up zH_2 99 22 ((zH_2 99 22) + 1) → (∃ zj_4 : Nat, (zj_4 < 44 ∧ zH_3 99 11 = nI zj_4) ∧ (∀ zH_5 : Hi, zH_5 = up zH_3 108 zj_4 ((64 + (8 * nI c)) + nI t) → R zH_5)))))) := by
  have d20 := hO.2.2.2.2.1.1
  refine mt_reads hO hM (fun H1 f1 r1 => ⟨rfl, mt_asTold hO (mi_fx hM (fx_R f1)) r1 (fun H2 f2 t2 _ => ⟨rfl, fun H3 g3 => ?_⟩)⟩)
  have fx2 : frX (dH b).1 H H2 := fx_tr (fx_R f1) f2
  have m2 := mi_fx hM fx2
  have e11 : H3 99 11 = nI (dH b).1 := by rw [g3, up_s, upd_n (by decide)]; exact m2.2.2.1.1
  refine ⟨(dH b).1, ⟨by omega, e11⟩, fun H5 g5 => ?_⟩
  have fx5 : frX (dH b).1 H2 H5 := by
    refine ⟨fun c hc => by rw [g5, up_n (by omega), g3, up_n (by omega)], fun k hk => by rw [g5, up_n (by decide), g3, up_s, upd_n (by omega)], fun k hk => ⟨by rw [g5, up_n (by decide), g3, up_n (by decide)], ?_⟩⟩
    rw [g5, up_s, upd_n (by omega), g3, up_n (by decide)]
  refine hR H5 (fx_tr fx2 fx5) ⟨mi_fx m2 fx5, rd_keep2 t2.1 (fun c hc => by rw [g5, up_n (by omega), g3, up_n (by omega)]) (fun k hk => by rw [g5, up_n (by decide), g3, up_s, upd_n (by omega)]), ?_, ?_, ?_⟩
  · rw [g5, up_n (by decide), g3, up_s, upd_s, t2.2.1.1, nI_succ]
  · rw [g5, up_s, upd_s]
    show nI 64 + nI 8 * nI c + nI t = _
    rw [ni_mulN, nI_add, nI_add]
  · rw [g5, up_n (by decide), g3, up_s, upd_n (by decide)]; exact t2.2.2.1
theorem mx_hour {b : Bd} {k g : Nat} {H H' : Hi} (hO : BOk b) (hk : k < 128) (hg : g < 24) (h : MX b k H) (e : H' = up H 107 (dH b).1 (nI g)) : MT (dP b) (hdx (dH b) g k) (dA b) H' ∧ frX (dH b).1 H H' ∧ MX b k H' := by
  have d20 := hO.2.2.2.2.1.1
  have a24 := hO.2.2.2.1
  have kk : ∀ c, c ≠ 107 → H' c = H c := fun c p => by rw [e, up_n p]
  have fx : frX (dH b).1 H H' := ⟨fun c hc => kk c (by omega), fun k _ => by rw [kk 99 (by decide)], fun k hk => ⟨by rw [e, up_s, upd_n (by omega)], by rw [kk 108 (by decide)]⟩⟩
  have rd : RdC (dP b) H' := rd_keep h.2.1 (fun c hc => kk c (by omega))
  refine ⟨⟨rd, ⟨by rw [kk 99 (by decide)]; exact h.2.2.1, by show (dH b).1 + 1 ≤ 44; omega, fun j hj => ?_⟩, by rw [kk 99 (by decide)]; exact h.2.2.2.2, by omega⟩, fx, ⟨mi_fx h.1 fx, rd, by rw [kk 99 (by decide)]; exact h.2.2.1, by rw [kk 108 (by decide)]; exact h.2.2.2.1, by rw [kk 99 (by decide)]; exact h.2.2.2.2⟩⟩
  have hj' : j < (dH b).1 + 1 := hj
  show H' 107 j = nI (nup (dH b).2.1 (dH b).1 g j) ∧ nup (dH b).2.1 (dH b).1 g j < 24 ∧ H' 108 j = nI (nup (dH b).2.2 (dH b).1 k j) ∧ nup (dH b).2.2 (dH b).1 k j < 128
  unfold nup
  by_cases q : j = (dH b).1
  · rw [if_pos q, if_pos q, q]
    exact ⟨by rw [e, up_s, upd_s], hg, by rw [kk 108 (by decide)]; exact h.2.2.2.1, hk⟩
  · rw [if_neg q, if_neg q]
    have p1 := h.1.2.2.1.2 j (by omega)
    have p2 := hO.2.2.2.2.1.2 j (by omega)
    exact ⟨by rw [e, up_s, upd_n q]; exact p1.1, p2.1, by rw [kk 108 (by decide)]; exact p1.2, p2.2⟩
theorem mt_whenOf {E : En} {Q : Option Value → Hi → Prop} {H : Hi} {b : Bd} {c t : Nat} (hO : BOk b) (hM : MI b H) (hc : c < 8) (ht : t < pN (dP b))
    (hq : ∀ H' : Hi, frX (dH b).1 H H' → RdC (dP b) H' → Q (some (.int (nI (bs (whB b c t) 24)))) H') : Cm E mX10_whenOf [rf E 99, .int (nI c), .int (nI t)] H Q := by
  have d20 := hO.2.2.2.2.1.1
  have n8 := (bok_pm hO).1
  refine cmX10_whenOf (mx_start hO hM (fun H0 f0 x0 => ?_))
  have lp : ∀ (m g : Nat) (H1 : Hi), g + m = 24 → frX (dH b).1 H H1 → MX b (64 + 8 * c + t) H1 → Rm E mX10_whenOf Q 41 [some (rf E 99), none, some (.int (nI t)), some (.int (nI (bs (whB b c t) g))), some (.int (nI g))] [] H1 := by
    intro m
    induction m with
    | zero =>
      intro g H1 hg f1 x1
      have e : g = 24 := by omega
      subst e
      exact sgX10_whenOf_41 ⟨fun _ => hq H1 f1 x1.2.1, fun z => absurd (show nI 24 ≤ nI 24 from nI_le (by omega) (by omega)) z⟩
    | succ m ih =>
      intro g H1 hg f1 x1
      refine sgX10_whenOf_41 ⟨fun z => ?_, fun _ => ⟨(dH b).1, ⟨by omega, x1.1.2.2.1.1⟩, fun H2 g2 => ?_⟩⟩
      · have := (nI_leI (a := 24) (by omega) (by omega)).mp z; omega
      · obtain ⟨t2, f2, x2⟩ := mx_hour hO (by omega) (by omega) x1 g2
        refine mt_isFelt hO t2 x2.1.2.2.2.2.1 ht (fun H3 f3 w3 => ?_)
        have f13 : frX (dH b).1 H H3 := fx_tr (fx_tr f1 f2) (fx_F f3)
        have x3 := mx_F x2 f3
        have ew : whB b c t g = cmo b g (64 + 8 * c + t) := rfl
        refine ⟨_, rfl, fun z y ey x ex => ?_, fun z y ey x ex => ?_⟩
        · have e2 : bs (whB b c t) g = bs (whB b c t) (g + 1) := by rw [bs_succ, if_neg (by rw [ew, bI_0.mp z]; decide)]
          rw [ex, ← nI_succ, ey, or_0, e2]
          exact ih (g + 1) H3 (by omega) f13 x3
        · have e2 : nI (bs (whB b c t) g) ||| ((1 : Int32) <<< (nI g &&& 31)) = nI (bs (whB b c t) (g + 1)) := by rw [i_one g (by omega), nI_or, bs_succ, if_pos (by rw [ew]; exact bI_1 z)]
          rw [ex, ← nI_succ, ey, e2]
          exact ih (g + 1) H3 (by omega) f13 x3
  exact lp 24 0 H0 rfl f0 x0
theorem mc_when {E : En} {b : Bd} {x y : Int32} : Mc E mX10_when [rf E 99, .int x, .int y] b (sWhen b x y) := by
  intro H0 Q hO hM0 hq
  refine cmX10_when (mt_isCousin hO hM0 (fun H f r => ⟨_, rfl, fun z => ?_, fun z => mt_isThing hO (mi_fx hM0 f) (fun H2 f2 r2 => ⟨_, rfl, fun z2 => ?_, fun z2 => ?_⟩)⟩))
  · have e : sWhen b x y = (-2, b) := if_neg (by rw [bI_0.mp z]; simp)
    rw [e] at hq; exact hq H (fx_1 f) (mi_fx hM0 f)
  · have e : sWhen b x y = (-2, b) := if_neg (by rw [bI_0.mp z2]; simp)
    have f3 := fx_tr f f2
    rw [e] at hq; exact hq H2 (fx_1 f3) (mi_fx hM0 f3)
  · have e : sWhen b x y = _ := if_pos ⟨bI_1 z, bI_1 z2⟩
    rw [e] at hq
    have n8 := r.1.1
    have m8 := r.1.2.1
    obtain ⟨c, a1, b1, d1⟩ := inN_of (bI_1 z) (by omega)
    obtain ⟨t, a2, b2, d2⟩ := inN_of (bI_1 z2) (by omega)
    rw [d1, d2] at hq
    rw [b1, b2]
    have f3 := fx_tr f f2
    refine mt_whenOf hO (mi_fx hM0 f3) (by omega) a2 (fun H' f' r' => ⟨_, rfl, ?_⟩)
    have f4 := fx_tr f3 f'
    exact hq H' (fx_1 f4) (mi_fx hM0 f4)
theorem mt_thiefOf {E : En} {Q : Option Value → Hi → Prop} {H : Hi} {b : Bd} {t : Nat} (hO : BOk b) (hM : MI b H) (ht : t < pN (dP b))
    (hq : ∀ H' : Hi, frX (dH b).1 H H' → RdC (dP b) H' → Q (some (.int (nI (bs (thB b t) (pM (dP b)))))) H') : Cm E mX10_thiefOf [rf E 99, .int (nI t)] H Q := by
  have m8 := (bok_pm hO).2.1
  refine cmX10_thiefOf (mt_reads hO hM (fun H0 f0 r0 => ⟨rfl, ?_⟩))
  have lp : ∀ (m c : Nat) (H1 : Hi), c + m = pM (dP b) → frX (dH b).1 H H1 → RdC (dP b) H1 → Rm E mX10_thiefOf Q 8 [some (rf E 99), some (.int (nI t)), some (.int (nI (bs (thB b t) c))), some (.int (nI c))] [] H1 := by
    intro m
    induction m with
    | zero =>
      intro c H1 hc f1 r1
      refine sgX10_thiefOf_8 ⟨fun _ => ?_, fun z => ?_⟩
      · have e : c = pM (dP b) := by omega
        rw [e]; exact hq H1 f1 r1
      · rw [r1.2.2.1] at z
        exact absurd (nI_le (show pM (dP b) ≤ c by omega) (by omega)) z
    | succ m ih =>
      intro c H1 hc f1 r1
      refine sgX10_thiefOf_8 ⟨fun z => ?_, fun _ => mt_whenOf hO (mi_fx hM f1) (by omega) ht (fun H2 f2 r2 => ⟨_, rfl, ?_⟩)⟩
      · rw [r1.2.2.1] at z
        have := (nI_leI (by omega) (by omega)).mp z; omega
      · have lw := bs_lt (whB b c t) 24
        have f12 := fx_tr f1 f2
        rw [nI_eq0 (Nat.lt_of_lt_of_le lw (by decide))]
        refine ⟨fun z y ey x ex => ?_, fun z y ey x ex => ?_⟩
        · have e : thB b t c = false := decide_eq_false (fun q => q z)
          have e2 : bs (thB b t) c = bs (thB b t) (c + 1) := by rw [bs_succ, if_neg (by rw [e]; decide)]
          rw [ex, ← nI_succ, ey, or_0, e2]
          exact ih (c + 1) H2 (by omega) f12 r2
        · have e : thB b t c = true := decide_eq_true z
          have e2 : nI (bs (thB b t) c) ||| ((1 : Int32) <<< (nI c &&& 31)) = nI (bs (thB b t) (c + 1)) := by rw [i_one c (by omega), nI_or, bs_succ, if_pos e]
          rw [ex, ← nI_succ, ey, e2]
          exact ih (c + 1) H2 (by omega) f12 r2
  exact lp _ 0 H0 (Nat.zero_add _) (fx_R f0) r0
theorem mc_thief {E : En} {b : Bd} {x : Int32} : Mc E mX10_thief [rf E 99, .int x] b (sThief b x) := by
  intro H0 Q hO hM0 hq
  refine cmX10_thief (mt_isThing hO hM0 (fun H f r => ⟨_, rfl, fun z => ?_, fun z => ?_⟩))
  · have e : sThief b x = (-2, b) := if_neg (by rw [bI_0.mp z]; simp)
    rw [e] at hq; exact hq H (fx_1 f) (mi_fx hM0 f)
  · have e : sThief b x = _ := if_pos (bI_1 z)
    rw [e] at hq
    have n8 := r.1.1
    obtain ⟨t, a2, b2, d2⟩ := inN_of (bI_1 z) (by omega)
    rw [d2] at hq
    rw [b2]
    refine mt_thiefOf hO (mi_fx hM0 f) a2 (fun H' f' r' => ⟨_, rfl, ?_⟩)
    have f4 := fx_tr f f'
    exact hq H' (fx_1 f4) (mi_fx hM0 f4)
theorem mx_125 {b : Bd} {k : Nat} {H H' : Hi} (h : MX b k H) (f : ∀ c, c ≠ 125 → H' c = H c) : MX b k H' ∧ frX (dH b).1 H H' := by
  have fx : frX (dH b).1 H H' := ⟨fun c hc => f c (by omega), fun k _ => by rw [f 99 (by decide)], fun k _ => ⟨by rw [f 107 (by decide)], by rw [f 108 (by decide)]⟩⟩
  exact ⟨⟨mi_fx h.1 fx, rd_keep h.2.1 (fun c hc => f c (by omega)), by rw [f 99 (by decide)]; exact h.2.2.1, by rw [f 108 (by decide)]; exact h.2.2.2.1, by rw [f 99 (by decide)]; exact h.2.2.2.2⟩, fx⟩
theorem mxA_le {a x : Nat} (h : x ≤ a) : mxA a x ≤ a := by unfold mxA; split <;> omega
set_option maxHeartbeats 2000000 in
theorem fl_144 {E : En} {Q : Option Value → Hi → Prop} {H : Hi} {a : Nat} {v : Nat → Nat} (ha : a ≤ 24) (hva : ∀ h, h < 24 → v h ≤ a) (hv : ∀ h, h < 24 → H 125 h = nI (v h)) :
    ∀ (m h q l : Nat), h + m = 24 → l ≤ 24 → (∀ q' l', (if mxA a (v h) < l then q' = h ∧ l' = mxA a (v h) else q' = q ∧ l' = l) → h < 24 → Rm E mX10_feelOf Q 144 [some (rf E 99), none, none, some (.int (nI a)), some (.int (nI q')), some (.int (nI l')), some (.int (nI (h + 1))), none] [] H) → (h = 24 → Q (some (.int (nI q))) H) →
      Rm E mX10_feelOf Q 144 [some (rf E 99), none, none, some (.int (nI a)), some (.int (nI q)), some (.int (nI l)), some (.int (nI h)), none] [] H := by
  intro m h q l hm hl hn he
  by_cases e24 : h = 24
  · subst e24
    exact sgX10_feelOf_144 ⟨fun _ => he rfl, fun z => absurd (show nI 24 ≤ nI 24 from nI_le (by omega) (by omega)) z⟩
  · have h24 : h < 24 := by omega
    have va := hva h h24
    have ev := hv h h24
    have es : nI a - nI (v h) = nI (a - v h) := pk_sub va
    have ml := mxA_le va
    have fin : ∀ y : Int32, y = nI (mxA a (v h)) → ((nI l ≤ y → ((nI l ≤ y → (∀ x : Int32, x = nI h + 1 → (Rm E mX10_feelOf Q 144 [some (rf E 99), none, none, some (.int (nI a)), some (.int (nI q)), some (.int (nI l)), some (.int x), none] [] H))) ∧ (¬ nI l ≤ y → (∀ x : Int32, x = nI h + 1 → (Rm E mX10_feelOf Q 144 [some (rf E 99), none, none, some (.int (nI a)), some (.int (nI q)), some (.int y), some (.int x), none] [] H))))) ∧ (¬ nI l ≤ y → ((nI l ≤ y → (∀ x : Int32, x = nI h + 1 → (Rm E mX10_feelOf Q 144 [some (rf E 99), none, none, some (.int (nI a)), some (.int (nI h)), some (.int (nI l)), some (.int x), none] [] H))) ∧ (¬ nI l ≤ y → (∀ x : Int32, x = nI h + 1 → (Rm E mX10_feelOf Q 144 [some (rf E 99), none, none, some (.int (nI a)), some (.int (nI h)), some (.int y), some (.int x), none] [] H)))))) := by
      intro y ey
      rw [ey, nI_leI (by omega) (by omega)]
      refine ⟨fun z => ⟨fun _ x ex => ?_, fun z2 => absurd z z2⟩, fun z => ⟨fun z2 => absurd z2 z, fun _ x ex => ?_⟩⟩
      · rw [ex, ← nI_succ]
        exact hn q l (by rw [if_neg (by omega)]; exact ⟨rfl, rfl⟩) h24
      · rw [ex, ← nI_succ]
        exact hn h (mxA a (v h)) (by rw [if_pos (by omega)]; exact ⟨rfl, rfl⟩) h24
    refine sgX10_feelOf_144 ⟨fun z => ?_, fun _ => ⟨h, ⟨h24, rfl⟩, h, ⟨h24, rfl⟩, ?_⟩⟩
    · have := (nI_leI (a := 24) (by omega) (by omega)).mp z; omega
    · rw [ev, es, nI_leI (by omega) (by omega)]
      refine ⟨fun z => ⟨h, ⟨h24, rfl⟩, fun y ey => ?_⟩, fun z => ⟨h, ⟨h24, rfl⟩, fun y ey => ?_⟩⟩
      · refine fin y ?_
        rw [ey, ev, es]
        unfold mxA
        by_cases p : v h < a - v h
        · rw [if_pos p]
        · rw [if_neg p]
          congr 1; omega
      · refine fin y ?_
        rw [ey, ev]
        unfold mxA
        rw [if_neg (by omega)]
theorem fl_end {E : En} {Q : Option Value → Hi → Prop} {H : Hi} {a : Nat} {v : Nat → Nat} (ha : a ≤ 24) (hva : ∀ h, h < 24 → v h ≤ a) (hv : ∀ h, h < 24 → H 125 h = nI (v h)) :
    ∀ (m h q : Nat), h + m = 24 → q < 24 → Q (some (.int (nI (bsF a v m h q)))) H → Rm E mX10_feelOf Q 144 [some (rf E 99), none, none, some (.int (nI a)), some (.int (nI q)), some (.int (nI (mxA a (v q)))), some (.int (nI h)), none] [] H := by
  intro m
  induction m with
  | zero =>
    intro h q hm hq24 hq
    refine fl_144 ha hva hv 0 h q _ hm (by have := mxA_le (hva q hq24); omega) (fun q' l' _ h24 => by omega) (fun _ => hq)
  | succ m ih =>
    intro h q hm hq24 hq
    refine fl_144 ha hva hv (m + 1) h q _ hm (by have := mxA_le (hva q hq24); omega) (fun q' l' hc h24 => ?_) (fun e => by omega)
    have eb : bsF a v (m + 1) h q = bsF a v m (h + 1) (if mxA a (v h) < mxA a (v q) then h else q) := rfl
    rw [eb] at hq
    by_cases c : mxA a (v h) < mxA a (v q)
    · rw [if_pos c] at hc hq
      rw [hc.1, hc.2]
      exact ih (h + 1) h (by omega) h24 hq
    · rw [if_neg c] at hc hq
      rw [hc.1, hc.2]
      exact ih (h + 1) q (by omega) hq24 hq
set_option maxHeartbeats 2000000 in
theorem mt_feelOf {E : En} {Q : Option Value → Hi → Prop} {H : Hi} {b : Bd} {c t : Nat} (hO : BOk b) (hM : MI b H) (hc : c < 8) (ht : t < pN (dP b))
    (hq : ∀ H' : Hi, frX (dH b).1 H H' → RdC (dP b) H' → Q (some (.int (nI (feS b c t)))) H') : Cm E mX10_feelOf [rf E 99, .int (nI c), .int (nI t)] H Q := by
  have d20 := hO.2.2.2.2.1.1
  have n8 := (bok_pm hO).1
  refine cmX10_feelOf (mx_start hO hM (fun H0 f0 x0 => ?_))
  generalize ek : 64 + 8 * c + t = k at x0
  have k128 : k < 128 := by omega
  have efe : feS b c t = bsF (alN b k 24) (tmN b t k 24) 23 1 0 := by unfold feS; rw [ek]
  have a24 := al_le b k 24
  -- the last loop
  have l3 : ∀ H1 : Hi, frX (dH b).1 H H1 → RdC (dP b) H1 → (∀ h, h < 24 → H1 125 h = nI (tmN b t k 24 h)) → Rm E mX10_feelOf Q 144 [some (rf E 99), none, none, some (.int (nI (alN b k 24))), some (.int 0), some (.int (nI (alN b k 24))), some (.int 0), none] [] H1 := by
    intro H1 f1 r1 v1
    have va : ∀ h, h < 24 → tmN b t k 24 h ≤ alN b k 24 := fun h _ => tm_al b t k 24 h
    have fin := hq H1 f1 r1
    rw [efe] at fin
    refine fl_144 (v := tmN b t k 24) a24 va v1 24 0 0 (alN b k 24) rfl a24 (fun q' l' hc' _ => ?_) (fun e => by omega)
    have m0 := mxA_le (va 0 (by decide))
    have e0 : q' = 0 ∧ l' = mxA (alN b k 24) (tmN b t k 24 0) := by
      by_cases c : mxA (alN b k 24) (tmN b t k 24 0) < alN b k 24
      · rw [if_pos c] at hc'; exact hc'
      · rw [if_neg c] at hc'
        exact ⟨hc'.1, by rw [hc'.2]; omega⟩
    rw [e0.1, e0.2]
    exact fl_end a24 va v1 23 1 0 rfl (by decide) fin
  -- the loop over hours
  have l2 : ∀ (m g : Nat) (H1 : Hi), g + m = 24 → frX (dH b).1 H H1 → MX b k H1 → (∀ h, h < 24 → H1 125 h = nI (tmN b t k g h)) → Rm E mX10_feelOf Q 65 [some (rf E 99), none, some (.int (nI t)), some (.int (nI (alN b k g))), some (.int (nI g)), none, none, none] [] H1 := by
    intro m
    induction m with
    | zero =>
      intro g H1 hg f1 x1 v1
      have e : g = 24 := by omega
      subst e
      exact sgX10_feelOf_65 ⟨fun _ => l3 H1 f1 x1.2.1 v1, fun z => absurd (show nI 24 ≤ nI 24 from nI_le (by omega) (by omega)) z⟩
    | succ m ih =>
      intro g H1 hg f1 x1 v1
      refine sgX10_feelOf_65 ⟨fun z => ?_, fun _ => ⟨(dH b).1, ⟨by omega, x1.1.2.2.1.1⟩, fun H2 g2 => ?_⟩⟩
      · have := (nI_leI (a := 24) (by omega) (by omega)).mp z; omega
      · obtain ⟨t2, f2, x2⟩ := mx_hour hO k128 (by omega) x1 g2
        refine mt_isFelt hO t2 x2.1.2.2.2.2.1 ht (fun H3 f3 w3 => ?_)
        have f13 : frX (dH b).1 H H3 := fx_tr (fx_tr f1 f2) (fx_F f3)
        have x3 := mx_F x2 f3
        have v3 : ∀ h, h < 24 → H3 125 h = nI (tmN b t k g h) := fun h hh => by rw [f3.1 125 (by decide) (by decide), g2, up_n (by decide)]; exact v1 h hh
        have ea : alN b k (g + 1) = alN b k g + (if cmo b g k = true then 1 else 0) := rfl
        have et : ∀ h, tmN b t k (g + 1) h = tmN b t k g h + (if cmo b g k = true then sn1 b t g k h else 0) := fun h => rfl
        refine ⟨_, rfl, fun z x ex => ?_, fun z x ex => ?_⟩
        · have z' := bI_0.mp z
          rw [ex, ← nI_succ]
          have e1 : alN b k g = alN b k (g + 1) := by rw [ea, z']; simp
          rw [e1]
          refine ih (g + 1) H3 (by omega) f13 x3 (fun h hh => ?_)
          rw [v3 h hh, et, z']; simp
        · have z' := bI_1 z
          have e1 : x = nI (alN b k (g + 1)) := by rw [ex, ea, if_pos z', nI_succ]
          rw [e1]
          -- what was in
          have li : ∀ (m2 h : Nat) (H4 : Hi), h + m2 = 24 → (∀ c, c ≠ 125 → H4 c = H3 c) → (∀ j, j < 24 → H4 125 j = nI (if j < h then tmN b t k (g + 1) j else tmN b t k g j)) → Rm E mX10_feelOf Q 97 [some (rf E 99), none, some (.int (nI t)), some (.int (nI (alN b k (g + 1)))), some (.int (nI g)), some (.int (nI h)), none, none] [] H4 := by
            intro m2
            induction m2 with
            | zero =>
              intro h H4 hh f4 v4
              have e : h = 24 := by omega
              subst e
              obtain ⟨x4, fx4⟩ := mx_125 x3 f4
              refine sgX10_feelOf_97 ⟨fun _ y ey => ?_, fun z2 => absurd (show nI 24 ≤ nI 24 from nI_le (by omega) (by omega)) z2⟩
              rw [ey, ← nI_succ]
              refine ih (g + 1) H4 (by omega) (fx_tr f13 fx4) x4 (fun j hj => ?_)
              rw [v4 j hj, if_pos hj]
            | succ m2 ih2 =>
              intro h H4 hh f4 v4
              refine sgX10_feelOf_97 ⟨fun z2 => ?_, fun _ => ⟨h, ⟨by omega, rfl⟩, h, ⟨by omega, rfl⟩, fun H5 g5 y ey => ?_⟩⟩
              · have := (nI_leI (a := 24) (by omega) (by omega)).mp z2; omega
              · rw [ey, ← nI_succ]
                refine ih2 (h + 1) H5 (by omega) (fun c p => by rw [g5, up_n p]; exact f4 c p) (fun j hj => ?_)
                rw [g5, up_s]
                by_cases ej : j = h
                · rw [ej, upd_s, v4 h (by omega), f4 99 (by decide), w3, i_bit (by decide) (by omega), if_neg (Nat.lt_irrefl h), if_pos (Nat.lt_succ_self h), nI_add, et, if_pos z', sn1_in ht]
                · rw [upd_n ej, v4 j hj]
                  by_cases q : j < h
                  · rw [if_pos q, if_pos (by omega)]
                  · rw [if_neg q, if_neg (by omega)]
          exact li 24 0 H3 rfl (fun _ _ => rfl) (fun j hj => by rw [v3 j hj, if_neg (Nat.not_lt_zero j)])
  -- the loop that clears
  have l1 : ∀ (m h : Nat) (H1 : Hi), h + m = 24 → (∀ c, c ≠ 125 → H1 c = H0 c) → (∀ j, j < h → H1 125 j = 0) → Rm E mX10_feelOf Q 41 [some (rf E 99), none, some (.int (nI t)), some (.int 0), some (.int (nI h)), none, none, none] [] H1 := by
    intro m
    induction m with
    | zero =>
      intro h H1 hh f1 v1
      have e : h = 24 := by omega
      subst e
      obtain ⟨x1, fx1'⟩ := mx_125 x0 f1
      exact sgX10_feelOf_41 ⟨fun _ => l2 24 0 H1 rfl (fx_tr f0 fx1') x1 (fun j hj => by rw [v1 j hj]; rfl), fun z => absurd (show nI 24 ≤ nI 24 from nI_le (by omega) (by omega)) z⟩
    | succ m ih =>
      intro h H1 hh f1 v1
      refine sgX10_feelOf_41 ⟨fun z => ?_, fun _ => ⟨h, ⟨by omega, rfl⟩, fun H2 g2 x ex => ?_⟩⟩
      · have := (nI_leI (a := 24) (by omega) (by omega)).mp z; omega
      · rw [ex, ← nI_succ]
        refine ih (h + 1) H2 (by omega) (fun c p => by rw [g2, up_n p]; exact f1 c p) (fun j hj => ?_)
        rw [g2, up_s]
        by_cases q : j = h
        · rw [q, upd_s]
        · rw [upd_n q]; exact v1 j (by omega)
  exact l1 24 0 H0 rfl (fun _ _ => rfl) (fun j hj => absurd hj (Nat.not_lt_zero j))
theorem mc_feel {E : En} {b : Bd} {x y : Int32} : Mc E mX10_feel [rf E 99, .int x, .int y] b (sFeel b x y) := by
  intro H0 Q hO hM0 hq
  refine cmX10_feel (mt_isCousin hO hM0 (fun H f r => ⟨_, rfl, fun z => ?_, fun z => mt_isThing hO (mi_fx hM0 f) (fun H2 f2 r2 => ⟨_, rfl, fun z2 => ?_, fun z2 => ?_⟩)⟩))
  · have e : sFeel b x y = (-2, b) := if_neg (by rw [bI_0.mp z]; simp)
    rw [e] at hq; exact hq H (fx_1 f) (mi_fx hM0 f)
  · have e : sFeel b x y = (-2, b) := if_neg (by rw [bI_0.mp z2]; simp)
    have f3 := fx_tr f f2
    rw [e] at hq; exact hq H2 (fx_1 f3) (mi_fx hM0 f3)
  · have e : sFeel b x y = _ := if_pos ⟨bI_1 z, bI_1 z2⟩
    rw [e] at hq
    have n8 := r.1.1
    have m8 := r.1.2.1
    obtain ⟨c, a1, b1, d1⟩ := inN_of (bI_1 z) (by omega)
    obtain ⟨t, a2, b2, d2⟩ := inN_of (bI_1 z2) (by omega)
    rw [d1, d2] at hq
    rw [b1, b2]
    have f3 := fx_tr f f2
    refine mt_feelOf hO (mi_fx hM0 f3) (by omega) a2 (fun H' f' r' => ⟨_, rfl, ?_⟩)
    have f4 := fx_tr f3 f'
    exact hq H' (fx_1 f4) (mi_fx hM0 f4)
