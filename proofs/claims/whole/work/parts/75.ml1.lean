/-! the model: plans -/
set_option maxHeartbeats 1000000 in
theorem mt_hands0 {E : En} {Q : Option Value → Hi → Prop} {H : Hi} {P : Pm} {s : Sg} {hd : Hd} {h : Nat} (hR : RdC P H) (hW : MW P s H) (hw : Wf P s) (hH : MHd hd H) (hh : h < 24)
    (hq : ∀ H' : Hi, frD2 H H' → MW P (tel P hd h s) H' → Q none H') : Cm E mX10_handsOf [rf E 99, .int (nI h)] H Q := by
  have d44 := hH.2.1
  have lp : ∀ (m k : Nat) (H1 : Hi) (z : Sg), k + m = hd.1 → Wf P z → frD2 H H1 → MW P z H1 →
      (∀ H' : Hi, frD2 H H' → MW P (itF (te1 P hd h) k m z) H' → Q none H') →
      Rm E mX10_handsOf Q 2 [some (rf E 99), some (.int (nI h)), some (.int (nI k))] [] H1 := by
    intro m
    induction m with
    | zero =>
      intro k H1 z hk wz f1 mw hq1
      refine sgX10_handsOf_2 ⟨fun _ => hq1 H1 f1 mw, fun q => ?_⟩
      rw [f1 99 (by decide) (by decide) (by decide), hH.1] at q
      exact absurd (nI_le (show hd.1 ≤ k by omega) (by omega)) q
    | succ m ih =>
      intro k H1 z hk wz f1 mw hq1
      have hH1 := mhd_keep hH (fun c hc => f1 c (by omega) (by omega) (by omega))
      have hR1 := rd_keep hR (fun c hc => f1 c (by omega) (by omega) (by omega))
      obtain ⟨c1, c2, c3, c4⟩ := hH1.2.2 k (by omega)
      refine sgX10_handsOf_2 ⟨fun q => ?_, fun _ => ⟨k, ⟨by omega, rfl⟩, ?_⟩⟩
      · rw [hH1.1] at q
        have := (nI_leI (by omega) (by omega)).mp q; omega
      · rw [c1]
        refine ⟨fun q x ex => ?_, fun q => ⟨k, ⟨by omega, rfl⟩, ?_⟩⟩
        · have q' : ¬ hd.2.1 k = h := fun p => q (by rw [p])
          rw [ex, ← nI_succ]
          have e1 : te1 P hd h z k = z := if_neg q'
          refine ih (k + 1) H1 z (by omega) wz f1 mw (fun H' f' m' => hq1 H' f' ?_)
          show MW P (itF (te1 P hd h) (k + 1) m (te1 P hd h z k)) H'
          rw [e1]; exact m'
        · have q' : hd.2.1 k = h := nI_inj (by omega) (by omega) q
          rw [c3]
          refine mt_acts hR1 mw wz c4 ?_
          intro H2 g2 m2
          refine ⟨_, rfl, k, ⟨by omega, rfl⟩, fun H3 g3 x ex => ?_⟩
          rw [ex, ← nI_succ]
          have e1 : te1 P hd h z k = act P z (hd.2.2 k) := if_pos q'
          refine ih (k + 1) H3 (act P z (hd.2.2 k)) (by omega) (act_wf wz) (fun c p1 p2 p3 => by rw [g3, up_n p3, g2 c p1 p2]; exact f1 c p1 p2 p3) (mw_keep m2 (fun c hc => by rw [g3, up_n (by omega)])) (fun H' f' m' => hq1 H' f' ?_)
          show MW P (itF (te1 P hd h) (k + 1) m (te1 P hd h z k)) H'
          rw [e1]; exact m'
  refine cmX10_handsOf (lp hd.1 0 H s (Nat.zero_add _) hw (fun _ _ _ _ => rfl) hW (fun H' f' m' => hq H' f' ?_))
  rw [itF_0] at m'
  exact m'
theorem mt_goes0 {E : En} {Q : Option Value → Hi → Prop} {H : Hi} {P : Pm} {s : Sg} {hd : Hd} {a h : Nat} (hT : MT P hd a H) (hW : MW P s H) (hw : Wf P s) (hh : h < 24)
    (hq : ∀ H' : Hi, frK H H' → MW P (hr P hd a h s) H' → Q none H') : Cm E mX10_goesBy [rf E 99, .int (nI h)] H Q := by
  refine cmX10_goesBy (mt_putsBack hT.1 hW hw ?_)
  intro H1 f1 m1
  have k1 : frK H H1 := fun c hc => f1 c (by omega) (by omega) (by omega)
  have t1 := mt_keep hT k1
  refine ⟨rfl, mt_hands0 t1.1 m1 (putB_wf hw) t1.2.1 hh ?_⟩
  intro H2 f2 m2
  have k2 : frK H H2 := fun c hc => by rw [f2 c (by omega) (by omega) (by omega)]; exact k1 c hc
  have t2 := mt_keep hT k2
  refine ⟨rfl, mt_ends t2.1 m2 (mid_wf hw) t2.2.2.1 t2.2.2.2 hh ?_⟩
  intro H3 f3 m3
  exact ⟨rfl, hq H3 (fun c hc => by rw [f3 c (by omega) (by omega)]; exact k2 c hc) m3⟩
theorem mw_ext {P : Pm} {s : Sg} {H H' : Hi} (n8 : pN P ≤ 8) (hW : MW P s H) (h : ∀ j, j < 8 → H' 111 j = H 111 j ∧ H' 112 j = H 112 j ∧ H' 113 j = H 113 j) : MW P s H' := by
  obtain ⟨w1, w2, tk, w3, w4⟩ := hW
  exact ⟨fun t ht => by rw [(h t ht).1]; exact w1 t ht, fun t ht => by rw [(h t (by omega)).2.1]; exact w2 t ht, tk, fun c hc => by rw [(h c hc).2.2]; exact w3 c hc, w4⟩
/-- what is kept -/
def MK (P : Pm) (s : Sg) (H : Hi) : Prop := MW P s (fun c => if c = 111 then H 116 else if c = 112 then H 117 else if c = 113 then H 118 else H c)
theorem mk_of {P : Pm} {s : Sg} {H H' : Hi} (n8 : pN P ≤ 8) (hW : MW P s H) (h : ∀ j, j < 8 → H' 116 j = H 111 j ∧ H' 117 j = H 112 j ∧ H' 118 j = H 113 j) : MK P s H' := mw_ext n8 hW h
theorem mk_to {P : Pm} {s : Sg} {H H' : Hi} (n8 : pN P ≤ 8) (hK : MK P s H) (h : ∀ j, j < 8 → H' 111 j = H 116 j ∧ H' 112 j = H 117 j ∧ H' 113 j = H 118 j) : MW P s H' := mw_ext n8 hK h
theorem mk_keep {P : Pm} {s : Sg} {H H' : Hi} (n8 : pN P ≤ 8) (hK : MK P s H) (h : ∀ c, 116 ≤ c → c ≤ 118 → H' c = H c) : MK P s H' :=
  mw_ext n8 hK (fun j _ => ⟨by show H' 116 j = H 116 j; rw [h 116 (by decide) (by decide)], by show H' 117 j = H 117 j; rw [h 117 (by decide) (by decide)], by show H' 118 j = H 118 j; rw [h 118 (by decide) (by decide)]⟩)
theorem mt_keeps {E : En} {Q : Option Value → Hi → Prop} {H : Hi} {P : Pm} {s : Sg} (n8 : pN P ≤ 8) (hW : MW P s H) (hq : ∀ H' : Hi, (∀ c, c < 116 ∨ 118 < c → H' c = H c) → MK P s H' → Q none H') : Cm E mX10_keeps [rf E 99] H Q := by
  have lp : ∀ (m k : Nat) (H1 : Hi), k + m = 8 → (∀ c, c < 116 ∨ 118 < c → H1 c = H c) → (∀ j, j < k → H1 116 j = H 111 j ∧ H1 117 j = H 112 j ∧ H1 118 j = H 113 j) → Rm E mX10_keeps Q 2 [some (rf E 99), some (.int (nI k))] [] H1 := by
    intro m
    induction m with
    | zero =>
      intro k H1 hk f1 v1
      have e : k = 8 := by omega
      subst e
      exact sgX10_keeps_2 ⟨fun _ => hq H1 f1 (mk_of n8 hW v1), fun z => absurd (show nI 8 ≤ nI 8 from nI_le (by omega) (by omega)) z⟩
    | succ m ih =>
      intro k H1 hk f1 v1
      refine sgX10_keeps_2 ⟨fun z => ?_, fun _ => ⟨k, ⟨by omega, rfl⟩, k, ⟨by omega, rfl⟩, fun H2 g2 => ⟨k, ⟨by omega, rfl⟩, k, ⟨by omega, rfl⟩, fun H3 g3 => ⟨k, ⟨by omega, rfl⟩, k, ⟨by omega, rfl⟩, fun H4 g4 x ex => ?_⟩⟩⟩⟩
      · have := (nI_leI (a := 8) (by omega) (by omega)).mp z; omega
      · rw [ex, ← nI_succ]
        refine ih (k + 1) H4 (by omega) (fun c hc => by rw [g4, up_n (by omega), g3, up_n (by omega), g2, up_n (by omega)]; exact f1 c hc) (fun j hj => ?_)
        by_cases q : j = k
        · subst q
          refine ⟨?_, ?_, ?_⟩
          · rw [g4, up_n (by decide), g3, up_n (by decide), g2, up_s, upd_s, f1 111 (by decide)]
          · rw [g4, up_n (by decide), g3, up_s, upd_s, g2, up_n (by decide), f1 112 (by decide)]
          · rw [g4, up_s, upd_s, g3, up_n (by decide), g2, up_n (by decide), f1 113 (by decide)]
        · obtain ⟨p1, p2, p3⟩ := v1 j (by omega)
          refine ⟨?_, ?_, ?_⟩
          · rw [g4, up_n (by decide), g3, up_n (by decide), g2, up_s, upd_n q, p1]
          · rw [g4, up_n (by decide), g3, up_s, upd_n q, g2, up_n (by decide), p2]
          · rw [g4, up_s, upd_n q, g3, up_n (by decide), g2, up_n (by decide), p3]
  exact cmX10_keeps (lp 8 0 H rfl (fun _ _ => rfl) (fun j hj => absurd hj (Nat.not_lt_zero j)))
theorem mt_rest {E : En} {Q : Option Value → Hi → Prop} {H : Hi} {P : Pm} {s : Sg} (n8 : pN P ≤ 8) (hK : MK P s H) (hq : ∀ H' : Hi, (∀ c, c < 111 ∨ 113 < c → H' c = H c) → MW P s H' → Q none H') : Cm E mX10_restores [rf E 99] H Q := by
  have lp : ∀ (m k : Nat) (H1 : Hi), k + m = 8 → (∀ c, c < 111 ∨ 113 < c → H1 c = H c) → (∀ j, j < k → H1 111 j = H 116 j ∧ H1 112 j = H 117 j ∧ H1 113 j = H 118 j) → Rm E mX10_restores Q 2 [some (rf E 99), some (.int (nI k))] [] H1 := by
    intro m
    induction m with
    | zero =>
      intro k H1 hk f1 v1
      have e : k = 8 := by omega
      subst e
      exact sgX10_restores_2 ⟨fun _ => hq H1 f1 (mk_to n8 hK v1), fun z => absurd (show nI 8 ≤ nI 8 from nI_le (by omega) (by omega)) z⟩
    | succ m ih =>
      intro k H1 hk f1 v1
      refine sgX10_restores_2 ⟨fun z => ?_, fun _ => ⟨k, ⟨by omega, rfl⟩, k, ⟨by omega, rfl⟩, fun H2 g2 => ⟨k, ⟨by omega, rfl⟩, k, ⟨by omega, rfl⟩, fun H3 g3 => ⟨k, ⟨by omega, rfl⟩, k, ⟨by omega, rfl⟩, fun H4 g4 x ex => ?_⟩⟩⟩⟩
      · have := (nI_leI (a := 8) (by omega) (by omega)).mp z; omega
      · rw [ex, ← nI_succ]
        refine ih (k + 1) H4 (by omega) (fun c hc => by rw [g4, up_n (by omega), g3, up_n (by omega), g2, up_n (by omega)]; exact f1 c hc) (fun j hj => ?_)
        by_cases q : j = k
        · subst q
          refine ⟨?_, ?_, ?_⟩
          · rw [g4, up_n (by decide), g3, up_n (by decide), g2, up_s, upd_s, f1 116 (by decide)]
          · rw [g4, up_n (by decide), g3, up_s, upd_s, g2, up_n (by decide), f1 117 (by decide)]
          · rw [g4, up_s, upd_s, g3, up_n (by decide), g2, up_n (by decide), f1 118 (by decide)]
        · obtain ⟨p1, p2, p3⟩ := v1 j (by omega)
          refine ⟨?_, ?_, ?_⟩
          · rw [g4, up_n (by decide), g3, up_n (by decide), g2, up_s, upd_n q, p1]
          · rw [g4, up_n (by decide), g3, up_s, upd_n q, g2, up_n (by decide), p2]
          · rw [g4, up_s, upd_n q, g3, up_n (by decide), g2, up_n (by decide), p3]
  exact cmX10_restores (lp 8 0 H rfl (fun _ _ => rfl) (fun j hj => absurd hj (Nat.not_lt_zero j)))
def acO (P : Pm) (s : Sg) (o : Option Nat) : Sg := match o with
  | some k => act P s k
  | none => s
theorem acO_wf {P : Pm} {s : Sg} {o : Option Nat} (w : Wf P s) : Wf P (acO P s o) := by
  cases o with
  | none => exact w
  | some k => exact act_wf w
/-- what lends may change -/
def frQ (H H' : Hi) : Prop := ∀ c, c < 111 ∨ (115 < c ∧ c ≠ 119) → H' c = H c
theorem fx_Q {n : Nat} {H H' : Hi} (f : frQ H H') : frX n H H' := ⟨fun c hc => f c (by omega), fun k _ => by rw [f 99 (by decide)], fun k _ => ⟨by rw [f 107 (by decide)], by rw [f 108 (by decide)]⟩⟩
theorem mt_kQ {P : Pm} {hd : Hd} {a : Nat} {H H' : Hi} (h : MT P hd a H) (f : frQ H H') : MT P hd a H' :=
  ⟨rd_keep h.1 (fun c hc => f c (by omega)), mhd_keep h.2.1 (fun c hc => f c (by omega)), by rw [f 99 (by decide)]; exact h.2.2.1, h.2.2.2⟩
theorem frQ_tr {H H1 H2 : Hi} (h : frQ H H1) (g : frQ H1 H2) : frQ H H2 := fun c hc => by rw [g c hc, h c hc]
theorem frQ_K {H H' : Hi} (f : frK H H') : frQ H H' := fun c hc => f c (by omega)
set_option maxHeartbeats 1000000 in
theorem mt_lends {E : En} {Q : Option Value → Hi → Prop} {H : Hi} {P : Pm} {s : Sg} {hd : Hd} {a c t h to : Nat} {o1 o2 : Option Nat} (hT : MT P hd a H) (hK : MK P s H) (hw : Wf P s) (ht : t < pN P) (hc : c < 8) (hh : h ≤ to) (hto : to < 24) (h1 : ∀ k, o1 = some k → k < 128) (h2 : ∀ k, o2 = some k → k < 128)
    (hq : ∀ H' : Hi, frQ H H' → H' 119 0 = nO o1 → H' 119 1 = nO o2 → Q (some (.int (bI (chk P hd a c t h to (acO P (acO P s o1) o2))))) H') :
    Cm E mX10_lends [rf E 99, .int (nO o1), .int (nO o2), .int (nI c), .int (nI t), .int (nI h), .int (nI to)] H Q := by
  have n8 := hT.1.1.1
  have m8 := hT.1.1.2.1
  -- the hours behind
  have l56 : ∀ (m g : Nat) (H1 : Hi) (z : Sg), g + m = to + 1 → frQ H H1 → MW P z H1 → Wf P z → (goN P hd a g m z = goN P hd a (h + 1) (to - h) (clo P a h (acO P (acO P s o1) o2))) →
      Rm E mX10_lends Q 56 [some (rf E 99), some (.int (nO o1)), some (.int (nO o2)), some (.int (nI c)), some (.int (nI t)), none, some (.int (nI to)), none, some (.int (nI g))] [] H1 := by
    intro m
    induction m with
    | zero =>
      intro g H1 z hg f1 w1 wz eg
      have wt := (wz t ht).1
      refine sgX10_lends_56 ⟨fun _ H2 g2 H3 g3 => ⟨t, ⟨by omega, rfl⟩, ?_⟩, fun q => absurd (nI_lt (show to < g by omega) (by omega)) q⟩
      have eg' : z = goN P hd a (h + 1) (to - h) (clo P a h (acO P (acO P s o1) o2)) := eg
      have f3 : frQ H H3 := fun c hc => by rw [g3, up_n (by omega), g2, up_n (by omega)]; exact f1 c hc
      have e0 : H3 119 0 = nO o1 := by rw [g3, up_s, upd_n (by decide), g2, up_s, upd_s]
      have e1 : H3 119 1 = nO o2 := by rw [g3, up_s, upd_s]
      have h := hq H3 f3 e0 e1
      have ew : H3 111 t = nI (z.1 t) := by rw [g3, up_n (by decide), g2, up_n (by decide)]; exact mw_w w1 n8 ht
      rw [ew]
      unfold chk at h
      rw [← eg'] at h
      refine ⟨fun q => ?_, fun q => ?_⟩
      · rw [decide_eq_false (fun p => q (by rw [p]))] at h; exact h
      · rw [decide_eq_true (nI_inj (by omega) (by omega) q)] at h; exact h
    | succ m ih =>
      intro g H1 z hg f1 w1 wz eg
      refine sgX10_lends_56 ⟨fun q => ?_, fun _ => mt_goes0 (mt_kQ hT f1) w1 wz (by omega) (fun H2 f2 w2 => ⟨rfl, fun x ex => ?_⟩)⟩
      · have := (nI_ltI (by omega) (by omega)).mp q; omega
      · rw [ex, ← nI_succ]
        exact ih (g + 1) H2 (hr P hd a g z) (by omega) (frQ_tr f1 (frQ_K f2)) w2 (hr_wf m8 wz) eg
  have en : ∀ (H1 : Hi), frQ H H1 → MW P (acO P (acO P s o1) o2) H1 → Cm E mX10_ends [rf E 99, .int (nI h)] H1 (fun w zH => w = none ∧ (∀ x : Int32, x = nI h + 1 → (Rm E mX10_lends Q 56 [some (rf E 99), some (.int (nO o1)), some (.int (nO o2)), some (.int (nI c)), some (.int (nI t)), none, some (.int (nI to)), none, some (.int x)] [] zH))) := by
    intro H1 f1 w1
    have t1 := mt_kQ hT f1
    have wf2 : Wf P (acO P (acO P s o1) o2) := acO_wf (acO_wf hw)
    refine mt_ends t1.1 w1 wf2 t1.2.2.1 t1.2.2.2 (by omega) (fun H2 f2 w2 => ⟨rfl, fun x ex => ?_⟩)
    rw [ex, ← nI_succ]
    exact l56 (to - h) (h + 1) H2 _ (by omega) (fun c hc => by rw [f2 c (by omega) (by omega)]; exact f1 c hc) w2 (clo_wf m8 wf2) rfl
  refine cmX10_lends (mt_rest n8 hK (fun H1 f1 w1 => ⟨rfl, ?_⟩))
  have fq1 : frQ H H1 := fun c hc => f1 c (by omega)
  have snd : ∀ (H2 : Hi), frQ H H2 → MW P (acO P s o1) H2 → ((nO o2 = -1 → Cm E mX10_ends [rf E 99, .int (nI h)] H2 (fun w zH => w = none ∧ (∀ x : Int32, x = nI h + 1 → (Rm E mX10_lends Q 56 [some (rf E 99), some (.int (nO o1)), some (.int (nO o2)), some (.int (nI c)), some (.int (nI t)), none, some (.int (nI to)), none, some (.int x)] [] zH)))) ∧ (¬ nO o2 = -1 → (Cm E mX10_acts [rf E 99, .int (nO o2)] H2 (fun w zH_8 => ∃ zr_9 : Int32, w = some (.int zr_9) ∧ ((zr_9 = 0 → (Cm E mX10_ends [rf E 99, .int (nI h)] zH_8 (fun w zH => w = none ∧ (∀ x : Int32, x = nI h + 1 → (Rm E mX10_lends Q 56 [some (rf E 99), some (.int (nO o1)), some (.int (nO o2)), some (.int (nI c)), some (.int (nI t)), none, some (.int (nI to)), none, some (.int x)] [] zH))))) ∧ (¬ zr_9 = 0 → (Cm E mX10_ends [rf E 99, .int (nI h)] zH_8 (fun w zH => w = none ∧ (∀ x : Int32, x = nI h + 1 → (Rm E mX10_lends Q 56 [some (rf E 99), some (.int (nO o1)), some (.int (nO o2)), some (.int (nI c)), some (.int (nI t)), none, some (.int (nI to)), none, some (.int x)] [] zH))))))))) ) := by
    intro H2 f2 w2
    refine ⟨fun z => en H2 f2 ?_, fun z => ?_⟩
    · have e : o2 = none := (nO_no h2).mp z
      rw [e]; exact w2
    · cases e : o2 with
      | none => exact absurd (by rw [e]; rfl) z
      | some k =>
        have k128 := h2 k e
        have t2 := mt_kQ hT f2
        refine mt_acts t2.1 w2 (acO_wf hw) k128 (fun H3 f3 w3 => ⟨_, rfl, ?_⟩)
        have go := en H3 (fun c hc => by rw [f3 c (by omega) (by omega)]; exact f2 c hc) (by rw [e]; exact w3)
        rw [e] at go
        exact ⟨fun _ => go, fun _ => go⟩
  refine ⟨fun z => snd H1 fq1 ?_, fun z => ?_⟩
  · have e : o1 = none := (nO_no h1).mp z
    rw [e]; exact w1
  · cases e : o1 with
    | none => exact absurd (by rw [e]; rfl) z
    | some k =>
      have k128 := h1 k e
      have t1 := mt_kQ hT fq1
      refine mt_acts t1.1 w1 hw k128 (fun H3 f3 w3 => ⟨_, rfl, ?_⟩)
      have go := snd H3 (fun c hc => by rw [f3 c (by omega) (by omega)]; exact fq1 c hc) (by rw [e]; exact w3)
      rw [e] at go
      exact ⟨fun _ => go, fun _ => go⟩
theorem mt_may {E : En} {Q : Option Value → Hi → Prop} {H : Hi} {P : Pm} {k : Nat} (hR : RdC P H) (hk : k < 128) (hq : Q (some (.int (bI (may P k)))) H) : Cm E mX10_mayCode [rf E 99, .int (nI k)] H Q := by
  have n8 := hR.1.1
  have m8 := hR.1.2.1
  refine cmX10_mayCode ?_
  have e1 : nI k / 8 - nI k / 8 / 8 * 8 = nI (k / 8 % 8) := by
    have : nI k / nI 8 = nI (k / 8) := pk_div (by omega) (by decide) (by decide)
    show nI k / nI 8 - nI k / nI 8 / nI 8 * nI 8 = _
    rw [this, ni_mod (by omega) (by decide) (by decide)]
  have e2 : nI k - nI k / 8 * 8 = nI (k % 8) := ni_mod (by omega) (by decide) (by decide)
  rw [e1, e2, hR.2.1, hR.2.2.1, nI_leI (by omega) (by omega), nI_leI (by omega) (by omega)]
  unfold may at hq
  refine ⟨fun z => ?_, fun z => ⟨fun z2 => ?_, fun z2 => ?_⟩⟩
  · rw [decide_eq_false (by omega)] at hq; exact hq
  · rw [decide_eq_false (by omega)] at hq; exact hq
  · rw [decide_eq_true (by omega)] at hq; exact hq
def RowM (v : Int32 × Int32 × Int32) (H : Hi) : Prop := (0 < v.1 → H 119 0 = v.2.1) ∧ (1 < v.1 → H 119 1 = v.2.2)
theorem mt_ofRow {E : En} {Q : Option Value → Hi → Prop} {H : Hi} {v : Int32 × Int32 × Int32} {i : Int32} (hi : isR i = true) (hr : RowM v H) (hq : Q (some (.int (rowT v i))) H) : Cm E mX10_ofRow [rf E 99, .int v.1, .int i] H Q := by
  unfold rowT at hq
  have nle : ∀ x y : Int32, ¬ x ≤ y ↔ y < x := fun x y => Int32.not_le
  refine cmX10_ofRow ⟨fun z => ⟨fun z2 => ?_, fun z2 => ?_⟩, fun z => ?_⟩
  · rw [if_neg z, if_neg (fun p => absurd z2 ((nle _ _).mpr p))] at hq; exact hq
  · have z2' := (nle _ _).mp z2
    rw [if_neg z, if_pos z2'] at hq
    unfold isR at hi
    rw [decide_eq_false z, Bool.false_or] at hi
    rcases inN_2.mp hi with e | e
    · rw [if_pos e] at hq
      refine ⟨0, ⟨by decide, by rw [e]; rfl⟩, ?_⟩
      rw [hr.1 (by rw [e] at z2'; exact z2')]; exact hq
    · rw [if_neg (by rw [e]; decide)] at hq
      refine ⟨1, ⟨by decide, by rw [e]; rfl⟩, ?_⟩
      rw [hr.2 (by rw [e] at z2'; exact z2')]; exact hq
  · rw [if_pos z] at hq; exact hq
