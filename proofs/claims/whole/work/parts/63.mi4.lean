/-! the model: hours -/
theorem wkF_tb {P : Pm} {hd : Hd} {h j : Nat} : ∀ (m k : Nat) (s : Sg) (r : Nat), (wkF P hd h k m s r).testBit j = true → r.testBit j = true ∨ hd.2.1 j = h
  | 0, _, _, _, q => Or.inl q
  | m + 1, k, s, r, q => by
    rcases wkF_tb m (k + 1) _ _ q with e | e
    · by_cases c : hd.2.1 k = h ∧ (rch P s (hd.2.2 k)).isSome = true
      · rw [if_pos c, Nat.testBit_or, Bool.or_eq_true] at e
        rcases e with e | e
        · exact Or.inl e
        · rw [Nat.testBit_two_pow] at e
          have := of_decide_eq_true e
          rw [← this]; exact Or.inr c.1
      · rw [if_neg c] at e; exact Or.inl e
    · exact Or.inr e
theorem wkA_hi {P : Pm} {hd : Hd} {a j : Nat} : ∀ h, h ≤ hd.2.1 j → (wkA P hd a h).testBit j = false
  | 0, _ => Nat.zero_testBit j
  | h + 1, q => by
    show (wkA P hd a h ||| wkH P hd h (stN P hd a h)).testBit j = false
    rw [Nat.testBit_or, wkA_hi h (by omega)]
    cases e : (wkH P hd h (stN P hd a h)).testBit j
    · rfl
    · rcases wkF_tb hd.1 0 (putB P (stN P hd a h)) 0 e with q2 | q2
      · rw [Nat.zero_testBit] at q2; exact absurd q2 (by decide)
      · omega
def MT (P : Pm) (hd : Hd) (a : Nat) (H : Hi) : Prop := RdC P H ∧ MHd hd H ∧ H 99 23 = nI a ∧ a < 2 ^ 31
theorem mt_keep {P : Pm} {hd : Hd} {a : Nat} {H H' : Hi} (h : MT P hd a H) (f : frK H H') : MT P hd a H' :=
  ⟨frK_rd h.1 f, mhd_keep h.2.1 (fun c hc => f c (by omega)), by rw [f 99 (by decide)]; exact h.2.2.1, h.2.2.2⟩
theorem mt_goes {E : En} {Q : Option Value → Hi → Prop} {H : Hi} {P : Pm} {s : Sg} {hd : Hd} {a h W : Nat} (hT : MT P hd a H) (hW : MW P s H) (hw : Wf P s) (hB : WkB W H) (hz : ∀ j, j < hd.1 → hd.2.1 j = h → W.testBit j = false) (hh : h < 24)
    (hq : ∀ H' : Hi, frK H H' → MW P (hr P hd a h s) H' → WkB (W ||| wkH P hd h s) H' → Q none H') : Cm E mX10_goesBy [rf E 99, .int (nI h)] H Q := by
  refine cmX10_goesBy (mt_putsBack hT.1 hW hw ?_)
  intro H1 f1 m1
  have k1 : frK H H1 := fun c hc => f1 c (by omega) (by omega) (by omega)
  have t1 := mt_keep hT k1
  refine ⟨rfl, mt_hands (W := W) t1.1 m1 (putB_wf hw) t1.2.1 (fun k hk => by rw [f1 115 (by decide) (by decide) (by decide)]; exact hB k hk) hz hh ?_⟩
  intro H2 f2 m2 b2
  have k2 : frK H H2 := fun c hc => by rw [f2 c (by omega) (by omega) (by omega)]; exact k1 c hc
  have t2 := mt_keep hT k2
  refine ⟨rfl, mt_ends t2.1 m2 (mid_wf hw) t2.2.2.1 t2.2.2.2 hh ?_⟩
  intro H3 f3 m3
  exact ⟨rfl, hq H3 (fun c hc => by rw [f3 c (by omega) (by omega)]; exact k2 c hc) m3 (fun k hk => by rw [f3 115 (by decide) (by decide)]; exact b2 k hk)⟩
/-- behind hour h - 1 -/
def MN (P : Pm) (hd : Hd) (a h : Nat) (H : Hi) : Prop := MW P (stN P hd a h) H ∧ WkB (wkA P hd a h) H
theorem mn_keep {P : Pm} {hd : Hd} {a h : Nat} {H H' : Hi} (hM : MN P hd a h H) (f : ∀ c, 111 ≤ c → c ≤ 115 → H' c = H c) : MN P hd a h H' :=
  ⟨mw_keep hM.1 (fun c hc => f c (by omega) (by omega)), fun k hk => by rw [f 115 (by decide) (by decide)]; exact hM.2 k hk⟩
theorem mt_go {E : En} {Q : Option Value → Hi → Prop} {H : Hi} {P : Pm} {hd : Hd} {a h : Nat} (hT : MT P hd a H) (hM : MN P hd a h H) (hh : h < 24)
    (hq : ∀ H' : Hi, frK H H' → MN P hd a (h + 1) H' → Q none H') : Cm E mX10_goesBy [rf E 99, .int (nI h)] H Q :=
  mt_goes (W := wkA P hd a h) hT hM.1 (stN_wf hT.1.1.2.1 h) hM.2 (fun j _ e => wkA_hi h (by omega)) hh (fun H' f' m' b' => hq H' f' ⟨m', b'⟩)
theorem mt_beg {E : En} {Q : Option Value → Hi → Prop} {H : Hi} {P : Pm} {hd : Hd} {a : Nat} (hR : RdC P H) (hq : ∀ H' : Hi, frK H H' → MN P hd a 0 H' → Q none H') : Cm E mX10_begins [rf E 99] H Q :=
  mt_begins hR (fun H' f' m' b' => hq H' f' ⟨m', fun k hk => by
    rw [b' k hk]
    have e : (wkA P hd a 0).testBit k = false := Nat.zero_testBit k
    rw [e]; rfl⟩)
theorem mt_runs {E : En} {Q : Option Value → Hi → Prop} {H : Hi} {P : Pm} {hd : Hd} {a n : Nat} {x : Int32} (hT : MT P hd a H) (hn : n ≤ 24) (hx : x.toInt = (n : Int) - 1)
    (hq : ∀ H' : Hi, frK H H' → MN P hd a n H' → Q none H') : Cm E mX10_runs [rf E 99, .int x] H Q := by
  refine cmX10_runs (mt_beg (hd := hd) (a := a) hT.1 ?_)
  intro H0 f0 m0
  refine ⟨rfl, ?_⟩
  have lp : ∀ (m h : Nat) (H1 : Hi), h + m = n → frK H H1 → MN P hd a h H1 → Rm E mX10_runs Q 6 [some (rf E 99), some (.int x), some (.int (nI h))] [] H1 := by
    intro m
    induction m with
    | zero =>
      intro h H1 hh f1 m1
      have e : h = n := by omega
      subst e
      refine sgX10_runs_6 ⟨fun _ => hq H1 f1 m1, fun z => absurd ((i_ltn (by omega)).mpr (by omega)) z⟩
    | succ m ih =>
      intro h H1 hh f1 m1
      refine sgX10_runs_6 ⟨fun z => ?_, fun _ => mt_go (mt_keep hT f1) m1 (by omega) ?_⟩
      · have := (i_ltn (by omega)).mp z; omega
      · intro H2 f2 m2
        refine ⟨rfl, fun y ey => ?_⟩
        rw [ey, ← nI_succ]
        exact ih (h + 1) H2 (by omega) (fun c hc => by rw [f2 c hc]; exact f1 c hc) m2
  exact lp n 0 H0 (Nat.zero_add _) f0 m0
