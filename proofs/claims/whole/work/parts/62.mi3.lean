/-! the model: hands, the end of an hour, many hours -/
def MHd (hd : Hd) (H : Hi) : Prop := H 99 22 = nI hd.1 ∧ hd.1 ≤ 44 ∧ ∀ k, k < hd.1 → H 107 k = nI (hd.2.1 k) ∧ hd.2.1 k < 24 ∧ H 108 k = nI (hd.2.2 k) ∧ hd.2.2 k < 128
def WkB (w : Nat) (H : Hi) : Prop := ∀ k, k < 44 → H 115 k = nI (if w.testBit k = true then 1 else 0)
theorem mhd_keep {hd : Hd} {H H' : Hi} (hH : MHd hd H) (h : ∀ c, c = 99 ∨ c = 107 ∨ c = 108 → H' c = H c) : MHd hd H' := by
  unfold MHd
  rw [h 99 (by omega), h 107 (by omega), h 108 (by omega)]
  exact hH
theorem tb_lt {r k : Nat} (h : r < 2 ^ k) : r.testBit k = false := Nat.testBit_lt_two_pow h
def frD2 (H0 H : Hi) : Prop := ∀ c, c ≠ 111 → c ≠ 113 → c ≠ 115 → H c = H0 c
set_option maxHeartbeats 1000000 in
theorem mt_hands {E : En} {Q : Option Value → Hi → Prop} {H : Hi} {P : Pm} {s : Sg} {hd : Hd} {h W : Nat} (hR : RdC P H) (hW : MW P s H) (hw : Wf P s) (hH : MHd hd H) (hB : WkB W H) (hz : ∀ j, j < hd.1 → hd.2.1 j = h → W.testBit j = false) (hh : h < 24)
    (hq : ∀ H' : Hi, frD2 H H' → MW P (tel P hd h s) H' → WkB (W ||| wkF P hd h 0 hd.1 s 0) H' → Q none H') : Cm E mX10_handsOf [rf E 99, .int (nI h)] H Q := by
  have d44 := hH.2.1
  have lp : ∀ (m k : Nat) (H1 : Hi) (z : Sg) (r : Nat), k + m = hd.1 → r < 2 ^ k → Wf P z → frD2 H H1 → MW P z H1 → WkB (W ||| r) H1 →
      (∀ H' : Hi, frD2 H H' → MW P (itF (te1 P hd h) k m z) H' → WkB (W ||| wkF P hd h k m z r) H' → Q none H') →
      Rm E mX10_handsOf Q 2 [some (rf E 99), some (.int (nI h)), some (.int (nI k))] [] H1 := by
    intro m
    induction m with
    | zero =>
      intro k H1 z r hk hr wz f1 mw wk hq1
      refine sgX10_handsOf_2 ⟨fun _ => hq1 H1 f1 mw wk, fun q => ?_⟩
      rw [f1 99 (by decide) (by decide) (by decide), hH.1] at q
      exact absurd (nI_le (show hd.1 ≤ k by omega) (by omega)) q
    | succ m ih =>
      intro k H1 z r hk hr wz f1 mw wk hq1
      have hH1 := mhd_keep hH (fun c hc => f1 c (by omega) (by omega) (by omega))
      have hR1 := rd_keep hR (fun c hc => f1 c (by omega) (by omega) (by omega))
      obtain ⟨c1, c2, c3, c4⟩ := hH1.2.2 k (by omega)
      refine sgX10_handsOf_2 ⟨fun q => ?_, fun _ => ⟨k, ⟨by omega, rfl⟩, ?_⟩⟩
      · rw [hH1.1] at q
        have := (nI_leI (by omega) (by omega)).mp q; omega
      · rw [c1]
        refine ⟨fun q x ex => ?_, fun q => ⟨k, ⟨by omega, rfl⟩, ?_⟩⟩
        · have q' : ¬ hd.2.1 k = h := fun p => q (by rw [p])
          rw [ex, ← nI_succ]
          have e1 : te1 P hd h z k = z := if_neg q'
          refine ih (k + 1) H1 z r (by omega) (Nat.lt_of_lt_of_le hr (Nat.pow_le_pow_right (by decide) (by omega))) wz f1 mw wk (fun H' f' m' w' => hq1 H' f' ?_ ?_)
          · show MW P (itF (te1 P hd h) (k + 1) m (te1 P hd h z k)) H'
            rw [e1]; exact m'
          · show WkB (W ||| wkF P hd h (k + 1) m (te1 P hd h z k) (if _ then _ else _)) H'
            rw [e1, if_neg (fun p => q' p.1)]; exact w'
        · have q' : hd.2.1 k = h := nI_inj (by omega) (by omega) q
          rw [c3]
          refine mt_acts hR1 mw wz c4 ?_
          intro H2 g2 m2
          refine ⟨_, rfl, k, ⟨by omega, rfl⟩, fun H3 g3 x ex => ?_⟩
          rw [ex, ← nI_succ]
          have e1 : te1 P hd h z k = act P z (hd.2.2 k) := if_pos q'
          have r2 : (if (rch P z (hd.2.2 k)).isSome = true then r ||| 2 ^ k else r) < 2 ^ (k + 1) := by
            have a1 : r < 2 ^ (k + 1) := Nat.lt_of_lt_of_le hr (Nat.pow_le_pow_right (by decide) (by omega))
            split
            · exact Nat.or_lt_two_pow a1 (Nat.pow_lt_pow_right (by decide) (by omega))
            · exact a1
          refine ih (k + 1) H3 (act P z (hd.2.2 k)) (if (rch P z (hd.2.2 k)).isSome = true then r ||| 2 ^ k else r) (by omega) r2 (act_wf wz) (fun c p1 p2 p3 => by rw [g3, up_n p3, g2 c p1 p2]; exact f1 c p1 p2 p3) (mw_keep m2 (fun c hc => by rw [g3, up_n (by omega)])) (fun j hj => ?_) (fun H' f' m' w' => hq1 H' f' ?_ ?_)
          · rw [g3, up_s]
            by_cases e : j = k
            · rw [e, upd_s, vn_b]
              congr 1
              have wz := hz k (by omega) q'
              cases er : (rch P z (hd.2.2 k)).isSome
              · have ef : (if false = true then r ||| 2 ^ k else r) = r := if_neg (by decide)
                rw [ef, if_neg (show ¬ false = true by decide), Nat.testBit_or, wz, tb_lt hr]; rfl
              · have ef : (if true = true then r ||| 2 ^ k else r) = r ||| 2 ^ k := if_pos rfl
                rw [ef, if_pos (show true = true from rfl), Nat.testBit_or, Nat.testBit_or, Nat.testBit_two_pow_self]; simp
            · rw [upd_n e, g2 115 (by decide) (by decide), wk j hj]
              congr 1
              have eb : (W ||| r).testBit j = (W ||| (if (rch P z (hd.2.2 k)).isSome = true then r ||| 2 ^ k else r)).testBit j := by
                split
                · rw [Nat.testBit_or, Nat.testBit_or, Nat.testBit_or, Nat.testBit_two_pow_of_ne (by omega), Bool.or_false]
                · rfl
              rw [eb]
          · show MW P (itF (te1 P hd h) (k + 1) m (te1 P hd h z k)) H'
            rw [e1]; exact m'
          · show WkB (W ||| wkF P hd h (k + 1) m (te1 P hd h z k) (if hd.2.1 k = h ∧ (rch P z (hd.2.2 k)).isSome = true then r ||| 2 ^ k else r)) H'
            rw [e1]
            have ei : (if hd.2.1 k = h ∧ (rch P z (hd.2.2 k)).isSome = true then r ||| 2 ^ k else r) = (if (rch P z (hd.2.2 k)).isSome = true then r ||| 2 ^ k else r) := by
              by_cases er : (rch P z (hd.2.2 k)).isSome = true
              · rw [if_pos ⟨q', er⟩, if_pos er]
              · rw [if_neg (fun p => er p.2), if_neg er]
            rw [ei]; exact w'
  refine cmX10_handsOf (lp hd.1 0 H s 0 (Nat.zero_add _) (by decide) hw (fun _ _ _ _ => rfl) hW (by rw [Nat.or_zero]; exact hB) (fun H' f' m' w' => hq H' f' ?_ w'))
  rw [itF_0] at m'
  exact m'
/-! the end of an hour -/
def flK (P : Pm) (h t k : Nat) : Bool := (List.range k).any (fun k => decide ((pO P).2.1 k = h) && decide (pSz P t ≤ (pO P).2.2 k))
theorem flK_s (P : Pm) (h t k : Nat) : flK P h t (k + 1) = (flK P h t k || (decide ((pO P).2.1 k = h) && decide (pSz P t ≤ (pO P).2.2 k))) := by
  unfold flK
  rw [List.range_succ, List.any_append]
  simp
def cwK (P : Pm) (h k : Nat) (s : Sg) : Nat → Nat := fun t => if s.1 t = 8 ∧ flK P h t k = true then 9 else s.1 t
theorem cwK_s {P : Pm} {h k t : Nat} {s : Sg} : cwK P h (k + 1) s t = if (pO P).2.1 k = h ∧ cwK P h k s t = 8 ∧ pSz P t ≤ (pO P).2.2 k then 9 else cwK P h k s t := by
  unfold cwK
  rw [flK_s]
  by_cases a : s.1 t = 8
  · cases b : flK P h t k
    · by_cases c : (pO P).2.1 k = h
      · by_cases d : pSz P t ≤ (pO P).2.2 k
        · simp [a, c, d]
        · simp [a, c, d]
      · simp [a, c]
    · simp [a]
  · simp [a]
def WHk (P : Pm) (w : Nat → Nat) (H : Hi) : Prop := ∀ t, t < 8 → H 111 t = nI (if t < pN P then w t else 9)
theorem whk_up {P : Pm} {w w' : Nat → Nat} {H H' : Hi} {t v : Nat} {x : Int32} (hW : WHk P w H) (ht : t < pN P) (e : H' = up H 111 t x) (ex : x = nI v) (h1 : w' t = v) (h2 : ∀ u, u ≠ t → w' u = w u) : WHk P w' H' := by
  intro u hu
  rw [e, up_s]
  by_cases q : u = t
  · rw [q, upd_s, if_pos ht, ex, h1]
  · rw [upd_n q, hW u hu, h2 u q]
set_option maxHeartbeats 2000000 in
theorem mt_ends {E : En} {Q : Option Value → Hi → Prop} {H : Hi} {P : Pm} {s : Sg} {a h : Nat} (hR : RdC P H) (hW : MW P s H) (hw : Wf P s) (ha : H 99 23 = nI a) (ha2 : a < 2 ^ 31) (hh : h < 24)
    (hq : ∀ H' : Hi, (∀ c, c ≠ 111 → c ≠ 112 → H' c = H c) → MW P (clo P a h s) H' → Q none H') : Cm E mX10_ends [rf E 99, .int (nI h)] H Q := by
  have n8 := hR.1.1
  have m8 := hR.1.2.1
  have o6 := hR.2.2.2.2.2.2.2.1
  obtain ⟨w1, w2, tk, w3, w4⟩ := hW
  have c1 : ∀ t, cwK P h (pO P).1 s t = cw1 P h s t := fun t => rfl
  -- soup and the aunt
  have l3 : ∀ (m t : Nat) (H1 : Hi), t + m = pN P → (∀ c, c ≠ 111 → c ≠ 112 → H1 c = H c) → WHk P (fun u => if u < t then (clo P a h s).1 u else cw1 P h s u) H1 → (∀ u, u < pN P → H1 112 u = nI (if u < t then skv P (clo P a h s) u else skv P s u)) →
      Rm E mX10_ends Q 99 [some (rf E 99), some (.int (nI h)), some (.int (nI t)), none, none] [] H1 := by
    intro m
    induction m with
    | zero =>
      intro t H1 ht f1 a1 a2
      have hR1 : RdC P H1 := rd_keep hR (fun d hd => f1 d (by omega) (by omega))
      refine sgX10_ends_99 ⟨fun _ => hq H1 f1 ⟨fun u hu => ?_, fun u hu => ?_, tk, fun c hc => by rw [f1 113 (by decide) (by decide)]; exact w3 c hc, fun c u hc hu q1 q2 => ?_⟩, fun q => ?_⟩
      · rw [a1 u hu]
        by_cases q : u < pN P
        · rw [if_pos q, if_pos q]
          show nI (if u < t then (clo P a h s).1 u else cw1 P h s u) = _
          rw [if_pos (by omega)]
        · rw [if_neg q, if_neg q]
      · rw [a2 u hu, if_pos (by omega)]
      · have q1 : (if a.testBit h = true ∧ cw2 P h s u = 8 then pOw P u else cw2 P h s u) = c := q1
        by_cases e : a.testBit h = true ∧ cw2 P h s u = 8
        · rw [if_pos e] at q1; exact absurd q1 q2
        · rw [if_neg e] at q1
          refine w4 c u hc hu ?_ q2
          unfold cw2 at q1
          by_cases e2 : pKd P u = 1 ∧ cw1 P h s u = 8 ∧ s.2.2.1 u = true ∧ s.2.2.2 u = true
          · rw [if_pos e2] at q1; omega
          · rw [if_neg e2] at q1
            unfold cw1 at q1
            by_cases e3 : s.1 u = 8 ∧ fall P h u = true
            · rw [if_pos e3] at q1; omega
            · rw [if_neg e3] at q1; exact q1
      · rw [hR1.2.1] at q
        exact absurd (nI_le (show pN P ≤ t by omega) (by omega)) q
    | succ m ih =>
      intro t H1 ht f1 a1 a2
      have hR1 : RdC P H1 := rd_keep hR (fun d hd => f1 d (by omega) (by omega))
      have tn : t < pN P := by omega
      have o8 := (hR.1.2.2.1 t tn).2.2.1
      have k3 := (hR.1.2.2.1 t tn).2.2.2
      have wt := hw t tn
      have e1 : H1 111 t = nI (cw1 P h s t) := by
        rw [a1 t (by omega), if_pos tn]
        show nI (if t < t then (clo P a h s).1 t else cw1 P h s t) = _
        rw [if_neg (Nat.lt_irrefl t)]
      have e2 : H1 112 t = nI (skv P s t) := by rw [a2 t tn, if_neg (Nat.lt_irrefl t)]
      have cc : cw1 P h s t = s.1 t ∨ cw1 P h s t = 9 := by unfold cw1; split <;> simp
      have c9 : cw1 P h s t ≤ 9 := by rcases cc with q | q <;> omega
      -- the new soaked
      have sv : ∀ v : Nat, v = (if pKd P t = 1 ∧ cw1 P h s t = 8 then skv P s t + 1 else 0) → (v = 3 ↔ (pKd P t = 1 ∧ cw1 P h s t = 8 ∧ s.2.2.1 t = true ∧ s.2.2.2 t = true)) ∧ v < 4 ∧ v = skv P (clo P a h s) t := by
        intro v ev
        have ec : (clo P a h s).1 t = if a.testBit h = true ∧ cw2 P h s t = 8 then pOw P t else cw2 P h s t := rfl
        have eo : (clo P a h s).2.2.1 t = decide (cw1 P h s t = 8) := rfl
        have ew : (clo P a h s).2.2.2 t = s.2.2.1 t := rfl
        by_cases q1 : pKd P t = 1
        · by_cases q2 : cw1 P h s t = 8
          · have s8 : s.1 t = 8 := by rcases cc with q | q <;> omega
            have po := wt.2.1 s8
            rw [if_pos ⟨q1, q2⟩] at ev
            unfold skv at ev ⊢
            rw [eo, ew, ec, decide_eq_true q2, if_pos ⟨q1, rfl⟩]
            cases x1 : s.2.2.1 t
            · rw [x1, if_neg (fun q => Bool.false_ne_true q.2)] at ev
              refine ⟨⟨fun q => by omega, fun q => absurd q.2.2.1 (by decide)⟩, by omega, ?_⟩
              rw [if_neg (by decide)]; exact ev
            · cases x2 : s.2.2.2 t
              · rw [x1, x2, if_pos ⟨q1, rfl⟩, if_neg (by decide)] at ev
                have e2' : cw2 P h s t = 8 := by unfold cw2; rw [if_neg (fun q => by rw [x2] at q; exact absurd q.2.2.2 (by decide))]; exact q2
                refine ⟨⟨fun q => by omega, fun q => absurd q.2.2.2 (by decide)⟩, by omega, ?_⟩
                rw [if_pos rfl, e2']
                have : ¬ (if a.testBit h = true ∧ 8 = 8 then pOw P t else 8) = 9 := by split <;> omega
                rw [if_neg this]; exact ev
              · rw [x1, x2, if_pos ⟨q1, rfl⟩, if_pos rfl, if_neg (by omega)] at ev
                have e2' : cw2 P h s t = 9 := by unfold cw2; rw [if_pos ⟨q1, q2, x1, x2⟩]
                refine ⟨⟨fun _ => ⟨q1, q2, rfl, rfl⟩, fun _ => ev⟩, by omega, ?_⟩
                rw [if_pos rfl, e2']
                have : (if a.testBit h = true ∧ 9 = 8 then pOw P t else 9) = 9 := if_neg (by omega)
                rw [if_pos this]; exact ev
          · rw [if_neg (fun q => q2 q.2)] at ev
            refine ⟨⟨fun q => by omega, fun q => absurd q.2.1 q2⟩, by omega, ?_⟩
            unfold skv
            rw [eo, decide_eq_false q2, if_neg (fun q => Bool.false_ne_true q.2)]; exact ev
        · rw [if_neg (fun q => q1 q.1)] at ev
          refine ⟨⟨fun q => by omega, fun q => absurd q.1 q1⟩, by omega, ?_⟩
          unfold skv
          rw [if_neg (fun q => q1 q.1)]; exact ev
      -- behind the soup
      have s172 : ∀ (H2 : Hi) (x : Int32), (∀ c, c ≠ 111 → c ≠ 112 → H2 c = H c) → (∀ u, u < 8 → u ≠ t → H2 111 u = H1 111 u) → (∀ u, u < pN P → H2 112 u = nI (if u < t + 1 then skv P (clo P a h s) u else skv P s u)) → x = nI (cw2 P h s t) →
          Rm E mX10_ends Q 172 [some (rf E 99), some (.int (nI h)), some (.int (nI t)), none, none] [.int x, .int (nI t), rf E 111] H2 := by
        intro H2 x f2 b1 b2 ex
        have cc2 : cw2 P h s t = s.1 t ∨ cw2 P h s t = 9 := by unfold cw2; split; simp; exact cc
        have c29 : cw2 P h s t ≤ 9 := by rcases cc2 with q | q <;> omega
        have fin : ∀ (H4 : Hi) (y : Int32), (∀ c, c ≠ 111 → c ≠ 112 → H4 c = H c) → (∀ u, u < 8 → u ≠ t → H4 111 u = H1 111 u) → H4 112 = H2 112 → H4 111 t = nI ((clo P a h s).1 t) → y = nI t + 1 → Rm E mX10_ends Q 99 [some (rf E 99), some (.int (nI h)), some (.int y), none, none] [] H4 := by
          intro H4 y f4 d1 d2 d3 ey
          rw [ey, ← nI_succ]
          refine ih (t + 1) H4 (by omega) f4 (fun u hu => ?_) (fun u hu => by rw [d2]; exact b2 u hu)
          by_cases q : u = t
          · rw [q, d3, if_pos tn]
            show _ = nI (if t < t + 1 then (clo P a h s).1 t else cw1 P h s t)
            rw [if_pos (Nat.lt_succ_self t)]
          · rw [d1 u hu q, a1 u hu]
            by_cases q2 : u < pN P
            · rw [if_pos q2, if_pos q2]
              show nI (if u < t then (clo P a h s).1 u else cw1 P h s u) = nI (if u < t + 1 then (clo P a h s).1 u else cw1 P h s u)
              by_cases q3 : u < t
              · rw [if_pos q3, if_pos (by omega)]
              · rw [if_neg q3, if_neg (by omega)]
            · rw [if_neg q2, if_neg q2]
        refine sgX10_ends_172 ⟨t, ⟨by omega, rfl⟩, fun H3 g3 => ?_⟩
        have f3 : ∀ c, c ≠ 111 → c ≠ 112 → H3 c = H c := fun c p1 p2 => by rw [g3, up_n p1]; exact f2 c p1 p2
        have hR3 : RdC P H3 := rd_keep hR (fun d hd => f3 d (by omega) (by omega))
        have d3 : H3 111 t = nI (cw2 P h s t) := by rw [g3, up_s, upd_s, ex]
        have d1 : ∀ u, u < 8 → u ≠ t → H3 111 u = H1 111 u := fun u hu q => by rw [g3, up_s, upd_n q]; exact b1 u hu q
        have d2 : H3 112 = H2 112 := by rw [g3, up_n (by decide)]
        rw [f3 99 (by decide) (by decide), ha]
        refine mt_isIn ha2 (by omega) ⟨_, rfl, fun z y ey => ?_, fun z => ⟨t, ⟨by omega, rfl⟩, ?_⟩⟩
        · refine fin H3 y f3 d1 d2 ?_ ey
          rw [d3]
          congr 1
          show _ = if a.testBit h = true ∧ cw2 P h s t = 8 then pOw P t else cw2 P h s t
          rw [if_neg (fun q => by rw [bI_0.mp z] at q; exact absurd q.1 (by decide))]
        · rw [d3]
          refine ⟨fun z2 y ey => ?_, fun z2 => ⟨t, ⟨by omega, rfl⟩, ?_⟩⟩
          · refine fin H3 y f3 d1 d2 ?_ ey
            rw [d3]
            congr 1
            show _ = if a.testBit h = true ∧ cw2 P h s t = 8 then pOw P t else cw2 P h s t
            rw [if_neg (fun q => z2 (by rw [q.2]; rfl))]
          · have z2' : cw2 P h s t = 8 := nI_inj (by omega) (by decide) z2
            have s8 : s.1 t = 8 := by rcases cc2 with q | q <;> omega
            have po := wt.2.1 s8
            rw [hR3.2.2.1, (hR3.2.2.2.1 t tn).2.1]
            refine ⟨fun z3 => ?_, fun _ => ⟨t, ⟨by omega, rfl⟩, t, ⟨by omega, rfl⟩, fun H4 g4 => sgX10_ends_220 (fun y ey => ?_)⟩⟩
            · have := (nI_leI (by omega) (by omega)).mp z3; omega
            · refine fin H4 y (fun c p1 p2 => by rw [g4, up_n p1]; exact f3 c p1 p2) (fun u hu q => by rw [g4, up_s, upd_n q]; exact d1 u hu q) (by rw [g4, up_n (by decide), d2]) ?_ ey
              rw [g4, up_s, upd_s]
              try rw [(hR3.2.2.2.1 t tn).2.1]
              congr 1
              show _ = if a.testBit h = true ∧ cw2 P h s t = 8 then pOw P t else cw2 P h s t
              rw [if_pos ⟨bI_1 z, z2'⟩]
      have s145 : ∀ (v : Nat) (x : Int32), x = nI v → v = (if pKd P t = 1 ∧ cw1 P h s t = 8 then skv P s t + 1 else 0) → Rm E mX10_ends Q 145 [some (rf E 99), some (.int (nI h)), some (.int (nI t)), none, none] [.int x, .int (nI t), rf E 112] H1 := by
        intro v x ex ev
        obtain ⟨v1, v2, v3⟩ := sv v ev
        refine sgX10_ends_145 ⟨t, ⟨by omega, rfl⟩, fun H2 g2 => ⟨t, ⟨by omega, rfl⟩, ?_⟩⟩
        have b2 : ∀ u, u < pN P → H2 112 u = nI (if u < t + 1 then skv P (clo P a h s) u else skv P s u) := by
          intro u hu
          rw [g2, up_s]
          by_cases q : u = t
          · rw [q, upd_s, if_pos (Nat.lt_succ_self t), ex, v3]
          · rw [upd_n q, a2 u hu]
            by_cases q3 : u < t
            · rw [if_pos q3, if_pos (by omega)]
            · rw [if_neg q3, if_neg (by omega)]
        have f2 : ∀ c, c ≠ 111 → c ≠ 112 → H2 c = H c := fun c p1 p2 => by rw [g2, up_n p2]; exact f1 c p1 p2
        have b1 : ∀ u, u < 8 → u ≠ t → H2 111 u = H1 111 u := fun u _ _ => by rw [g2, up_n (by decide)]
        have e3 : H2 112 t = nI v := by rw [g2, up_s, upd_s, ex]
        rw [e3]
        refine ⟨fun z => ⟨t, ⟨by omega, rfl⟩, s172 H2 _ f2 b1 b2 ?_⟩, fun z => s172 H2 9 f2 b1 b2 ?_⟩
        · have z' : ¬ v = 3 := fun q => z (by rw [q]; rfl)
          rw [g2, up_n (by decide), e1]
          unfold cw2
          rw [if_neg (fun q => z' (v1.mpr q))]
        · have z' : v = 3 := nI_inj (by omega) (by decide) z
          unfold cw2
          rw [if_pos (v1.mp z')]; rfl
      refine sgX10_ends_99 ⟨fun q => ?_, fun _ => ⟨t, ⟨by omega, rfl⟩, ?_⟩⟩
      · rw [hR1.2.1] at q
        have := (nI_leI (by omega) (by omega)).mp q; omega
      · rw [(hR1.2.2.2.1 t tn).2.2]
        refine ⟨fun z => s145 0 0 rfl ?_, fun z => ⟨t, ⟨by omega, rfl⟩, ?_⟩⟩
        · rw [if_neg (fun q => z (by rw [q.1]; rfl))]
        · have z' : pKd P t = 1 := nI_inj (by omega) (by decide) z
          rw [e1]
          refine ⟨fun z2 => s145 0 0 rfl ?_, fun z2 => ⟨t, ⟨by omega, rfl⟩, s145 (skv P s t + 1) _ (by rw [e2, nI_succ]) ?_⟩⟩
          · rw [if_neg (fun q => z2 (by rw [q.2]; rfl))]
          · rw [if_pos ⟨z', nI_inj (by omega) (by decide) z2⟩]
  -- holes
  have l2 : ∀ k, k < (pO P).1 → (∀ H1 : Hi, (∀ c, c ≠ 111 → H1 c = H c) → WHk P (cwK P h (k + 1) s) H1 → Rm E mX10_ends Q 2 [some (rf E 99), some (.int (nI h)), some (.int (nI (k + 1))), none, none] [] H1) →
      ∀ (m t : Nat) (H1 : Hi), t + m = pN P → (∀ c, c ≠ 111 → H1 c = H c) → WHk P (fun u => if u < t then cwK P h (k + 1) s u else cwK P h k s u) H1 →
        Rm E mX10_ends Q 12 [some (rf E 99), some (.int (nI h)), some (.int (nI k)), some (.int (nI t)), none] [] H1 := by
    intro k hk hout m
    obtain ⟨k1, k2, k3, k4⟩ := hR.2.2.2.2.2.2.2.2 k hk
    induction m with
    | zero =>
      intro t H1 ht f1 a1
      refine sgX10_ends_12 ⟨fun _ x ex => ?_, fun q => ?_⟩
      · rw [ex, ← nI_succ]
        refine hout H1 f1 (fun u hu => ?_)
        rw [a1 u hu]
        by_cases q : u < pN P
        · rw [if_pos q, if_pos q]
          show nI (if u < t then cwK P h (k + 1) s u else cwK P h k s u) = _
          rw [if_pos (by omega)]
        · rw [if_neg q, if_neg q]
      · rw [f1 99 (by decide), hR.2.1] at q
        exact absurd (nI_le (show pN P ≤ t by omega) (by omega)) q
    | succ m ih =>
      intro t H1 ht f1 a1
      have tn : t < pN P := by omega
      have wt := hw t tn
      have sz := hR.1.2.2.1 t tn
      have ck9 : cwK P h k s t ≤ 9 := by unfold cwK; split <;> omega
      have e1 : H1 111 t = nI (cwK P h k s t) := by
        rw [a1 t (by omega), if_pos tn]
        show nI (if t < t then cwK P h (k + 1) s t else cwK P h k s t) = _
        rw [if_neg (Nat.lt_irrefl t)]
      have s84 : ∀ x : Int32, x = nI (cwK P h (k + 1) s t) → Rm E mX10_ends Q 84 [some (rf E 99), some (.int (nI h)), some (.int (nI k)), some (.int (nI t)), none] [.int x, .int (nI t), rf E 111] H1 := by
        intro x ex
        refine sgX10_ends_84 ⟨t, ⟨by omega, rfl⟩, fun H2 g2 y ey => ?_⟩
        rw [ey, ← nI_succ]
        refine ih (t + 1) H2 (by omega) (fun c p => by rw [g2, up_n p]; exact f1 c p) (whk_up a1 tn g2 ex ?_ (fun u q => ?_))
        · show (if t < t + 1 then _ else _) = _
          rw [if_pos (Nat.lt_succ_self t)]
        · show (if u < t + 1 then cwK P h (k + 1) s u else cwK P h k s u) = (if u < t then cwK P h (k + 1) s u else cwK P h k s u)
          by_cases q3 : u < t
          · rw [if_pos q3, if_pos (by omega)]
          · rw [if_neg q3, if_neg (by omega)]
      have s61a : cwK P h (k + 1) s t = cwK P h k s t → Rm E mX10_ends Q 61 [some (rf E 99), some (.int (nI h)), some (.int (nI k)), some (.int (nI t)), none] [.int 0] H1 := fun e =>
        sgX10_ends_61 ⟨fun _ => ⟨t, ⟨by omega, rfl⟩, s84 _ (by rw [e1, e])⟩, fun q => absurd rfl q⟩
      refine sgX10_ends_12 ⟨fun q => ?_, fun _ => ⟨k, ⟨by omega, rfl⟩, ?_⟩⟩
      · rw [f1 99 (by decide), hR.2.1] at q
        have := (nI_leI (by omega) (by omega)).mp q; omega
      · rw [f1 109 (by decide), k1]
        refine ⟨fun z => s61a ?_, fun z => ⟨t, ⟨by omega, rfl⟩, ?_⟩⟩
        · rw [cwK_s, if_neg (fun q => z (by rw [q.1]))]
        · have z' : (pO P).2.1 k = h := nI_inj (by omega) (by omega) z
          rw [e1]
          refine ⟨fun z2 => s61a ?_, fun z2 => ⟨t, ⟨by omega, rfl⟩, k, ⟨by omega, rfl⟩, ?_⟩⟩
          · rw [cwK_s, if_neg (fun q => z2 (by rw [q.2.1]; rfl))]
          · have z2' : cwK P h k s t = 8 := nI_inj (by omega) (by decide) z2
            rw [f1 110 (by decide), k3, f1 102 (by decide), (hR.2.2.2.1 t tn).1, nI_ltI (by omega) (by omega)]
            refine ⟨fun z3 => s61a ?_, fun z3 => sgX10_ends_61 ⟨fun q => absurd q (by decide), fun _ => s84 9 ?_⟩⟩
            · rw [cwK_s, if_neg (fun q => by omega)]
            · rw [cwK_s, if_pos ⟨z', z2', by omega⟩]; rfl
  have l1 : ∀ (m k : Nat) (H1 : Hi), k + m = (pO P).1 → (∀ c, c ≠ 111 → H1 c = H c) → WHk P (cwK P h k s) H1 → Rm E mX10_ends Q 2 [some (rf E 99), some (.int (nI h)), some (.int (nI k)), none, none] [] H1 := by
    intro m
    induction m with
    | zero =>
      intro k H1 hk f1 a1
      refine sgX10_ends_2 ⟨fun _ => l3 (pN P) 0 H1 (by omega) (fun c p _ => f1 c p) (fun u hu => ?_) (fun u hu => ?_), fun q => ?_⟩
      · have e : k = (pO P).1 := by omega
        rw [a1 u hu, e]
        show _ = nI (if u < pN P then (if u < 0 then _ else cw1 P h s u) else 9)
        rw [if_neg (Nat.not_lt_zero u)]; rfl
      · rw [f1 112 (by decide), w2 u hu, if_neg (Nat.not_lt_zero u)]
      · rw [f1 99 (by decide), hR.2.2.2.2.2.2.1] at q
        exact absurd (nI_le (show (pO P).1 ≤ k by omega) (by omega)) q
    | succ m ih =>
      intro k H1 hk f1 a1
      refine sgX10_ends_2 ⟨fun q => ?_, fun _ => ?_⟩
      · rw [f1 99 (by decide), hR.2.2.2.2.2.2.1] at q
        have := (nI_leI (by omega) (by omega)).mp q; omega
      · refine l2 k (by omega) (fun H2 f2 b2 => ih (k + 1) H2 (by omega) f2 b2) (pN P) 0 H1 (by omega) f1 (fun u hu => ?_)
        rw [a1 u hu]
        show _ = nI (if u < pN P then (if u < 0 then _ else cwK P h k s u) else 9)
        rw [if_neg (Nat.not_lt_zero u)]
  refine cmX10_ends (l1 (pO P).1 0 H (Nat.zero_add _) (fun _ _ => rfl) (fun u hu => ?_))
  rw [w1 u hu]
  have e : cwK P h 0 s u = s.1 u := if_neg (fun q => Bool.false_ne_true q.2)
  rw [e]
