/-! the model: a day by a seed -/
def sdN (x : Int32) : Nat → Int32
  | 0 => x
  | h + 1 => nxL (nxL (nxL (sdN x h)))
def cdD (b : Bd) (x : Int32) (h : Nat) : Nat := dyK b (sdN x h)
def hdy (b : Bd) (x : Int32) (m : Nat) : Hd := ((dH b).1 + m, fun i => if i < (dH b).1 then (dH b).2.1 i else i - (dH b).1, fun i => if i < (dH b).1 then (dH b).2.2 i else cdD b x (i - (dH b).1))
theorem hy_o {b : Bd} {x : Int32} {m j : Nat} : (hdy b x m).2.1 ((dH b).1 + j) = j ∧ (hdy b x m).2.2 ((dH b).1 + j) = cdD b x j := by
  unfold hdy
  refine ⟨?_, ?_⟩
  · show (if (dH b).1 + j < (dH b).1 then _ else (dH b).1 + j - (dH b).1) = j
    rw [if_neg (by omega)]; omega
  · show (if (dH b).1 + j < (dH b).1 then _ else cdD b x ((dH b).1 + j - (dH b).1)) = _
    rw [if_neg (by omega), show (dH b).1 + j - (dH b).1 = j by omega]
theorem hy_a {b : Bd} {P : Pm} {x : Int32} {m h : Nat} {s : Sg} : ∀ j, j ≤ h → itN (te1 P (hdy b x m) h) ((dH b).1 + j) s = tel P (dH b) h s
  | 0, _ => by
    unfold tel
    refine itN_cg _ s (fun a i hi => ?_)
    unfold te1 hdy
    simp only [if_pos (show i < (dH b).1 by omega)]
  | j + 1, q => by
    show te1 P (hdy b x m) h (itN (te1 P (hdy b x m) h) ((dH b).1 + j) s) ((dH b).1 + j) = _
    rw [hy_a j (by omega)]
    unfold te1
    rw [hy_o.1, if_neg (by omega)]
theorem hy_b {b : Bd} {P : Pm} {x : Int32} {m h : Nat} {s : Sg} : ∀ j, h < j → itN (te1 P (hdy b x m) h) ((dH b).1 + j) s = act P (tel P (dH b) h s) (cdD b x h)
  | 0, q => absurd q (Nat.not_lt_zero h)
  | j + 1, q => by
    show te1 P (hdy b x m) h (itN (te1 P (hdy b x m) h) ((dH b).1 + j) s) ((dH b).1 + j) = _
    by_cases e : h = j
    · subst e
      rw [hy_a h (Nat.le_refl h)]
      unfold te1
      rw [hy_o.1, if_pos rfl, hy_o.2]
    · rw [hy_b j (by omega)]
      unfold te1
      rw [hy_o.1, if_neg (by omega)]
theorem mid_y {b : Bd} {P : Pm} {x : Int32} {m h : Nat} {s : Sg} (hh : h < m) : mid P (hdy b x m) h s = act P (mid P (dH b) h s) (cdD b x h) := hy_b m hh
theorem wkF_b {P : Pm} {hd : Hd} {h i : Nat} : ∀ (m k : Nat) (s : Sg) (r : Nat), (wkF P hd h k m s r).testBit i = (r.testBit i || (decide (k ≤ i ∧ i < k + m ∧ hd.2.1 i = h) && (rch P (itF (te1 P hd h) k (i - k) s) (hd.2.2 i)).isSome))
  | 0, k, s, r => by
    show r.testBit i = _
    rw [decide_eq_false (by omega), Bool.false_and, Bool.or_false]
  | m + 1, k, s, r => by
    have e1 : wkF P hd h k (m + 1) s r = wkF P hd h (k + 1) m (te1 P hd h s k) (if hd.2.1 k = h ∧ (rch P s (hd.2.2 k)).isSome = true then r ||| 2 ^ k else r) := rfl
    rw [e1, wkF_b m (k + 1)]
    by_cases ik : i = k
    · subst ik
      rw [decide_eq_false (show ¬ (i + 1 ≤ i ∧ i < i + 1 + m ∧ hd.2.1 i = h) by omega), Bool.false_and, Bool.or_false, Nat.sub_self]
      show _ = (r.testBit i || (_ && (rch P s (hd.2.2 i)).isSome))
      by_cases c1 : hd.2.1 i = h
      · rw [decide_eq_true (show i ≤ i ∧ i < i + (m + 1) ∧ hd.2.1 i = h from ⟨Nat.le_refl i, by omega, c1⟩), Bool.true_and]
        cases c2 : (rch P s (hd.2.2 i)).isSome
        · rw [if_neg (fun p => absurd p.2 (by decide)), Bool.or_false]
        · rw [if_pos ⟨c1, rfl⟩, Nat.testBit_or, Nat.testBit_two_pow_self]
      · rw [decide_eq_false (show ¬ (i ≤ i ∧ i < i + (m + 1) ∧ hd.2.1 i = h) from fun p => c1 p.2.2), Bool.false_and, Bool.or_false, if_neg (fun p => c1 p.1)]
    · have er : (if hd.2.1 k = h ∧ (rch P s (hd.2.2 k)).isSome = true then r ||| 2 ^ k else r).testBit i = r.testBit i := by
        split
        · rw [Nat.testBit_or, Nat.testBit_two_pow_of_ne (fun p => ik p.symm), Bool.or_false]
        · rfl
      rw [er]
      by_cases kl : k < i
      · have e2 : itF (te1 P hd h) k (i - k) s = itF (te1 P hd h) (k + 1) (i - (k + 1)) (te1 P hd h s k) := by
          rw [show i - k = (i - (k + 1)) + 1 by omega]; rfl
        rw [e2]
        have e3 : decide (k + 1 ≤ i ∧ i < k + 1 + m ∧ hd.2.1 i = h) = decide (k ≤ i ∧ i < k + (m + 1) ∧ hd.2.1 i = h) := decide_eq_decide.mpr (by omega)
        rw [e3]
      · rw [decide_eq_false (show ¬ (k + 1 ≤ i ∧ i < k + 1 + m ∧ hd.2.1 i = h) by omega), decide_eq_false (show ¬ (k ≤ i ∧ i < k + (m + 1) ∧ hd.2.1 i = h) by omega), Bool.false_and, Bool.false_and]
theorem wkH_y {b : Bd} {P : Pm} {x : Int32} {m h j : Nat} {s : Sg} (hj : j < m) : (wkH P (hdy b x m) h s).testBit ((dH b).1 + j) = (decide (j = h) && (rch P (mid P (dH b) h s) (cdD b x h)).isSome) := by
  unfold wkH
  rw [wkF_b, Nat.zero_testBit, Bool.false_or, hy_o.1, hy_o.2, Nat.sub_zero, itF_0]
  by_cases e : j = h
  · subst e
    rw [hy_a j (Nat.le_refl j), decide_eq_true (show 0 ≤ (dH b).1 + j ∧ (dH b).1 + j < 0 + (hdy b x m).1 ∧ j = j from ⟨Nat.zero_le _, by show (dH b).1 + j < 0 + ((dH b).1 + m); omega, rfl⟩), decide_eq_true (show j = j from rfl)]
    rfl
  · rw [decide_eq_false (fun p => e p.2.2), decide_eq_false e, Bool.false_and, Bool.false_and]
def cnY (b : Bd) (x : Int32) (m h : Nat) : Nat := sm (fun j => wkA (dP b) (hdy b x m) (dA b) h / 2 ^ ((dH b).1 + j) % 2) m
theorem dy_lot {b : Bd} {x : Int32} {m : Nat} (hl : 0 < pN (dP b) ∧ 0 < pM (dP b)) : ∀ h, h ≤ m → itN (dy1 b) h (x, 0, st0 (dP b)) = (sdN x h, cnY b x m h, stN (dP b) (hdy b x m) (dA b) h)
  | 0, _ => by
    have e : cnY b x m 0 = 0 := by
      have e1 : cnY b x m 0 = sm (fun _ => 0) m := sm_congr (fun i _ => by
        show 0 / 2 ^ ((dH b).1 + i) % 2 = 0
        rw [Nat.zero_div])
      rw [e1, sm_0]
    rw [e]; rfl
  | h + 1, q => by
    have ih := dy_lot (b := b) (x := x) (m := m) hl h (by omega)
    show dy1 b (itN (dy1 b) h (x, 0, st0 (dP b))) h = _
    rw [ih]
    unfold dy1
    rw [if_pos hl]
    have ec : dyK b (sdN x h) = cdD b x h := rfl
    have em : clo (dP b) (dA b) h (act (dP b) (mid (dP b) (dH b) h (stN (dP b) (hdy b x m) (dA b) h)) (cdD b x h)) = stN (dP b) (hdy b x m) (dA b) (h + 1) := by
      show _ = clo (dP b) (dA b) h (mid (dP b) (hdy b x m) h (stN (dP b) (hdy b x m) (dA b) h))
      rw [mid_y (by omega)]
    have en : cnY b x m h + (if (rch (dP b) (mid (dP b) (dH b) h (stN (dP b) (hdy b x m) (dA b) h)) (cdD b x h)).isSome = true then 1 else 0) = cnY b x m (h + 1) := by
      have bit : ∀ j, j < m → (wkA (dP b) (hdy b x m) (dA b) (h + 1)).testBit ((dH b).1 + j) = ((wkA (dP b) (hdy b x m) (dA b) h).testBit ((dH b).1 + j) || (decide (j = h) && (rch (dP b) (mid (dP b) (dH b) h (stN (dP b) (hdy b x m) (dA b) h)) (cdD b x h)).isSome)) := by
        intro j hj
        show (wkA (dP b) (hdy b x m) (dA b) h ||| wkH (dP b) (hdy b x m) h (stN (dP b) (hdy b x m) (dA b) h)).testBit ((dH b).1 + j) = _
        rw [Nat.testBit_or, wkH_y hj]
      have u := sm_upd (f := fun j => wkA (dP b) (hdy b x m) (dA b) (h + 1) / 2 ^ ((dH b).1 + j) % 2) (g := fun j => wkA (dP b) (hdy b x m) (dA b) h / 2 ^ ((dH b).1 + j) % 2) (k := h) (n := m) (by omega) (fun j hj ne => by
        show wkA (dP b) (hdy b x m) (dA b) (h + 1) / 2 ^ ((dH b).1 + j) % 2 = wkA (dP b) (hdy b x m) (dA b) h / 2 ^ ((dH b).1 + j) % 2
        rw [← tb_dm, ← tb_dm, bit j hj, decide_eq_false ne, Bool.false_and, Bool.or_false])
      have z0 : wkA (dP b) (hdy b x m) (dA b) h / 2 ^ ((dH b).1 + h) % 2 = 0 := by
        rw [← tb_dm, wkA_hi h (by rw [hy_o.1]; exact Nat.le_refl h)]; rfl
      have z1 : wkA (dP b) (hdy b x m) (dA b) (h + 1) / 2 ^ ((dH b).1 + h) % 2 = (if (rch (dP b) (mid (dP b) (dH b) h (stN (dP b) (hdy b x m) (dA b) h)) (cdD b x h)).isSome = true then 1 else 0) := by
        rw [← tb_dm, bit h (by omega), wkA_hi h (by rw [hy_o.1]; exact Nat.le_refl h), decide_eq_true rfl, Bool.false_or, Bool.true_and]
      have u' : cnY b x m (h + 1) + wkA (dP b) (hdy b x m) (dA b) h / 2 ^ ((dH b).1 + h) % 2 = cnY b x m h + wkA (dP b) (hdy b x m) (dA b) (h + 1) / 2 ^ ((dH b).1 + h) % 2 := u
      rw [z0, z1] at u'
      omega
    show (nxL (nxL (nxL (sdN x h))), cnY b x m h + (if (rch (dP b) (mid (dP b) (dH b) h (stN (dP b) (hdy b x m) (dA b) h)) (dyK b (sdN x h))).isSome = true then 1 else 0), clo (dP b) (dA b) h (act (dP b) (mid (dP b) (dH b) h (stN (dP b) (hdy b x m) (dA b) h)) (dyK b (sdN x h)))) = _
    rw [ec, em, en]; rfl
theorem dy_no {b : Bd} {x : Int32} (hl : ¬ (0 < pN (dP b) ∧ 0 < pM (dP b))) : ∀ h, itN (dy1 b) h (x, 0, st0 (dP b)) = (x, 0, stN (dP b) (dH b) (dA b) h)
  | 0 => rfl
  | h + 1 => by
    show dy1 b (itN (dy1 b) h (x, 0, st0 (dP b))) h = _
    rw [dy_no hl h]
    unfold dy1
    rw [if_neg hl]; rfl
def MYy (b : Bd) (x : Int32) (h : Nat) (H : Hi) : Prop := MI b H ∧ RdC (dP b) H ∧ H 99 22 = nI ((dH b).1 + h) ∧ (∀ j, j < h → H 107 ((dH b).1 + j) = nI j ∧ H 108 ((dH b).1 + j) = nI (cdD b x j)) ∧ H 99 23 = nI (dA b)
theorem cdD_lt {b : Bd} {x : Int32} {h : Nat} (hO : BOk b) (hl : 0 < pN (dP b) ∧ 0 < pM (dP b)) : cdD b x h < 128 := by
  have n8 := (bok_pm hO).1
  have m8 := (bok_pm hO).2.1
  have q1 := Nat.mod_lt (upH (nxL (sdN x h))) hl.2
  have q2 := Nat.mod_lt (upH (nxL (nxL (sdN x h)))) hl.1
  unfold cdD dyK; omega
theorem my_mt {b : Bd} {x : Int32} {m : Nat} {H : Hi} (hO : BOk b) (hl : m = 0 ∨ (0 < pN (dP b) ∧ 0 < pM (dP b))) (hm : m ≤ 24) (h : MYy b x m H) : MT (dP b) (hdy b x m) (dA b) H := by
  have d20 := hO.2.2.2.2.1.1
  have a24 := hO.2.2.2.1
  refine ⟨h.2.1, ⟨h.2.2.1, by show (dH b).1 + m ≤ 44; omega, fun k hk => ?_⟩, h.2.2.2.2, by omega⟩
  have hk' : k < (dH b).1 + m := hk
  by_cases q : k < (dH b).1
  · have e1 : (hdy b x m).2.1 k = (dH b).2.1 k := if_pos q
    have e2 : (hdy b x m).2.2 k = (dH b).2.2 k := if_pos q
    have p1 := h.1.2.2.1.2 k q
    have p2 := hO.2.2.2.2.1.2 k q
    rw [e1, e2]
    exact ⟨p1.1, p2.1, p1.2, p2.2⟩
  · obtain ⟨j, rfl⟩ : ∃ j, k = (dH b).1 + j := ⟨k - (dH b).1, by omega⟩
    rw [hy_o.1, hy_o.2]
    have p := h.2.2.2.1 j (by omega)
    exact ⟨p.1, by omega, p.2, cdD_lt hO (by omega)⟩
theorem nI_m65 {x : Int32} {n : Nat} (h0 : 0 < n) (hn : n < 65536) : (ushr x 16) - (ushr x 16) / nI n * nI n = nI (upH x % n) := by
  rw [up_16]
  exact ni_mod (by have := upH_lt x; omega) h0 (by omega)
set_option maxHeartbeats 2000000 in
theorem mt_dayOf {E : En} {Q : Option Value → Hi → Prop} {H : Hi} {b : Bd} {n : Nat} {x y : Int32} (hO : BOk b) (hM : MI b H) (hn : n < 24) (hy : y = -1 ∨ inN (pN (dP b)) y = true)
    (hq : ∀ H' : Hi, frX (dH b).1 H H' → RdC (dP b) H' → Q (some (.int (dayS b x n y))) H') : Cm E mX10_dayOf [rf E 99, .int x, .int (nI n), .int y] H Q := by
  have d20 := hO.2.2.2.2.1.1
  have n8 := (bok_pm hO).1
  have m8 := (bok_pm hO).2.1
  refine cmX10_dayOf (mt_reads hO hM (fun H1 f1 r1 => ⟨rfl, mt_asTold hO (mi_fx hM (fx_R f1)) r1 (fun H2 f2 t2 _ => ⟨rfl, ?_⟩)⟩))
  have fx2 : frX (dH b).1 H H2 := fx_tr (fx_R f1) f2
  -- the end
  have fin : ∀ (m : Nat) (H3 : Hi), m ≤ 24 → (m = 0 ∨ (0 < pN (dP b) ∧ 0 < pM (dP b))) → dyE b x n = ((dyE b x n).1, cnY b x m (n + 1), stN (dP b) (hdy b x m) (dA b) (n + 1)) → frX (dH b).1 H H3 → MYy b x m H3 →
      Cm E mX10_runs [rf E 99, .int (nI n)] H3 (fun w zH => w = none ∧ (∀ z : Int32, z = zH 99 11 → (Rm E mX10_dayOf Q 163 [some (rf E 99), none, none, some (.int y), none, some (.int 0), some (.int z), none] [] zH))) := by
    intro m H3 hm hl ed f3 y3
    refine mt_runs (n := n + 1) (my_mt hO hl hm y3) (by omega) (by rw [nI_toInt (by omega)]; omega) (fun H4 f4 n4 => ⟨rfl, fun z ez => ?_⟩)
    have f34 := fx_tr f3 (fx_K f4)
    have m4 := mi_fx hM f34
    have t4 := mt_keep (my_mt hO hl hm y3) f4
    rw [ez, m4.2.2.1.1]
    have lp : ∀ (q j : Nat), j + q = m → Rm E mX10_dayOf Q 163 [some (rf E 99), none, none, some (.int y), none, some (.int (nI (sm (fun j => wkA (dP b) (hdy b x m) (dA b) (n + 1) / 2 ^ ((dH b).1 + j) % 2) j))), some (.int (nI ((dH b).1 + j))), none] [] H4 := by
      intro q
      induction q with
      | zero =>
        intro j hj
        have ej : j = m := by omega
        have h := hq H4 f34 t4.1
        unfold dayS at h
        rw [ed] at h
        refine sgX10_dayOf_163 ⟨fun _ => ⟨fun z2 => ?_, fun z2 => ?_⟩, fun z2 => ?_⟩
        · rw [if_neg z2] at h
          have iy := hy.resolve_left z2
          obtain ⟨t, a1, b1, d1⟩ := inN_of iy (by omega)
          rw [d1] at h
          refine ⟨t, ⟨by omega, b1⟩, ?_⟩
          rw [mw_w n4.1 n8 a1]; exact h
        · rw [if_pos z2] at h
          rw [ej]; exact h
        · rw [t4.2.1.1] at z2
          exact absurd (nI_le (show (hdy b x m).1 ≤ (dH b).1 + j by show (dH b).1 + m ≤ _; omega) (by omega)) z2
      | succ q ih =>
        intro j hj
        have md := Nat.mod_lt (wkA (dP b) (hdy b x m) (dA b) (n + 1) / 2 ^ ((dH b).1 + j)) (show 2 > 0 by decide)
        have es : sm (fun j => wkA (dP b) (hdy b x m) (dA b) (n + 1) / 2 ^ ((dH b).1 + j) % 2) (j + 1) = sm (fun j => wkA (dP b) (hdy b x m) (dA b) (n + 1) / 2 ^ ((dH b).1 + j) % 2) j + wkA (dP b) (hdy b x m) (dA b) (n + 1) / 2 ^ ((dH b).1 + j) % 2 := rfl
        refine sgX10_dayOf_163 ⟨fun z2 => ?_, fun _ => ⟨(dH b).1 + j, ⟨by omega, rfl⟩, ?_⟩⟩
        · rw [t4.2.1.1] at z2
          have z3 : nI ((dH b).1 + m) ≤ nI ((dH b).1 + j) := z2
          rw [nI_leI (by omega) (by omega)] at z3; omega
        · rw [n4.2 ((dH b).1 + j) (by omega), tb_dm, nI_eq0 (by omega)]
          refine ⟨fun z2 v ev w ew => ?_, fun z2 v ev w ew => ?_⟩
          · have e2 : v = nI (sm (fun j => wkA (dP b) (hdy b x m) (dA b) (n + 1) / 2 ^ ((dH b).1 + j) % 2) (j + 1)) := by
              rw [ev, es, z2]
              exact nI_add _ 0
            rw [ew, ← nI_succ, e2, Nat.add_assoc]
            exact ih (j + 1) (by omega)
          · have e2 : v = nI (sm (fun j => wkA (dP b) (hdy b x m) (dA b) (n + 1) / 2 ^ ((dH b).1 + j) % 2) (j + 1)) := by
              have z1 : wkA (dP b) (hdy b x m) (dA b) (n + 1) / 2 ^ ((dH b).1 + j) % 2 = 1 := by omega
              rw [ev, es, z1, nI_succ]
            rw [ew, ← nI_succ, e2, Nat.add_assoc]
            exact ih (j + 1) (by omega)
    exact lp m 0 (Nat.zero_add _)
  have y2 : MYy b x 0 H2 := ⟨mi_fx hM fx2, t2.1, t2.2.1.1, fun j hj => absurd hj (Nat.not_lt_zero j), t2.2.2.1⟩
  by_cases hl : 0 < pN (dP b) ∧ 0 < pM (dP b)
  · have lp : ∀ (q h : Nat) (H3 : Hi), h + q = n + 1 → frX (dH b).1 H H3 → MYy b x h H3 → Rm E mX10_dayOf Q 14 [some (rf E 99), none, some (.int (nI n)), some (.int y), some (.int (sdN x h)), some (.int (nI h)), none, none] [] H3 := by
      intro q
      induction q with
      | zero =>
        intro h H3 hh f3 y3
        have eh : h = n + 1 := by omega
        subst eh
        refine sgX10_dayOf_14 ⟨fun _ => fin (n + 1) H3 (by omega) (Or.inr hl) ?_ f3 y3, fun z => absurd (nI_lt (show n < n + 1 by omega) (by omega)) z⟩
        unfold dyE
        rw [itF_0, dy_lot (m := n + 1) hl (n + 1) (Nat.le_refl _)]
      | succ q ih =>
        intro h H3 hh f3 y3
        have r3 := y3.2.1
        refine sgX10_dayOf_14 ⟨fun z => ?_, fun _ => ⟨fun z => ?_, fun _ => ⟨fun z => ?_, fun _ => ?_⟩⟩⟩
        · have := (nI_ltI (by omega) (by omega)).mp z; omega
        · rw [r3.2.2.1] at z
          have z2 : nI (pM (dP b)) ≤ nI 0 := z
          rw [nI_leI (by omega) (by decide)] at z2; omega
        · rw [r3.2.1] at z
          have z2 : nI (pN (dP b)) ≤ nI 0 := z
          rw [nI_leI (by omega) (by decide)] at z2; omega
        · rw [r3.2.1, r3.2.2.1]
          intro x1 e1
          refine ⟨fun p => ?_, fun c ec x2 e2 => ⟨fun p => ?_, fun t et x3 e3 => ⟨(dH b).1 + h, ⟨by omega, y3.2.2.1⟩, fun H4 g4 => ⟨(dH b).1 + h, ⟨by omega, by rw [g4, up_n (by decide)]; exact y3.2.2.1⟩, fun H5 g5 H6 g6 w ew => ?_⟩⟩⟩⟩
          · have := (nI_eq0 (n := pM (dP b)) (by omega)).mp p; omega
          · have := (nI_eq0 (n := pN (dP b)) (by omega)).mp p; omega
          · have e1' : x1 = nxL (sdN x h) := e1
            have e2' : x2 = nxL (nxL (sdN x h)) := by rw [e2, e1']; rfl
            have e3' : x3 = nxL (nxL (nxL (sdN x h))) := by rw [e3, e2']; rfl
            have ec' : c = nI (upH (nxL (sdN x h)) % pM (dP b)) := by rw [ec, e1']; exact nI_m65 hl.2 (by omega)
            have et' : t = nI (upH (nxL (nxL (sdN x h))) % pN (dP b)) := by rw [et, e2']; exact nI_m65 hl.1 (by omega)
            have e2m : (ushr x3 16) - (ushr x3 16) / 2 * 2 = nI (upH (nxL (nxL (nxL (sdN x h)))) % 2) := by rw [e3']; exact nI_m65 (n := 2) (by decide) (by decide)
            have ecode : ((64 : Int32) * ((ushr x3 16) - (ushr x3 16) / 2 * 2) + 8 * c) + t = nI (cdD b x h) := by
              rw [e2m, ec', et']
              show nI 64 * _ + nI 8 * _ + _ = _
              rw [ni_mulN, ni_mulN, nI_add, nI_add]; rfl
            have k6 : ∀ k, k ≠ 22 → H6 99 k = H3 99 k := fun k p => by rw [g6, up_s, upd_n p, g5, up_n (by decide), g4, up_n (by decide)]
            have kk : ∀ c, c ≠ 99 → c ≠ 107 → c ≠ 108 → H6 c = H3 c := fun c p1 p2 p3 => by rw [g6, up_n p1, g5, up_n p3, g4, up_n p2]
            have k7 : ∀ j, j ≠ (dH b).1 + h → H6 107 j = H3 107 j ∧ H6 108 j = H3 108 j := fun j p => ⟨by rw [g6, up_n (by decide), g5, up_n (by decide), g4, up_s, upd_n p], by rw [g6, up_n (by decide), g5, up_s, upd_n p, g4, up_n (by decide)]⟩
            have f6 : frX (dH b).1 H3 H6 := ⟨fun c hc => kk c (by omega) (by omega) (by omega), fun k hk => k6 k (by omega), fun k hk => k7 k (by omega)⟩
            have s1 : sdN x (h + 1) = x3 := by rw [e3']; rfl
            rw [ew, ← nI_succ, ← s1]
            refine ih (h + 1) H6 (by omega) (fx_tr f3 f6) ⟨mi_fx y3.1 f6, rd_keep2 r3 (fun c hc => kk c (by omega) (by omega) (by omega)) (fun k hk => k6 k (by omega)), ?_, fun j hj => ?_, by rw [k6 23 (by decide)]; exact y3.2.2.2.2⟩
            · rw [g6, up_s, upd_s, g5, up_n (by decide), g4, up_n (by decide), y3.2.2.1, ← nI_succ]; rfl
            · by_cases ej : j = h
              · rw [ej]
                refine ⟨?_, ?_⟩
                · rw [g6, up_n (by decide), g5, up_n (by decide), g4, up_s, upd_s]
                · rw [g6, up_n (by decide), g5, up_s, upd_s, ecode]
              · have p := y3.2.2.2.1 j (by omega)
                have p2 := k7 ((dH b).1 + j) (by omega)
                exact ⟨by rw [p2.1]; exact p.1, by rw [p2.2]; exact p.2⟩
    exact lp (n + 1) 0 H2 (Nat.zero_add _) fx2 y2
  · have ed : dyE b x n = ((dyE b x n).1, cnY b x 0 (n + 1), stN (dP b) (hdy b x 0) (dA b) (n + 1)) := by
      have eh : hdy b x 0 = hdy b x 0 := rfl
      have es : ∀ h, stN (dP b) (hdy b x 0) (dA b) h = stN (dP b) (dH b) (dA b) h := by
        intro h
        induction h with
        | zero => rfl
        | succ h ih =>
          show clo (dP b) (dA b) h (mid (dP b) (hdy b x 0) h (stN (dP b) (hdy b x 0) (dA b) h)) = clo (dP b) (dA b) h (mid (dP b) (dH b) h (stN (dP b) (dH b) (dA b) h))
          rw [ih]
          have : mid (dP b) (hdy b x 0) h (stN (dP b) (dH b) (dA b) h) = mid (dP b) (dH b) h (stN (dP b) (dH b) (dA b) h) := hy_a 0 (Nat.zero_le h)
          rw [this]
      unfold dyE
      rw [itF_0, dy_no hl, es]; rfl
    have r2 := y2.2.1
    refine sgX10_dayOf_14 ⟨fun _ => fin 0 H2 (by omega) (Or.inl rfl) ed fx2 y2, fun _ => ⟨fun _ => fin 0 H2 (by omega) (Or.inl rfl) ed fx2 y2, fun z => ⟨fun _ => fin 0 H2 (by omega) (Or.inl rfl) ed fx2 y2, fun z2 => ?_⟩⟩⟩
    rw [r2.2.2.1] at z
    rw [r2.2.1] at z2
    have p1 : ¬ pM (dP b) = 0 := fun p => z (by rw [p]; decide)
    have p2 : ¬ pN (dP b) = 0 := fun p => z2 (by rw [p]; decide)
    exact absurd ⟨by omega, by omega⟩ hl
theorem mc_day {E : En} {b : Bd} {x1 x2 x3 : Int32} : Mc E mX10_day [rf E 99, .int x1, .int x2, .int x3] b (sDay b x1 x2 x3) := by
  intro H0 Q hO hM0 hq
  refine cmX10_day (mt_isHour ⟨_, rfl, fun z => ?_, fun z1 => ?_⟩)
  · have e : sDay b x1 x2 x3 = (-2, b) := if_neg (by rw [bI_0.mp z]; simp)
    rw [e] at hq; exact hq H0 (fun _ _ => rfl) hM0
  obtain ⟨n, a1, b1, d1⟩ := inN_of (bI_1 z1) (by decide)
  have go : ∀ H : Hi, frX (dH b).1 H0 H → (x3 = -1 ∨ inN (pN (dP b)) x3 = true) → Cm E mX10_dayOf [rf E 99, .int x1, .int x2, .int x3] H (fun w zH => ∃ r : Int32, w = some (.int r) ∧ Q (some (.int r)) zH) := by
    intro H f hy
    have e : sDay b x1 x2 x3 = _ := if_pos ⟨bI_1 z1, hy⟩
    rw [e, d1] at hq
    rw [b1]
    refine mt_dayOf hO (mi_fx hM0 f) a1 hy (fun H' f' r' => ⟨_, rfl, ?_⟩)
    have f4 := fx_tr f f'
    exact hq H' (fx_1 f4) (mi_fx hM0 f4)
  refine ⟨fun z => go H0 fx_rf (Or.inl z), fun z => mt_isThing hO hM0 (fun H f r => ⟨_, rfl, fun z2 => ?_, fun z2 => go H f (Or.inr (bI_1 z2))⟩)⟩
  have e : sDay b x1 x2 x3 = (-2, b) := if_neg (by
    rintro ⟨-, q | q⟩
    · exact z q
    · rw [bI_0.mp z2] at q; exact absurd q (by decide))
  rw [e] at hq; exact hq H (fx_1 f) (mi_fx hM0 f)
