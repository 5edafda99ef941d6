/-! the model: where, has, load, happy, works, fails, went -/
theorem rd_keep2 {P : Pm} {H H' : Hi} (hR : RdC P H) (h : ∀ c, (102 ≤ c ∧ c ≤ 106) ∨ c = 109 ∨ c = 110 → H' c = H c) (h99 : ∀ k, k = 2 ∨ k = 6 ∨ k = 9 ∨ k = 14 → H' 99 k = H 99 k) : RdC P H' := by
  unfold RdC
  rw [h99 2 (by omega), h99 6 (by omega), h99 9 (by omega), h99 14 (by omega), h 102 (by omega), h 103 (by omega), h 104 (by omega), h 105 (by omega), h 106 (by omega), h 109 (by omega), h 110 (by omega)]
  exact hR
theorem mt_asTold {E : En} {Q : Option Value → Hi → Prop} {H : Hi} {b : Bd} (hO : BOk b) (hM : MI b H) (hR : RdC (dP b) H)
    (hq : ∀ H' : Hi, frX (dH b).1 H H' → MT (dP b) (dH b) (dA b) H' → (∀ c, c ≠ 99 → H' c = H c) → Q none H') : Cm E mX10_asTold [rf E 99] H Q := by
  refine cmX10_asTold (fun H1 g1 H2 g2 => ?_)
  have k9 : ∀ k, k ≠ 22 → k ≠ 23 → H2 99 k = H 99 k := fun k p1 p2 => by rw [g2, up_s, upd_n p2, g1, up_s, upd_n p1]
  have kk : ∀ c, c ≠ 99 → H2 c = H c := fun c p => by rw [g2, up_n p, g1, up_n p]
  have d20 := hO.2.2.2.2.1.1
  have a24 := hO.2.2.2.1
  refine hq H2 ⟨fun c hc => kk c (by omega), fun k hk => k9 k (by omega) (by omega), fun k _ => ⟨by rw [kk 107 (by decide)], by rw [kk 108 (by decide)]⟩⟩ ⟨rd_keep2 hR (fun c hc => kk c (by omega)) (fun k hk => k9 k (by omega) (by omega)), ⟨?_, by omega, fun k hk => ?_⟩, ?_, by omega⟩ kk
  · rw [g2, up_s, upd_n (by decide), g1, up_s, upd_s]; exact hM.2.2.1.1
  · rw [kk 107 (by decide), kk 108 (by decide)]
    have p1 := hM.2.2.1.2 k hk
    have p2 := hO.2.2.2.2.1.2 k hk
    exact ⟨p1.1, p2.1, p1.2, p2.2⟩
  · rw [g2, up_s, upd_s, g1, up_s, upd_n (by decide)]; exact hM.2.1.2
theorem mt_told {E : En} {Q : Option Value → Hi → Prop} {H : Hi} {b : Bd} {n : Nat} {x : Int32} (hO : BOk b) (hM : MI b H) (hn : n ≤ 24) (hx : x.toInt = (n : Int) - 1)
    (hq : ∀ H' : Hi, frX (dH b).1 H H' → MT (dP b) (dH b) (dA b) H' → MN (dP b) (dH b) (dA b) n H' → Q none H') : Cm E mX10_runsTold [rf E 99, .int x] H Q := by
  refine cmX10_runsTold (mt_reads hO hM (fun H1 f1 r1 => ⟨rfl, mt_asTold hO (mi_fx hM (fx_R f1)) r1 (fun H2 f2 t2 _ => ⟨rfl, mt_runs t2 hn hx (fun H3 f3 n3 => ⟨rfl, ?_⟩)⟩)⟩))
  exact hq H3 (fx_tr (fx_tr (fx_R f1) f2) (fx_K f3)) (mt_keep t2 f3) n3
theorem mt_toldN {E : En} {Q : Option Value → Hi → Prop} {H : Hi} {b : Bd} {n : Nat} (hO : BOk b) (hM : MI b H) (hn : n < 24)
    (hq : ∀ H' : Hi, frX (dH b).1 H H' → MT (dP b) (dH b) (dA b) H' → MN (dP b) (dH b) (dA b) (n + 1) H' → Q none H') : Cm E mX10_runsTold [rf E 99, .int (nI n)] H Q :=
  mt_told hO hM (n := n + 1) (by omega) (by rw [nI_toInt (by omega)]; omega) hq
theorem mt_whereOf {E : En} {Q : Option Value → Hi → Prop} {H : Hi} {b : Bd} {n t : Nat} (hO : BOk b) (hM : MI b H) (hn : n < 24) (ht : t < pN (dP b))
    (hq : ∀ H' : Hi, frX (dH b).1 H H' → RdC (dP b) H' → Q (some (.int (nI ((dSt b (n + 1)).1 t)))) H') : Cm E mX10_whereOf [rf E 99, .int (nI n), .int (nI t)] H Q := by
  refine cmX10_whereOf (mt_toldN hO hM hn (fun H' f' t' n' => ⟨rfl, t, ⟨by have := t'.1.1.1; omega, rfl⟩, ?_⟩))
  rw [mw_w n'.1 t'.1.1.1 ht]
  exact hq H' f' t'.1
theorem mc_where {E : En} {b : Bd} {x y : Int32} : Mc E mX10_where [rf E 99, .int x, .int y] b (sWhere b x y) := by
  intro H0 Q hO hM0 hq
  refine cmX10_where (mt_isHour ⟨_, rfl, fun z => ?_, fun z => mt_isThing hO hM0 (fun H f r => ⟨_, rfl, fun z2 => ?_, fun z2 => ?_⟩)⟩)
  · have e : sWhere b x y = (-2, b) := if_neg (by rw [bI_0.mp z]; simp)
    rw [e] at hq; exact hq H0 (fun _ _ => rfl) hM0
  · have e : sWhere b x y = (-2, b) := if_neg (by rw [bI_0.mp z2]; simp)
    rw [e] at hq; exact hq H (fx_1 f) (mi_fx hM0 f)
  · have e : sWhere b x y = _ := if_pos ⟨bI_1 z, bI_1 z2⟩
    rw [e] at hq
    have n8 := r.1.1
    obtain ⟨n, a1, b1, d1⟩ := inN_of (bI_1 z) (by decide)
    obtain ⟨t, a2, b2, d2⟩ := inN_of (bI_1 z2) (by omega)
    rw [d1, d2] at hq
    rw [b1, b2]
    refine mt_whereOf hO (mi_fx hM0 f) a1 a2 (fun H' f' r' => ⟨_, rfl, ?_⟩)
    have f2 := fx_tr f f'
    exact hq H' (fx_1 f2) (mi_fx hM0 f2)
theorem or_0 (a : Nat) : nI a ||| 0 = nI a := by
  show nI a ||| nI 0 = _
  rw [nI_or, Nat.or_zero]
theorem mt_hasOf {E : En} {Q : Option Value → Hi → Prop} {H : Hi} {b : Bd} {n c : Nat} (hO : BOk b) (hM : MI b H) (hn : n < 24) (hc : c < 8)
    (hq : ∀ H' : Hi, frX (dH b).1 H H' → RdC (dP b) H' → Q (some (.int (nI (bs (hasB b n c) (pN (dP b)))))) H') : Cm E mX10_hasOf [rf E 99, .int (nI n), .int (nI c)] H Q := by
  refine cmX10_hasOf (mt_toldN hO hM hn (fun H' f' t' n' => ⟨rfl, ?_⟩))
  have n8 := t'.1.1.1
  have wf := stN_wf (P := dP b) (hd := dH b) (a := dA b) t'.1.1.2.1 (n + 1)
  have lp : ∀ (m t : Nat), t + m = pN (dP b) → Rm E mX10_hasOf Q 10 [some (rf E 99), none, some (.int (nI c)), some (.int (nI (bs (hasB b n c) t))), some (.int (nI t))] [] H' := by
    intro m
    induction m with
    | zero =>
      intro t ht
      refine sgX10_hasOf_10 ⟨fun _ => ?_, fun z => ?_⟩
      · have e : t = pN (dP b) := by omega
        rw [e]; exact hq H' f' t'.1
      · rw [t'.1.2.1] at z
        exact absurd (nI_le (show pN (dP b) ≤ t by omega) (by omega)) z
    | succ m ih =>
      intro t ht
      have tn : t < pN (dP b) := by omega
      have w := (wf t tn).1
      refine sgX10_hasOf_10 ⟨fun z => ?_, fun _ => ⟨t, ⟨by omega, rfl⟩, ?_⟩⟩
      · rw [t'.1.2.1] at z
        have := (nI_leI (by omega) (by omega)).mp z; omega
      · rw [mw_w n'.1 n8 tn]
        refine ⟨fun z y ey x ex => ?_, fun z y ey x ex => ?_⟩
        · have e : hasB b n c t = false := decide_eq_false (fun q => z (congrArg nI q))
          have e2 : bs (hasB b n c) t = bs (hasB b n c) (t + 1) := by rw [bs_succ, if_neg (by rw [e]; decide)]
          rw [ex, ← nI_succ, ey, or_0, e2]
          exact ih (t + 1) (by omega)
        · have e : hasB b n c t = true := decide_eq_true (nI_inj (Nat.lt_of_le_of_lt w (by decide)) (by omega) z)
          have e2 : nI (bs (hasB b n c) t) ||| ((1 : Int32) <<< (nI t &&& 31)) = nI (bs (hasB b n c) (t + 1)) := by rw [i_one t (by omega), nI_or, bs_succ, if_pos e]
          rw [ex, ← nI_succ, ey, e2]
          exact ih (t + 1) (by omega)
  exact lp _ 0 (Nat.zero_add _)
theorem mc_has {E : En} {b : Bd} {x y : Int32} : Mc E mX10_has [rf E 99, .int x, .int y] b (sHas b x y) := by
  intro H0 Q hO hM0 hq
  refine cmX10_has (mt_isHour ⟨_, rfl, fun z => ?_, fun z => mt_isCousin hO hM0 (fun H f r => ⟨_, rfl, fun z2 => ?_, fun z2 => ?_⟩)⟩)
  · have e : sHas b x y = (-2, b) := if_neg (by rw [bI_0.mp z]; simp)
    rw [e] at hq; exact hq H0 (fun _ _ => rfl) hM0
  · have e : sHas b x y = (-2, b) := if_neg (by rw [bI_0.mp z2]; simp)
    rw [e] at hq; exact hq H (fx_1 f) (mi_fx hM0 f)
  · have e : sHas b x y = _ := if_pos ⟨bI_1 z, bI_1 z2⟩
    rw [e] at hq
    have m8 := r.1.2.1
    obtain ⟨n, a1, b1, d1⟩ := inN_of (bI_1 z) (by decide)
    obtain ⟨t, a2, b2, d2⟩ := inN_of (bI_1 z2) (by omega)
    rw [d1, d2] at hq
    rw [b1, b2]
    refine mt_hasOf hO (mi_fx hM0 f) a1 (by omega) (fun H' f' r' => ⟨_, rfl, ?_⟩)
    have f2 := fx_tr f f'
    exact hq H' (fx_1 f2) (mi_fx hM0 f2)
theorem mt_loadOf {E : En} {Q : Option Value → Hi → Prop} {H : Hi} {b : Bd} {n : Nat} (hO : BOk b) (hM : MI b H) (hn : n < 24)
    (hq : ∀ H' : Hi, frX (dH b).1 H H' → RdC (dP b) H' → Q (some (.int (nI (ld (dP b) (dSt b (n + 1)))))) H') : Cm E mX10_loadOf [rf E 99, .int (nI n)] H Q := by
  refine cmX10_loadOf (mt_toldN hO hM hn (fun H' f' t' n' => ⟨rfl, mt_load t'.1 n'.1 (stN_wf t'.1.1.2.1 _) ⟨_, rfl, hq H' f' t'.1⟩⟩))
theorem mc_load {E : En} {b : Bd} {x : Int32} : Mc E mX10_load [rf E 99, .int x] b (sLoad b x) := by
  intro H0 Q hO hM0 hq
  refine cmX10_load (mt_isHour ⟨_, rfl, fun z => ?_, fun z => ?_⟩)
  · have e : sLoad b x = (-2, b) := if_neg (by rw [bI_0.mp z]; simp)
    rw [e] at hq; exact hq H0 (fun _ _ => rfl) hM0
  · have e : sLoad b x = _ := if_pos (bI_1 z)
    rw [e] at hq
    obtain ⟨n, a1, b1, d1⟩ := inN_of (bI_1 z) (by decide)
    rw [d1] at hq
    rw [b1]
    exact mt_loadOf hO hM0 a1 (fun H' f' r' => ⟨_, rfl, hq H' (fx_1 f') (mi_fx hM0 f')⟩)
set_option maxHeartbeats 1000000 in
theorem mt_happyOf {E : En} {Q : Option Value → Hi → Prop} {H : Hi} {b : Bd} {n : Nat} (hO : BOk b) (hM : MI b H) (hn : n < 24)
    (hq : ∀ H' : Hi, frX (dH b).1 H H' → RdC (dP b) H' → Q (some (.int (nI (bs (hapB b n) (pM (dP b)))))) H') : Cm E mX10_happyOf [rf E 99, .int (nI n)] H Q := by
  refine cmX10_happyOf (mt_toldN hO hM hn (fun H' f' t' n' => ⟨rfl, ?_⟩))
  have n8 := t'.1.1.1
  have m8 := t'.1.1.2.1
  have wf := stN_wf (P := dP b) (hd := dH b) (a := dA b) m8 (n + 1)
  have lp : ∀ (m c : Nat), c + m = pM (dP b) → Rm E mX10_happyOf Q 9 [some (rf E 99), none, some (.int (nI (bs (hapB b n) c))), some (.int (nI c))] [] H' := by
    intro m
    induction m with
    | zero =>
      intro c hc
      refine sgX10_happyOf_9 ⟨fun _ => ?_, fun z => ?_⟩
      · have e : c = pM (dP b) := by omega
        rw [e]; exact hq H' f' t'.1
      · rw [t'.1.2.2.1] at z
        exact absurd (nI_le (show pM (dP b) ≤ c by omega) (by omega)) z
    | succ m ih =>
      intro c hc
      have cm : c < pM (dP b) := by omega
      have g := (t'.1.2.2.2.2.1 c cm).2
      have no : hapB b n c = false → ∀ y x : Int32, y = nI (bs (hapB b n) c) ||| 0 → x = nI c + 1 → Rm E mX10_happyOf Q 9 [some (rf E 99), none, some (.int y), some (.int x)] [] H' := by
        intro e y x ey ex
        have e2 : bs (hapB b n) c = bs (hapB b n) (c + 1) := by rw [bs_succ, if_neg (by rw [e]; decide)]
        rw [ex, ← nI_succ, ey, or_0, e2]
        exact ih (c + 1) (by omega)
      refine sgX10_happyOf_9 ⟨fun z => ?_, fun _ => ⟨c, ⟨by omega, rfl⟩, ?_⟩⟩
      · rw [t'.1.2.2.1] at z
        have := (nI_leI (by omega) (by omega)).mp z; omega
      · rw [t'.1.2.1]
        refine mt_inN (N := pN (dP b)) (ni_m1 (by omega)) ⟨_, rfl, fun z y ey x ex => no ?_ y x ey ex, fun z => ?_⟩
        · refine decide_eq_false (fun q => ?_)
          rw [g, if_pos q.1] at z
          have h2 := inN_nI (N := pN (dP b)) q.2.1 (by omega)
          rw [bI_0.mp z] at h2
          exact absurd h2 (by decide)
        · have z' := bI_1 z
          have w8 : pWi (dP b) c < 8 := by
            apply Classical.byContradiction
            intro q
            rw [g, if_neg q] at z'
            obtain ⟨j, j1, j2, -⟩ := inN_of z' (by omega)
            have := congrArg Int32.toInt j2
            rw [nI_toInt (by omega)] at this
            have h2 : (-1 : Int32).toInt = -1 := by decide
            omega
          rw [g, if_pos w8] at z'
          have wn : pWi (dP b) c < pN (dP b) := by
            obtain ⟨j, j1, j2, -⟩ := inN_of z' (by omega)
            have := nI_inj (by omega) (by omega) j2
            omega
          have w := (wf _ wn).1
          refine ⟨c, ⟨by omega, rfl⟩, pWi (dP b) c, ⟨w8, by rw [g, if_pos w8]⟩, ?_⟩
          rw [mw_w n'.1 n8 wn]
          refine ⟨fun z2 y ey x ex => no ?_ y x ey ex, fun z2 y ey x ex => ?_⟩
          · exact decide_eq_false (fun q => z2 (congrArg nI q.2.2))
          · have e : hapB b n c = true := decide_eq_true ⟨w8, wn, nI_inj (Nat.lt_of_le_of_lt w (by decide)) (by omega) z2⟩
            have e2 : nI (bs (hapB b n) c) ||| ((1 : Int32) <<< (nI c &&& 31)) = nI (bs (hapB b n) (c + 1)) := by rw [i_one c (by omega), nI_or, bs_succ, if_pos e]
            rw [ex, ← nI_succ, ey, e2]
            exact ih (c + 1) (by omega)
  exact lp _ 0 (Nat.zero_add _)
theorem mc_happy {E : En} {b : Bd} {x : Int32} : Mc E mX10_happy [rf E 99, .int x] b (sHappy b x) := by
  intro H0 Q hO hM0 hq
  refine cmX10_happy (mt_isHour ⟨_, rfl, fun z => ?_, fun z => ?_⟩)
  · have e : sHappy b x = (-2, b) := if_neg (by rw [bI_0.mp z]; simp)
    rw [e] at hq; exact hq H0 (fun _ _ => rfl) hM0
  · have e : sHappy b x = _ := if_pos (bI_1 z)
    rw [e] at hq
    obtain ⟨n, a1, b1, d1⟩ := inN_of (bI_1 z) (by decide)
    rw [d1] at hq
    rw [b1]
    exact mt_happyOf hO hM0 a1 (fun H' f' r' => ⟨_, rfl, hq H' (fx_1 f') (mi_fx hM0 f')⟩)
theorem tb_dm (w k : Nat) : (if w.testBit k = true then 1 else 0) = w / 2 ^ k % 2 := by
  rw [Nat.testBit_eq_decide_div_mod_eq]
  have := Nat.mod_lt (w / 2 ^ k) (show 2 > 0 by decide)
  by_cases q : w / 2 ^ k % 2 = 1
  · rw [decide_eq_true q, if_pos rfl, q]
  · rw [decide_eq_false q, if_neg (by decide)]; omega
theorem mt_worksOf {E : En} {Q : Option Value → Hi → Prop} {H : Hi} {b : Bd} {k : Nat} (hO : BOk b) (hM : MI b H) (hk : k < 44)
    (hq : ∀ H' : Hi, frX (dH b).1 H H' → RdC (dP b) H' → Q (some (.int (nI (dW b / 2 ^ k % 2)))) H') : Cm E mX10_worksOf [rf E 99, .int (nI k)] H Q := by
  refine cmX10_worksOf (mt_toldN (n := 23) hO hM (by decide) (fun H' f' t' n' => ⟨rfl, k, ⟨hk, rfl⟩, ?_⟩))
  have e : H' 115 k = nI (dW b / 2 ^ k % 2) := by rw [n'.2 k hk, tb_dm]; rfl
  have md := Nat.mod_lt (dW b / 2 ^ k) (show 2 > 0 by decide)
  have h := hq H' f' t'.1
  rw [e, nI_eq0 (by omega)]
  refine ⟨fun z => ?_, fun z => ?_⟩
  · rw [z] at h; exact h
  · have z1 : dW b / 2 ^ k % 2 = 1 := by omega
    rw [z1] at h; exact h
theorem mc_works {E : En} {b : Bd} {x : Int32} : Mc E mX10_works [rf E 99, .int x] b (sWorks b x) := by
  intro H0 Q hO hM0 hq
  have d20 := hO.2.2.2.2.1.1
  refine cmX10_works ?_
  rw [hM0.2.2.1.1]
  refine mt_inN (N := (dH b).1) (ni_m1 (by omega)) ⟨_, rfl, fun z => ?_, fun z => ?_⟩
  · have e : sWorks b x = (-2, b) := if_neg (by rw [bI_0.mp z]; simp)
    rw [e] at hq; exact hq H0 (fun _ _ => rfl) hM0
  · have e : sWorks b x = _ := if_pos (bI_1 z)
    rw [e] at hq
    obtain ⟨n, a1, b1, d1⟩ := inN_of (bI_1 z) (by omega)
    rw [d1] at hq
    rw [b1]
    exact mt_worksOf hO hM0 (by omega) (fun H' f' r' => ⟨_, rfl, hq H' (fx_1 f') (mi_fx hM0 f')⟩)
/-! fails: the first of the idle -/
def idl (w : Nat) (k : Nat) : Prop := w / 2 ^ k % 2 = 0
def bfr (hd : Hd) (j i : Nat) : Prop := hd.2.1 j < hd.2.1 i ∨ (hd.2.1 j = hd.2.1 i ∧ j ≤ i)
theorem idK_s {w : Nat} {hd : Hd} {h : Nat} : ∀ (m k : Nat), match idK w hd h m k with
    | some j => k ≤ j ∧ j < k + m ∧ hd.2.1 j = h ∧ idl w j ∧ ∀ i, k ≤ i → i < j → ¬ (hd.2.1 i = h ∧ idl w i)
    | none => ∀ i, k ≤ i → i < k + m → ¬ (hd.2.1 i = h ∧ idl w i)
  | 0, k => fun i h1 h2 => by omega
  | m + 1, k => by
    have ih := idK_s (w := w) (hd := hd) (h := h) m (k + 1)
    by_cases c : hd.2.1 k = h ∧ w / 2 ^ k % 2 = 0
    · have e : idK w hd h (m + 1) k = some k := if_pos c
      rw [e]
      exact ⟨Nat.le_refl k, by omega, c.1, c.2, fun i h1 h2 => by omega⟩
    · have e : idK w hd h (m + 1) k = idK w hd h m (k + 1) := if_neg c
      rw [e]
      cases e2 : idK w hd h m (k + 1) with
      | none =>
        rw [e2] at ih
        intro i h1 h2
        by_cases q : i = k
        · rw [q]; exact c
        · exact ih i (by omega) (by omega)
      | some j =>
        rw [e2] at ih
        obtain ⟨a1, a2, a3, a4, a5⟩ := ih
        refine ⟨by omega, by omega, a3, a4, fun i h1 h2 => ?_⟩
        by_cases q : i = k
        · rw [q]; exact c
        · exact a5 i (by omega) h2
theorem idH_s {w : Nat} {hd : Hd} : ∀ (m h : Nat), match idH w hd m h with
    | some j => j < hd.1 ∧ idl w j ∧ h ≤ hd.2.1 j ∧ ∀ i, i < hd.1 → idl w i → h ≤ hd.2.1 i → bfr hd j i
    | none => ∀ i, i < hd.1 → idl w i → h ≤ hd.2.1 i → h + m ≤ hd.2.1 i
  | 0, h => fun i _ _ h3 => by omega
  | m + 1, h => by
    have ih := idH_s (w := w) (hd := hd) m (h + 1)
    have ik := idK_s (w := w) (hd := hd) (h := h) hd.1 0
    cases e : idK w hd h hd.1 0 with
    | some j =>
      have e2 : idH w hd (m + 1) h = some j := by simp only [idH]; rw [e]
      rw [e2]
      rw [e] at ik
      obtain ⟨a1, a2, a3, a4, a5⟩ := ik
      refine ⟨by omega, a4, by omega, fun i h1 h2 h3 => ?_⟩
      by_cases q : hd.2.1 i = h
      · refine Or.inr ⟨by omega, ?_⟩
        apply Classical.byContradiction
        intro q2
        exact a5 i (Nat.zero_le i) (by omega) ⟨q, h2⟩
      · exact Or.inl (by omega)
    | none =>
      have e2 : idH w hd (m + 1) h = idH w hd m (h + 1) := by simp only [idH]; rw [e]
      rw [e2]
      rw [e] at ik
      have nh : ∀ i, i < hd.1 → idl w i → h ≤ hd.2.1 i → h + 1 ≤ hd.2.1 i := by
        intro i h1 h2 h3
        have := ik i (Nat.zero_le i) (by omega)
        have : ¬ hd.2.1 i = h := fun q => this ⟨q, h2⟩
        omega
      cases e3 : idH w hd m (h + 1) with
      | some j =>
        rw [e3] at ih
        obtain ⟨a1, a2, a3, a4⟩ := ih
        exact ⟨a1, a2, by omega, fun i h1 h2 h3 => a4 i h1 h2 (nh i h1 h2 h3)⟩
      | none =>
        rw [e3] at ih
        intro i h1 h2 h3
        have := ih i h1 h2 (nh i h1 h2 h3)
        omega
def fstI (w : Nat) (hd : Hd) (n : Nat) (o : Option Nat) : Prop := match o with
  | some j => j < n ∧ idl w j ∧ ∀ i, i < n → idl w i → bfr hd j i
  | none => ∀ i, i < n → ¬ idl w i
theorem fst_u {w : Nat} {hd : Hd} {n : Nat} {o o' : Option Nat} (h : fstI w hd n o) (h' : fstI w hd n o') : o = o' := by
  cases o with
  | none =>
    cases o' with
    | none => rfl
    | some j => exact absurd h'.2.1 (h j h'.1)
  | some j =>
    cases o' with
    | none => exact absurd h.2.1 (h' j h.1)
    | some i =>
      have h1 := h.2.2 i h'.1 h'.2.1
      have h2 := h'.2.2 j h.1 h.2.1
      unfold bfr at h1 h2
      have : j = i := by omega
      rw [this]
theorem fst_H {w : Nat} {hd : Hd} (h24 : ∀ k, k < hd.1 → hd.2.1 k < 24) : fstI w hd hd.1 (idH w hd 24 0) := by
  have h := idH_s (w := w) (hd := hd) 24 0
  cases e : idH w hd 24 0 with
  | none =>
    rw [e] at h
    intro i h1 h2
    have a1 := h i h1 h2 (Nat.zero_le _)
    have a2 := h24 i h1
    omega
  | some j =>
    rw [e] at h
    exact ⟨h.1, h.2.1, fun i h1 h2 => h.2.2.2 i h1 h2 (Nat.zero_le _)⟩
theorem nO_s {k : Nat} (hk : k < 2 ^ 31) : ¬ nO (some k) = -1 := by
  intro q
  have q' : nI k = -1 := q
  have := congrArg Int32.toInt q'
  rw [nI_toInt hk] at this
  have h2 : (-1 : Int32).toInt = -1 := by decide
  omega
set_option maxHeartbeats 1000000 in
theorem mt_failsNow {E : En} {Q : Option Value → Hi → Prop} {H : Hi} {b : Bd} (hO : BOk b) (hM : MI b H)
    (hq : ∀ H' : Hi, frX (dH b).1 H H' → RdC (dP b) H' → Q (some (.int (nO (idH (dW b) (dH b) 24 0)))) H') : Cm E mX10_failsNow [rf E 99] H Q := by
  have d20 := hO.2.2.2.2.1.1
  refine cmX10_failsNow (mt_toldN (n := 23) hO hM (by decide) (fun H' f' t' n' => ⟨rfl, ?_⟩))
  have hM' := mi_fx hM f'
  have ew : ∀ k, k < 44 → H' 115 k = nI (dW b / 2 ^ k % 2) := fun k hk => by rw [n'.2 k hk, tb_dm]; rfl
  have lp : ∀ (m k : Nat) (o : Option Nat), k + m = (dH b).1 → fstI (dW b) (dH b) k o → Rm E mX10_failsNow Q 10 [some (rf E 99), some (.int (nO o)), some (.int (nI k))] [] H' := by
    intro m
    induction m with
    | zero =>
      intro k o hk ho
      refine sgX10_failsNow_10 ⟨fun _ => ?_, fun z => ?_⟩
      · have e : k = (dH b).1 := by omega
        rw [e] at ho
        rw [fst_u ho (fst_H (fun k hk => (hO.2.2.2.2.1.2 k hk).1))]
        exact hq H' f' t'.1
      · rw [hM'.2.2.1.1] at z
        exact absurd (nI_le (show (dH b).1 ≤ k by omega) (by omega)) z
    | succ m ih =>
      intro k o hk ho
      have md := Nat.mod_lt (dW b / 2 ^ k) (show 2 > 0 by decide)
      have hh := hO.2.2.2.2.1.2 k (by omega)
      refine sgX10_failsNow_10 ⟨fun z => ?_, fun _ => ⟨k, ⟨by omega, rfl⟩, ?_⟩⟩
      · rw [hM'.2.2.1.1] at z
        have := (nI_leI (by omega) (by omega)).mp z; omega
      · rw [ew k (by omega), nI_eq0 (by omega)]
        refine ⟨fun z x ex => ?_, fun z => ⟨fun z2 x ex => ?_, fun z2 => ?_⟩⟩
        · rw [ex, ← nI_succ]
          refine ih (k + 1) o (by omega) ?_
          cases o with
          | none =>
            intro i hi
            by_cases q : i = k
            · rw [q]; exact z
            · exact ho i (by omega)
          | some j =>
            refine ⟨by have := ho.1; omega, ho.2.1, fun i hi hl => ?_⟩
            by_cases q : i = k
            · rw [q] at hl; exact absurd hl z
            · exact ho.2.2 i (by omega) hl
        · cases o with
          | some j => exact absurd z2 (nO_s (by have := ho.1; omega))
          | none =>
            rw [ex, ← nI_succ]
            refine ih (k + 1) (some k) (by omega) ⟨Nat.lt_succ_self k, z, fun i hi hl => ?_⟩
            by_cases q : i = k
            · rw [q]; exact Or.inr ⟨rfl, Nat.le_refl k⟩
            · exact absurd hl (ho i (by omega))
        · cases o with
          | none => exact absurd rfl z2
          | some j =>
            have j1 : j < k := ho.1
            have hj := hO.2.2.2.2.1.2 j (by omega)
            refine ⟨k, ⟨by omega, rfl⟩, j, ⟨by omega, rfl⟩, ?_⟩
            rw [(hM'.2.2.1.2 k (by omega)).1, (hM'.2.2.1.2 j (by omega)).1, nI_leI (by omega) (by omega)]
            refine ⟨fun z3 x ex => ?_, fun z3 x ex => ?_⟩
            · rw [ex, ← nI_succ]
              refine ih (k + 1) (some j) (by omega) ⟨by omega, ho.2.1, fun i hi hl => ?_⟩
              by_cases q : i = k
              · rw [q]; unfold bfr; omega
              · exact ho.2.2 i (by omega) hl
            · rw [ex, ← nI_succ]
              refine ih (k + 1) (some k) (by omega) ⟨by omega, z, fun i hi hl => ?_⟩
              by_cases q : i = k
              · rw [q]; unfold bfr; omega
              · have := ho.2.2 i (by omega) hl
                unfold bfr at this ⊢
                omega
  exact lp _ 0 none (Nat.zero_add _) (fun i hi => absurd hi (Nat.not_lt_zero i))
theorem mc_fails {E : En} {b : Bd} : Mc E mX10_fails [rf E 99] b (sFails b) := by
  intro H0 Q hO hM0 hq
  exact cmX10_fails (mt_failsNow hO hM0 (fun H' f' r' => ⟨_, rfl, hq H' (fx_1 f') (mi_fx hM0 f')⟩))
/-! went -/
theorem mt_wentOf {E : En} {Q : Option Value → Hi → Prop} {H : Hi} {b : Bd} {t : Nat} (hO : BOk b) (hM : MI b H) (ht : t < pN (dP b))
    (hq : ∀ H' : Hi, frX (dH b).1 H H' → RdC (dP b) H' → Q (some (.int (gWe b t))) H') : Cm E mX10_wentOf [rf E 99, .int (nI t)] H Q := by
  refine cmX10_wentOf (mt_reads hO hM (fun H1 f1 r1 => ⟨rfl, mt_asTold hO (mi_fx hM (fx_R f1)) r1 (fun H2 f2 t2 _ => ⟨rfl, mt_beg (hd := dH b) (a := dA b) t2.1 (fun H3 f3 n3 => ⟨rfl, ?_⟩)⟩)⟩))
  have n8 := t2.1.1.1
  have m8 := t2.1.1.2.1
  have fx3 : frX (dH b).1 H H3 := fx_tr (fx_tr (fx_R f1) f2) (fx_K f3)
  have t3 := mt_keep t2 f3
  have lp : ∀ (m h : Nat) (H4 : Hi), h + m = 24 → frK H3 H4 → MN (dP b) (dH b) (dA b) h H4 → (∀ H' : Hi, frX (dH b).1 H H' → RdC (dP b) H' → Q (some (.int (nO (fndF (gonP b t) m h)))) H') → Rm E mX10_wentOf Q 27 [some (rf E 99), some (.int (nI t)), some (.int (nI h))] [] H4 := by
    intro m
    induction m with
    | zero =>
      intro h H4 hh f4 n4 hq4
      have e : h = 24 := by omega
      subst e
      exact sgX10_wentOf_27 ⟨fun _ => hq4 H4 (fx_tr fx3 (fx_K f4)) (mt_keep t3 f4).1, fun z => absurd (show nI 24 ≤ nI 24 from nI_le (by omega) (by omega)) z⟩
    | succ m ih =>
      intro h H4 hh f4 n4 hq4
      refine sgX10_wentOf_27 ⟨fun z => ?_, fun _ => mt_go (mt_keep t3 f4) n4 (by omega) (fun H5 f5 n5 => ⟨rfl, t, ⟨by omega, rfl⟩, ?_⟩)⟩
      · have := (nI_leI (a := 24) (by omega) (by omega)).mp z; omega
      · have w := (stN_wf (P := dP b) (hd := dH b) (a := dA b) m8 (h + 1) t ht).1
        have k5 : frK H3 H5 := fun c hc => by rw [f5 c hc]; exact f4 c hc
        rw [mw_w n5.1 n8 ht, ni_e9 w]
        refine ⟨fun z x ex => ?_, fun z => ?_⟩
        · rw [ex, ← nI_succ]
          have e : fndF (gonP b t) (m + 1) h = fndF (gonP b t) m (h + 1) := if_neg (fun q => z (of_decide_eq_true q))
          rw [e] at hq4
          exact ih (h + 1) H5 (by omega) k5 n5 hq4
        · have e : fndF (gonP b t) (m + 1) h = some h := if_pos (decide_eq_true z)
          rw [e] at hq4
          exact hq4 H5 (fx_tr fx3 (fx_K k5)) (mt_keep t3 k5).1
  have w0 : (dSt b 0).1 t ≤ 9 := (st0_wf (P := dP b) m8 t ht).1
  refine ⟨t, ⟨by omega, rfl⟩, ?_⟩
  rw [mw_w n3.1 n8 ht]
  have e0 : (stN (dP b) (dH b) (dA b) 0).1 t = (dSt b 0).1 t := rfl
  rw [e0, ni_e9 w0]
  refine ⟨fun z => lp 24 0 H3 rfl (fun _ _ => rfl) n3 (fun H' f' r' => ?_), fun z => ?_⟩
  · have h := hq H' f' r'
    unfold gWe at h
    rw [if_neg z] at h; exact h
  · have h := hq H3 fx3 t3.1
    unfold gWe at h
    rw [if_pos z] at h; exact h
theorem mc_went {E : En} {b : Bd} {x : Int32} : Mc E mX10_went [rf E 99, .int x] b (sWent b x) := by
  intro H0 Q hO hM0 hq
  refine cmX10_went (mt_isThing hO hM0 (fun H f r => ⟨_, rfl, fun z2 => ?_, fun z2 => ?_⟩))
  · have e : sWent b x = (-2, b) := if_neg (by rw [bI_0.mp z2]; simp)
    rw [e] at hq; exact hq H (fx_1 f) (mi_fx hM0 f)
  · have e : sWent b x = _ := if_pos (bI_1 z2)
    rw [e] at hq
    have n8 := r.1.1
    obtain ⟨t, a2, b2, d2⟩ := inN_of (bI_1 z2) (by omega)
    rw [d2] at hq
    rw [b2]
    refine mt_wentOf hO (mi_fx hM0 f) a2 (fun H' f' r' => ⟨_, rfl, ?_⟩)
    have f2 := fx_tr f f'
    exact hq H' (fx_1 f2) (mi_fx hM0 f2)
