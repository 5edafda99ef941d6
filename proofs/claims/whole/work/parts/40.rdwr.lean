/-! read and write -/
theorem hand_dS (b : Bd) (x1 x2 x3 x4 : Int32) : dS (sHand b x1 x2 x3 x4).2 = dS b := by
  unfold sHand
  split
  · split <;> rfl
  · rfl
def rdS (s : Nat) : Nat → Nat → Bd → Nat × Bd
  | 0, i, b => (i, b)
  | m + 1, i, b => if 4 * i + 3 < (dS b).2.2.1 s then
      (if 0 ≤ (sHand b ((dS b).2.2.2 s (4 * i)) ((dS b).2.2.2 s (4 * i + 1)) ((dS b).2.2.2 s (4 * i + 2)) ((dS b).2.2.2 s (4 * i + 3))).1 then
        rdS s m (i + 1) (sHand b ((dS b).2.2.2 s (4 * i)) ((dS b).2.2.2 s (4 * i + 1)) ((dS b).2.2.2 s (4 * i + 2)) ((dS b).2.2.2 s (4 * i + 3))).2
       else (i, (sHand b ((dS b).2.2.2 s (4 * i)) ((dS b).2.2.2 s (4 * i + 1)) ((dS b).2.2.2 s (4 * i + 2)) ((dS b).2.2.2 s (4 * i + 3))).2))
      else (i, b)
theorem read_loop {E : En} {Q : Option Value → Hi → Prop} {H0 : Hi} {s : Nat} (hs : s < 4) :
    ∀ (m i : Nat) (b : Bd) (H : Hi), i + m = 15 → CB b H → H 0 9 = 1 → (dS b).1 s = true → (∀ c, 99 ≤ c → H c = H0 c) →
      (∀ H' : Hi, (∀ c, 99 ≤ c → H' c = H0 c) → CI (rdS s m i b).2 H' → Q (some (.int (nI (rdS s m i b).1))) H') →
      Rm E mX9_read Q 40 [some (rf E 0), none, some (rf E (91 + 2 * s)), some (.int (nI i)), some (.int (nI (4 * i))), none] [] H := by
  intro m
  induction m with
  | zero =>
    intro i b H hi hB h9 ht hk hq
    obtain ⟨s1, s2, s3, s4, s5⟩ := hB.2.2.2.2.1 s hs
    rw [if_pos ht] at s1
    refine sgX9_read_40 hs ⟨fun z => hq H hk (ci_stale hB h9), fun z => absurd ?_ z⟩
    rw [s1, show (3 : Int32) = nI 3 from rfl, nI_add]
    exact nI_le (by omega) (by omega)
  | succ m ih =>
    intro i b H hi hB h9 ht hk hq
    obtain ⟨s1, s2, s3, s4, s5⟩ := hB.2.2.2.2.1 s hs
    rw [if_pos ht] at s1
    have a1 : nI (4 * i) + 1 = nI (4 * i + 1) := by rw [show (1 : Int32) = nI 1 from rfl, nI_add]
    have a2 : nI (4 * i) + 2 = nI (4 * i + 2) := by rw [show (2 : Int32) = nI 2 from rfl, nI_add]
    have a3 : nI (4 * i) + 3 = nI (4 * i + 3) := by rw [show (3 : Int32) = nI 3 from rfl, nI_add]
    refine sgX9_read_40 hs ⟨fun z => ?_, fun z => ?_⟩
    · rw [s1, a3, nI_leI (by omega) (by omega)] at z
      have e : rdS s (m + 1) i b = (i, b) := if_neg (by omega)
      rw [e] at hq
      exact hq H hk (ci_stale hB h9)
    · rw [s1, a3, nI_leI (by omega) (by omega)] at z
      have e : rdS s (m + 1) i b = _ := if_pos (by omega)
      rw [e] at hq
      refine ⟨4 * i, ⟨by omega, rfl⟩, 4 * i + 1, ⟨by omega, a1⟩, 4 * i + 2, ⟨by omega, a2⟩, 4 * i + 3, ⟨by omega, a3⟩, ?_⟩
      rw [s5 (4 * i) (by omega), s5 (4 * i + 1) (by omega), s5 (4 * i + 2) (by omega), s5 (4 * i + 3) (by omega)]
      refine ct_addHand hB h9 (fun H1 k1 B1 o1 => ⟨_, rfl, fun z2 => ?_, fun z2 => ?_⟩)
      · rw [if_pos z2] at hq
        intro y3 g3 y4 g4
        have e3 : y3 = nI (i + 1) := by rw [g3, nI_succ]
        have e4 : y4 = nI (4 * (i + 1)) := by rw [g4, show (4 : Int32) = nI 4 from rfl, nI_add]; rfl
        rw [e3, e4]
        exact ih (i + 1) _ H1 (by omega) B1 o1 (by rw [hand_dS]; exact ht) (fun c hc => by rw [k1 c hc, hk c hc]) hq
      · rw [if_neg z2] at hq
        exact hq H1 (fun c hc => by rw [k1 c hc, hk c hc]) (ci_stale B1 o1)
def sRead (b : Bd) (x : Int32) : Int32 × Bd :=
  if inN 4 x = true then (if (dS b).1 (un x) = true then (nI (rdS (un x) 15 0 b).1, (rdS (un x) 15 0 b).2) else sFound b 1) else (-2, b)
theorem cc_read {E : En} {b : Bd} {x : Int32} : Cc E mX9_read [rf E 0, .int x] b (sRead b x) := by
  intro H Q hC hq
  refine cmX9_read (ct_isSheet ⟨_, rfl, fun z => ?_, fun z => ?_⟩)
  · have e : sRead b x = _ := if_pos (bI_1 z)
    rw [e] at hq
    obtain ⟨j, a1, b1, d1⟩ := inN_of (bI_1 z) (by decide)
    rw [d1] at hq
    refine ⟨j, ⟨a1, b1⟩, ?_⟩
    rw [len_0 hC a1]
    refine ⟨fun z2 => ?_, fun z2 => ?_⟩
    · rw [if_pos z2] at hq
      intro H1 g1
      have B1 := cb_st hC.1
      rw [← g1] at B1
      exact read_loop a1 15 0 b H1 rfl B1 (by rw [g1, up_s, upd_s]) z2 (fun c hc => by rw [g1, up_n (by omega)]) hq
    · rw [if_neg z2] at hq
      exact ct_found (k := 1) hC (fun H' f' c' => ⟨_, rfl, hq H' f' c'⟩)
  · have e : sRead b x = (-2, b) := if_neg (by rw [bI_0.mp z]; simp)
    rw [e] at hq; exact hq H (fun _ _ => rfl) hC
def wW (b : Bd) (s : Nat) (g : Nat → Int32) (h : Nat) : Bd := wS b ((dS b).1, (dS b).2.1, (dS b).2.2.1, fun s' i => if s' = s ∧ i < h then g i else (dS b).2.2.2 s' i)
theorem wW_s (b : Bd) (s : Nat) (g : Nat → Int32) (h : Nat) : wI (wW b s g h) s h (g h) = wW b s g (h + 1) := by
  have e : iup (fun s' i => if s' = s ∧ i < h then g i else (dS b).2.2.2 s' i) s h (g h) = fun s' i => if s' = s ∧ i < h + 1 then g i else (dS b).2.2.2 s' i := by
    funext s' i
    unfold iup
    by_cases e1 : s' = s ∧ i = h
    · rw [if_pos e1, if_pos ⟨e1.1, by omega⟩, e1.2]
    · rw [if_neg e1]
      show (if s' = s ∧ i < h then g i else (dS b).2.2.2 s' i) = _
      by_cases e2 : s' = s ∧ i < h
      · rw [if_pos e2, if_pos ⟨e2.1, by omega⟩]
      · rw [if_neg e2, if_neg (fun q => by
          by_cases e3 : i = h
          · exact e1 ⟨q.1, e3⟩
          · exact e2 ⟨q.1, by omega⟩)]
  show wS (wW b s g h) ((dS b).1, (dS b).2.1, (dS b).2.2.1, iup (fun s' i => if s' = s ∧ i < h then g i else (dS b).2.2.2 s' i) s h (g h)) = _
  rw [e]
  rfl
theorem wW_0 (b : Bd) (s : Nat) (g : Nat → Int32) : wW b s g 0 = b := by
  have e : (fun s' i => if s' = s ∧ i < 0 then g i else (dS b).2.2.2 s' i) = (dS b).2.2.2 := by
    funext s' i
    rw [if_neg (fun q => absurd q.2 (Nat.not_lt_zero i))]
  unfold wW
  rw [e]
  rfl
def wrV (b : Bd) (x : Int32) (f : Nat) (i : Nat) : Int32 := nrw f (if x = 0 then nI (ld (dP b) (dSt b (i + 1))) else nI (bs (hapB b i) (pM (dP b))))
theorem write_loop {E : En} {Q : Option Value → Hi → Prop} {H0 : Hi} {b : Bd} {s n : Nat} {x : Int32} (hs : s < 4) (hn : n ≤ 24)
    (hq : ∀ H' : Hi, (∀ c, 99 ≤ c → H' c = H0 c) → CI (wW b s (wrV b x ((dS b).2.1 s)) n) H' → Q (some (.int (nI n))) H') :
    ∀ (m h : Nat) (H : Hi), h + m = n → CI (wW b s (wrV b x ((dS b).2.1 s)) h) H → H 0 9 = 0 → (∀ c, 99 ≤ c → H c = H0 c) →
      Rm E mX9_write Q 55 [some (rf E 0), some (.int x), none, some (rf E (91 + 2 * s)), some (.int (nI n)), some (.int (nI h))] [] H := by
  intro m
  induction m with
  | zero =>
    intro h H hh hC h9 hk
    refine sgX9_write_55 hs ⟨fun z => ?_, fun z => absurd (nI_le (by omega) (by omega)) z⟩
    have e : h = n := by omega
    rw [e] at hC
    exact hq H hk hC
  | succ m ih =>
    intro h H hh hC h9 hk
    have nx : ∀ (v : Int32), nrw ((dS b).2.1 s) v = wrV b x ((dS b).2.1 s) h → Cm E mX5_set [rf E (91 + 2 * s), .int (nI h), .int v] H (fun w zH => w = none ∧ (∀ y : Int32, y = nI h + 1 → (Rm E mX9_write Q 55 [some (rf E 0), some (.int x), none, some (rf E (91 + 2 * s)), some (.int (nI n)), some (.int y)] [] zH))) := by
      intro v ev
      refine ct_set hC hs (by omega) (fun H1 k1 c1 => ⟨rfl, fun y gy => ?_⟩)
      have c2 : CI (wI (wW b s (wrV b x ((dS b).2.1 s)) h) s h (nrw ((dS b).2.1 s) v)) H1 := c1
      rw [ev, wW_s] at c2
      rw [gy, ← nI_succ]
      exact ih (h + 1) H1 (by omega) c2 (by rw [k1 0 (by omega)]; exact h9) (fun c hc => by rw [k1 c (by omega), hk c hc])
    have hF := hC.2 h9
    refine sgX9_write_55 hs ⟨fun z => absurd z (by rw [nI_leI (by omega) (by omega)]; omega), fun _ => ⟨fun z => ?_, fun z => ⟨h, ⟨by omega, rfl⟩, ?_⟩⟩⟩
    · refine cmX2_content (hap_loop hF (show h < 24 by omega) ⟨_, rfl, ?_⟩ _ 0 (Nat.zero_add _))
      refine nx _ ?_
      unfold wrV
      rw [if_neg z]
      rfl
    · rw [(hF.2.2.1.2.2.2 h (by omega)).2.2.2.1]
      refine nx _ ?_
      unfold wrV
      rw [if_pos z]
      rfl
def sWrite (b : Bd) (x y : Int32) : Int32 × Bd :=
  if inN 2 x = true ∧ inN 4 y = true then
    (if (dS b).1 (un y) = true then (nI (Nat.min ((dS b).2.2.1 (un y)) 24), wW b (un y) (wrV b x ((dS b).2.1 (un y))) (Nat.min ((dS b).2.2.1 (un y)) 24)) else sFound b 1)
  else (-2, b)
theorem mmin_24 {n : Nat} (h : n < 2 ^ 31) : mmin (nI n) 24 = nI (Nat.min n 24) := by
  unfold mmin
  rw [show (24 : Int32) = nI 24 from rfl]
  have l : nI 24 < nI n ↔ 24 < n := nI_ltI (by omega) (by omega)
  by_cases q : 24 < n
  · rw [if_pos (l.mpr q)]
    congr 1
    exact (Nat.min_eq_right (by omega)).symm
  · rw [if_neg (fun z => q (l.mp z))]
    congr 1
    exact (Nat.min_eq_left (by omega)).symm
theorem cc_write {E : En} {b : Bd} {x y : Int32} : Cc E mX9_write [rf E 0, .int x, .int y] b (sWrite b x y) := by
  intro H Q hC hq
  have bad : sWrite b x y = (-2, b) → Q (some (.int (-2))) H := fun e => by
    rw [e] at hq; exact hq H (fun _ _ => rfl) hC
  refine cmX9_write (ct_isBit ⟨_, rfl, fun z => bad (if_neg (by rw [bI_0.mp z]; simp)), fun z1 => ct_isSheet ⟨_, rfl, fun z2 => ?_, fun z => bad (if_neg (by rw [bI_0.mp z]; simp))⟩⟩)
  have e : sWrite b x y = _ := if_pos ⟨bI_1 z1, bI_1 z2⟩
  rw [e] at hq
  obtain ⟨j, a1, b1, d1⟩ := inN_of (bI_1 z2) (by decide)
  rw [d1] at hq
  refine ⟨j, ⟨a1, b1⟩, ?_⟩
  rw [len_0 hC a1]
  refine ⟨fun z => ?_, fun z => ?_⟩
  · rw [if_pos z] at hq
    refine ct_refresh hC (fun H1 k1 B1 F1 h9 => ⟨rfl, ?_⟩)
    intro n gn
    obtain ⟨s1, s2, -⟩ := B1.2.2.2.2.1 j a1
    rw [if_pos z] at s1
    rw [s1, mmin_24 (by omega)] at gn
    rw [gn]
    exact write_loop (b := b) (H0 := H) a1 (Nat.min_le_right _ _) hq _ 0 H1 (Nat.zero_add _) (by rw [wW_0]; exact ci_fr B1 F1) h9 k1
  · rw [if_neg z] at hq
    exact ct_found (k := 1) hC (fun H' f' c' => ⟨_, rfl, hq H' f' c'⟩)
