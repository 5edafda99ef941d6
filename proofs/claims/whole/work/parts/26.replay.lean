/-! fill, begin, arrange, replay -/
theorem fill_loop {E : En} {Q : Option Value → Hi → Prop} {a N : Nat} {x : Int32} {H0 : Hi} (ha : shp a = (100, N) ∧ a < nN ∧ rfL.getD a [] = [] ∧ N < 2 ^ 31)
    (hq : ∀ H' : Hi, (∀ c, c ≠ a → H' c = H0 c) → (∀ k, k < N → H' a k = x) → Q none H') :
    ∀ (m i : Nat) (H : Hi), i + m = N → (∀ c, c ≠ a → H c = H0 c) → (∀ k, k < i → H a k = x) → Rm E mJ7_fill_53178 Q 5 [some (rf E a), some (.int x), some (.int (nI i)), some (.int (nI N))] [] H := by
  intro m
  induction m with
  | zero =>
    intro i H hi hc hk
    have e : i = N := by omega
    subst e
    exact sgJ7_fill_53178_5 ha ⟨fun _ => hq H hc hk, fun z => absurd (Int32.le_refl _) z⟩
  | succ m ih =>
    intro i H hi hc hk
    have h31 := ha.2.2.2
    refine sgJ7_fill_53178_5 ha ⟨fun z => ?_, fun _ => ?_⟩
    · rw [nI_leI (by omega) (by omega)] at z; omega
    refine ⟨i, ⟨by omega, rfl⟩, ?_⟩
    intro H1 g1 y ey
    rw [nI_1] at ey
    subst ey
    refine ih (i + 1) H1 (by omega) (fun c h => by rw [g1, up_n h, hc c h]) (fun k h => ?_)
    rw [g1, up_s]
    by_cases e : k = i
    · subst e; rw [upd_s]
    · rw [upd_n e]; exact hk k (by omega)
theorem ct_fill {E : En} {Q : Option Value → Hi → Prop} {H : Hi} {a N : Nat} {x : Int32} (ha : shp a = (100, N) ∧ a < nN ∧ rfL.getD a [] = [] ∧ N < 2 ^ 31)
    (hq : ∀ H' : Hi, (∀ c, c ≠ a → H' c = H c) → (∀ k, k < N → H' a k = x) → Q none H') : Cm E mJ7_fill_53178 [rf E a, .int x] H Q := by
  refine cmJ7_fill_53178 ha ?_
  intro y ey
  subst ey
  exact fill_loop ha hq N 0 H (by omega) (fun _ _ => rfl) (fun k h => by omega)
theorem fam_keep2 {P : Pm} {H H' : Hi} (hF : FamC P H) (h : ∀ c, 5 ≤ c → c ≤ 11 → H' c = H c) : FamC P H' := by
  unfold FamC
  rw [h 5 (by decide) (by decide), h 6 (by decide) (by decide), h 7 (by decide) (by decide), h 8 (by decide) (by decide), h 9 (by decide) (by decide), h 10 (by decide) (by decide), h 11 (by decide) (by decide)]
  exact hF
theorem told_keep2 {P : Pm} {hd : Hd} {a : Nat} {H H' : Hi} (hT : ToldC P hd a H) (h : ∀ c, 5 ≤ c → c ≤ 21 → H' c = H c) : ToldC P hd a H' := by
  unfold ToldC
  rw [h 13 (by decide) (by decide), h 20 (by decide) (by decide), h 19 (by decide) (by decide), h 21 (by decide) (by decide), h 11 (by decide) (by decide)]
  exact hT
theorem dg_or {w : Nat → Nat} {t v : Nat} (hw : ∀ i, i < t → w i < 16) (ht : t < 8) : nI (dg 16 w t) ||| (nI v <<< (nI (4 * t) &&& 31)) = nI (dg 16 w t + v * 16 ^ t) := by
  rw [i_shl _ (by omega), pk_mul, nI_or]
  congr 1
  have h1 : dg 16 w t < 2 ^ (4 * t) := by rw [Nat.pow_mul]; exact dg_lt (by decide) hw
  have := Nat.two_pow_add_eq_or_of_lt h1 v
  rw [Nat.or_comm, Nat.mul_comm v, ← this, Nat.pow_mul, show (2 : Nat) ^ 4 = 16 by decide, Nat.mul_comm v]
  omega
theorem begin_loop {E : En} {Q : Option Value → Hi → Prop} {H : Hi} {P : Pm} (hF : FamC P H)
    (hq : ∀ H' : Hi, H' = up H 23 0 (nI (dg 16 (st0 P).1 (pN P))) → Q none H') :
    ∀ (m t : Nat), t + m = pN P → Rm E mX2_begin Q 4 [some (rf E 22), some (.int (nI (dg 16 (st0 P).1 t))), some (.int (nI t)), none] [] H := by
  obtain ⟨ok, f0, f1, ft, -⟩ := id hF
  have hn := ok.1
  have hm := ok.2.1
  have hw : ∀ i, (st0 P).1 i < 16 := by intro i; simp only [st0]; split <;> omega
  intro m
  induction m with
  | zero =>
    intro t ht
    have e : t = pN P := by omega
    subst e
    refine sgX2_begin_4 ⟨fun _ => hq, fun z => ?_⟩
    rw [f0] at z; exact absurd (Int32.le_refl _) z
  | succ m ih =>
    intro t ht
    have ht' : t < pN P := by omega
    have ho := (ok.2.2.1 t ht').2.2.1
    refine sgX2_begin_4 ⟨fun z => ?_, fun _ => ?_⟩
    · rw [f0, nI_leI (by omega) (by omega)] at z; omega
    refine ⟨t, ⟨by omega, rfl⟩, ?_⟩
    intro x3 e3
    rw [(ft t ht').2.1] at e3
    subst e3
    rw [f1, show (4 : Int32) = nI 4 from rfl, pk_mul]
    refine ⟨fun z => ?_, fun z => ?_⟩
    · rw [nI_leI (by omega) (by omega)] at z
      intro x1 e1 x2 e2
      rw [show (9 : Int32) = nI 9 from rfl, dg_or (fun i _ => hw i) (by omega)] at e1
      rw [nI_1] at e2
      subst e1; subst e2
      have e : dg 16 (st0 P).1 t + 9 * 16 ^ t = dg 16 (st0 P).1 (t + 1) := by
        show _ = dg 16 (st0 P).1 t + (st0 P).1 t * 16 ^ t
        simp only [st0]; rw [if_neg (by omega)]
      rw [e]
      exact ih (t + 1) (by omega)
    · rw [nI_leI (by omega) (by omega)] at z
      intro x1 e1 x2 e2
      rw [dg_or (fun i _ => hw i) (by omega)] at e1
      rw [nI_1] at e2
      subst e1; subst e2
      have e : dg 16 (st0 P).1 t + pOw P t * 16 ^ t = dg 16 (st0 P).1 (t + 1) := by
        show _ = dg 16 (st0 P).1 t + (st0 P).1 t * 16 ^ t
        simp only [st0]; rw [if_pos (by omega)]
      rw [e]
      exact ih (t + 1) (by omega)
theorem sm_0 (n : Nat) : sm (fun _ => 0) n = 0 := by
  induction n with
  | zero => rfl
  | succ n ih => simp only [sm, ih]
theorem ct_begin {E : En} {Q : Option Value → Hi → Prop} {H : Hi} {P : Pm} (hF : FamC P H) (h0 : ∀ k, 1 ≤ k → k ≤ 5 → H 23 k = 0)
    (hq : ∀ H' : Hi, (∀ c, c ≠ 23 → H' c = H c) → (∀ k, 1 ≤ k → k ≤ 5 → H' 23 k = 0) → Rs P (st0 P) (H' 23) → Q none H') : Cm E mX2_begin [rf E 22] H Q := by
  refine cmX2_begin ?_
  refine begin_loop hF ?_ (pN P) 0 (by omega)
  intro H' g
  have hm := hF.1.2.1
  have e0 : ∀ k, 1 ≤ k → k ≤ 5 → H' 23 k = 0 := fun k h1 h2 => by rw [g, up_s, upd_n (by omega)]; exact h0 k h1 h2
  have h8 : ∀ t, ¬ (st0 P).1 t = 8 := by intro t; simp only [st0]; split <;> omega
  refine hq H' (fun c hc => by rw [g, up_n hc]) e0 ⟨?_, ?_, ?_, ?_, ?_, ?_⟩
  · rw [g, up_s, upd_s]
  · rw [e0 1 (by decide) (by decide), bs_eq0.mpr (fun t _ => by simp [inP, h8 t])]; rfl
  · rw [e0 2 (by decide) (by decide)]
    have : ld P (st0 P) = 0 := by
      unfold ld
      rw [sm_congr (g := fun _ => 0) (fun t _ => by rw [if_neg (h8 t)]), sm_0]
    rw [this]; rfl
  · rw [e0 3 (by decide) (by decide)]; show (0 : Int32) = nI (bs (fun _ => false) _); rw [bs_zero]; rfl
  · rw [e0 4 (by decide) (by decide)]; show (0 : Int32) = nI (bs (fun _ => false) _); rw [bs_zero]; rfl
  · rw [e0 5 (by decide) (by decide)]; show (0 : Int32) = nI (bs (fun _ => false) _); rw [bs_zero]; rfl
/-- which hands work, in the hours ahead of h -/
def wkA (P : Pm) (hd : Hd) (a : Nat) : Nat → Nat
  | 0 => 0
  | h + 1 => wkA P hd a h ||| wkH P hd h (stN P hd a h)
/-- the hours as the class keeps them, ahead of h -/
def HoC (P : Pm) (hd : Hd) (a h : Nat) (H : Hi) : Prop := Rs P (st0 P) (H 23) ∧ (∀ k, 1 ≤ k → k ≤ 5 → H 23 k = 0) ∧ H 22 5 = nI (wkA P hd a h) ∧ ∀ j, j < h → Rs P (mid P hd j (stN P hd a j)) (H (27 + 2 * j)) ∧ Rs P (stN P hd a (j + 1)) (H (28 + 2 * j))
set_option maxHeartbeats 4000000 in
theorem replay_loop {E : En} {Q : Option Value → Hi → Prop} {P : Pm} {hd : Hd} {a : Nat} {H0 : Hi}
    (hq : ∀ H' : Hi, (∀ c, c < 22 ∨ 75 ≤ c → H' c = H0 c) → HoC P hd a 24 H' → Q none H') :
    ∀ (m h : Nat) (H : Hi), h + m = 24 → FamC P H → ToldC P hd a H → (∀ c, c < 22 ∨ 75 ≤ c → H c = H0 c) → HoC P hd a h H → Rs P (stN P hd a h) (H 26) →
      Rm E mX2_replay Q 22 [some (rf E 22), some (.int (nI h))] [] H := by
  intro m
  induction m with
  | zero =>
    intro h H hh hF hT hc hO hr
    have e : h = 24 := by omega
    subst e
    exact sgX2_replay_22 ⟨fun _ => hq H hc hO, fun z => absurd (by decide) z⟩
  | succ m ih =>
    intro h H hh hF hT hc hO hr
    have hh' : h < 24 := by omega
    have hw := stN_wf (hd := hd) (a := a) hF.1.2.1 h
    refine sgX2_replay_22 ⟨fun z => ?_, fun _ => ?_⟩
    · rw [show (24 : Int32) = nI 24 from rfl, nI_leI (by omega) (by omega)] at z; omega
    refine ct_open hF hT st_26 hr hw hh' ?_
    intro H1 c1 R1
    refine ⟨_, rfl, ?_⟩
    intro H2 g2
    refine ⟨h, ⟨hh', rfl⟩, ?_⟩
    have c2 : ∀ c, c ≠ 22 → H2 c = H1 c := fun c hc => by rw [g2, up_n hc]
    have R2 : Rs P (mid P hd h (stN P hd a h)) (H2 26) := by rw [c2 26 (by decide)]; exact R1
    refine ct_become (st_mid h hh').1 st_26 R2 ?_
    intro H3 c3 R3
    refine ⟨rfl, ?_⟩
    have k3 : ∀ c, c < 22 → H3 c = H c := fun c hc => by rw [c3 c (by omega), c2 c (by omega), c1 c (by omega)]
    have F3 := fam_keep2 hF (fun c _ h2 => k3 c (by omega))
    have T3 := told_keep2 hT (fun c _ h2 => k3 c (by omega))
    have R26 : Rs P (mid P hd h (stN P hd a h)) (H3 26) := by rw [c3 26 (by omega)]; exact R2
    rw [T3.2.2.2.2.2.2.1]
    refine ct_close F3 T3 st_26 R26 (mid_wf hw) hh' T3.2.2.2.2.2.2.2 ?_
    intro H4 c4 R4
    refine ⟨rfl, h, ⟨hh', rfl⟩, ?_⟩
    refine ct_become (st_beh h hh').1 st_26 R4 ?_
    intro H5 c5 R5
    refine ⟨rfl, ?_⟩
    intro x ex
    rw [nI_1] at ex
    subst ex
    have k5 : ∀ c, c ≠ 26 → c ≠ 22 → c ≠ 27 + 2 * h → c ≠ 28 + 2 * h → H5 c = H c := fun c h1 h2 h3 h4 => by rw [c5 c h4, c4 c h1, c3 c h3, c2 c h2, c1 c h1]
    refine ih (h + 1) H5 (by omega) (fam_keep2 hF (fun c _ h2 => k5 c (by omega) (by omega) (by omega) (by omega))) (told_keep2 hT (fun c _ h2 => k5 c (by omega) (by omega) (by omega) (by omega))) (fun c hc' => by rw [k5 c (by omega) (by omega) (by omega) (by omega), hc c hc']) ?_ ?_
    · obtain ⟨o1, o2, o3, o4⟩ := hO
      have e23 : H5 23 = H 23 := k5 23 (by decide) (by decide) (by omega) (by omega)
      refine ⟨by rw [e23]; exact o1, fun k h1 h2 => by rw [e23]; exact o2 k h1 h2, ?_, ?_⟩
      · have : H5 22 = H2 22 := by rw [c5 22 (by omega), c4 22 (by decide), c3 22 (by omega)]
        rw [this, g2, up_s, upd_s, o3, nI_or]
        rfl
      · intro j hj
        by_cases e : j = h
        · subst e
          refine ⟨?_, R5⟩
          rw [c5 (27 + 2 * j) (by omega), c4 (27 + 2 * j) (by omega)]
          exact R3
        · rw [k5 (27 + 2 * j) (by omega) (by omega) (by omega) (by omega), k5 (28 + 2 * j) (by omega) (by omega) (by omega) (by omega)]
          exact o4 j (by omega)
    · rw [c5 26 (by omega)]; exact R4
theorem ct_replay {E : En} {Q : Option Value → Hi → Prop} {H : Hi} {P : Pm} {hd : Hd} {a : Nat} (hF : FamC P H) (hT : ToldC P hd a H) (h0 : ∀ k, 1 ≤ k → k ≤ 5 → H 23 k = 0)
    (hq : ∀ H' : Hi, (∀ c, c < 22 ∨ 75 ≤ c → H' c = H c) → HoC P hd a 24 H' → Q none H') : Cm E mX2_replay [rf E 22] H Q := by
  refine cmX2_replay ?_
  refine ct_begin hF h0 ?_
  intro H1 c1 z1 R1
  refine ⟨rfl, ?_⟩
  refine ct_become st_26 st_23 R1 ?_
  intro H2 c2 R2
  refine ⟨rfl, ?_⟩
  intro H3 g3
  have c3 : ∀ c, c ≠ 22 → H3 c = H2 c := fun c hc => by rw [g3, up_n hc]
  have k3 : ∀ c, c ≠ 22 → c ≠ 23 → c ≠ 26 → H3 c = H c := fun c h1 h2 h3 => by rw [c3 c h1, c2 c h3, c1 c h2]
  have e23 : H3 23 = H1 23 := by rw [c3 23 (by decide), c2 23 (by decide)]
  refine replay_loop hq 24 0 H3 (by omega) (fam_keep2 hF (fun c _ h2 => k3 c (by omega) (by omega) (by omega))) (told_keep2 hT (fun c _ h2 => k3 c (by omega) (by omega) (by omega))) (fun c hc => k3 c (by omega) (by omega) (by omega)) ?_ ?_
  · refine ⟨by rw [e23]; exact R1, fun k h1 h2 => by rw [e23]; exact z1 k h1 h2, ?_, fun j hj => by omega⟩
    rw [g3, up_s, upd_s]; rfl
  · rw [c3 26 (by decide)]; exact R2
