/-! close, tell, putBack, open, goOn -/
def wid1 (P : Pm) (h : Nat) (w k : Nat) : Nat := if (pO P).2.1 k = h then (if w < (pO P).2.2 k then (pO P).2.2 k else w) else w
def wid (P : Pm) (h : Nat) : Nat := itN (wid1 P h) (pO P).1 0
def cnt (hd : Hd) (h : Nat) : Nat := sm (fun k => if hd.2.1 k < h then 1 else 0) hd.1
def cq (hd : Hd) (h k : Nat) : Nat := sm (fun j => if hd.2.1 j = h then 1 else 0) k
def ps (hd : Hd) (h k : Nat) : Nat := cnt hd h + cq hd h k
theorem cnt_s (hd : Hd) (h : Nat) : ps hd h hd.1 = cnt hd (h + 1) := by
  unfold ps cnt cq
  have : ∀ n, sm (fun k => if hd.2.1 k < h then 1 else 0) n + sm (fun j => if hd.2.1 j = h then 1 else 0) n = sm (fun k => if hd.2.1 k < h + 1 then 1 else 0) n := by
    intro n
    induction n with
    | zero => rfl
    | succ n ih =>
      simp only [sm]
      rw [← ih]
      by_cases h1 : hd.2.1 n < h
      · rw [if_pos h1, if_neg (by omega), if_pos (by omega)]; omega
      · by_cases h2 : hd.2.1 n = h
        · rw [if_neg h1, if_pos h2, if_pos (by omega)]; omega
        · rw [if_neg h1, if_neg h2, if_neg (by omega)]; omega
  exact this _
theorem cq_mono (hd : Hd) (h : Nat) {a b : Nat} (hab : a ≤ b) : cq hd h a ≤ cq hd h b := by
  induction hab with
  | refl => exact Nat.le_refl _
  | step _ ih => unfold cq at *; simp only [sm]; omega
theorem cnt_le (hd : Hd) (h : Nat) : cnt hd h ≤ hd.1 := by
  unfold cnt
  have : ∀ n, sm (fun k => if hd.2.1 k < h then 1 else 0) n ≤ n := by
    intro n; induction n with
    | zero => exact Nat.le_refl _
    | succ n ih => simp only [sm]; split <;> omega
  exact this _
/-- hands, holes, the aunt, as the class has arranged them -/
def ToldC (P : Pm) (hd : Hd) (a : Nat) (H : Hi) : Prop := hd.1 ≤ 20 ∧ (∀ k, k < hd.1 → H 13 k = nI (hd.2.2 k) ∧ hd.2.2 k < 128 ∧ hd.2.1 k < 24) ∧ (∀ h, h ≤ 24 → H 20 h = nI (cnt hd h)) ∧ (∀ k, k < hd.1 → H 19 (ps hd (hd.2.1 k) k) = nI k) ∧
  (∀ h, h < 24 → H 21 h = nI (wid P h)) ∧ (∀ k, k < (pO P).1 → (pO P).2.2 k ≤ 9) ∧ H 11 1 = nI a ∧ a < 2 ^ 24
theorem told_keep {P : Pm} {hd : Hd} {a : Nat} {H H' : Hi} {q : Nat} (hs : isSt q) (hT : ToldC P hd a H) (h : ∀ c, c ≠ q → H' c = H c) : ToldC P hd a H' := by
  unfold ToldC
  rw [h 13 (st_ne hs (by decide)), h 20 (st_ne hs (by decide)), h 19 (st_ne hs (by decide)), h 21 (st_ne hs (by decide)), h 11 (st_ne hs (by decide))]
  exact hT
theorem wid_le {P : Pm} {h : Nat} (hz : ∀ k, k < (pO P).1 → (pO P).2.2 k ≤ 9) : wid P h ≤ 9 := by
  have : ∀ n, n ≤ (pO P).1 → itN (wid1 P h) n 0 ≤ 9 := by
    intro n
    induction n with
    | zero => intro _; exact Nat.zero_le _
    | succ n ih =>
      intro hn
      have h1 := ih (by omega)
      have h2 := hz n (by omega)
      simp only [itN, wid1]
      split
      · split <;> omega
      · exact h1
  exact this _ (Nat.le_refl _)
theorem fall_wid {P : Pm} {h t : Nat} (h1 : 1 ≤ pSz P t) : fall P h t = decide (pSz P t ≤ wid P h) := by
  have key : ∀ n, ((List.range n).any (fun k => decide ((pO P).2.1 k = h) && decide (pSz P t ≤ (pO P).2.2 k)) = true) ↔ pSz P t ≤ itN (wid1 P h) n 0 := by
    intro n
    induction n with
    | zero => simp [itN]; omega
    | succ n ih =>
      rw [List.range_succ, List.any_append, Bool.or_eq_true, ih]
      simp only [itN, wid1, List.any_cons, List.any_nil, Bool.or_false, Bool.and_eq_true, decide_eq_true_eq]
      by_cases e : (pO P).2.1 n = h
      · rw [if_pos e]
        split
        case isTrue hlt => constructor <;> (intro z; omega)
        case isFalse hlt => constructor <;> (intro z; omega)
      · rw [if_neg e]
        constructor
        · rintro (z | z)
          · exact z
          · exact absurd z.1 e
        · exact Or.inl
  rw [Bool.eq_iff_iff, decide_eq_true_iff]
  exact key _
set_option maxHeartbeats 4000000 in
theorem ct_close {E : En} {Q : Option Value → Hi → Prop} {H : Hi} {P : Pm} {hd : Hd} {a a2 h : Nat} {q : Nat} {s : Sg} (hF : FamC P H) (hT : ToldC P hd a H) (hs : isSt q) (hr : Rs P s (H q)) (hw : Wf P s) (hh : h < 24) (ha : a2 < 2 ^ 24)
    (hq : ∀ H' : Hi, (∀ c, c ≠ q → H' c = H c) → Rs P (clo P a2 h s) (H' q) → Q none H') : Cm E mX2_close [rf E 22, rf E q, .int (nI h), .int (nI a2)] H Q := by
  obtain ⟨ok, f0, f1, ft, f6, f7, f8, f10, -⟩ := id hF
  obtain ⟨-, -, -, -, tw, tz, -, -⟩ := id hT
  have hn := ok.1
  have hwd := wid_le (h := h) tz
  refine cmX2_close hs ⟨h, ⟨hh, rfl⟩, wid P h, ⟨by omega, tw h hh⟩, ?_⟩
  have e1 : H q 1 &&& H 10 (wid P h) = nI (bs (fun t => inP s t && decide (pSz P t ≤ wid P h)) (pN P)) := by
    rw [hr.2.1, f10 _ (by omega), nI_and, bs_and]
  rw [e1]
  refine ct_spill hF hs hr hw (fun t ht hL => ?_) ?_
  · simp [inP] at hL; exact hL.1
  intro H1 c1 R1
  refine ⟨rfl, ?_⟩
  intro x4 e4
  generalize hs1 : spl (fun t => inP s t && decide (pSz P t ≤ wid P h)) (pN P) s = s1 at R1
  have w1 : Wf P s1 := by rw [← hs1]; exact spl_wf hw
  have F1 := fam_keep hs hF c1
  have e5 : (x4 &&& H1 q 4 &&& H1 q 5) &&& H1 5 7 = nI (bs (fun t => ((inP s1 t && s1.2.2.1 t) && s1.2.2.2 t) && decide (pKd P t = 1)) (pN P)) := by
    rw [e4, R1.2.1, R1.2.2.2.2.1, R1.2.2.2.2.2, F1.2.2.2.2.2.1, nI_and, bs_and, nI_and, bs_and, nI_and, bs_and]
  rw [e5]
  refine ct_spill F1 hs R1 w1 (fun t ht hL => ?_) ?_
  · simp [inP] at hL; exact hL.1.1.1
  intro H2 c2 R2
  refine ⟨rfl, ?_⟩
  generalize hs2 : spl (fun t => ((inP s1 t && s1.2.2.1 t) && s1.2.2.2 t) && decide (pKd P t = 1)) (pN P) s1 = s2 at R2
  have w2 : Wf P s2 := by rw [← hs2]; exact spl_wf w1
  intro H3 g3 H4 g4
  have c4 : ∀ c, c ≠ q → H4 c = H c := fun c hc => by rw [g4, up_n hc, g3, up_n hc, c2 c hc, c1 c hc]
  have hx4 : x4 = nI (bs (inP s1) (pN P)) := by rw [e4]; exact R1.2.1
  have e21 : s2.2 = s.2 := by rw [← hs2, ← hs1]; rfl
  have R4 : Rs P (s2.1, s.2.1, inP s1, s.2.2.1) (H4 q) := by
    obtain ⟨r0, r1, r2, r3, r4, r5⟩ := R2
    rw [e21] at r3 r4 r5
    have E4 : H4 q = upd (upd (H2 q) 5 (H2 q 4)) 4 x4 := by rw [g4, up_s, g3, up_s]
    rw [E4]
    refine ⟨?_, ?_, ?_, ?_, ?_, ?_⟩
    · rw [upd_n (by decide), upd_n (by decide)]; exact r0
    · rw [upd_n (by decide), upd_n (by decide)]; exact r1
    · rw [upd_n (by decide), upd_n (by decide)]; exact r2
    · rw [upd_n (by decide), upd_n (by decide)]; exact r3
    · rw [upd_s, hx4]
    · rw [upd_n (by decide), upd_s]; exact r4
  have hcw1 : ∀ t, t < pN P → s1.1 t = cw1 P h s t := by
    intro t ht
    have := fall_wid (h := h) (ok.2.2.1 t ht).1
    rw [← hs1]
    simp only [spl, cw1, this, inP]
    by_cases z : s.1 t = 8 <;> simp [z, ht]
  have hcw2 : ∀ t, t < pN P → s2.1 t = cw2 P h s t := by
    intro t ht
    have e3 : s1.2 = s.2 := by rw [← hs1]; rfl
    rw [← hs2]
    simp only [spl, cw2, inP, e3, hcw1 t ht]
    by_cases z1 : cw1 P h s t = 8 <;> by_cases z2 : s.2.2.1 t = true <;> by_cases z3 : s.2.2.2 t = true <;> by_cases z4 : pKd P t = 1 <;> simp [z1, z2, z3, z4, ht]
  have w4 : Wf P (s2.1, s.2.1, inP s1, s.2.2.1) := w2
  have hb : (nI a2 >>> (nI h &&& 31)) &&& 1 = nI (a2 / 2 ^ h % 2) := by
    rw [i_shr (by omega) (by omega), i_and1 (Nat.lt_of_le_of_lt (Nat.div_le_self _ _) (by omega))]
  rw [hb]
  have htb := Nat.testBit_eq_decide_div_mod_eq (x := a2) (i := h)
  refine ⟨fun z => ?_, fun z => ?_⟩
  · have z0 : a2 / 2 ^ h % 2 = 0 := nI_inj (by omega) (by decide) z
    rw [z0] at htb
    refine hq H4 c4 (rs_congr (s := (s2.1, s.2.1, inP s1, s.2.2.1)) (s' := clo P a2 h s) (fun t ht => ⟨?_, rfl, ?_, rfl⟩) R4)
    · simp [clo, htb, hcw2 t ht]
    · simp [clo, inP, hcw1 t ht]
  · have z1 : a2 / 2 ^ h % 2 = 1 := by
      have : ¬ a2 / 2 ^ h % 2 = 0 := fun q => z (by rw [q]; rfl)
      omega
    rw [z1] at htb
    refine ct_sendHome (fam_keep hs hF c4) hs R4 w4 ?_
    intro H5 c5 R5
    refine ⟨rfl, ?_⟩
    refine hq H5 (fun c hc => by rw [c5 c hc, c4 c hc]) (rs_congr (s := (shm P (pN P) (s2.1, s.2.1, inP s1, s.2.2.1), (s.2.1, inP s1, s.2.2.1))) (s' := clo P a2 h s) (fun t ht => ⟨?_, rfl, ?_, rfl⟩) R5)
    · simp [clo, shm, htb, hcw2 t ht, ht]
    · simp [clo, inP, hcw1 t ht]
def itF {α : Type} (f : α → Nat → α) (k0 : Nat) : Nat → α → α
  | 0, a => a
  | m + 1, a => itF f (k0 + 1) m (f a k0)
theorem itN_F {α : Type} (f : α → Nat → α) : ∀ (m k0 : Nat) (a : α), itF f k0 m (itN f k0 a) = itN f (k0 + m) a
  | 0, _, _ => rfl
  | m + 1, k0, a => by
    have := itN_F f m (k0 + 1) a
    simp only [itF]
    rw [show k0 + (m + 1) = k0 + 1 + m by omega, ← this]
    rfl
theorem itF_0 {α : Type} (f : α → Nat → α) (m : Nat) (a : α) : itF f 0 m a = itN f m a := by
  have := itN_F f m 0 a
  rw [Nat.zero_add] at this
  exact this
/-- which hands of an hour work, from hand k on, as bits -/
def wkF (P : Pm) (hd : Hd) (h : Nat) (k : Nat) : Nat → Sg → Nat → Nat
  | 0, _, r => r
  | m + 1, s, r => wkF P hd h (k + 1) m (te1 P hd h s k) (if hd.2.1 k = h ∧ (rch P s (hd.2.2 k)).isSome = true then r ||| 2 ^ k else r)
theorem ps_s (hd : Hd) (h k : Nat) : ps hd h (k + 1) = ps hd h k + (if hd.2.1 k = h then 1 else 0) := by
  unfold ps cq; simp only [sm]; omega
set_option maxHeartbeats 4000000 in
theorem tell_loop {E : En} {Q : Option Value → Hi → Prop} {P : Pm} {hd : Hd} {a h q : Nat} {H0 : Hi} (hs : isSt q) (hh : h < 24) :
    ∀ (m k : Nat) (H : Hi) (s : Sg) (r : Nat), k + m = hd.1 → FamC P H → ToldC P hd a H → (∀ c, c ≠ q → H c = H0 c) → Rs P s (H q) → Wf P s →
      (∀ H' : Hi, (∀ c, c ≠ q → H' c = H0 c) → Rs P (itF (te1 P hd h) k m s) (H' q) → Q (some (.int (nI (wkF P hd h k m s r)))) H') →
      Rm E mX2_tell Q 6 [some (rf E 22), some (rf E q), none, some (.int (nI (cnt hd (h + 1)))), some (.int (nI r)), some (.int (nI (ps hd h k))), none] [] H := by
  intro m
  induction m with
  | zero =>
    intro k H s r hk hF hT hc hr hw hq
    have hk' : k = hd.1 := by omega
    subst hk'
    have := cnt_le hd (h + 1)
    have h20 := hT.1
    rw [cnt_s]
    refine sgX2_tell_6 hs ⟨fun _ => hq H hc hr, fun z => ?_⟩
    exact absurd (Int32.le_refl _) z
  | succ m ih =>
    intro k H s r hk hF hT hc hr hw hq
    have hk' : k < hd.1 := by omega
    obtain ⟨h20, tk, tf, to, -⟩ := id hT
    by_cases e : hd.2.1 k = h
    · have hp := ps_s hd h k
      rw [if_pos e] at hp
      have hmono := cq_mono hd h (show k + 1 ≤ hd.1 by omega)
      have hlast := cnt_s hd h
      have hlt : ps hd h k < cnt hd (h + 1) := by unfold ps at hp hlast ⊢; omega
      have hcl := cnt_le hd (h + 1)
      have hord := to k hk'
      rw [e] at hord
      obtain ⟨k1, k2, k3⟩ := tk k hk'
      refine sgX2_tell_6 hs ⟨fun z => ?_, fun _ => ?_⟩
      · rw [nI_leI (by omega) (by omega)] at z; omega
      refine ⟨ps hd h k, ⟨by omega, rfl⟩, ?_⟩
      intro x6 e6
      rw [hord] at e6
      subst e6
      refine ⟨k, ⟨by omega, rfl⟩, ?_⟩
      rw [k1]
      refine ct_reach hF hs hr hw k2 ?_
      intro H1 c1 R1
      refine ⟨_, rfl, ?_⟩
      have F1 := fam_keep hs hF c1
      have T1 := told_keep hs hT c1
      have ete : te1 P hd h s k = act P s (hd.2.2 k) := by unfold te1; rw [if_pos e]
      refine ⟨fun z => ?_, fun z => ?_⟩
      · intro x5 e5
        rw [nI_1, ← hp] at e5
        subst e5
        refine ih (k + 1) H1 (act P s (hd.2.2 k)) r (by omega) F1 T1 (fun c h' => by rw [c1 c h', hc c h']) R1 (act_wf hw) ?_
        have hns : ¬ (rch P s (hd.2.2 k)).isSome = true := by
          intro z2; rw [if_pos z2] at z; exact absurd z (by decide)
        intro H' c' R'
        have := hq H' c'
        simp only [itF, wkF, ete] at this
        rw [if_neg (fun z3 => hns z3.2)] at this
        exact this R'
      · intro x4 e4
        rw [i_one k (by omega), nI_or] at e4
        subst e4
        intro x5 e5
        rw [nI_1, ← hp] at e5
        subst e5
        refine ih (k + 1) H1 (act P s (hd.2.2 k)) (r ||| 2 ^ k) (by omega) F1 T1 (fun c h' => by rw [c1 c h', hc c h']) R1 (act_wf hw) ?_
        have hns : (rch P s (hd.2.2 k)).isSome = true := by
          cases z2 : (rch P s (hd.2.2 k)).isSome with
          | true => rfl
          | false => rw [z2] at z; exact absurd rfl z
        intro H' c' R'
        have := hq H' c'
        simp only [itF, wkF, ete] at this
        rw [if_pos ⟨e, hns⟩] at this
        exact this R'
    · have hp : ps hd h (k + 1) = ps hd h k := by
        have h0 := ps_s hd h k
        rw [if_neg e] at h0
        omega
      rw [← hp]
      have ete : te1 P hd h s k = s := by unfold te1; rw [if_neg e]
      refine ih (k + 1) H s r (by omega) hF hT hc hr hw ?_
      intro H' c' R'
      have := hq H' c'
      simp only [itF, wkF, ete] at this
      rw [if_neg (fun z3 => e z3.1)] at this
      exact this R'
theorem ct_tell {E : En} {Q : Option Value → Hi → Prop} {H : Hi} {P : Pm} {hd : Hd} {a h k q : Nat} {s : Sg} (hF : FamC P H) (hT : ToldC P hd a H) (hs : isSt q) (hr : Rs P s (H q)) (hw : Wf P s) (hh : h < 24) (hk : k ≤ hd.1)
    (hq : ∀ H' : Hi, (∀ c, c ≠ q → H' c = H c) → Rs P (itF (te1 P hd h) k (hd.1 - k) s) (H' q) → Q (some (.int (nI (wkF P hd h k (hd.1 - k) s 0)))) H') :
    Cm E mX2_tell [rf E 22, rf E q, .int (nI (ps hd h k)), .int (nI (cnt hd (h + 1)))] H Q := by
  refine cmX2_tell hs ?_
  exact tell_loop hs hh (hd.1 - k) k H s 0 (by omega) hF hT (fun _ _ => rfl) hr hw hq
