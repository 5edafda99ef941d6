/-! lend: where all things have room together, each goes its own way -/
def ag (t : Nat) (s s' : Sg) : Prop := s.1 t = s'.1 t ∧ s.2.1 t = s'.2.1 t ∧ s.2.2.1 t = s'.2.2.1 t ∧ s.2.2.2 t = s'.2.2.2 t
theorem ag_tr {t : Nat} {s s1 s2 : Sg} (h : ag t s s1) (g : ag t s1 s2) : ag t s s2 := ⟨h.1.trans g.1, h.2.1.trans g.2.1, h.2.2.1.trans g.2.2.1, h.2.2.2.trans g.2.2.2⟩
theorem ag_sy {t : Nat} {s s1 : Sg} (h : ag t s s1) : ag t s1 s := ⟨h.1.symm, h.2.1.symm, h.2.2.1.symm, h.2.2.2.symm⟩
theorem ld_room {P : Pm} {s : Sg} {t : Nat} (hb : sm (pSz P) (pN P) ≤ pRm P) (ht : t < pN P) (h : s.1 t ≠ 8) : ld P s + pSz P t ≤ pRm P := by
  have e := ld_put (s := s) (q := s.2) ht h
  have h2 : ld P (va_up s.1 t 8, s.2) ≤ sm (pSz P) (pN P) := sm_le (fun i _ => by split <;> omega)
  omega
theorem ag_keep {P : Pm} {s : Sg} {t k : Nat} (e : k % 8 ≠ t) : ag t (act P s k) s := by
  unfold act rch
  have e' : ¬ t = k % 8 := fun q => e q.symm
  split
  · split
    · split
      · simp [ag, va_up, e']
      · exact ⟨rfl, rfl, rfl, rfl⟩
    · split
      · simp [ag, va_up, e']
      · exact ⟨rfl, rfl, rfl, rfl⟩
  · exact ⟨rfl, rfl, rfl, rfl⟩
theorem ag_act {P : Pm} {s s' : Sg} {t k : Nat} (hb : sm (pSz P) (pN P) ≤ pRm P) (h : ag t s s') : ag t (act P s k) (act P s' k) := by
  by_cases e : k % 8 = t
  · subst e
    unfold act rch
    by_cases hm : k % 8 < pN P ∧ k / 8 % 8 < pM P
    · rw [if_pos hm, if_pos hm]
      by_cases h64 : 64 ≤ k
      · rw [if_pos h64, if_pos h64]
        by_cases h8 : s.1 (k % 8) = 8
        · have h8' : s'.1 (k % 8) = 8 := by rw [← h.1]; exact h8
          rw [if_pos h8, if_pos h8']
          refine ⟨?_, ?_, h.2.2.1, h.2.2.2⟩ <;> simp [va_up]
        · have h8' : ¬ s'.1 (k % 8) = 8 := by rw [← h.1]; exact h8
          rw [if_neg h8, if_neg h8']
          exact h
      · rw [if_neg h64, if_neg h64]
        by_cases h8 : s.1 (k % 8) = k / 8 % 8
        · have h8' : s'.1 (k % 8) = k / 8 % 8 := by rw [← h.1]; exact h8
          rw [if_pos ⟨h8, ld_room hb hm.1 (by rw [h8]; omega)⟩, if_pos ⟨h8', ld_room hb hm.1 (by rw [h8']; omega)⟩]
          refine ⟨?_, ?_, h.2.2.1, h.2.2.2⟩ <;> simp [va_up]
        · have h8' : ¬ s'.1 (k % 8) = k / 8 % 8 := by rw [← h.1]; exact h8
          rw [if_neg (fun q => h8 q.1), if_neg (fun q => h8' q.1)]
          exact h
    · rw [if_neg hm, if_neg hm]; exact h
  · exact ag_tr (ag_keep e) (ag_tr h (ag_sy (ag_keep e)))
theorem itN_rel {α : Type} {f g : α → Nat → α} {R : α → α → Prop} : ∀ (n : Nat), (∀ a a' i, i < n → R a a' → R (f a i) (g a' i)) → ∀ a a', R a a' → R (itN f n a) (itN g n a')
  | 0, _, _, _, h => h
  | n + 1, hf, a, a', h => hf _ _ n (Nat.lt_succ_self n) (itN_rel n (fun a a' i hi q => hf a a' i (by omega) q) a a' h)
theorem ag_pb1 {P : Pm} {tk tk' : Nat → Bool} {c t u : Nat} {s s' : Sg} (hb : sm (pSz P) (pN P) ≤ pRm P) (hu : u < 8) (h1 : tk t = tk' t) (h : ag t s s') : ag t (pb1 P tk c s u) (pb1 P tk' c s' u) := by
  unfold pb1
  by_cases e : u = t
  · subst e
    rw [h1]
    split
    · exact ag_act hb h
    · exact h
  · have q : ∀ z : Sg, ag t (act P z (8 * c + u)) z := fun z => ag_keep (by omega)
    split
    · split
      · exact ag_tr (q s) (ag_tr h (ag_sy (q s')))
      · exact ag_tr (q s) h
    · split
      · exact ag_tr h (ag_sy (q s'))
      · exact h
theorem ag_putB {P : Pm} {t : Nat} {s s' : Sg} (hb : sm (pSz P) (pN P) ≤ pRm P) (hn : pN P ≤ 8) (h : ag t s s') : ag t (putB P s) (putB P s') := by
  unfold putB
  refine itN_rel (R := ag t) _ (fun a a' c _ q => ?_) _ _ ⟨h.1, rfl, h.2.2⟩
  unfold pb2
  exact itN_rel (f := pb1 P s.2.1 c) (g := pb1 P s'.2.1 c) (R := ag t) (pN P) (fun x x' u hu y => ag_pb1 (u := u) hb (Nat.lt_of_lt_of_le hu hn) h.2.1 y) _ _ q
theorem ag_tel {P : Pm} {hd : Hd} {g t : Nat} {s s' : Sg} (hb : sm (pSz P) (pN P) ≤ pRm P) (h : ag t s s') : ag t (tel P hd g s) (tel P hd g s') := by
  unfold tel
  refine itN_rel (R := ag t) _ (fun a a' k _ q => ?_) _ _ h
  unfold te1
  split
  · exact ag_act hb q
  · exact q
theorem ag_clo {P : Pm} {a g t : Nat} {s s' : Sg} (h : ag t s s') : ag t (clo P a g s) (clo P a g s') := by
  obtain ⟨h1, h2, h3, h4⟩ := h
  have c1 : cw1 P g s t = cw1 P g s' t := by unfold cw1; rw [h1]
  have c2 : cw2 P g s t = cw2 P g s' t := by unfold cw2; rw [c1, h3, h4]
  refine ⟨?_, h2, ?_, h3⟩
  · show (if _ then _ else _) = (if _ then _ else _)
    rw [c2]
  · show decide (cw1 P g s t = 8) = decide (cw1 P g s' t = 8)
    rw [c1]
theorem ag_goN {P : Pm} {hd : Hd} {a t : Nat} (hb : sm (pSz P) (pN P) ≤ pRm P) (hn : pN P ≤ 8) : ∀ m g (s s' : Sg), ag t s s' → ag t (goN P hd a g m s) (goN P hd a g m s')
  | 0, _, _, _, h => h
  | m + 1, g, _, _, h => ag_goN hb hn m (g + 1) _ _ (ag_clo (ag_tel hb (ag_putB hb hn h)))
theorem chk_ag {P : Pm} {hd : Hd} {a c t h to : Nat} {s s' : Sg} (hb : sm (pSz P) (pN P) ≤ pRm P) (hn : pN P ≤ 8) (q : ag t s s') : chk P hd a c t h to s = chk P hd a c t h to s' := by
  unfold chk
  rw [(ag_goN hb hn (to - h) (h + 1) _ _ (ag_clo (a := a) (g := h) q)).1]
/-! what is lost stays lost -/
theorem gn_act {P : Pm} {s : Sg} {t k : Nat} (h : s.1 t = 9) : (act P s k).1 t = 9 := by
  by_cases e : k % 8 = t
  · subst e
    unfold act rch
    split
    · split
      · rw [if_neg (by omega)]; exact h
      · rw [if_neg (by omega)]; exact h
    · exact h
  · rw [(ag_keep (P := P) (s := s) e).1]; exact h
theorem gn_mid {P : Pm} {hd : Hd} {g t : Nat} {s : Sg} (h : s.1 t = 9) : (mid P hd g s).1 t = 9 := by
  unfold mid tel putB
  refine itN_inv (I := fun z : Sg => z.1 t = 9) (fun a i q => ?_) _ _ (itN_inv (I := fun z : Sg => z.1 t = 9) (fun a i q => ?_) _ _ h)
  · unfold te1; split
    · exact gn_act q
    · exact q
  · unfold pb2
    refine itN_inv (I := fun z : Sg => z.1 t = 9) (fun a i q => ?_) _ _ q
    unfold pb1; split
    · exact gn_act q
    · exact q
theorem gn_clo {P : Pm} {a g t : Nat} {s : Sg} (h : s.1 t = 9) : (clo P a g s).1 t = 9 := by
  have c1 : cw1 P g s t = 9 := by unfold cw1; rw [if_neg (by omega)]; exact h
  have c2 : cw2 P g s t = 9 := by unfold cw2; rw [c1, if_neg (by omega)]
  show (if _ then _ else _) = 9
  rw [c2, if_neg (by omega)]
theorem gn_goN {P : Pm} {hd : Hd} {a t : Nat} : ∀ m g (s : Sg), s.1 t = 9 → (goN P hd a g m s).1 t = 9
  | 0, _, _, h => h
  | m + 1, g, _, h => gn_goN m (g + 1) _ (gn_clo (gn_mid h))
theorem chk_gn {P : Pm} {hd : Hd} {a c t h to : Nat} {s : Sg} (hc : c < 8) (q : s.1 t = 9) : chk P hd a c t h to s = false := by
  unfold chk
  rw [gn_goN _ _ _ (gn_clo q)]
  exact decide_eq_false (by omega)
/-! the least -/
theorem fndF_congr {p q : Nat → Bool} : ∀ (n i : Nat), (∀ j, i ≤ j → j < i + n → p j = q j) → fndF p n i = fndF q n i
  | 0, _, _ => rfl
  | n + 1, i, h => by
    show (if _ then _ else _) = (if _ then _ else _)
    rw [h i (Nat.le_refl i) (by omega), fndF_congr n (i + 1) (fun j h1 h2 => h j (by omega) (by omega))]
theorem fnd_congr {p q : Nat → Bool} {n : Nat} (h : ∀ j, j < n → p j = q j) : fnd p n = fnd q n := fndF_congr n 0 (fun j _ h2 => h j (by omega))
theorem fndF_no {p : Nat → Bool} : ∀ (n i : Nat), fndF p n i = none → ∀ j, i ≤ j → j < i + n → p j = false
  | 0, _, _, j, h1, h2 => by omega
  | n + 1, i, h, j, h1, h2 => by
    have h' : (if p i = true then some i else fndF p n (i + 1)) = none := h
    by_cases e : p i = true
    · rw [if_pos e] at h'; cases h'
    · rw [if_neg e] at h'
      by_cases e2 : j = i
      · rw [e2]; exact Bool.eq_false_iff.mpr e
      · exact fndF_no n (i + 1) h' j (by omega) (by omega)
theorem fndF_so {p : Nat → Bool} : ∀ (n i k : Nat), fndF p n i = some k → p k = true ∧ i ≤ k ∧ k < i + n
  | 0, _, _, h => by cases h
  | n + 1, i, k, h => by
    have h' : (if p i = true then some i else fndF p n (i + 1)) = some k := h
    by_cases e : p i = true
    · rw [if_pos e] at h'
      cases h'
      exact ⟨e, by omega, by omega⟩
    · rw [if_neg e] at h'
      obtain ⟨a, b, c⟩ := fndF_so n (i + 1) k h'
      exact ⟨a, by omega, by omega⟩
theorem fnd_z {p : Nat → Bool} {n : Nat} (h : ∀ j, j < n → p j = false) : fnd p n = none := by
  cases e : fnd p n with
  | none => rfl
  | some k =>
    obtain ⟨a, -, c⟩ := fndF_so n 0 k e
    rw [h k (by omega)] at a
    exact absurd a (by decide)
def mtr (P : Pm) (t k : Nat) : Bool := decide (pRm P < sm (pSz P) (pN P)) || decide (k % 8 = t)
def lpr (P : Pm) (hd : Hd) (a c t h to : Nat) (s : Sg) (k : Nat) : Bool := mtr P t k && ((rch P s k).isSome && chk P hd a c t h to (act P s k))
def lnd2 (P : Pm) (hd : Hd) (a c t h to : Nat) (s : Sg) (k : Nat) : Bool := mtr P t k && ((rch P s k).isSome && (fnd (lpr P hd a c t h to (act P s k)) 128).isSome)
theorem rch_may {P : Pm} {s : Sg} {k : Nat} (h : (rch P s k).isSome = true) : may P k = true := by
  unfold rch at h
  by_cases e : k % 8 < pN P ∧ k / 8 % 8 < pM P
  · exact decide_eq_true ⟨e.2, e.1⟩
  · rw [if_neg e] at h; exact absurd h (by decide)
theorem act_no {P : Pm} {s : Sg} {k : Nat} (h : (rch P s k).isSome = false) : act P s k = s := by
  unfold act
  rw [Option.isSome_eq_false_iff, Option.isNone_iff_eq_none] at h
  rw [h]; rfl
theorem mtr_no {P : Pm} {t k : Nat} (h : mtr P t k = false) : sm (pSz P) (pN P) ≤ pRm P ∧ k % 8 ≠ t := by
  unfold mtr at h
  rw [Bool.or_eq_false_iff] at h
  have h1 := of_decide_eq_false h.1
  have h2 := of_decide_eq_false h.2
  exact ⟨by omega, h2⟩
theorem len1_eq {P : Pm} {hd : Hd} {a c t h to : Nat} {s : Sg} (hn : pN P ≤ 8) (hs : chk P hd a c t h to s = false) : len1 P hd a c t h to s = fnd (lpr P hd a c t h to s) 128 := by
  refine fnd_congr (fun k _ => ?_)
  unfold lpr
  cases e : (rch P s k).isSome
  · rw [act_no e, hs]; simp
  · rw [rch_may e]
    cases e2 : mtr P t k
    · obtain ⟨h1, h2⟩ := mtr_no e2
      rw [chk_ag h1 hn (ag_keep h2), hs]; rfl
    · simp
theorem len1_no {P : Pm} {hd : Hd} {a c t h to : Nat} {s : Sg} (hl : len1 P hd a c t h to s = none) {k : Nat} (hk : k < 128) (hm : may P k = true) : chk P hd a c t h to (act P s k) = false := by
  have q := fndF_no (p := fun k => may P k && chk P hd a c t h to (act P s k)) 128 0 hl k (Nat.zero_le k) (by omega)
  have q' : (may P k && chk P hd a c t h to (act P s k)) = false := q
  rw [hm] at q'
  exact q'
theorem len2_eq {P : Pm} {hd : Hd} {a c t h to : Nat} {s : Sg} (hn : pN P ≤ 8) (hs : chk P hd a c t h to s = false) (hl : len1 P hd a c t h to s = none) : len2 P hd a c t h to s = fnd (lnd2 P hd a c t h to s) 128 := by
  refine fnd_congr (fun k hk => ?_)
  unfold lnd2
  cases e : (rch P s k).isSome
  · rw [act_no e, hl]; simp
  · rw [rch_may e, len1_eq hn (len1_no hl hk (rch_may e))]
    cases e2 : mtr P t k
    · obtain ⟨h1, h2⟩ := mtr_no e2
      have z : fnd (lpr P hd a c t h to (act P s k)) 128 = none := by
        refine fnd_z (fun j hj => ?_)
        unfold lpr
        cases e3 : (rch P (act P s k) j).isSome
        · simp
        · have q : chk P hd a c t h to (act P (act P s k) j) = chk P hd a c t h to (act P s j) := chk_ag h1 hn (ag_act h1 (ag_keep h2))
          rw [q, len1_no hl hj (rch_may e3)]; simp
      rw [z]; rfl
    · simp
def lrw (P : Pm) (hd : Hd) (a c t h to : Nat) (s : Sg) (o : Option Nat) : Int32 × Int32 × Int32 := match o with
  | some k => (2, nI k, nO (fnd (lpr P hd a c t h to (act P s k)) 128))
  | none => (-1, -1, -1)
def lrw1 (P : Pm) (hd : Hd) (a c t h to : Nat) (s : Sg) : Int32 × Int32 × Int32 := match fnd (lpr P hd a c t h to s) 128 with
  | some k => (1, nI k, -1)
  | none => lrw P hd a c t h to s (fnd (lnd2 P hd a c t h to s) 128)
theorem lend_eq {P : Pm} {hd : Hd} {a c t h to : Nat} (hn : pN P ≤ 8) (hh : ¬ to < h) (hs : chk P hd a c t h to (mid P hd h (stN P hd a h)) = false) : lendS P hd a c t h to = lrw1 P hd a c t h to (mid P hd h (stN P hd a h)) := by
  unfold lendS lrw1
  rw [if_neg hh, if_neg (by rw [hs]; decide), len1_eq hn hs]
  cases e : fnd (lpr P hd a c t h to (mid P hd h (stN P hd a h))) 128 with
  | some k => rfl
  | none =>
    have hl : len1 P hd a c t h to (mid P hd h (stN P hd a h)) = none := by rw [len1_eq hn hs]; exact e
    rw [len2_eq hn hs hl]
    cases e2 : fnd (lnd2 P hd a c t h to (mid P hd h (stN P hd a h))) 128 with
    | none => rfl
    | some k =>
      obtain ⟨q, -, k2⟩ := fndF_so 128 0 k e2
      have w : (rch P (mid P hd h (stN P hd a h)) k).isSome = true := by
        unfold lnd2 at q
        rw [Bool.and_eq_true, Bool.and_eq_true] at q
        exact q.2.1
      show (2, nI k, nO (len1 P hd a c t h to (act P (mid P hd h (stN P hd a h)) k))) = (2, nI k, nO (fnd (lpr P hd a c t h to (act P (mid P hd h (stN P hd a h)) k)) 128))
      rw [len1_eq hn (len1_no hl (by omega) (rch_may w))]
theorem chk_st {P : Pm} {hd : Hd} {a c t h to : Nat} (hh : ¬ to < h) : chk P hd a c t h to (mid P hd h (stN P hd a h)) = decide ((stN P hd a (to + 1)).1 t = c) := by
  unfold chk
  have e : clo P a h (mid P hd h (stN P hd a h)) = stN P hd a (h + 1) := rfl
  rw [e, goN_st, show h + 1 + (to - h) = to + 1 by omega]
theorem lend_gn {P : Pm} {hd : Hd} {a c t h to : Nat} (hc : c < 8) (hh : ¬ to < h) (hg : (mid P hd h (stN P hd a h)).1 t = 9) : lendS P hd a c t h to = (-1, -1, -1) := by
  unfold lendS
  have z1 : ∀ k, len1 P hd a c t h to (act P (mid P hd h (stN P hd a h)) k) = none := fun k => fnd_z (fun j _ => by rw [chk_gn hc (gn_act (gn_act hg))]; simp)
  have z2 : len1 P hd a c t h to (mid P hd h (stN P hd a h)) = none := fnd_z (fun j _ => by rw [chk_gn hc (gn_act hg)]; simp)
  have z3 : len2 P hd a c t h to (mid P hd h (stN P hd a h)) = none := fnd_z (fun j _ => by rw [z1]; simp)
  rw [if_neg hh, if_neg (by rw [chk_gn hc hg]; decide), z2, z3]
