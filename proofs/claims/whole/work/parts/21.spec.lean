/-! WHAT HAPPENS, in numbers: things, cousins, hands, hours -/
abbrev Pm : Type := ((Nat × Nat) × (Nat → Nat) × (Nat → Nat) × (Nat → Nat) × (Nat → Bool) × (Nat → Nat)) × Nat × (Nat × (Nat → Nat) × (Nat → Nat))
def pN (P : Pm) : Nat := P.1.1.1
def pM (P : Pm) : Nat := P.1.1.2
def pSz (P : Pm) : Nat → Nat := P.1.2.1
def pOw (P : Pm) : Nat → Nat := P.1.2.2.1
def pKd (P : Pm) : Nat → Nat := P.1.2.2.2.1
def pHo (P : Pm) : Nat → Bool := P.1.2.2.2.2.1
def pWi (P : Pm) : Nat → Nat := P.1.2.2.2.2.2
def pRm (P : Pm) : Nat := P.2.1
/-- holes: how many, their hours, their sizes -/
def pO (P : Pm) : Nat × (Nat → Nat) × (Nat → Nat) := P.2.2
/-- where things are (8 the pocket, 9 lost); taken in this hour; in the pocket when soup was looked for, in the hour ahead and the one ahead of it -/
abbrev Sg : Type := (Nat → Nat) × (Nat → Bool) × (Nat → Bool) × (Nat → Bool)
abbrev Hd : Type := Nat × (Nat → Nat) × (Nat → Nat)
def itN {α : Type} (f : α → Nat → α) : Nat → α → α
  | 0, a => a
  | n + 1, a => f (itN f n a) n
def inP (s : Sg) : Nat → Bool := fun t => decide (s.1 t = 8)
def ld (P : Pm) (s : Sg) : Nat := sm (fun t => if s.1 t = 8 then pSz P t else 0) (pN P)
def rch (P : Pm) (s : Sg) (k : Nat) : Option Sg :=
  if k % 8 < pN P ∧ k / 8 % 8 < pM P then
    if 64 ≤ k then (if s.1 (k % 8) = 8 then some (va_up s.1 (k % 8) (k / 8 % 8), va_up s.2.1 (k % 8) true, s.2.2) else none)
    else if s.1 (k % 8) = k / 8 % 8 ∧ ld P s + pSz P (k % 8) ≤ pRm P then some (va_up s.1 (k % 8) 8, va_up s.2.1 (k % 8) false, s.2.2) else none
  else none
def act (P : Pm) (s : Sg) (k : Nat) : Sg := (rch P s k).getD s
def pb1 (P : Pm) (tk : Nat → Bool) (c : Nat) (s : Sg) (t : Nat) : Sg := if pHo P c = true ∧ tk t = true ∧ pOw P t ≠ c then act P s (8 * c + t) else s
def pb2 (P : Pm) (tk : Nat → Bool) (s : Sg) (c : Nat) : Sg := itN (pb1 P tk c) (pN P) s
def putB (P : Pm) (s : Sg) : Sg := itN (pb2 P s.2.1) (pM P) (s.1, fun _ => false, s.2.2)
def te1 (P : Pm) (hd : Hd) (h : Nat) (s : Sg) (k : Nat) : Sg := if hd.2.1 k = h then act P s (hd.2.2 k) else s
def tel (P : Pm) (hd : Hd) (h : Nat) (s : Sg) : Sg := itN (te1 P hd h) hd.1 s
def fall (P : Pm) (h t : Nat) : Bool := (List.range (pO P).1).any (fun k => decide ((pO P).2.1 k = h) && decide (pSz P t ≤ (pO P).2.2 k))
def cw1 (P : Pm) (h : Nat) (s : Sg) : Nat → Nat := fun t => if s.1 t = 8 ∧ fall P h t = true then 9 else s.1 t
def cw2 (P : Pm) (h : Nat) (s : Sg) : Nat → Nat := fun t => if pKd P t = 1 ∧ cw1 P h s t = 8 ∧ s.2.2.1 t = true ∧ s.2.2.2 t = true then 9 else cw1 P h s t
def clo (P : Pm) (a h : Nat) (s : Sg) : Sg := (fun t => if a.testBit h = true ∧ cw2 P h s t = 8 then pOw P t else cw2 P h s t, s.2.1, fun t => decide (cw1 P h s t = 8), s.2.2.1)
def mid (P : Pm) (hd : Hd) (h : Nat) (s : Sg) : Sg := tel P hd h (putB P s)
def hr (P : Pm) (hd : Hd) (a h : Nat) (s : Sg) : Sg := clo P a h (mid P hd h s)
def st0 (P : Pm) : Sg := (fun t => if pOw P t < pM P then pOw P t else 9, fun _ => false, fun _ => false, fun _ => false)
/-- ahead of hour h -/
def stN (P : Pm) (hd : Hd) (a : Nat) : Nat → Sg
  | 0 => st0 P
  | h + 1 => hr P hd a h (stN P hd a h)
/-- what is always so -/
def Wf (P : Pm) (s : Sg) : Prop := ∀ t, t < pN P → s.1 t ≤ 9 ∧ (s.1 t = 8 → pOw P t < pM P) ∧ (s.1 t < 8 → s.1 t < pM P ∧ pOw P t < pM P)
def PmOk (P : Pm) : Prop := pN P ≤ 8 ∧ pM P ≤ 8 ∧ (∀ t, t < pN P → 1 ≤ pSz P t ∧ pSz P t ≤ 9 ∧ pOw P t < 8 ∧ pKd P t < 3) ∧ pRm P ≤ 72
theorem ld_le {P : Pm} {s : Sg} (h : PmOk P) : ld P s ≤ 72 := by
  have h1 : ld P s ≤ sm (fun _ => 9) (pN P) := sm_le (fun i hi => by
    have := (h.2.2.1 i hi).2.1
    split <;> omega)
  have h2 : ∀ n, sm (fun _ => 9) n = 9 * n := by
    intro n; induction n with
    | zero => rfl
    | succ n ih => simp only [sm, ih]; omega
  rw [h2] at h1
  have := h.1
  omega
theorem ld_up {P : Pm} {s : Sg} {t c : Nat} {q : (Nat → Bool) × (Nat → Bool) × (Nat → Bool)} (ht : t < pN P) : ld P (va_up s.1 t c, q) + (if s.1 t = 8 then pSz P t else 0) = ld P s + (if c = 8 then pSz P t else 0) := by
  have h : sm (fun i => if va_up s.1 t c i = 8 then pSz P i else 0) (pN P) + (if s.1 t = 8 then pSz P t else 0) = sm (fun i => if s.1 i = 8 then pSz P i else 0) (pN P) + (if va_up s.1 t c t = 8 then pSz P t else 0) :=
    sm_upd (f := fun i => if va_up s.1 t c i = 8 then pSz P i else 0) (g := fun i => if s.1 i = 8 then pSz P i else 0) (k := t) (n := pN P) ht (fun i _ hi => by simp [va_up, hi])
  have e : va_up s.1 t c t = c := by simp [va_up]
  rw [e] at h
  exact h
theorem ld_put {P : Pm} {s : Sg} {t : Nat} {q : (Nat → Bool) × (Nat → Bool) × (Nat → Bool)} (ht : t < pN P) (h : s.1 t ≠ 8) : ld P (va_up s.1 t 8, q) = ld P s + pSz P t := by
  have := ld_up (s := s) (c := 8) (q := q) ht
  rw [if_neg h, if_pos rfl] at this
  exact this
theorem ld_take {P : Pm} {s : Sg} {t c : Nat} {q : (Nat → Bool) × (Nat → Bool) × (Nat → Bool)} (ht : t < pN P) (h : s.1 t = 8) (hc : c ≠ 8) : ld P (va_up s.1 t c, q) + pSz P t = ld P s := by
  have := ld_up (s := s) (c := c) (q := q) ht
  rw [if_pos h, if_neg hc] at this
  exact this
theorem rch_wf {P : Pm} {s s' : Sg} {k : Nat} (hw : Wf P s) (h : rch P s k = some s') : Wf P s' := by
  unfold rch at h
  split at h
  case isFalse => cases h
  case isTrue hb =>
    split at h
    case isTrue h64 =>
      split at h
      case isFalse => cases h
      case isTrue h8 =>
        cases h
        intro t ht
        have h1 := hw t ht
        by_cases e : t = k % 8
        · subst e
          simp only [va_up, if_true]
          have := h1.2.1 h8
          refine ⟨by omega, fun q => by omega, fun q => ⟨hb.2, this⟩⟩
        · simpa [va_up, e] using h1
    case isFalse h64 =>
      split at h
      case isFalse => cases h
      case isTrue h8 =>
        cases h
        intro t ht
        have h1 := hw t ht
        by_cases e : t = k % 8
        · subst e
          simp only [va_up, if_true]
          have h2 := h1.2.2 (by rw [h8.1]; omega)
          exact ⟨by omega, fun _ => h2.2, fun q => by omega⟩
        · simpa [va_up, e] using h1
theorem act_wf {P : Pm} {s : Sg} {k : Nat} (hw : Wf P s) : Wf P (act P s k) := by
  unfold act
  cases h : rch P s k with
  | none => exact hw
  | some s' => exact rch_wf hw h
theorem itN_inv {α : Type} {f : α → Nat → α} {I : α → Prop} (hf : ∀ a i, I a → I (f a i)) : ∀ n a, I a → I (itN f n a)
  | 0, _, h => h
  | n + 1, a, h => hf _ _ (itN_inv hf n a h)
theorem pb1_wf {P : Pm} {tk : Nat → Bool} {c : Nat} {s : Sg} {t : Nat} (hw : Wf P s) : Wf P (pb1 P tk c s t) := by
  unfold pb1; split
  · exact act_wf hw
  · exact hw
theorem putB_wf {P : Pm} {s : Sg} (hw : Wf P s) : Wf P (putB P s) := itN_inv (fun a i h => itN_inv (fun b j g => pb1_wf g) _ _ h) _ _ hw
theorem tel_wf {P : Pm} {hd : Hd} {h : Nat} {s : Sg} (hw : Wf P s) : Wf P (tel P hd h s) := itN_inv (fun a i g => by unfold te1; split; exact act_wf g; exact g) _ _ hw
theorem mid_wf {P : Pm} {hd : Hd} {h : Nat} {s : Sg} (hw : Wf P s) : Wf P (mid P hd h s) := tel_wf (putB_wf hw)
theorem clo_wf {P : Pm} {a h : Nat} {s : Sg} (hm : pM P ≤ 8) (hw : Wf P s) : Wf P (clo P a h s) := by
  intro t ht
  obtain ⟨h1, h2, h3⟩ := hw t ht
  simp only [clo]
  have hc1 : cw1 P h s t = s.1 t ∨ cw1 P h s t = 9 := by unfold cw1; split <;> simp
  have hc2 : cw2 P h s t = s.1 t ∨ cw2 P h s t = 9 := by unfold cw2; split; simp; exact hc1
  split
  case isTrue q =>
    have : s.1 t = 8 := by rcases hc2 with e | e <;> omega
    have h4 := h2 this
    exact ⟨by omega, fun z => by omega, fun _ => ⟨h4, h4⟩⟩
  case isFalse q =>
    rcases hc2 with e | e
    · rw [e]; exact ⟨h1, h2, h3⟩
    · rw [e]; exact ⟨by omega, fun z => by omega, fun z => by omega⟩
theorem hr_wf {P : Pm} {hd : Hd} {a h : Nat} {s : Sg} (hm : pM P ≤ 8) (hw : Wf P s) : Wf P (hr P hd a h s) := clo_wf hm (mid_wf hw)
theorem st0_wf {P : Pm} (hm : pM P ≤ 8) : Wf P (st0 P) := by
  intro t ht
  simp only [st0]
  split
  · exact ⟨by omega, fun z => by omega, fun _ => by constructor <;> assumption⟩
  · exact ⟨by omega, fun z => by omega, fun z => by omega⟩
theorem stN_wf {P : Pm} {hd : Hd} {a : Nat} (hm : pM P ≤ 8) : ∀ h, Wf P (stN P hd a h)
  | 0 => st0_wf hm
  | h + 1 => hr_wf hm (stN_wf hm h)
