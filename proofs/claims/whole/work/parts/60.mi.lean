/-! THE MODEL: what it has read, and how it goes -/
def RdC (P : Pm) (H : Hi) : Prop := PmOk P ∧ H 99 2 = nI (pN P) ∧ H 99 6 = nI (pM P) ∧ (∀ t, t < pN P → H 102 t = nI (pSz P t) ∧ H 103 t = nI (pOw P t) ∧ H 104 t = nI (pKd P t)) ∧
  (∀ c, c < pM P → H 105 c = nI (if pHo P c = true then 1 else 0) ∧ H 106 c = if pWi P c < 8 then nI (pWi P c) else -1) ∧ H 99 9 = nI (pRm P) ∧
  H 99 14 = nI (pO P).1 ∧ (pO P).1 ≤ 6 ∧ ∀ k, k < (pO P).1 → H 109 k = nI ((pO P).2.1 k) ∧ (pO P).2.1 k < 24 ∧ H 110 k = nI ((pO P).2.2 k) ∧ (pO P).2.2 k ≤ 9
theorem rd_keep {P : Pm} {H H' : Hi} (hR : RdC P H) (h : ∀ c, c = 99 ∨ (102 ≤ c ∧ c ≤ 106) ∨ c = 109 ∨ c = 110 → H' c = H c) : RdC P H' := by
  unfold RdC
  rw [h 99 (by omega), h 102 (by omega), h 103 (by omega), h 104 (by omega), h 105 (by omega), h 106 (by omega), h 109 (by omega), h 110 (by omega)]
  exact hR
def skv (P : Pm) (s : Sg) (t : Nat) : Nat := if pKd P t = 1 ∧ s.2.2.1 t = true then (if s.2.2.2 t = true then (if s.1 t = 9 then 3 else 2) else 1) else 0
theorem skv_cg {P : Pm} {s s' : Sg} {t : Nat} (h9 : s.1 t = 9 ↔ s'.1 t = 9) (h : s.2.2 = s'.2.2) : skv P s t = skv P s' t := by
  unfold skv
  rw [h]
  by_cases q : s.1 t = 9
  · rw [if_pos q, if_pos (h9.mp q)]
  · rw [if_neg q, if_neg (fun z => q (h9.mpr z))]
def MW (P : Pm) (s : Sg) (H : Hi) : Prop := (∀ t, t < 8 → H 111 t = nI (if t < pN P then s.1 t else 9)) ∧ (∀ t, t < pN P → H 112 t = nI (skv P s t)) ∧
  ∃ tk : Nat → Nat → Bool, (∀ c, c < 8 → H 113 c = nI (bs (tk c) 8)) ∧ ∀ c t, c < 8 → t < pN P → s.1 t = c → pOw P t ≠ c → tk c t = s.2.1 t
theorem mw_keep {P : Pm} {s : Sg} {H H' : Hi} (hW : MW P s H) (h : ∀ c, c = 111 ∨ c = 112 ∨ c = 113 → H' c = H c) : MW P s H' := by
  unfold MW
  rw [h 111 (by omega), h 112 (by omega), h 113 (by omega)]
  exact hW
theorem mw_w {P : Pm} {s : Sg} {H : Hi} (hW : MW P s H) (hn : pN P ≤ 8) {t : Nat} (ht : t < pN P) : H 111 t = nI (s.1 t) := by
  rw [hW.1 t (by omega), if_pos ht]
theorem mt_load {E : En} {Q : Option Value → Hi → Prop} {H : Hi} {P : Pm} {s : Sg} (hR : RdC P H) (hW : MW P s H) (hw : Wf P s) (hq : Q (some (.int (nI (ld P s)))) H) : Cm E mX10_loadNow [rf E 99] H Q := by
  have n8 := hR.1.1
  have lp : ∀ (m t : Nat), t + m = pN P → Rm E mX10_loadNow Q 4 [some (rf E 99), some (.int (nI (sm (fun t => if s.1 t = 8 then pSz P t else 0) t))), some (.int (nI t))] [] H := by
    intro m
    induction m with
    | zero =>
      intro t ht
      have e : t = pN P := by omega
      subst e
      refine sgX10_loadNow_4 ⟨fun _ => hq, fun z => ?_⟩
      rw [hR.2.1] at z
      exact absurd (nI_le (Nat.le_refl (pN P)) (by omega)) z
    | succ m ih =>
      intro t ht
      have tn : t < pN P := by omega
      have w := (hw t tn).1
      refine sgX10_loadNow_4 ⟨fun z => ?_, fun _ => ⟨t, ⟨by omega, rfl⟩, ?_⟩⟩
      · rw [hR.2.1] at z
        have := (nI_leI (by omega) (by omega)).mp z; omega
      · rw [mw_w hW n8 tn]
        refine ⟨fun z x1 e1 x2 e2 => ?_, fun z => ⟨t, ⟨by omega, rfl⟩, fun x1 e1 x2 e2 => ?_⟩⟩
        · have z' : ¬ s.1 t = 8 := fun q => z (by rw [q]; rfl)
          rw [e2, ← nI_succ, e1]
          have e : nI (sm (fun t => if s.1 t = 8 then pSz P t else 0) t) + 0 = nI (sm (fun t => if s.1 t = 8 then pSz P t else 0) (t + 1)) := by
            have q : sm (fun t => if s.1 t = 8 then pSz P t else 0) (t + 1) = sm (fun t => if s.1 t = 8 then pSz P t else 0) t + (if s.1 t = 8 then pSz P t else 0) := rfl
            rw [if_neg z'] at q
            rw [q]
            exact nI_add _ 0
          rw [e]; exact ih (t + 1) (by omega)
        · have z' : s.1 t = 8 := nI_inj (by omega) (by decide) z
          rw [e2, ← nI_succ, e1, (hR.2.2.2.1 t tn).1, nI_add]
          have e : sm (fun t => if s.1 t = 8 then pSz P t else 0) t + pSz P t = sm (fun t => if s.1 t = 8 then pSz P t else 0) (t + 1) := by
            have q : sm (fun t => if s.1 t = 8 then pSz P t else 0) (t + 1) = sm (fun t => if s.1 t = 8 then pSz P t else 0) t + (if s.1 t = 8 then pSz P t else 0) := rfl
            rw [if_pos z'] at q
            exact q.symm
          rw [e]; exact ih (t + 1) (by omega)
  exact cmX10_loadNow (lp (pN P) 0 (by omega))
theorem mt_putsIn {E : En} {Q : Option Value → Hi → Prop} {H : Hi} {P : Pm} {s : Sg} {t : Nat} (hR : RdC P H) (hW : MW P s H) (hw : Wf P s) (ht : t < pN P)
    (h1 : ld P s + pSz P t ≤ pRm P → ∀ H' : Hi, H' = up H 111 t 8 → Q (some (.int 1)) H') (h0 : ¬ ld P s + pSz P t ≤ pRm P → Q (some (.int 0)) H) : Cm E mX10_putsIn [rf E 99, .int (nI t)] H Q := by
  have n8 := hR.1.1
  have l72 := ld_le (s := s) hR.1
  have sz := (hR.1.2.2.1 t ht).2.1
  have r72 := hR.1.2.2.2
  refine cmX10_putsIn (mt_load hR hW hw ⟨_, rfl, t, ⟨by omega, rfl⟩, ?_⟩)
  rw [hR.2.2.2.2.2.1, (hR.2.2.2.1 t ht).1, nI_add, nI_ltI (by omega) (by omega)]
  refine ⟨fun z => ⟨fun _ => ⟨t, ⟨by omega, rfl⟩, t, ⟨by omega, rfl⟩, fun H' e => ?_⟩, fun z2 => absurd rfl z2⟩, fun z => ⟨fun z2 => absurd z2 (by decide), fun _ => ⟨t, ⟨by omega, rfl⟩, fun H' e => h1 (by omega) H' e⟩⟩⟩
  have e2 : H' = H := by
    rw [e]
    funext c k
    by_cases q : c = 111
    · rw [q, up_s]
      by_cases q2 : k = t
      · rw [q2, upd_s]
      · rw [upd_n q2]
    · rw [up_n q]
  rw [e2]
  exact h0 (by omega)
theorem mw_put {P : Pm} {s : Sg} {H : Hi} {t : Nat} (hW : MW P s H) (ht : t < pN P) (h9 : s.1 t ≠ 9) : MW P (va_up s.1 t 8, va_up s.2.1 t false, s.2.2) (up H 111 t 8) := by
  obtain ⟨w1, w2, tk, w3, w4⟩ := hW
  refine ⟨fun u hu => ?_, fun u hu => ?_, tk, fun c hc => by rw [up_n (by decide)]; exact w3 c hc, fun c u hc hu q1 q2 => ?_⟩
  · rw [up_s]
    by_cases e : u = t
    · rw [e, upd_s, if_pos ht]; simp [va_up]; rfl
    · rw [upd_n e, w1 u hu]; simp [va_up, e]
  · rw [up_n (by decide), w2 u hu]
    refine congrArg nI (skv_cg ?_ rfl)
    show s.1 u = 9 ↔ va_up s.1 t 8 u = 9
    by_cases e : u = t
    · rw [e]
      have e8 : va_up s.1 t 8 t = 8 := by simp [va_up]
      rw [e8]; omega
    · have e8 : va_up s.1 t 8 u = s.1 u := by simp [va_up, e]
      rw [e8]
  · have q1 : va_up s.1 t 8 u = c := q1
    by_cases e : u = t
    · rw [e] at q1
      have e8 : va_up s.1 t 8 t = 8 := by simp [va_up]
      rw [e8] at q1; omega
    · have e8 : va_up s.1 t 8 u = s.1 u := by simp [va_up, e]
      have e9 : va_up s.2.1 t false u = s.2.1 u := by simp [va_up, e]
      rw [e8] at q1
      show tk c u = va_up s.2.1 t false u
      rw [e9]
      exact w4 c u hc hu q1 q2
theorem mw_take {P : Pm} {s : Sg} {H : Hi} {t c : Nat} (hW : MW P s H) (n8 : pN P ≤ 8) (ht : t < pN P) (h8 : s.1 t = 8) (hc : c < 8) : MW P (va_up s.1 t c, va_up s.2.1 t true, s.2.2) (up (up H 111 t (nI c)) 113 c (H 113 c ||| nI (2 ^ t))) := by
  obtain ⟨w1, w2, tk, w3, w4⟩ := hW
  refine ⟨fun u hu => ?_, fun u hu => ?_, fun d u => if d = c ∧ u = t then true else tk d u, fun d hd => ?_, fun d u hd hu q1 q2 => ?_⟩
  · rw [up_n (by decide), up_s]
    by_cases e : u = t
    · rw [e, upd_s, if_pos ht]; simp [va_up]
    · rw [upd_n e, w1 u hu]; simp [va_up, e]
  · rw [up_n (by decide), up_n (by decide), w2 u hu]
    refine congrArg nI (skv_cg ?_ rfl)
    show s.1 u = 9 ↔ va_up s.1 t c u = 9
    by_cases e : u = t
    · rw [e]
      have e8 : va_up s.1 t c t = c := by simp [va_up]
      rw [e8]; omega
    · have e8 : va_up s.1 t c u = s.1 u := by simp [va_up, e]
      rw [e8]
  · rw [up_s]
    by_cases e : d = c
    · rw [e, upd_s, w3 c hc, nI_or, bs_or_bit (by omega)]
      congr 1
      refine bs_congr (fun u _ => ?_)
      simp [va_up]
    · rw [upd_n e, up_n (by decide), w3 d hd]
      congr 1
      refine bs_congr (fun u _ => ?_)
      simp [e]
  · have q1 : va_up s.1 t c u = d := q1
    by_cases e : u = t
    · rw [e] at q1 ⊢
      have e8 : va_up s.1 t c t = c := by simp [va_up]
      rw [e8] at q1
      show (if d = c ∧ t = t then true else tk d t) = va_up s.2.1 t true t
      rw [if_pos ⟨q1.symm, rfl⟩]; simp [va_up]
    · have e8 : va_up s.1 t c u = s.1 u := by simp [va_up, e]
      have e9 : va_up s.2.1 t true u = s.2.1 u := by simp [va_up, e]
      rw [e8] at q1
      show (if d = c ∧ u = t then true else tk d u) = va_up s.2.1 t true u
      rw [e9, if_neg (fun q => e q.2)]
      exact w4 d u hd hu q1 q2
theorem ni_mod {a d : Nat} (ha : a < 2 ^ 31) (h0 : 0 < d) (hd : d < 2 ^ 31) : nI a - nI a / nI d * nI d = nI (a % d) := by
  rw [pk_div ha h0 hd, ni_mulN]
  have e : a = a / d * d + a % d := by have := Nat.div_add_mod a d; rw [Nat.mul_comm] at this; omega
  have h := ni_subA (a := a / d * d) (b := a % d)
  rw [← e] at h
  exact h
theorem act_cases {P : Pm} {s : Sg} {k : Nat} (h : ¬ (k % 8 < pN P ∧ k / 8 % 8 < pM P)) : (rch P s k).isSome = false ∧ act P s k = s := by
  unfold act rch
  rw [if_neg h]; exact ⟨rfl, rfl⟩
def frK (H0 H : Hi) : Prop := ∀ c, (c < 111 ∨ 115 < c) → H c = H0 c
set_option maxHeartbeats 1000000 in
theorem mt_acts {E : En} {Q : Option Value → Hi → Prop} {H : Hi} {P : Pm} {s : Sg} {k : Nat} (hR : RdC P H) (hW : MW P s H) (hw : Wf P s) (hk : k < 128)
    (hq : ∀ H' : Hi, (∀ c, c ≠ 111 → c ≠ 113 → H' c = H c) → MW P (act P s k) H' → Q (some (.int (nI (if (rch P s k).isSome = true then 1 else 0)))) H') : Cm E mX10_acts [rf E 99, .int (nI k)] H Q := by
  have n8 := hR.1.1
  have m8 := hR.1.2.1
  refine cmX10_acts ?_
  intro x2 e2 x3 e3
  have e2' : x2 = nI (k / 8 % 8) := by
    rw [e2]
    have : nI k / nI 8 = nI (k / 8) := pk_div (by omega) (by decide) (by decide)
    show nI k / nI 8 - nI k / nI 8 / nI 8 * nI 8 = _
    rw [this, ni_mod (by omega) (by decide) (by decide)]
  have e3' : x3 = nI (k % 8) := by
    rw [e3]
    exact ni_mod (by omega) (by decide) (by decide)
  rw [e2', e3', hR.2.1, hR.2.2.1, nI_leI (by omega) (by omega), nI_ltI (by omega) (by omega)]
  have no : (rch P s k).isSome = false → act P s k = s → Q (some (.int 0)) H := by
    intro r a
    have h := hq H (fun _ _ _ => rfl) (by rw [a]; exact hW)
    rw [r] at h; exact h
  refine ⟨fun z => ?_, fun z => ⟨fun z2 => ?_, fun z2 => ?_⟩⟩
  · have q := act_cases (P := P) (s := s) (k := k) (by omega)
    exact no q.1 q.2
  · have hb : k % 8 < pN P ∧ k / 8 % 8 < pM P := ⟨z2, by omega⟩
    have w := (hw (k % 8) z2).1
    have c8 : k / 8 % 8 < 8 := by omega
    refine ⟨fun z3 => ⟨k % 8, ⟨by omega, rfl⟩, ?_⟩, fun z3 => ⟨k % 8, ⟨by omega, rfl⟩, ?_⟩⟩
    · have z3' : 64 ≤ k := (nI_leI (by decide) (by omega)).mp z3
      rw [mw_w hW n8 z2]
      refine ⟨fun z4 => ⟨k % 8, ⟨by omega, rfl⟩, fun H1 g1 => ⟨k / 8 % 8, ⟨c8, rfl⟩, k / 8 % 8, ⟨c8, rfl⟩, fun H2 g2 => ?_⟩⟩, fun z4 => ?_⟩
      · have z4' : s.1 (k % 8) = 8 := nI_inj (by omega) (by decide) z4
        have er : rch P s k = some (va_up s.1 (k % 8) (k / 8 % 8), va_up s.2.1 (k % 8) true, s.2.2) := by
          unfold rch; rw [if_pos hb, if_pos z3', if_pos z4']
        have ea : act P s k = (va_up s.1 (k % 8) (k / 8 % 8), va_up s.2.1 (k % 8) true, s.2.2) := by unfold act; rw [er]; rfl
        have eh : H2 = up (up H 111 (k % 8) (nI (k / 8 % 8))) 113 (k / 8 % 8) (H 113 (k / 8 % 8) ||| nI (2 ^ (k % 8))) := by
          rw [g2, g1, up_n (by decide), i_one (k % 8) (by omega)]
        have h := hq H2 (fun c q1 q2 => by rw [eh, up_n q2, up_n q1]) (by rw [ea, eh]; exact mw_take hW n8 z2 z4' c8)
        rw [er] at h; exact h
      · have z4' : ¬ s.1 (k % 8) = 8 := fun q => z4 (by rw [q]; rfl)
        have er : rch P s k = none := by unfold rch; rw [if_pos hb, if_pos z3', if_neg z4']
        exact no (by rw [er]; rfl) (by unfold act; rw [er]; rfl)
    · have z3' : ¬ 64 ≤ k := fun q => z3 (nI_le q (by omega))
      rw [mw_w hW n8 z2]
      refine ⟨fun z4 => ?_, fun z4 => ?_⟩
      · have z4' : ¬ s.1 (k % 8) = k / 8 % 8 := fun q => z4 (by rw [q])
        have er : rch P s k = none := by unfold rch; rw [if_pos hb, if_neg z3', if_neg (fun q => z4' q.1)]
        exact no (by rw [er]; rfl) (by unfold act; rw [er]; rfl)
      · have z4' : s.1 (k % 8) = k / 8 % 8 := nI_inj (by omega) (by omega) z4
        refine mt_putsIn hR hW hw z2 (fun hl H' e => ⟨_, rfl, fun q => absurd q (by decide), fun _ => ?_⟩) (fun hl => ⟨_, rfl, fun _ => ?_, fun q => absurd rfl q⟩)
        · have er : rch P s k = some (va_up s.1 (k % 8) 8, va_up s.2.1 (k % 8) false, s.2.2) := by
            unfold rch; rw [if_pos hb, if_neg z3', if_pos ⟨z4', hl⟩]
          have ea : act P s k = (va_up s.1 (k % 8) 8, va_up s.2.1 (k % 8) false, s.2.2) := by unfold act; rw [er]; rfl
          have h := hq H' (fun c q1 q2 => by rw [e, up_n q1]) (by rw [ea, e]; exact mw_put hW z2 (by omega))
          rw [er] at h; exact h
        · have er : rch P s k = none := by unfold rch; rw [if_pos hb, if_neg z3', if_neg (fun q => hl q.2)]
          exact no (by rw [er]; rfl) (by unfold act; rw [er]; rfl)
  · have q := act_cases (P := P) (s := s) (k := k) (by omega)
    exact no q.1 q.2
