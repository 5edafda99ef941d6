/-! the class's STATE rows, and one HAND -/
def Rs (P : Pm) (s : Sg) (r : Nat → Int32) : Prop := r 0 = nI (dg 16 s.1 (pN P)) ∧ r 1 = nI (bs (inP s) (pN P)) ∧ r 2 = nI (ld P s) ∧ r 3 = nI (bs s.2.1 (pN P)) ∧ r 4 = nI (bs s.2.2.1 (pN P)) ∧ r 5 = nI (bs s.2.2.2 (pN P))
/-- the family, as the class has it -/
def FamC (P : Pm) (H : Hi) : Prop := PmOk P ∧ H 5 0 = nI (pN P) ∧ H 5 1 = nI (pM P) ∧ (∀ t, t < pN P → H 6 t = nI (pSz P t) ∧ H 7 t = nI (pOw P t) ∧ H 8 t = nI (pKd P t)) ∧
  H 5 6 = nI (bs (pHo P) (pM P)) ∧ H 5 7 = nI (bs (fun t => decide (pKd P t = 1)) (pN P)) ∧ H 5 8 = nI (sm (pSz P) (pN P)) ∧ (∀ s, s < 10 → H 10 s = nI (bs (fun t => decide (pSz P t ≤ s)) (pN P))) ∧ H 11 0 = nI (pRm P) ∧ (∀ c, c < pM P → H 9 c = if pWi P c < 8 then nI (pWi P c) else -1)
theorem up_s (H : Hi) (c k : Nat) (x : Int32) : up H c k x c = upd (H c) k x := by simp [up, setR]
theorem up_n {H : Hi} {c k : Nat} {x : Int32} {c' : Nat} (h : c' ≠ c) : up H c k x c' = H c' := by simp [up, setR, h]
theorem upd_s (f : Nat → Int32) (k : Nat) (x : Int32) : upd f k x k = x := by simp [upd]
theorem upd_n {f : Nat → Int32} {k j : Nat} {x : Int32} (h : j ≠ k) : upd f k x j = f j := by simp [upd, h]
theorem wf16 {P : Pm} {s : Sg} (hw : Wf P s) : ∀ t, t < pN P → s.1 t < 16 := fun t ht => by have := (hw t ht).1; omega
set_option maxHeartbeats 4000000 in
theorem ct_reach {E : En} {Q : Option Value → Hi → Prop} {H : Hi} {P : Pm} {q : Nat} {s : Sg} {k : Nat} (hF : FamC P H) (hs : isSt q) (hr : Rs P s (H q)) (hw : Wf P s) (hk : k < 128)
    (hq : ∀ H' : Hi, (∀ c, c ≠ q → H' c = H c) → Rs P (act P s k) (H' q) → Q (some (.int (nI (if (rch P s k).isSome = true then 1 else 0)))) H') : Cm E mX2_reach [rf E 22, rf E q, .int (nI k)] H Q := by
  obtain ⟨ok, f0, f1, ft, -, -, -, -, frm, -⟩ := hF
  obtain ⟨on, om, ot, orm⟩ := id ok
  obtain ⟨r0, r1, r2, r3, r4, r5⟩ := id hr
  have hld := ld_le (s := s) ok
  refine cmX2_reach hs ?_
  intro x3 e3 x4 e4
  have e3' : x3 = nI (k % 8) := by rw [e3]; exact i_and7 (by omega)
  have e4' : x4 = nI (k / 8 % 8) := by
    rw [e4, show (3 : Int32) = nI 3 from rfl, i_shr (by omega) (by decide), i_and7 (by omega)]
  subst e3'; subst e4'
  clear e3 e4
  have none_ : rch P s k = none → Q (some (.int 0)) H := by
    intro h
    have := hq H (fun _ _ => rfl) (by unfold act; rw [h]; exact hr)
    rw [h] at this
    exact this
  have t8 : k % 8 < 8 := by omega
  have c8 : k / 8 % 8 < 8 := by omega
  refine ⟨fun hc => ?_, fun hc => ?_⟩
  · rw [f0, nI_leI (by omega) (by omega)] at hc
    exact none_ (by unfold rch; rw [if_neg (by omega)])
  rw [f0, nI_leI (by omega) (by omega)] at hc
  refine ⟨fun hc2 => ?_, fun hc2 => ?_⟩
  case refine_2 =>
    rw [f1, nI_ltI (by omega) (by omega)] at hc2
    exact none_ (by unfold rch; rw [if_neg (by omega)])
  rw [f1, nI_ltI (by omega) (by omega)] at hc2
  have hin : k % 8 < pN P ∧ k / 8 % 8 < pM P := ⟨by omega, hc2⟩
  intro x5 e5
  have e5' : x5 = nI (4 * (k % 8)) := by rw [e5, show (4 : Int32) = nI 4 from rfl, pk_mul]
  subst e5'
  clear e5
  refine ⟨k % 8, ⟨t8, rfl⟩, ?_⟩
  intro x6 e6
  rw [(ft _ hin.1).1] at e6
  subst e6
  have hsz := ot _ hin.1
  have h64 : (64 : Int32) = nI 64 := rfl
  refine ⟨fun h1 => ?_, fun h1 => ?_⟩
  · -- it puts
    rw [h64, nI_ltI (by omega) (by omega)] at h1
    have hd : ushr (H q 0) (nI (4 * (k % 8))) &&& 15 = nI (s.1 (k % 8)) := by rw [r0]; exact i_dig on (wf16 hw) hin.1
    rw [hd]
    refine ⟨fun h2 => ?_, fun h2 => ?_⟩
    · refine none_ ?_
      unfold rch
      rw [if_pos hin, if_neg (by omega), if_neg (fun z => h2 (by rw [z.1]))]
    have h3 : s.1 (k % 8) = k / 8 % 8 := nI_inj (by have := wf16 hw _ hin.1; omega) (by omega) h2
    refine ⟨fun h4 => ?_, fun h4 => ?_⟩
    case refine_2 =>
      rw [r2, frm, nI_add, nI_leI (by omega) (by omega)] at h4
      refine none_ ?_
      unfold rch
      rw [if_pos hin, if_neg (by omega), if_neg (fun z => h4 z.2)]
    rw [r2, frm, nI_add, nI_leI (by omega) (by omega)] at h4
    have hr' : rch P s k = some (va_up s.1 (k % 8) 8, va_up s.2.1 (k % 8) false, s.2.2) := by
      unfold rch; rw [if_pos hin, if_neg (by omega), if_pos ⟨h3, h4⟩]
    intro H1 g1 H2 g2 H3 g3 H4 g4
    have hfin := hq H4 (fun c hc => by rw [g4, up_n hc, g3, up_n hc, g2, up_n hc, g1, up_n hc])
    unfold act at hfin
    rw [hr'] at hfin
    refine hfin ?_
    have i1 : i_one (k % 8) (by omega) = i_one (k % 8) (by omega) := rfl
    have hn8 : s.1 (k % 8) ≠ 8 := by omega
    have E4 : H4 q = upd (upd (upd (upd (H q) 0 (H q 0 + (8 - nI (k / 8 % 8)) <<< (nI (4 * (k % 8)) &&& 31))) 1 (H q 1 + (1 : Int32) <<< (nI (k % 8) &&& 31))) 2 (H q 2 + nI (pSz P (k % 8)))) 3 (H q 3 &&& ((1 : Int32) <<< (nI (k % 8) &&& 31) ^^^ -1)) := by
      rw [g4, up_s, g3, up_s, g2, up_s, g1, up_s]
      simp only [upd_s, upd_n (show (1 : Nat) ≠ 0 by decide), upd_n (show (2 : Nat) ≠ 0 by decide), upd_n (show (2 : Nat) ≠ 1 by decide), upd_n (show (3 : Nat) ≠ 0 by decide), upd_n (show (3 : Nat) ≠ 1 by decide), upd_n (show (3 : Nat) ≠ 2 by decide)]
    rw [E4]
    show Rs P (va_up s.1 (k % 8) 8, va_up s.2.1 (k % 8) false, s.2.2) _
    refine ⟨?_, ?_, ?_, ?_, ?_, ?_⟩
    · simp only [upd_s, upd_n (show (0 : Nat) ≠ 1 by decide), upd_n (show (0 : Nat) ≠ 2 by decide), upd_n (show (0 : Nat) ≠ 3 by decide)]
      rw [r0]
      refine i_move (by omega) ?_
      have := dg_up (B := 16) (w := s.1) (x := 8) hin.1
      rw [h3] at this
      rw [Nat.pow_mul]
      exact this
    · simp only [upd_s, upd_n (show (1 : Nat) ≠ 2 by decide), upd_n (show (1 : Nat) ≠ 3 by decide)]
      rw [r1, i_one _ (by omega), nI_add]
      congr 1
      rw [← bs_add (p := inP s) hin.1 (by simp [inP, hn8])]
      exact bs_congr (fun i _ => by unfold inP va_up; by_cases e : i = k % 8 <;> simp [e])
    · simp only [upd_s, upd_n (show (2 : Nat) ≠ 3 by decide)]
      rw [r2, nI_add, ld_put hin.1 hn8]
    · simp only [upd_s]
      rw [r3, i_one _ (by omega)]
      exact i_clear (by omega) hin.1
    · simp only [upd_n (show (4 : Nat) ≠ 0 by decide), upd_n (show (4 : Nat) ≠ 1 by decide), upd_n (show (4 : Nat) ≠ 2 by decide), upd_n (show (4 : Nat) ≠ 3 by decide)]
      exact r4
    · simp only [upd_n (show (5 : Nat) ≠ 0 by decide), upd_n (show (5 : Nat) ≠ 1 by decide), upd_n (show (5 : Nat) ≠ 2 by decide), upd_n (show (5 : Nat) ≠ 3 by decide)]
      exact r5
  · -- it takes
    rw [h64, nI_ltI (by omega) (by omega)] at h1
    have hb : (H q 1 >>> (nI (k % 8) &&& 31)) &&& 1 = nI (if inP s (k % 8) = true then 1 else 0) := by rw [r1]; exact i_bit (by omega) hin.1
    rw [hb]
    refine ⟨fun h2 => ?_, fun h2 => ?_⟩
    case refine_2 =>
      refine none_ ?_
      have : ¬ s.1 (k % 8) = 8 := by
        intro z
        rw [if_pos (by simp [inP, z])] at h2
        exact absurd h2 (by decide)
      unfold rch
      rw [if_pos hin, if_pos (by omega), if_neg this]
    have h3 : s.1 (k % 8) = 8 := by
      by_cases z : s.1 (k % 8) = 8
      · exact z
      · rw [if_neg (by simp [inP, z])] at h2
        exact absurd rfl h2
    have hr' : rch P s k = some (va_up s.1 (k % 8) (k / 8 % 8), va_up s.2.1 (k % 8) true, s.2.2) := by
      unfold rch; rw [if_pos hin, if_pos (by omega), if_pos h3]
    intro H1 g1 H2 g2 H3 g3 H4 g4
    have hfin := hq H4 (fun c hc => by rw [g4, up_n hc, g3, up_n hc, g2, up_n hc, g1, up_n hc])
    unfold act at hfin
    rw [hr'] at hfin
    refine hfin ?_
    have E4 : H4 q = upd (upd (upd (upd (H q) 0 (H q 0 + (nI (k / 8 % 8) - 8) <<< (nI (4 * (k % 8)) &&& 31))) 1 (H q 1 - (1 : Int32) <<< (nI (k % 8) &&& 31))) 2 (H q 2 - nI (pSz P (k % 8)))) 3 (H q 3 ||| (1 : Int32) <<< (nI (k % 8) &&& 31)) := by
      rw [g4, up_s, g3, up_s, g2, up_s, g1, up_s]
      simp only [upd_s, upd_n (show (1 : Nat) ≠ 0 by decide), upd_n (show (2 : Nat) ≠ 0 by decide), upd_n (show (2 : Nat) ≠ 1 by decide), upd_n (show (3 : Nat) ≠ 0 by decide), upd_n (show (3 : Nat) ≠ 1 by decide), upd_n (show (3 : Nat) ≠ 2 by decide)]
    rw [E4]
    show Rs P (va_up s.1 (k % 8) (k / 8 % 8), va_up s.2.1 (k % 8) true, s.2.2) _
    have hc8 : ¬ k / 8 % 8 = 8 := by omega
    refine ⟨?_, ?_, ?_, ?_, ?_, ?_⟩
    · simp only [upd_s, upd_n (show (0 : Nat) ≠ 1 by decide), upd_n (show (0 : Nat) ≠ 2 by decide), upd_n (show (0 : Nat) ≠ 3 by decide)]
      rw [r0, show (8 : Int32) = nI 8 from rfl]
      refine i_move (by omega) ?_
      have := dg_up (B := 16) (w := s.1) (x := k / 8 % 8) hin.1
      rw [h3] at this
      rw [Nat.pow_mul]
      exact this
    · simp only [upd_s, upd_n (show (1 : Nat) ≠ 2 by decide), upd_n (show (1 : Nat) ≠ 3 by decide)]
      have hb2 := bs_sub (p := inP s) hin.1 (by simp [inP, h3])
      rw [r1, i_one _ (by omega), pk_sub (by omega)]
      congr 1
      have : bs (va_up (inP s) (k % 8) false) (pN P) = bs (inP (va_up s.1 (k % 8) (k / 8 % 8), va_up s.2.1 (k % 8) true, s.2.2)) (pN P) :=
        bs_congr (fun i _ => by unfold inP va_up; by_cases e : i = k % 8 <;> simp [e, hc8])
      omega
    · simp only [upd_s, upd_n (show (2 : Nat) ≠ 3 by decide)]
      have := ld_take (s := s) (c := k / 8 % 8) (q := (va_up s.2.1 (k % 8) true, s.2.2)) hin.1 h3 hc8
      rw [r2, pk_sub (by omega)]
      congr 1
      omega
    · simp only [upd_s]
      rw [r3, i_one _ (by omega), nI_or, bs_or_bit hin.1]
    · simp only [upd_n (show (4 : Nat) ≠ 0 by decide), upd_n (show (4 : Nat) ≠ 1 by decide), upd_n (show (4 : Nat) ≠ 2 by decide), upd_n (show (4 : Nat) ≠ 3 by decide)]
      exact r4
    · simp only [upd_n (show (5 : Nat) ≠ 0 by decide), upd_n (show (5 : Nat) ≠ 1 by decide), upd_n (show (5 : Nat) ≠ 2 by decide), upd_n (show (5 : Nat) ≠ 3 by decide)]
      exact r5
