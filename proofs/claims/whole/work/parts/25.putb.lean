/-! putBack, open, goOn -/
theorem mod2_and (x y : Nat) : (x &&& y) % 2 = if x % 2 = 1 ∧ y % 2 = 1 then 1 else 0 := by
  have h := Nat.testBit_and x y 0
  rw [Nat.testBit_zero, Nat.testBit_zero, Nat.testBit_zero] at h
  have h' : ((x &&& y) % 2 = 1) ↔ (x % 2 = 1 ∧ y % 2 = 1) := by
    constructor
    · intro z
      rw [decide_eq_true z] at h
      have := h.symm
      rw [Bool.and_eq_true, decide_eq_true_iff, decide_eq_true_iff] at this
      exact this
    · intro z
      rw [decide_eq_true z.1, decide_eq_true z.2] at h
      exact of_decide_eq_true h
  by_cases z : x % 2 = 1 ∧ y % 2 = 1
  · rw [if_pos z]; exact h'.mpr z
  · rw [if_neg z]
    have : ¬ (x &&& y) % 2 = 1 := fun q => z (h'.mp q)
    omega
theorem i_bit2 {p r : Nat → Bool} {m n c t : Nat} (hm : m ≤ 31) (hn : n ≤ 31) (hc : c < m) (ht : t < n) : ((nI (bs p m) >>> (nI c &&& 31)) &&& (nI (bs r n) >>> (nI t &&& 31))) &&& 1 = nI (if p c = true ∧ r t = true then 1 else 0) := by
  have h1 : bs p m < 2 ^ 31 := Nat.lt_of_lt_of_le (bs_lt p m) (Nat.pow_le_pow_right (by decide) hm)
  have h2 : bs r n < 2 ^ 31 := Nat.lt_of_lt_of_le (bs_lt r n) (Nat.pow_le_pow_right (by decide) hn)
  rw [i_shr h1 (by omega), i_shr h2 (by omega), nI_and, i_and1 (Nat.lt_of_le_of_lt Nat.and_le_left (Nat.lt_of_le_of_lt (Nat.div_le_self _ _) (by omega))), mod2_and]
  have e1 : bs p m / 2 ^ c % 2 = bw p c := dg_get (by decide) (fun t _ => bw_lt p t) hc
  have e2 : bs r n / 2 ^ t % 2 = bw r t := dg_get (by decide) (fun t _ => bw_lt r t) ht
  rw [e1, e2]
  unfold bw
  cases p c <;> cases r t <;> rfl
theorem itN_id {α : Type} {f : α → Nat → α} {a : α} : ∀ {n : Nat}, (∀ i, i < n → f a i = a) → itN f n a = a
  | 0, _ => rfl
  | n + 1, h => by simp only [itN]; rw [itN_id (fun i hi => h i (by omega))]; exact h n (by omega)
theorem pb2_id {P : Pm} {tk : Nat → Bool} {c : Nat} {s : Sg} (h : ∀ t, t < pN P → ¬ (pHo P c = true ∧ tk t = true)) : pb2 P tk s c = s :=
  itN_id (fun t ht => by unfold pb1; rw [if_neg (fun z => h t ht ⟨z.1, z.2.1⟩)])
set_option maxHeartbeats 4000000 in
theorem putb_in {E : En} {Q : Option Value → Hi → Prop} {P : Pm} {q : Nat} {tk : Nat → Bool} {c : Nat} {H0 : Hi} {s0 : Sg} (hs : isSt q) (hc0 : c < pM P)
    (hout : ∀ H : Hi, FamC P H → (∀ d, d ≠ q → H d = H0 d) → Rs P (pb2 P tk s0 c) (H q) → Wf P (pb2 P tk s0 c) → Rm E mX2_putBack Q 27 [some (rf E 22), some (rf E q), some (.int (nI (bs tk (pN P)))), some (.int (nI (c + 1))), none, none] [] H) :
    ∀ (m t : Nat) (H : Hi), t + m = pN P → FamC P H → (∀ d, d ≠ q → H d = H0 d) → Rs P (itN (pb1 P tk c) t s0) (H q) → Wf P (itN (pb1 P tk c) t s0) →
      Rm E mX2_putBack Q 41 [some (rf E 22), some (rf E q), some (.int (nI (bs tk (pN P)))), some (.int (nI c)), some (.int (nI t)), none] [] H := by
  intro m
  induction m with
  | zero =>
    intro t H ht hF hc hr hw
    have ht' : t = pN P := by omega
    subst ht'
    have hn := hF.1.1
    refine sgX2_putBack_41 hs ⟨fun _ => ?_, fun z => ?_⟩
    · intro x ex
      rw [nI_1] at ex
      subst ex
      exact hout H hF hc hr hw
    · rw [hF.2.1] at z
      exact absurd (Int32.le_refl _) z
  | succ m ih =>
    intro t H ht hF hc hr hw
    obtain ⟨ok, f0, f1, ft, f6, -⟩ := id hF
    have hn := ok.1
    have hm := ok.2.1
    have ht' : t < pN P := by omega
    have how := (ok.2.2.1 t ht').2.2.1
    have hnext : ∀ (H1 : Hi), FamC P H1 → (∀ d, d ≠ q → H1 d = H0 d) → Rs P (pb1 P tk c (itN (pb1 P tk c) t s0) t) (H1 q) → Rm E mX2_putBack Q 41 [some (rf E 22), some (rf E q), some (.int (nI (bs tk (pN P)))), some (.int (nI c)), some (.int (nI (t + 1))), none] [] H1 :=
      fun H1 F1 c1 R1 => ih (t + 1) H1 (by omega) F1 c1 R1 (pb1_wf hw)
    have hskip : ¬ (pHo P c = true ∧ tk t = true ∧ pOw P t ≠ c) → Rm E mX2_putBack Q 41 [some (rf E 22), some (rf E q), some (.int (nI (bs tk (pN P)))), some (.int (nI c)), some (.int (nI (t + 1))), none] [] H := by
      intro z
      refine hnext H hF hc ?_
      unfold pb1
      rw [if_neg z]
      exact hr
    refine sgX2_putBack_41 hs ⟨fun z => ?_, fun _ => ?_⟩
    · rw [f0, nI_leI (by omega) (by omega)] at z; omega
    rw [f6, i_bit2 (by omega) (by omega) hc0 ht']
    refine ⟨fun z => ⟨fun _ => ?_, fun z2 => absurd rfl z2⟩, fun z => ?_⟩
    · intro x ex
      rw [nI_1] at ex
      subst ex
      refine hskip (fun z3 => ?_)
      rw [if_pos ⟨z3.1, z3.2.1⟩] at z
      exact absurd z (by decide)
    have hb : pHo P c = true ∧ tk t = true := by
      by_cases z2 : pHo P c = true ∧ tk t = true
      · exact z2
      · rw [if_neg z2] at z; exact absurd rfl z
    refine ⟨t, ⟨by omega, rfl⟩, ?_⟩
    rw [(ft t ht').2.1]
    refine ⟨fun z2 => ⟨fun _ => ?_, fun z3 => absurd rfl z3⟩, fun z2 => ⟨fun z3 => absurd z3 (by decide), fun _ => ?_⟩⟩
    · intro x ex
      rw [nI_1] at ex
      subst ex
      exact hskip (fun z3 => z3.2.2 (nI_inj (by omega) (by omega) z2))
    · have hcode : (8 : Int32) * nI c + nI t = nI (8 * c + t) := by rw [show (8 : Int32) = nI 8 from rfl, pk_mul, nI_add]
      rw [hcode]
      refine ct_reach hF hs hr hw (by omega) ?_
      intro H1 c1 R1
      refine ⟨_, rfl, ?_⟩
      intro x ex
      rw [nI_1] at ex
      subst ex
      refine hnext H1 (fam_keep hs hF c1) (fun d hd => by rw [c1 d hd, hc d hd]) ?_
      unfold pb1
      rw [if_pos ⟨hb.1, hb.2, fun z3 => z2 (by rw [z3])⟩]
      exact R1
set_option maxHeartbeats 4000000 in
theorem putb_out {E : En} {Q : Option Value → Hi → Prop} {P : Pm} {q : Nat} {tk : Nat → Bool} {H0 : Hi} {s0 : Sg} (hs : isSt q)
    (hq : ∀ H' : Hi, (∀ c, c ≠ q → H' c = H0 c) → Rs P (itN (pb2 P tk) (pM P) s0) (H' q) → Q none H') :
    ∀ (m c : Nat) (H : Hi), c + m = pM P → FamC P H → (∀ d, d ≠ q → H d = H0 d) → Rs P (itN (pb2 P tk) c s0) (H q) → Wf P (itN (pb2 P tk) c s0) →
      Rm E mX2_putBack Q 27 [some (rf E 22), some (rf E q), some (.int (nI (bs tk (pN P)))), some (.int (nI c)), none, none] [] H := by
  intro m
  induction m with
  | zero =>
    intro c H hcm hF hc hr hw
    have e : c = pM P := by omega
    subst e
    refine sgX2_putBack_27 hs ⟨fun _ => hq H hc hr, fun z => ?_⟩
    rw [hF.2.2.1] at z
    exact absurd (Int32.le_refl _) z
  | succ m ih =>
    intro c H hcm hF hc hr hw
    have hm := hF.1.2.1
    refine sgX2_putBack_27 hs ⟨fun z => ?_, fun _ => ?_⟩
    · rw [hF.2.2.1, nI_leI (by omega) (by omega)] at z; omega
    exact putb_in (s0 := itN (pb2 P tk) c s0) hs (by omega) (fun H1 F1 c1 R1 w1 => ih (c + 1) H1 (by omega) F1 c1 R1 w1) (pN P) 0 H (by omega) hF hc hr hw
theorem ct_putBack {E : En} {Q : Option Value → Hi → Prop} {H : Hi} {P : Pm} {q : Nat} {s : Sg} (hF : FamC P H) (hs : isSt q) (hr : Rs P s (H q)) (hw : Wf P s)
    (hq : ∀ H' : Hi, (∀ c, c ≠ q → H' c = H c) → Rs P (putB P s) (H' q) → Q none H') : Cm E mX2_putBack [rf E 22, rf E q] H Q := by
  obtain ⟨ok, f0, f1, ft, f6, -⟩ := id hF
  have hn := ok.1
  have hm := ok.2.1
  obtain ⟨r0, r1, r2, r3, r4, r5⟩ := id hr
  refine cmX2_putBack hs ?_
  intro x2 e2 H1 g1
  rw [r3] at e2
  subst e2
  have c1 : ∀ c, c ≠ q → H1 c = H c := fun c hc => by rw [g1, up_n hc]
  have R1 : Rs P (s.1, (fun _ => false), s.2.2) (H1 q) := by
    rw [g1, up_s]
    refine ⟨?_, ?_, ?_, ?_, ?_, ?_⟩
    · rw [upd_n (by decide)]; exact r0
    · rw [upd_n (by decide)]; exact r1
    · rw [upd_n (by decide)]; exact r2
    · rw [upd_s, bs_zero]; rfl
    · rw [upd_n (by decide)]; exact r4
    · rw [upd_n (by decide)]; exact r5
  have F1 := fam_keep hs hF c1
  have hid : (∀ c, c < pM P → ∀ t, t < pN P → ¬ (pHo P c = true ∧ s.2.1 t = true)) → Q none H1 := by
    intro z
    refine hq H1 c1 ?_
    unfold putB
    rw [itN_id (fun c hc => pb2_id (z c hc))]
    exact R1
  have hlt : bs s.2.1 (pN P) < 2 ^ 8 := Nat.lt_of_lt_of_le (bs_lt _ _) (Nat.pow_le_pow_right (by decide) hn)
  have hlt2 : bs (pHo P) (pM P) < 2 ^ 8 := Nat.lt_of_lt_of_le (bs_lt _ _) (Nat.pow_le_pow_right (by decide) hm)
  refine ⟨fun z => hid ?_, fun _ => ⟨fun _ => ?_, fun z => hid ?_⟩⟩
  · have h0 := bs_eq0.mp (nI_inj (by omega) (by decide) z)
    intro c hc t ht z2
    rw [h0 t ht] at z2
    exact absurd z2.2 (by decide)
  · exact putb_out (s0 := (s.1, (fun _ => false), s.2.2)) hs hq (pM P) 0 H1 (by omega) F1 c1 R1 hw
  · rw [F1.2.2.2.2.1] at z
    have h0 := bs_eq0.mp (nI_inj (by omega) (by decide) z)
    intro c hc t ht z2
    rw [h0 c hc] at z2
    exact absurd z2.1 (by decide)
/-- which hands of an hour work -/
def wkH (P : Pm) (hd : Hd) (h : Nat) (s : Sg) : Nat := wkF P hd h 0 hd.1 (putB P s) 0
theorem ct_open {E : En} {Q : Option Value → Hi → Prop} {H : Hi} {P : Pm} {hd : Hd} {a h q : Nat} {s : Sg} (hF : FamC P H) (hT : ToldC P hd a H) (hs : isSt q) (hr : Rs P s (H q)) (hw : Wf P s) (hh : h < 24)
    (hq : ∀ H' : Hi, (∀ c, c ≠ q → H' c = H c) → Rs P (mid P hd h s) (H' q) → Q (some (.int (nI (wkH P hd h s)))) H') : Cm E mX2_open [rf E 22, rf E q, .int (nI h)] H Q := by
  refine cmX2_open hs ?_
  refine ct_putBack hF hs hr hw ?_
  intro H1 c1 R1
  have T1 := told_keep hs hT c1
  refine ⟨rfl, h, ⟨by omega, rfl⟩, h + 1, ⟨by omega, nI_1 h⟩, ?_⟩
  rw [T1.2.2.1 h (by omega), T1.2.2.1 (h + 1) (by omega)]
  refine ct_tell (h := h) (k := 0) (fam_keep hs hF c1) T1 hs R1 (putB_wf hw) hh (Nat.zero_le _) ?_
  intro H2 c2 R2
  refine ⟨_, rfl, ?_⟩
  rw [Nat.sub_zero] at R2 ⊢
  rw [itF_0] at R2
  exact hq H2 (fun c hc => by rw [c2 c hc, c1 c hc]) R2
/-- from just behind an hour's hands to behind a later hour -/
def goN (P : Pm) (hd : Hd) (a : Nat) (h : Nat) : Nat → Sg → Sg
  | 0, s => s
  | m + 1, s => goN P hd a (h + 1) m (hr P hd a h s)
theorem goon_loop {E : En} {Q : Option Value → Hi → Prop} {P : Pm} {hd : Hd} {a q to : Nat} {H0 : Hi} (hs : isSt q) (hto : to < 24) :
    ∀ (m h : Nat) (H : Hi) (s : Sg), h + m = to + 1 → FamC P H → ToldC P hd a H → (∀ d, d ≠ q → H d = H0 d) → Rs P s (H q) → Wf P s →
      (∀ H' : Hi, (∀ c, c ≠ q → H' c = H0 c) → Rs P (goN P hd a h m s) (H' q) → Q none H') →
      Rm E mX2_goOn Q 18 [some (rf E 22), some (rf E q), none, some (.int (nI to)), some (.int (nI h))] [] H := by
  intro m
  induction m with
  | zero =>
    intro h H s hm hF hT hc hr hw hq
    refine sgX2_goOn_18 hs ⟨fun _ => hq H hc hr, fun z => ?_⟩
    rw [nI_ltI (by omega) (by omega)] at z; omega
  | succ m ih =>
    intro h H s hm hF hT hc hr hw hq
    refine sgX2_goOn_18 hs ⟨fun z => ?_, fun _ => ?_⟩
    · rw [nI_ltI (by omega) (by omega)] at z; omega
    refine ct_open hF hT hs hr hw (by omega) ?_
    intro H1 c1 R1
    refine ⟨_, rfl, ?_⟩
    have F1 := fam_keep hs hF c1
    have T1 := told_keep hs hT c1
    rw [T1.2.2.2.2.2.2.1]
    refine ct_close F1 T1 hs R1 (mid_wf hw) (by omega) T1.2.2.2.2.2.2.2 ?_
    intro H2 c2 R2
    refine ⟨rfl, ?_⟩
    intro x ex
    rw [nI_1] at ex
    subst ex
    exact ih (h + 1) H2 (clo P a h (mid P hd h s)) (by omega) (fam_keep hs F1 c2) (told_keep hs T1 c2) (fun d hd' => by rw [c2 d hd', c1 d hd', hc d hd']) R2 (clo_wf hF.1.2.1 (mid_wf hw)) hq
theorem ct_goOn {E : En} {Q : Option Value → Hi → Prop} {H : Hi} {P : Pm} {hd : Hd} {a h to q : Nat} {s : Sg} (hF : FamC P H) (hT : ToldC P hd a H) (hs : isSt q) (hr : Rs P s (H q)) (hw : Wf P s) (hh : h ≤ to) (hto : to < 24)
    (hq : ∀ H' : Hi, (∀ c, c ≠ q → H' c = H c) → Rs P (goN P hd a (h + 1) (to - h) (clo P a h s)) (H' q) → Q none H') : Cm E mX2_goOn [rf E 22, rf E q, .int (nI h), .int (nI to)] H Q := by
  refine cmX2_goOn hs ?_
  rw [hT.2.2.2.2.2.2.1]
  refine ct_close hF hT hs hr hw (by omega) hT.2.2.2.2.2.2.2 ?_
  intro H1 c1 R1
  refine ⟨rfl, ?_⟩
  intro x ex
  rw [nI_1] at ex
  subst ex
  exact goon_loop hs hto (to - h) (h + 1) H1 (clo P a h s) (by omega) (fam_keep hs hF c1) (told_keep hs hT c1) c1 R1 (clo_wf hF.1.2.1 hw) hq
