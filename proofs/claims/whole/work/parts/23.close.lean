/-! spill, sendHome, close; become, placeOf -/
theorem st_ne {q : Nat} (hs : isSt q) {c : Nat} (h : shp c ≠ (6, 6)) : c ≠ q := fun e => h (by rw [e]; exact hs.2.1)
theorem fam_keep {P : Pm} {H H' : Hi} {q : Nat} (hs : isSt q) (hF : FamC P H) (h : ∀ c, c ≠ q → H' c = H c) : FamC P H' := by
  unfold FamC
  rw [h 5 (st_ne hs (by decide)), h 6 (st_ne hs (by decide)), h 7 (st_ne hs (by decide)), h 8 (st_ne hs (by decide)), h 9 (st_ne hs (by decide)), h 10 (st_ne hs (by decide)), h 11 (st_ne hs (by decide))]
  exact hF
theorem ct_become {E : En} {Q : Option Value → Hi → Prop} {H : Hi} {P : Pm} {q q2 : Nat} {s : Sg} (hs : isSt q) (hs2 : isSt q2) (hr : Rs P s (H q2))
    (hq : ∀ H' : Hi, (∀ c, c ≠ q → H' c = H c) → Rs P s (H' q) → Q none H') : Cm E mX6_become [rf E q, rf E q2] H Q := by
  refine cmX6_become hs hs2 ?_
  intro H1 g1 H2 g2 H3 g3 H4 g4 H5 g5 H6 g6
  refine hq H6 (fun c hc => by rw [g6, up_n hc, g5, up_n hc, g4, up_n hc, g3, up_n hc, g2, up_n hc, g1, up_n hc]) ?_
  by_cases e : q2 = q
  · subst e
    have hsame : ∀ (G : Hi) (k : Nat), up G q2 k (G q2 k) = G := by
      intro G k
      funext c k'
      by_cases hc : c = q2
      · subst hc
        rw [up_s]
        by_cases hk : k' = k
        · subst hk; rw [upd_s]
        · rw [upd_n hk]
      · rw [up_n hc]
    rw [hsame] at g1 g2 g3 g4 g5 g6
    rw [g6, g5, g4, g3, g2, g1]
    exact hr
  · have k2 : ∀ (G : Hi) (k : Nat) (x : Int32), up G q k x q2 = G q2 := fun G k x => up_n e
    have a1 : H1 q2 = H q2 := by rw [g1, k2]
    have a2 : H2 q2 = H q2 := by rw [g2, k2, a1]
    have a3 : H3 q2 = H q2 := by rw [g3, k2, a2]
    have a4 : H4 q2 = H q2 := by rw [g4, k2, a3]
    have a5 : H5 q2 = H q2 := by rw [g5, k2, a4]
    obtain ⟨r0, r1, r2, r3, r4, r5⟩ := hr
    have E6 : H6 q = upd (upd (upd (upd (upd (upd (H q) 0 (H q2 0)) 1 (H q2 1)) 2 (H q2 2)) 3 (H q2 3)) 4 (H q2 4)) 5 (H q2 5) := by
      rw [g6, up_s, a5, g5, up_s, a4, g4, up_s, a3, g3, up_s, a2, g2, up_s, a1, g1, up_s]
    rw [E6]
    refine ⟨?_, ?_, ?_, ?_, ?_, ?_⟩ <;> simp [upd, *]
theorem ct_placeOf {E : En} {Q : Option Value → Hi → Prop} {H : Hi} {P : Pm} {q : Nat} {s : Sg} {t : Nat} (hn : pN P ≤ 8) (hs : isSt q) (hr : Rs P s (H q)) (hw : Wf P s) (ht : t < pN P)
    (hq : Q (some (.int (nI (s.1 t)))) H) : Cm E mX6_placeOf [rf E q, .int (nI t)] H Q := by
  refine cmX6_placeOf hs ?_
  rw [hr.1, show (4 : Int32) = nI 4 from rfl, pk_mul, i_dig hn (wf16 hw) ht]
  exact hq
def spl (L : Nat → Bool) (i : Nat) (s : Sg) : Sg := (fun t => if t < i ∧ L t = true then 9 else s.1 t, s.2)
theorem spl_wf {P : Pm} {s : Sg} {L : Nat → Bool} {i : Nat} (hw : Wf P s) : Wf P (spl L i s) := by
  intro t ht
  have := hw t ht
  simp only [spl]
  split
  · exact ⟨by omega, fun z => by omega, fun z => by omega⟩
  · exact this
set_option maxHeartbeats 4000000 in
theorem spill_loop {E : En} {Q : Option Value → Hi → Prop} {P : Pm} {q : Nat} {s : Sg} {L : Nat → Bool} {H0 : Hi} (hs : isSt q) (hw : Wf P s) (hL : ∀ t, t < pN P → L t = true → s.1 t = 8)
    (hq : ∀ H' : Hi, (∀ c, c ≠ q → H' c = H0 c) → Rs P (spl L (pN P) s) (H' q) → Q none H') :
    ∀ (m i : Nat) (H : Hi), i + m = pN P → FamC P H → (∀ c, c ≠ q → H c = H0 c) → Rs P (spl L i s) (H q) →
      Rm E mX2_spill Q 7 [some (rf E 22), some (rf E q), some (.int (nI (bs L (pN P)))), some (.int (nI i))] [] H := by
  intro m
  induction m with
  | zero =>
    intro i H hi hF hc hr
    obtain ⟨ok, f0, -⟩ := id hF
    have := ok.1
    refine sgX2_spill_7 hs ⟨fun _ => ?_, fun h => ?_⟩
    · have e : i = pN P := by omega
      subst e
      exact hq H hc hr
    · rw [f0, nI_leI (by omega) (by omega)] at h; omega
  | succ m ih =>
    intro i H hi hF hc hr
    obtain ⟨ok, f0, f1, ft, -⟩ := id hF
    have hn := ok.1
    refine sgX2_spill_7 hs ⟨fun h => ?_, fun h => ⟨fun hb => ?_, fun hb => ?_⟩⟩
    · rw [f0, nI_leI (by omega) (by omega)] at h; omega
    · rw [i_bit (by omega) (show i < pN P by omega)] at hb
      have hLi : L i = false := by
        cases e : L i with
        | false => rfl
        | true => rw [if_pos e] at hb; exact absurd hb (by decide)
      intro x ex
      rw [nI_1] at ex
      subst ex
      refine ih (i + 1) H (by omega) hF hc ?_
      have e : spl L (i + 1) s = spl L i s := by
        unfold spl
        congr 1
        funext t
        by_cases e : t = i
        · subst e; simp [hLi]
        · have : (t < i + 1) = (t < i) := by apply propext; omega
          simp only [this]
      rw [e]; exact hr
    · rw [i_bit (by omega) (show i < pN P by omega)] at hb
      have hLi : L i = true := by
        cases e : L i with
        | true => rfl
        | false => rw [if_neg (by rw [e]; decide)] at hb; exact absurd rfl hb
      have h8 := hL i (by omega) hLi
      intro H1 g1 H2 g2
      refine ⟨i, ⟨by omega, rfl⟩, ?_⟩
      intro H3 g3 x ex
      rw [nI_1] at ex
      subst ex
      have hc3 : ∀ c, c ≠ q → H3 c = H c := fun c h => by rw [g3, up_n h, g2, up_n h, g1, up_n h]
      refine ih (i + 1) H3 (by omega) (fam_keep hs hF hc3) (fun c h => by rw [hc3 c h, hc c h]) ?_
      have hsz := ok.2.2.1 i (by omega)
      have e6 : H2 6 i = nI (pSz P i) := by rw [g2, up_n (st_ne hs (by decide)), g1, up_n (st_ne hs (by decide))]; exact (ft i (by omega)).1
      obtain ⟨r0, r1, r2, r3, r4, r5⟩ := hr
      have esp : spl L (i + 1) s = (va_up (spl L i s).1 i 9, s.2) := by
        unfold spl
        congr 1
        funext t
        unfold va_up
        by_cases e : t = i
        · subst e; simp [hLi]
        · have : (t < i + 1) = (t < i) := by apply propext; omega
          simp [this, e]
      have h8' : (spl L i s).1 i = 8 := by simp [spl, h8]
      have E3 : H3 q = upd (upd (upd (H q) 0 (H q 0 + (1 : Int32) <<< (nI (4 * i) &&& 31))) 1 (H q 1 - nI (2 ^ i))) 2 (H q 2 - nI (pSz P i)) := by
        rw [g3, up_s, e6, g2, up_s, g1, up_s, i_one i (by omega), show (4 : Int32) = nI 4 from rfl, pk_mul]
        simp only [upd_s, upd_n (show (1 : Nat) ≠ 0 by decide), upd_n (show (2 : Nat) ≠ 0 by decide), upd_n (show (2 : Nat) ≠ 1 by decide)]
      rw [E3, esp]
      refine ⟨?_, ?_, ?_, ?_, ?_, ?_⟩
      · simp only [upd_s, upd_n (show (0 : Nat) ≠ 1 by decide), upd_n (show (0 : Nat) ≠ 2 by decide)]
        rw [r0, show (1 : Int32) = nI 9 - nI 8 by decide]
        refine i_move (by omega) ?_
        have := dg_up (B := 16) (w := (spl L i s).1) (x := 9) (show i < pN P by omega)
        rw [h8'] at this
        rw [Nat.pow_mul]
        exact this
      · simp only [upd_s, upd_n (show (1 : Nat) ≠ 2 by decide)]
        have hb2 := bs_sub (p := inP (spl L i s)) (show i < pN P by omega) (by simp [inP, h8'])
        rw [r1, pk_sub (by omega)]
        congr 1
        have : bs (va_up (inP (spl L i s)) i false) (pN P) = bs (inP (va_up (spl L i s).1 i 9, s.2)) (pN P) :=
          bs_congr (fun j _ => by unfold inP va_up; by_cases e : j = i <;> simp [e])
        omega
      · simp only [upd_s]
        have := ld_take (s := spl L i s) (c := 9) (q := s.2) (show i < pN P by omega) h8' (by decide)
        rw [r2, pk_sub (by omega)]
        congr 1
        omega
      · simp only [upd_n (show (3 : Nat) ≠ 0 by decide), upd_n (show (3 : Nat) ≠ 1 by decide), upd_n (show (3 : Nat) ≠ 2 by decide)]
        exact r3
      · simp only [upd_n (show (4 : Nat) ≠ 0 by decide), upd_n (show (4 : Nat) ≠ 1 by decide), upd_n (show (4 : Nat) ≠ 2 by decide)]
        exact r4
      · simp only [upd_n (show (5 : Nat) ≠ 0 by decide), upd_n (show (5 : Nat) ≠ 1 by decide), upd_n (show (5 : Nat) ≠ 2 by decide)]
        exact r5
theorem spl_0 (L : Nat → Bool) (s : Sg) : spl L 0 s = s := by simp [spl]
theorem rs_congr {P : Pm} {s s' : Sg} {r : Nat → Int32} (h : ∀ t, t < pN P → s.1 t = s'.1 t ∧ s.2.1 t = s'.2.1 t ∧ s.2.2.1 t = s'.2.2.1 t ∧ s.2.2.2 t = s'.2.2.2 t) (hr : Rs P s r) : Rs P s' r := by
  obtain ⟨r0, r1, r2, r3, r4, r5⟩ := hr
  refine ⟨?_, ?_, ?_, ?_, ?_, ?_⟩
  · rw [r0, dg_congr (fun t ht => (h t ht).1)]
  · rw [r1, bs_congr (q := inP s') (fun t ht => by unfold inP; rw [(h t ht).1])]
  · rw [r2]; unfold ld; rw [sm_congr (fun t ht => by rw [(h t ht).1])]
  · rw [r3, bs_congr (fun t ht => (h t ht).2.1)]
  · rw [r4, bs_congr (fun t ht => (h t ht).2.2.1)]
  · rw [r5, bs_congr (fun t ht => (h t ht).2.2.2)]
theorem ct_spill {E : En} {Q : Option Value → Hi → Prop} {H : Hi} {P : Pm} {q : Nat} {s : Sg} {L : Nat → Bool} (hF : FamC P H) (hs : isSt q) (hr : Rs P s (H q)) (hw : Wf P s) (hL : ∀ t, t < pN P → L t = true → s.1 t = 8)
    (hq : ∀ H' : Hi, (∀ c, c ≠ q → H' c = H c) → Rs P (spl L (pN P) s) (H' q) → Q none H') : Cm E mX2_spill [rf E 22, rf E q, .int (nI (bs L (pN P)))] H Q := by
  have hn := hF.1.1
  have hlt : bs L (pN P) < 2 ^ 8 := Nat.lt_of_lt_of_le (bs_lt L _) (Nat.pow_le_pow_right (by decide) hn)
  refine cmX2_spill hs ⟨fun _ => ?_, fun h => ?_⟩
  · exact spill_loop hs hw hL hq (pN P) 0 H (by omega) hF (fun _ _ => rfl) (by rw [spl_0]; exact hr)
  · have h0 : bs L (pN P) = 0 := nI_inj (by omega) (by decide) h
    have h1 := bs_eq0.mp h0
    refine hq H (fun _ _ => rfl) (rs_congr (s := s) (s' := spl L (pN P) s) (fun t ht => ⟨by simp [spl, h1 t ht], rfl, rfl, rfl⟩) hr)
def shm (P : Pm) (i : Nat) (s : Sg) : Nat → Nat := fun t => if t < i ∧ s.1 t = 8 then pOw P t else s.1 t
set_option maxHeartbeats 4000000 in
theorem send_loop {E : En} {Q : Option Value → Hi → Prop} {P : Pm} {q : Nat} {s : Sg} {H0 : Hi} (hs : isSt q) (hw : Wf P s)
    (hq : ∀ H' : Hi, (∀ c, c ≠ q → H' c = H0 c) → Rs P (shm P (pN P) s, s.2) (H' q) → Q none H') :
    ∀ (m i : Nat) (H : Hi), i + m = pN P → FamC P H → (∀ c, c ≠ q → H c = H0 c) → H q 0 = nI (dg 16 (shm P i s) (pN P)) → H q 1 = nI (bs (inP s) (pN P)) → H q 3 = nI (bs s.2.1 (pN P)) → H q 4 = nI (bs s.2.2.1 (pN P)) → H q 5 = nI (bs s.2.2.2 (pN P)) →
      Rm E mX2_sendHome Q 2 [some (rf E 22), some (rf E q), some (.int (nI i))] [] H := by
  intro m
  induction m with
  | zero =>
    intro i H hi hF hc r0 r1 r3 r4 r5
    obtain ⟨ok, f0, -⟩ := id hF
    have hn := ok.1
    refine sgX2_sendHome_2 hs ⟨fun _ => ?_, fun h => ?_⟩
    · have e : i = pN P := by omega
      subst e
      intro H1 g1 H2 g2
      have hn8 : ∀ t, t < pN P → ¬ shm P (pN P) s t = 8 := by
        intro t ht z
        unfold shm at z
        split at z
        case isTrue h => have := (hw t ht).2.1 h.2; have := ok.2.1; omega
        case isFalse h => exact h ⟨ht, z⟩
      refine hq H2 (fun c h => by rw [g2, up_n h, g1, up_n h, hc c h]) ?_
      have E2 : H2 q = upd (upd (H q) 1 0) 2 0 := by rw [g2, up_s, g1, up_s]
      rw [E2]
      refine ⟨?_, ?_, ?_, ?_, ?_, ?_⟩
      · simp only [upd_n (show (0 : Nat) ≠ 1 by decide), upd_n (show (0 : Nat) ≠ 2 by decide)]; exact r0
      · simp only [upd_s, upd_n (show (1 : Nat) ≠ 2 by decide)]
        rw [bs_eq0.mpr (fun t ht => by simp [inP, hn8 t ht])]; rfl
      · simp only [upd_s]
        have : ld P (shm P (pN P) s, s.2) = 0 := by
          have := sm_congr (f := fun t => if shm P (pN P) s t = 8 then pSz P t else 0) (g := fun _ => 0) (n := pN P) (fun t ht => by rw [if_neg (hn8 t ht)])
          unfold ld
          rw [this]
          clear this
          induction pN P with
          | zero => rfl
          | succ n ih => simp only [sm, ih]
        rw [this]; rfl
      · simp only [upd_n (show (3 : Nat) ≠ 1 by decide), upd_n (show (3 : Nat) ≠ 2 by decide)]; exact r3
      · simp only [upd_n (show (4 : Nat) ≠ 1 by decide), upd_n (show (4 : Nat) ≠ 2 by decide)]; exact r4
      · simp only [upd_n (show (5 : Nat) ≠ 1 by decide), upd_n (show (5 : Nat) ≠ 2 by decide)]; exact r5
    · rw [f0, nI_leI (by omega) (by omega)] at h; omega
  | succ m ih =>
    intro i H hi hF hc r0 r1 r3 r4 r5
    obtain ⟨ok, f0, f1, ft, -⟩ := id hF
    have hn := ok.1
    have hi' : i < pN P := by omega
    refine sgX2_sendHome_2 hs ⟨fun h => ?_, fun h => ⟨fun hb => ?_, fun hb => ?_⟩⟩
    · rw [f0, nI_leI (by omega) (by omega)] at h; omega
    · rw [r1, i_bit (by omega) hi'] at hb
      have h8 : ¬ s.1 i = 8 := by
        intro z
        rw [if_pos (by simp [inP, z])] at hb; exact absurd hb (by decide)
      intro x ex
      rw [nI_1] at ex
      subst ex
      refine ih (i + 1) H (by omega) hF hc ?_ r1 r3 r4 r5
      rw [r0]
      congr 1
      refine dg_congr (fun t _ => ?_)
      unfold shm
      by_cases e : t = i
      · subst e; simp [h8]
      · have : (t < i + 1) = (t < i) := by apply propext; omega
        simp only [this]
    · rw [r1, i_bit (by omega) hi'] at hb
      have h8 : s.1 i = 8 := by
        by_cases z : s.1 i = 8
        · exact z
        · rw [if_neg (by simp [inP, z])] at hb; exact absurd rfl hb
      refine ⟨i, ⟨by omega, rfl⟩, ?_⟩
      intro H1 g1 x ex
      rw [nI_1] at ex
      subst ex
      have hc1 : ∀ c, c ≠ q → H1 c = H c := fun c h => by rw [g1, up_n h]
      have E1 : H1 q = upd (H q) 0 (H q 0 + (nI (pOw P i) - 8) <<< (nI (4 * i) &&& 31)) := by
        rw [g1, up_s, (ft i hi').2.1, show (4 : Int32) = nI 4 from rfl, pk_mul]
      refine ih (i + 1) H1 (by omega) (fam_keep hs hF hc1) (fun c h => by rw [hc1 c h, hc c h]) ?_ ?_ ?_ ?_ ?_
      · rw [E1, upd_s, r0, show (8 : Int32) = nI 8 from rfl]
        refine i_move (by omega) ?_
        have := dg_up (B := 16) (w := shm P i s) (x := pOw P i) hi'
        have e8 : shm P i s i = 8 := by simp [shm, h8]
        rw [e8] at this
        rw [Nat.pow_mul]
        have e2 : dg 16 (shm P (i + 1) s) (pN P) = dg 16 (va_up (shm P i s) i (pOw P i)) (pN P) := dg_congr (fun t _ => by
          unfold shm va_up
          by_cases e : t = i
          · subst e; simp [h8]
          · have : (t < i + 1) = (t < i) := by apply propext; omega
            simp [this, e])
        rw [e2]
        exact this
      · rw [E1, upd_n (by decide)]; exact r1
      · rw [E1, upd_n (by decide)]; exact r3
      · rw [E1, upd_n (by decide)]; exact r4
      · rw [E1, upd_n (by decide)]; exact r5
theorem ct_sendHome {E : En} {Q : Option Value → Hi → Prop} {H : Hi} {P : Pm} {q : Nat} {s : Sg} (hF : FamC P H) (hs : isSt q) (hr : Rs P s (H q)) (hw : Wf P s)
    (hq : ∀ H' : Hi, (∀ c, c ≠ q → H' c = H c) → Rs P (shm P (pN P) s, s.2) (H' q) → Q none H') : Cm E mX2_sendHome [rf E 22, rf E q] H Q := by
  obtain ⟨r0, r1, r2, r3, r4, r5⟩ := hr
  refine cmX2_sendHome hs ?_
  refine send_loop hs hw hq (pN P) 0 H (by omega) hF (fun _ _ => rfl) ?_ r1 r3 r4 r5
  rw [r0, dg_congr (w' := shm P 0 s) (fun t _ => by simp [shm])]
