/-! learnThings, learnCousins, arrange -/
def ThC (N : Nat) (b : Nat → Nat) (H : Hi) : Prop := (∀ t, t < N → H 6 t = nI (tSz b t) ∧ H 7 t = nI (tOw b t) ∧ H 8 t = nI (tKd b t)) ∧ H 5 7 = nI (bs (fun t => decide (tKd b t = 1)) N) ∧ H 5 8 = nI (sm (tSz b) N) ∧ ∀ s, s < 10 → H 10 s = nI (bs (fun t => decide (tSz b t ≤ s)) N)
/-- nothing but the things' cells has changed -/
def frT (H0 H : Hi) : Prop := (∀ c, c ≠ 5 → c ≠ 6 → c ≠ 7 → c ≠ 8 → c ≠ 10 → H c = H0 c) ∧ ∀ k, k ≠ 0 → k ≠ 7 → k ≠ 8 → H 5 k = H0 5 k
set_option maxHeartbeats 4000000 in
theorem lt_in {E : En} {Q : Option Value → Hi → Prop} {b : Nat → Nat} {t : Nat} {H0 : Hi} (ht : t < 8) (hz : tSz b t < 10)
    (hout : ∀ H : Hi, (∀ c, c ≠ 10 → H c = H0 c) → (∀ s, s < 10 → H 10 s = nI (bs (fun t => decide (tSz b t ≤ s)) (t + 1))) → Rm E mX0_learnThings Q 33 [some (rf E 5), some (rf E 1), some (.int (nI (t + 1))), none] [] H)
    (h6 : H0 6 t = nI (tSz b t)) :
    ∀ (m s : Nat) (H : Hi), s + m = 10 → (∀ c, c ≠ 10 → H c = H0 c) → (∀ j, j < 10 → H 10 j = nI (bs (fun t => decide (tSz b t ≤ j)) (if j < s then t + 1 else t))) →
      Rm E mX0_learnThings Q 118 [some (rf E 5), some (rf E 1), some (.int (nI t)), some (.int (nI s))] [] H := by
  intro m
  induction m with
  | zero =>
    intro s H hs hc hv
    have e : s = 10 := by omega
    subst e
    refine sgX0_learnThings_118 ⟨fun _ => ?_, fun z => absurd (by decide) z⟩
    intro x ex
    rw [nI_1] at ex
    subst ex
    exact hout H hc (fun j hj => by rw [hv j hj, if_pos hj])
  | succ m ih =>
    intro s H hs hc hv
    refine sgX0_learnThings_118 ⟨fun z => ?_, fun _ => ?_⟩
    · rw [show (10 : Int32) = nI 10 from rfl, nI_leI (by omega) (by omega)] at z; omega
    refine ⟨t, ⟨ht, rfl⟩, ?_⟩
    rw [hc 6 (by decide), h6]
    have hvs := hv s (by omega)
    rw [if_neg (Nat.lt_irrefl s)] at hvs
    refine ⟨fun z => ?_, fun z => ?_⟩
    · rw [nI_ltI (by omega) (by omega)] at z
      intro x ex
      rw [nI_1] at ex
      subst ex
      refine ih (s + 1) H (by omega) hc (fun j hj => ?_)
      by_cases e : j = s
      · subst e
        rw [hvs, if_pos (by omega), bs_succ, if_neg (by simp; omega)]
      · rw [hv j hj]
        have : (j < s + 1) = (j < s) := by apply propext; omega
        simp only [this]
    · rw [nI_ltI (by omega) (by omega)] at z
      refine ⟨s, ⟨by omega, rfl⟩, s, ⟨by omega, rfl⟩, ?_⟩
      intro H1 g1 x ex
      rw [nI_1] at ex
      subst ex
      refine ih (s + 1) H1 (by omega) (fun c h => by rw [g1, up_n h, hc c h]) (fun j hj => ?_)
      rw [g1, up_s]
      by_cases e : j = s
      · subst e
        rw [upd_s, hvs, i_one t (by omega), nI_or, if_pos (by omega), bs_succ, if_pos (by simp; omega)]
      · rw [upd_n e, hv j hj]
        have : (j < s + 1) = (j < s) := by apply propext; omega
        simp only [this]
set_option maxHeartbeats 8000000 in
theorem lt_out {E : En} {Q : Option Value → Hi → Prop} {n0 n1 : Nat} {b0 b1 : Nat → Nat} {H0 : Hi}
    (hq : ∀ H' : Hi, frT H0 H' → H' 5 0 = nI (famN n0 b0) → ThC (famN n0 b0) b0 H' → Q none H') :
    ∀ (m t : Nat) (H : Hi), t + m = famN n0 b0 → TxC n0 b0 n1 b1 H → frT H0 H → H 5 0 = nI (famN n0 b0) → ThC t b0 H →
      Rm E mX0_learnThings Q 33 [some (rf E 5), some (rf E 1), some (.int (nI t)), none] [] H := by
  intro m
  induction m with
  | zero =>
    intro t H hm hT hf h0 hC
    have e : t = famN n0 b0 := by omega
    subst e
    refine sgX0_learnThings_33 ⟨fun _ => hq H hf h0 hC, fun z => ?_⟩
    rw [h0] at z; exact absurd (Int32.le_refl _) z
  | succ m ih =>
    intro t H hm hT hf h0 hC
    have hN := famN_le (b := b0) hT.2.2.1
    have ht : t < famN n0 b0 := by omega
    obtain ⟨a1, a2, a3, a4, a5, a6⟩ := fam_t ht
    have hb0 := (hT.2.2.2.1 (4 * t) (by omega)).2
    have hb1 := (hT.2.2.2.1 (4 * t + 1) (by omega)).2
    have hb2 := (hT.2.2.2.1 (4 * t + 2) (by omega)).2
    refine sgX0_learnThings_33 ⟨fun z => ?_, fun _ => ?_⟩
    · rw [h0, nI_leI (by omega) (by omega)] at z; omega
    refine ct_sign1 (r := 0) hT (by decide) (by omega) ?_
    rw [Nat.add_zero, ix_0 _ hb0, if_pos ⟨a2, a3⟩]
    refine ⟨_, rfl, t, ⟨by omega, rfl⟩, ?_⟩
    intro H1 g1
    have hT1 : TxC n0 b0 n1 b1 H1 := tx_keep hT (fun c _ h => by rw [g1, up_n (by omega)])
    refine ct_sign1 (r := 1) hT1 (by decide) (by omega) ?_
    rw [ix_1 _ hb1, if_pos ⟨a4, a5⟩]
    refine ⟨_, rfl, t, ⟨by omega, rfl⟩, ?_⟩
    intro H2 g2
    have hT2 : TxC n0 b0 n1 b1 H2 := tx_keep hT1 (fun c _ h => by rw [g2, up_n (by omega)])
    refine ct_sign1 (r := 2) hT2 (by decide) (by omega) ?_
    have hk : ixB 2 (b0 (4 * t + 2)) = nI (tKd b0 t) := by
      rw [ix_2 _ hb2]
      unfold tKd
      rcases a6 with e | e | e <;> rw [e] <;> rfl
    rw [hk]
    refine ⟨_, rfl, t, ⟨by omega, rfl⟩, ?_⟩
    intro H3 g3
    refine ⟨t, ⟨by omega, rfl⟩, ?_⟩
    intro H4 g4
    refine ⟨t, ⟨by omega, rfl⟩, ?_⟩
    have s6 : H3 6 = upd (H 6) t (nI (b0 (4 * t) - 49) + 1) := by rw [g3, up_n (by decide), g2, up_n (by decide), g1, up_s]
    have s7 : H3 7 = upd (H 7) t (nI (b0 (4 * t + 1) - 48)) := by rw [g3, up_n (by decide), g2, up_s, g1, up_n (by decide)]
    have s8 : H3 8 = upd (H 8) t (nI (tKd b0 t)) := by rw [g3, up_s, g2, up_n (by decide), g1, up_n (by decide)]
    have s5 : H3 5 = H 5 := by rw [g3, up_n (by decide), g2, up_n (by decide), g1, up_n (by decide)]
    have so : ∀ c, c ≠ 6 → c ≠ 7 → c ≠ 8 → H3 c = H c := fun c z1 z2 z3 => by rw [g3, up_n z3, g2, up_n z2, g1, up_n z1]
    have esz : nI (b0 (4 * t) - 49) + 1 = nI (tSz b0 t) := by rw [nI_1]; unfold tSz; congr 1; omega
    rw [esz] at s6
    have f5 : H4 5 = upd (H 5) 8 (H 5 8 + nI (tSz b0 t)) := by rw [g4, up_s, s5, s6, upd_s]
    have fo : ∀ c, c ≠ 5 → H4 c = H3 c := fun c z => by rw [g4, up_n z]
    obtain ⟨c1, c2, c3, c4⟩ := id hC
    have e8 : H4 8 t = nI (tKd b0 t) := by rw [fo 8 (by decide), s8, upd_s]
    rw [e8]
    -- what the inner loop begins with, whichever way
    have go : ∀ G : Hi, (∀ c, c ≠ 5 → G c = H4 c) → (∀ k, k ≠ 7 → G 5 k = H4 5 k) → G 5 7 = nI (bs (fun t => decide (tKd b0 t = 1)) (t + 1)) →
        Rm E mX0_learnThings Q 118 [some (rf E 5), some (rf E 1), some (.int (nI t)), some (.int (nI 0))] [] G := by
      intro G k1 k2 k3
      refine lt_in (b := b0) (H0 := G) (by omega) (by unfold tSz; omega) ?_ (by rw [k1 6 (by decide), fo 6 (by decide), s6, upd_s]) 10 0 G (by omega) (fun _ _ => rfl) (fun j hj => ?_)
      · intro H5 z1 z2
        have e5 : H5 5 = G 5 := z1 5 (by decide)
        refine ih (t + 1) H5 (by omega) ?_ ⟨fun c h1 h2 h3 h4 h5 => ?_, fun k h1 h2 h3 => ?_⟩ ?_ ⟨fun t' ht' => ?_, ?_, ?_, z2⟩
        · exact tx_keep hT (fun c h1 h2 => by rw [z1 c (by omega), k1 c (by omega), fo c (by omega), so c (by omega) (by omega) (by omega)])
        · rw [z1 c h5, k1 c h1, fo c h1, so c h2 h3 h4]; exact hf.1 c h1 h2 h3 h4 h5
        · rw [e5, k2 k h2, f5, upd_n h3]; exact hf.2 k h1 h2 h3
        · rw [e5, k2 0 (by decide), f5, upd_n (by decide)]; exact h0
        · rw [z1 6 (by decide), k1 6 (by decide), fo 6 (by decide), s6, z1 7 (by decide), k1 7 (by decide), fo 7 (by decide), s7, z1 8 (by decide), k1 8 (by decide), fo 8 (by decide), s8]
          by_cases e : t' = t
          · subst e; rw [upd_s, upd_s, upd_s]; exact ⟨rfl, rfl, rfl⟩
          · rw [upd_n e, upd_n e, upd_n e]; exact c1 t' (by omega)
        · rw [e5]; exact k3
        · rw [e5, k2 8 (by decide), f5, upd_s, c3, nI_add]; rfl
      · rw [if_neg (Nat.not_lt_zero j), k1 10 (by decide), fo 10 (by decide), so 10 (by decide) (by decide) (by decide)]
        exact c4 j hj
    refine ⟨fun z => ?_, fun z => ?_⟩
    · have hk1 : ¬ tKd b0 t = 1 := fun e => z (by rw [e]; rfl)
      refine go H4 (fun _ _ => rfl) (fun _ _ => rfl) ?_
      rw [f5, upd_n (by decide), c2, bs_succ, if_neg (by simp [hk1])]
    · have hk1 : tKd b0 t = 1 := by
        unfold tKd at z ⊢
        split
        · rfl
        · rw [if_neg (by assumption)] at z
          split at z
          · exact absurd z (by decide)
          · exact absurd z (by decide)
      intro H5 g5
      refine go H5 (fun c h => by rw [g5, up_n h]) (fun k h => by rw [g5, up_s, upd_n h]) ?_
      rw [g5, up_s, upd_s, f5, upd_n (by decide), c2, i_one t (by omega), nI_or, bs_succ, if_pos (by simp [hk1])]
theorem mmin_8 {n : Nat} (h : n ≤ 8) : mmin (nI n) 8 = nI n := by
  unfold mmin
  rw [if_neg]
  rw [show (8 : Int32) = nI 8 from rfl, nI_ltI (by omega) (by omega)]; omega
theorem sh_10 : shp 10 = (100, 10) ∧ (10 : Nat) < nN ∧ rfL.getD 10 [] = [] ∧ (10 : Nat) < 2 ^ 31 := ⟨rfl, by decide, rfl, by decide⟩
theorem sh_21 : shp 21 = (100, 24) ∧ (21 : Nat) < nN ∧ rfL.getD 21 [] = [] ∧ (24 : Nat) < 2 ^ 31 := ⟨rfl, by decide, rfl, by decide⟩
theorem ct_learnT {E : En} {Q : Option Value → Hi → Prop} {H : Hi} {n0 n1 : Nat} {b0 b1 : Nat → Nat} (hT : TxC n0 b0 n1 b1 H)
    (hq : ∀ H' : Hi, frT H H' → H' 5 0 = nI (famN n0 b0) → ThC (famN n0 b0) b0 H' → Q none H') : Cm E mX0_learnThings [rf E 5, rf E 1] H Q := by
  have hN := famN_le (b := b0) hT.2.2.1
  refine cmX0_learnThings ?_
  refine ct_items1 hT ⟨_, rfl, ?_⟩
  intro H1 g1 H2 g2 H3 g3
  refine ct_fill sh_10 ?_
  intro H4 c4 v4
  refine ⟨rfl, ?_⟩
  have e5 : H4 5 = upd (upd (upd (H 5) 0 (nI (famN n0 b0))) 7 0) 8 0 := by
    rw [c4 5 (by decide), g3, up_s, g2, up_s, g1, up_s, mmin_8 hN]
  have eo : ∀ c, c ≠ 5 → c ≠ 10 → H4 c = H c := fun c h1 h2 => by rw [c4 c h2, g3, up_n h1, g2, up_n h1, g1, up_n h1]
  refine lt_out hq (famN n0 b0) 0 H4 (by omega) (tx_keep hT (fun c h1 h2 => eo c (by omega) (by omega))) ⟨fun c h1 h2 h3 h4 h5 => eo c h1 h5, fun k h1 h2 h3 => ?_⟩ ?_ ⟨fun t ht => by omega, ?_, ?_, fun s hs => ?_⟩
  · rw [e5, upd_n h3, upd_n h2, upd_n h1]
  · rw [e5, upd_n (by decide), upd_n (by decide), upd_s]
  · rw [e5, upd_n (by decide), upd_s]; rfl
  · rw [e5, upd_s]; rfl
  · rw [v4 s hs]; rfl
def CoC (M : Nat) (b : Nat → Nat) (H : Hi) : Prop := H 5 6 = nI (bs (cHo b) M) ∧ ∀ c, c < M → H 9 c = if cWi b c < 8 then nI (cWi b c) else -1
def frC (H0 H : Hi) : Prop := (∀ c, c ≠ 5 → c ≠ 9 → H c = H0 c) ∧ ∀ k, k ≠ 1 → k ≠ 6 → H 5 k = H0 5 k
set_option maxHeartbeats 4000000 in
theorem lc_loop {E : En} {Q : Option Value → Hi → Prop} {n0 n1 : Nat} {b0 b1 : Nat → Nat} {H0 : Hi}
    (hq : ∀ H' : Hi, frC H0 H' → H' 5 1 = nI (famM n1 b1) → CoC (famM n1 b1) b1 H' → Q none H') :
    ∀ (m c : Nat) (H : Hi), c + m = famM n1 b1 → TxC n0 b0 n1 b1 H → frC H0 H → H 5 1 = nI (famM n1 b1) → CoC c b1 H →
      Rm E mX0_learnCousins Q 20 [some (rf E 5), some (rf E 3), some (.int (nI c)), none] [] H := by
  intro m
  induction m with
  | zero =>
    intro c H hm hT hf h0 hC
    have e : c = famM n1 b1 := by omega
    subst e
    refine sgX0_learnCousins_20 ⟨fun _ => hq H hf h0 hC, fun z => ?_⟩
    rw [h0] at z; exact absurd (Int32.le_refl _) z
  | succ m ih =>
    intro c H hm hT hf h0 hC
    have hN := famM_le (b := b1) hT.2.2.2.2.2.2.1
    have hc : c < famM n1 b1 := by omega
    obtain ⟨a1, a2, a3⟩ := fam_c hc
    have hb0 := (hT.2.2.2.2.2.2.2 (3 * c) (by omega)).2
    have hb1 := (hT.2.2.2.2.2.2.2 (3 * c + 1) (by omega)).2
    refine sgX0_learnCousins_20 ⟨fun z => ?_, fun _ => ?_⟩
    · rw [h0, nI_leI (by omega) (by omega)] at z; omega
    refine ct_sign3 (r := 0) hT (by decide) (by omega) ?_
    have h3 : ixB (3 + 0) (b1 (3 * c + 0)) = nI (if cHo b1 c = true then 1 else 0) := by
      rw [Nat.add_zero, Nat.add_zero, ix_3 _ hb0]
      unfold cHo
      rcases a2 with e | e <;> rw [e] <;> rfl
    rw [h3]
    refine ⟨_, rfl, ?_⟩
    intro H1 g1
    have hT1 : TxC n0 b0 n1 b1 H1 := tx_keep hT (fun d _ h => by rw [g1, up_n (by omega)])
    have e6 : H1 5 6 = nI (bs (cHo b1) (c + 1)) := by
      rw [g1, up_s, upd_s, hC.1, i_shl _ (by omega), pk_mul, nI_or, bs_succ]
      congr 1
      split <;> simp
    have ko : ∀ k, k ≠ 6 → H1 5 k = H 5 k := fun k h => by rw [g1, up_s, upd_n h]
    have kc : ∀ d, d ≠ 5 → H1 d = H d := fun d h => by rw [g1, up_n h]
    refine ct_sign3 (r := 1) hT1 (by decide) (by omega) ?_
    have h4 : ixB (3 + 1) (b1 (3 * c + 1)) = nI (cWi b1 c) ∧ cWi b1 c ≤ 8 := by
      rw [show 3 + 1 = 4 from rfl, ix_4 _ hb1]
      unfold cWi
      rcases a3 with e | e
      · rw [if_pos e, if_neg (by omega)]; exact ⟨rfl, by omega⟩
      · rw [e]; exact ⟨rfl, by decide⟩
    rw [h4.1]
    have fin : ∀ (v : Int32), v = (if cWi b1 c < 8 then nI (cWi b1 c) else -1) → ∀ H2 : Hi, H2 = up H1 9 c v → ∀ x : Int32, x = nI c + 1 → Rm E mX0_learnCousins Q 20 [some (rf E 5), some (rf E 3), some (.int x), none] [] H2 := by
      intro v hv H2 g2 x ex
      rw [nI_1] at ex
      subst ex
      refine ih (c + 1) H2 (by omega) (tx_keep hT1 (fun d _ h => by rw [g2, up_n (by omega)])) ⟨fun d z1 z2 => ?_, fun k z1 z2 => ?_⟩ ?_ ⟨?_, fun d hd => ?_⟩
      · rw [g2, up_n z2, kc d z1]; exact hf.1 d z1 z2
      · rw [g2, up_n (by decide), ko k z2]; exact hf.2 k z1 z2
      · rw [g2, up_n (by decide), ko 1 (by decide)]; exact h0
      · rw [g2, up_n (by decide)]; exact e6
      · rw [g2, up_s]
        by_cases e : d = c
        · subst e; rw [upd_s]; exact hv
        · rw [upd_n e, kc 9 (by decide)]; exact hC.2 d (by omega)
    refine ⟨_, rfl, fun z => ⟨c, ⟨by omega, rfl⟩, ?_⟩, fun z => ⟨c, ⟨by omega, rfl⟩, ?_⟩⟩
    · rw [show (8 : Int32) = nI 8 from rfl, nI_leI (by omega) (by omega)] at z
      exact fin _ (by rw [if_neg (by omega)])
    · rw [show (8 : Int32) = nI 8 from rfl, nI_leI (by omega) (by omega)] at z
      exact fin _ (by rw [if_pos (by omega)])
theorem ct_learnC {E : En} {Q : Option Value → Hi → Prop} {H : Hi} {n0 n1 : Nat} {b0 b1 : Nat → Nat} (hT : TxC n0 b0 n1 b1 H)
    (hq : ∀ H' : Hi, frC H H' → H' 5 1 = nI (famM n1 b1) → CoC (famM n1 b1) b1 H' → Q none H') : Cm E mX0_learnCousins [rf E 5, rf E 3] H Q := by
  have hN := famM_le (b := b1) hT.2.2.2.2.2.2.1
  refine cmX0_learnCousins ?_
  refine ct_items3 hT ⟨_, rfl, ?_⟩
  intro H1 g1 H2 g2
  have e5 : H2 5 = upd (upd (H 5) 1 (nI (famM n1 b1))) 6 0 := by rw [g2, up_s, g1, up_s, mmin_8 hN]
  have eo : ∀ c, c ≠ 5 → H2 c = H c := fun c h1 => by rw [g2, up_n h1, g1, up_n h1]
  refine lc_loop hq (famM n1 b1) 0 H2 (by omega) (tx_keep hT (fun c h1 h2 => eo c (by omega))) ⟨fun c h1 h2 => eo c h1, fun k h1 h2 => ?_⟩ ?_ ⟨?_, fun c hc => by omega⟩
  · rw [e5, upd_n h2, upd_n h1]
  · rw [e5, upd_n (by decide), upd_s]
  · rw [e5, upd_s]; rfl
