/-! the model: one hand more -/
def hdx (hd : Hd) (g k : Nat) : Hd := (hd.1 + 1, nup hd.2.1 hd.1 g, nup hd.2.2 hd.1 k)
theorem itN_cg {α : Type} {f g : α → Nat → α} : ∀ (n : Nat) (a : α), (∀ a i, i < n → f a i = g a i) → itN f n a = itN g n a
  | 0, _, _ => rfl
  | n + 1, a, h => by
    show f (itN f n a) n = g (itN g n a) n
    rw [itN_cg n a (fun a i hi => h a i (by omega)), h _ n (Nat.lt_succ_self n)]
theorem tel_x {P : Pm} {hd : Hd} {g k h : Nat} {s : Sg} : tel P (hdx hd g k) h s = if h = g then act P (tel P hd h s) k else tel P hd h s := by
  have e1 : tel P (hdx hd g k) h s = te1 P (hdx hd g k) h (itN (te1 P (hdx hd g k) h) hd.1 s) hd.1 := rfl
  have e2 : itN (te1 P (hdx hd g k) h) hd.1 s = tel P hd h s := by
    unfold tel
    refine itN_cg hd.1 s (fun a i hi => ?_)
    unfold te1 hdx nup
    simp only [if_neg (show ¬ i = hd.1 by omega)]
  rw [e1, e2]
  unfold te1 hdx nup
  simp only [if_true]
  by_cases q : g = h
  · rw [if_pos q, if_pos q.symm]
  · rw [if_neg q, if_neg (fun p => q p.symm)]
theorem mid_x {P : Pm} {hd : Hd} {g k h : Nat} {s : Sg} : mid P (hdx hd g k) h s = if h = g then act P (mid P hd h s) k else mid P hd h s := tel_x
theorem stN_x1 {P : Pm} {hd : Hd} {a g k : Nat} : ∀ h, h ≤ g → stN P (hdx hd g k) a h = stN P hd a h
  | 0, _ => rfl
  | h + 1, q => by
    show clo P a h (mid P (hdx hd g k) h (stN P (hdx hd g k) a h)) = clo P a h (mid P hd h (stN P hd a h))
    rw [stN_x1 h (by omega), mid_x, if_neg (by omega)]
theorem stN_x {b : Bd} {g k h : Nat} : stN (dP b) (hdx (dH b) g k) (dA b) (h + 1) = lkS b g k h := by
  by_cases q : h < g
  · rw [stN_x1 (h + 1) (by omega)]
    unfold lkS
    rw [if_pos q]; rfl
  · obtain ⟨m, rfl⟩ : ∃ m, h = g + m := ⟨h - g, by omega⟩
    induction m with
    | zero =>
      show clo (dP b) (dA b) g (mid (dP b) (hdx (dH b) g k) g (stN (dP b) (hdx (dH b) g k) (dA b) g)) = _
      rw [stN_x1 g (Nat.le_refl g), mid_x, if_pos rfl, Nat.add_zero, lkS_g]; rfl
    | succ m ih =>
      rw [← Nat.add_assoc, lkS_s (by omega), ← ih (by omega)]
      show clo (dP b) (dA b) (g + m + 1) (mid (dP b) (hdx (dH b) g k) (g + m + 1) (stN (dP b) (hdx (dH b) g k) (dA b) (g + m + 1))) = _
      rw [mid_x, if_neg (by omega)]; rfl
theorem alF_iff {p : Nat → Bool} : ∀ m i, alF p m i = true ↔ ∀ j, i ≤ j → j < i + m → p j = true
  | 0, i => ⟨fun _ j h1 h2 => by omega, fun _ => rfl⟩
  | m + 1, i => by
    show (if p i = true then alF p m (i + 1) else false) = true ↔ _
    by_cases c : p i = true
    · rw [if_pos c, alF_iff m (i + 1)]
      refine ⟨fun h j h1 h2 => ?_, fun h j h1 h2 => h j (by omega) (by omega)⟩
      by_cases q : j = i
      · rw [q]; exact c
      · exact h j (by omega) (by omega)
    · rw [if_neg c]
      exact ⟨fun h => absurd h (by decide), fun h => absurd (h i (Nat.le_refl i) (by omega)) c⟩
theorem bs_dm {p : Nat → Bool} {n i : Nat} : bs p n / 2 ^ i % 2 = if i < n ∧ p i = true then 1 else 0 := by
  rw [← tb_dm, bs_tb]
  by_cases c : i < n
  · cases e : p i
    · simp [c]
    · simp [c]
  · simp [c]
def frF (H H' : Hi) : Prop := (∀ c, c ≠ 99 → (c < 111 ∨ 115 < c) → H' c = H c) ∧ ∀ k, k ≠ 34 → H' 99 k = H 99 k
theorem frF_K {H H' : Hi} (f : frK H H') : frF H H' := ⟨fun c _ hc => f c hc, fun k _ => by rw [f 99 (by decide)]⟩
theorem frF_tr {H H1 H2 : Hi} (h : frF H H1) (g : frF H1 H2) : frF H H2 := ⟨fun c p q => by rw [g.1 c p q, h.1 c p q], fun k p => by rw [g.2 k p, h.2 k p]⟩
theorem fx_F {n : Nat} {H H' : Hi} (f : frF H H') : frX n H H' := ⟨fun c hc => f.1 c (by omega) (by omega), fun k hk => f.2 k (by omega), fun k _ => ⟨by rw [f.1 107 (by decide) (by decide)], by rw [f.1 108 (by decide) (by decide)]⟩⟩
theorem mt_kF {P : Pm} {hd : Hd} {a : Nat} {H H' : Hi} (h : MT P hd a H) (f : frF H H') : MT P hd a H' := by
  obtain ⟨r, ⟨h1, h2, h3⟩, h4, h5⟩ := h
  refine ⟨rd_keep2 r (fun c hc => f.1 c (by omega) (by omega)) (fun k hk => f.2 k (by omega)), ⟨by rw [f.2 22 (by decide)]; exact h1, h2, fun k hk => ?_⟩, by rw [f.2 23 (by decide)]; exact h4, h5⟩
  rw [f.1 107 (by decide) (by decide), f.1 108 (by decide) (by decide)]
  exact h3 k hk
def inH (b : Bd) (t g k : Nat) : Nat → Bool := fun h => decide ((lkS b g k h).1 t = 8)
theorem sn1_in {b : Bd} {t g k h : Nat} (ht : t < pN (dP b)) : sn1 b t g k h = if inH b t g k h = true then 1 else 0 := by
  unfold sn1
  rw [bs_dm]
  unfold inH inP
  by_cases q : (lkS b g k h).1 t = 8
  · rw [if_pos ⟨ht, decide_eq_true q⟩, if_pos (decide_eq_true q)]
  · rw [if_neg (fun p => q (of_decide_eq_true p.2)), if_neg (fun p => q (of_decide_eq_true p))]
set_option maxHeartbeats 2000000 in
theorem mt_isFelt {E : En} {Q : Option Value → Hi → Prop} {H : Hi} {b : Bd} {g k t : Nat} (hO : BOk b) (hT : MT (dP b) (hdx (dH b) g k) (dA b) H) (hM : MFe (dF b) H) (ht : t < pN (dP b))
    (hq : ∀ H' : Hi, frF H H' → H' 99 34 = nI (bs (inH b t g k) 24) → Q (some (.int (bI (cmo b g k)))) H') : Cm E mX10_isFelt [rf E 99, .int (nI t)] H Q := by
  have n8 := hT.1.1.1
  have m8 := hT.1.1.2.1
  have f8 := hO.2.2.2.2.2.2.1.1
  refine cmX10_isFelt (fun H1 g1 => ?_)
  have f1 : frF H H1 := ⟨fun c p _ => by rw [g1, up_n p], fun j p => by rw [g1, up_s, upd_n p]⟩
  refine mt_beg (hd := hdx (dH b) g k) (a := dA b) (mt_kF hT f1).1 (fun H2 f2 n2 => ⟨rfl, ?_⟩)
  have f2' : frF H H2 := frF_tr f1 (frF_K f2)
  have mfe : ∀ H' : Hi, frF H H' → MFe (dF b) H' := fun H' f => mfe_k hM (f.2 30 (by decide)) (f.1 122 (by decide) (by decide)) (f.1 123 (by decide) (by decide)) (f.1 124 (by decide) (by decide))
  have lo : ∀ (m h : Nat) (H3 : Hi) (B : Bool), h + m = 24 → frF H H3 → MN (dP b) (hdx (dH b) g k) (dA b) h H3 → H3 99 34 = nI (bs (inH b t g k) h) → (B = true ↔ ∀ j, j < (dF b).1 → (dF b).2.1 j < h → fok b g k j = true) →
      Rm E mX10_isFelt Q 13 [some (rf E 99), some (.int (nI t)), some (.int (bI B)), some (.int (nI h)), none] [] H3 := by
    intro m
    induction m with
    | zero =>
      intro h H3 B hh f3 n3 w3 hB
      have e : h = 24 := by omega
      subst e
      refine sgX10_isFelt_13 ⟨fun _ => ⟨bI_nar B, ?_⟩, fun z => absurd (show nI 24 ≤ nI 24 from nI_le (by omega) (by omega)) z⟩
      have eB : B = cmo b g k := by
        have hc : cmo b g k = true ↔ B = true := by
          unfold cmo
          rw [alF_iff, hB]
          exact ⟨fun q j h1 _ => q j (Nat.zero_le j) (by omega), fun q j _ h2 => q j (by omega) (hO.2.2.2.2.2.2.1.2 j (by omega)).1⟩
        cases e1 : B
        · cases e2 : cmo b g k
          · rfl
          · rw [e1] at hc; exact absurd (hc.mp e2) (by decide)
        · exact (hc.mpr e1).symm
      rw [eB]
      exact hq H3 f3 w3
    | succ m ih =>
      intro h H3 B hh f3 n3 w3 hB
      refine sgX10_isFelt_13 ⟨fun z => ?_, fun _ => mt_go (mt_kF hT f3) n3 (by omega) (fun H4 f4 n4 => ⟨rfl, t, ⟨by omega, rfl⟩, ?_⟩)⟩
      · have := (nI_leI (a := 24) (by omega) (by omega)).mp z; omega
      have f4' : frF H H4 := frF_tr f3 (frF_K f4)
      have wf4 : Wf (dP b) (lkS b g k h) := lkS_wf m8 h
      have n4' : MW (dP b) (lkS b g k h) H4 := by rw [← stN_x]; exact n4.1
      have w4 : H4 99 34 = nI (bs (inH b t g k) h) := by rw [f4 99 (by decide)]; exact w3
      have pl := (wf4 t ht).1
      -- the loop over what was felt
      have li : ∀ (m2 q : Nat) (H5 : Hi) (B2 : Bool), q + m2 = (dF b).1 → frF H H5 → MN (dP b) (hdx (dH b) g k) (dA b) (h + 1) H5 → H5 99 34 = nI (bs (inH b t g k) (h + 1)) → (B2 = true ↔ ∀ j, j < (dF b).1 → ((dF b).2.1 j < h ∨ ((dF b).2.1 j = h ∧ j < q)) → fok b g k j = true) →
          Rm E mX10_isFelt Q 54 [some (rf E 99), some (.int (nI t)), some (.int (bI B2)), some (.int (nI h)), some (.int (nI q))] [] H5 := by
        intro m2
        induction m2 with
        | zero =>
          intro q H5 B2 hq5 f5 n5 w5 hB2
          refine sgX10_isFelt_54 ⟨fun _ x ex => ?_, fun z => ?_⟩
          · rw [ex, ← nI_succ]
            refine ih (h + 1) H5 B2 (by omega) f5 n5 w5 ?_
            rw [hB2]
            exact ⟨fun p j h1 h2 => p j h1 (by omega), fun p j h1 h2 => p j h1 (by omega)⟩
          · rw [(mfe H5 f5).1] at z
            exact absurd (nI_le (show (dF b).1 ≤ q by omega) (by omega)) z
        | succ m2 ih2 =>
          intro q H5 B2 hq5 f5 n5 w5 hB2
          obtain ⟨o1, o2, o3⟩ := hO.2.2.2.2.2.2.1.2 q (by omega)
          obtain ⟨c1, c2, c3⟩ := (mfe H5 f5).2 q (by omega)
          have nx : ∀ (B3 : Bool) (y x : Int32), y = bI B3 → x = nI q + 1 → (B3 = true ↔ (B2 = true ∧ ((dF b).2.1 q = h → fok b g k q = true))) → Rm E mX10_isFelt Q 54 [some (rf E 99), some (.int (nI t)), some (.int y), some (.int (nI h)), some (.int x)] [] H5 := by
            intro B3 y x ey ex h3
            rw [ey, ex, ← nI_succ]
            refine ih2 (q + 1) H5 B3 (by omega) f5 n5 w5 ?_
            rw [h3, hB2]
            refine ⟨fun p j h1 h2 => ?_, fun p => ⟨fun j h1 h2 => p j h1 (by omega), fun h4 => p q (by omega) (Or.inr ⟨h4, by omega⟩)⟩⟩
            by_cases ej : j = q
            · rw [ej]
              by_cases eh : (dF b).2.1 q = h
              · exact p.2 eh
              · refine p.1 q (by omega) ?_
                rw [ej] at h2; omega
            · exact p.1 j h1 (by omega)
          have fv : (dF b).2.1 q = h → (fok b g k q = true ↔ ((if (dF b).2.2.1 q < pN (dP b) ∧ (lkS b g k h).1 ((dF b).2.2.1 q) = 8 then 1 else 0) = (dF b).2.2.2 q)) := by
            intro e
            unfold fok
            rw [decide_eq_true_iff, e, bs_dm]
            unfold inP
            by_cases p : (dF b).2.2.1 q < pN (dP b) ∧ (lkS b g k h).1 ((dF b).2.2.1 q) = 8
            · rw [if_pos p, if_pos ⟨p.1, decide_eq_true p.2⟩]
            · rw [if_neg p, if_neg (fun r => p ⟨r.1, of_decide_eq_true r.2⟩)]
          refine sgX10_isFelt_54 ⟨fun z => ?_, fun _ => ⟨fun z x ex => ?_, fun z => ⟨q, ⟨by omega, rfl⟩, ?_⟩⟩⟩
          · rw [(mfe H5 f5).1] at z
            have := (nI_leI (by omega) (by omega)).mp z; omega
          · have b2 := bI_0.mp z
            exact nx false 0 x rfl ex (by rw [b2]; simp)
          · have b2 := bI_1 z
            rw [c1]
            refine ⟨fun z2 x ex => ?_, fun z2 => ⟨q, ⟨by omega, rfl⟩, (dF b).2.2.1 q, ⟨o2, c2⟩, ?_⟩⟩
            · exact nx true 1 x rfl ex (by rw [b2]; exact ⟨fun _ => ⟨rfl, fun p => absurd (by rw [p]) z2⟩, fun _ => rfl⟩)
            · have z2' : (dF b).2.1 q = h := nI_inj (by omega) (by omega) z2
              have fv' := fv z2'
              have n5' : MW (dP b) (lkS b g k h) H5 := by rw [← stN_x]; exact n5.1
              have ew : H5 111 ((dF b).2.2.1 q) = 8 ↔ ((dF b).2.2.1 q < pN (dP b) ∧ (lkS b g k h).1 ((dF b).2.2.1 q) = 8) := by
                rw [n5'.1 _ o2]
                by_cases l : (dF b).2.2.1 q < pN (dP b)
                · rw [if_pos l]
                  have := (wf4 _ l).1
                  exact ⟨fun p => ⟨l, nI_inj (by omega) (by decide) p⟩, fun p => by rw [p.2]; rfl⟩
                · rw [if_neg l]
                  exact ⟨fun p => absurd p (by decide), fun p => absurd p.1 l⟩
              have e1 : H5 124 q = 1 ↔ (dF b).2.2.2 q = 1 := by
                rw [c3]
                exact ⟨fun p => nI_inj (by omega) (by decide) p, fun p => by rw [p]; rfl⟩
              refine ⟨fun z3 => ⟨q, ⟨by omega, rfl⟩, ?_⟩, fun z3 => ⟨q, ⟨by omega, rfl⟩, ?_⟩⟩
              · have w0 := mt ew.mpr z3
                rw [if_neg w0] at fv'
                refine ⟨fun z4 => ⟨fun p => absurd rfl p, fun _ x ex => nx true 1 x rfl ex ?_⟩, fun z4 => ⟨fun _ x ex => nx false 0 x rfl ex ?_, fun p => absurd p (by decide)⟩⟩
                · have i0 : (dF b).2.2.2 q = 0 := by have := mt e1.mpr z4; omega
                  rw [b2]
                  exact ⟨fun _ => ⟨rfl, fun _ => fv'.mpr i0.symm⟩, fun _ => rfl⟩
                · have i1 := e1.mp z4
                  refine ⟨fun p => absurd p (by decide), fun p => ?_⟩
                  have := fv'.mp (p.2 z2')
                  omega
              · have w1 := ew.mp z3
                rw [if_pos w1] at fv'
                refine ⟨fun z4 => ⟨fun _ x ex => nx false 0 x rfl ex ?_, fun p => absurd p (by decide)⟩, fun z4 => ⟨fun p => absurd rfl p, fun _ x ex => nx true 1 x rfl ex ?_⟩⟩
                · have i0 : (dF b).2.2.2 q = 0 := by have := mt e1.mpr z4; omega
                  refine ⟨fun p => absurd p (by decide), fun p => ?_⟩
                  have := fv'.mp (p.2 z2')
                  omega
                · have i1 := e1.mp z4
                  rw [b2]
                  exact ⟨fun _ => ⟨rfl, fun _ => fv'.mpr i1.symm⟩, fun _ => rfl⟩
      have go : ∀ H5 : Hi, frF H4 H5 → (∀ c, 111 ≤ c → c ≤ 115 → H5 c = H4 c) → H5 99 34 = nI (bs (inH b t g k) (h + 1)) → Rm E mX10_isFelt Q 54 [some (rf E 99), some (.int (nI t)), some (.int (bI B)), some (.int (nI h)), some (.int 0)] [] H5 := by
        intro H5 f5 k5 w5
        refine li (dF b).1 0 H5 B (Nat.zero_add _) (frF_tr f4' f5) (mn_keep n4 k5) w5 ?_
        rw [hB]
        exact ⟨fun p j h1 h2 => p j h1 (by omega), fun p j h1 h2 => p j h1 (Or.inl h2)⟩
      rw [mw_w n4' n8 ht]
      refine ⟨fun z H5 g5 => go H5 ⟨fun c p _ => by rw [g5, up_n p], fun j p => by rw [g5, up_s, upd_n p]⟩ (fun c p1 p2 => by rw [g5, up_n (by omega)]) ?_, fun z H5 g5 => go H5 ⟨fun c p _ => by rw [g5, up_n p], fun j p => by rw [g5, up_s, upd_n p]⟩ (fun c p1 p2 => by rw [g5, up_n (by omega)]) ?_⟩
      · have e : inH b t g k h = false := decide_eq_false (fun q => z (by rw [q]; rfl))
        rw [g5, up_s, upd_s, w4, or_0, bs_succ, if_neg (by rw [e]; decide)]
      · have e : inH b t g k h = true := decide_eq_true (nI_inj (by omega) (by decide) z)
        rw [g5, up_s, upd_s, w4, i_one h (by omega), nI_or, bs_succ, if_pos e]
  refine lo 24 0 H2 true rfl f2' n2 ?_ ⟨fun _ j _ h2 => absurd h2 (Nat.not_lt_zero _), fun _ => rfl⟩
  rw [f2 99 (by decide), g1, up_s, upd_s]; rfl
