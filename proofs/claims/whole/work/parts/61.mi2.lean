/-! the model: how an hour goes -/
theorem frK_rd {P : Pm} {H H' : Hi} (hR : RdC P H) (h : frK H H') : RdC P H' := rd_keep hR (fun c hc => h c (by omega))
theorem vn_b (p : Bool) : vp_nar .boolean (nI (if p = true then 1 else 0)) = nI (if p = true then 1 else 0) := by cases p <;> rfl
set_option maxHeartbeats 1000000 in
theorem mt_begins {E : En} {Q : Option Value → Hi → Prop} {H : Hi} {P : Pm} (hR : RdC P H)
    (hq : ∀ H' : Hi, frK H H' → MW P (st0 P) H' → (∀ k, k < 44 → H' 115 k = 0) → Q none H') : Cm E mX10_begins [rf E 99] H Q := by
  have n8 := hR.1.1
  have m8 := hR.1.2.1
  have l2 : ∀ (m k : Nat) (H1 : Hi), k + m = 44 → frK H H1 → MW P (st0 P) H1 → (∀ j, j < k → H1 115 j = 0) → Rm E mX10_begins Q 68 [some (rf E 99), some (.int (nI k))] [] H1 := by
    intro m
    induction m with
    | zero =>
      intro k H1 hk f1 w1 z1
      have e : k = 44 := by omega
      subst e
      exact sgX10_begins_68 ⟨fun _ => hq H1 f1 w1 z1, fun z => absurd (show nI 44 ≤ nI 44 from nI_le (by omega) (by omega)) z⟩
    | succ m ih =>
      intro k H1 hk f1 w1 z1
      refine sgX10_begins_68 ⟨fun z => ?_, fun _ => ⟨k, ⟨by omega, rfl⟩, fun H2 g2 x ex => ?_⟩⟩
      · have := (nI_leI (a := 44) (by omega) (by omega)).mp z; omega
      · rw [ex, ← nI_succ]
        refine ih (k + 1) H2 (by omega) (fun c hc => by rw [g2, up_n (by omega)]; exact f1 c hc) (mw_keep w1 (fun c hc => by rw [g2, up_n (by omega)])) (fun j hj => ?_)
        rw [g2, up_s]
        by_cases q : j = k
        · rw [q, upd_s]; rfl
        · rw [upd_n q]; exact z1 j (by omega)
  have l1 : ∀ (m t : Nat) (H1 : Hi), t + m = 8 → frK H H1 → (∀ u, u < t → H1 111 u = nI (if u < pN P then (st0 P).1 u else 9) ∧ H1 112 u = 0 ∧ H1 113 u = 0) → Rm E mX10_begins Q 2 [some (rf E 99), some (.int (nI t))] [] H1 := by
    intro m
    induction m with
    | zero =>
      intro t H1 ht f1 w1
      have e : t = 8 := by omega
      subst e
      refine sgX10_begins_2 ⟨fun _ => l2 44 0 H1 rfl f1 ?_ (fun j hj => absurd hj (Nat.not_lt_zero j)), fun z => absurd (show nI 8 ≤ nI 8 from nI_le (by omega) (by omega)) z⟩
      refine ⟨fun u hu => (w1 u hu).1, fun u hu => ?_, fun _ _ => false, fun c hc => by rw [(w1 c hc).2.2, bs_zero]; rfl, fun c u _ _ _ _ => rfl⟩
      rw [(w1 u (by omega)).2.1]
      have e : skv P (st0 P) u = 0 := if_neg (fun q => Bool.false_ne_true q.2)
      rw [e]; rfl
    | succ m ih =>
      intro t H1 ht f1 w1
      have hR1 := frK_rd hR f1
      have nx : ∀ (v : Int32) (H2 : Hi) (x : Int32), v = nI (if t < pN P then (st0 P).1 t else 9) → H2 = up (up (up H1 111 t v) 112 t 0) 113 t 0 → x = nI t + 1 → Rm E mX10_begins Q 2 [some (rf E 99), some (.int x)] [] H2 := by
        intro v H2 x ev e2 ex
        rw [ex, ← nI_succ]
        refine ih (t + 1) H2 (by omega) (fun c hc => by rw [e2, up_n (by omega), up_n (by omega), up_n (by omega)]; exact f1 c hc) (fun u hu => ?_)
        rw [e2]
        by_cases q : u = t
        · subst q
          refine ⟨?_, ?_, ?_⟩
          · rw [up_n (by decide), up_n (by decide), up_s, upd_s, ev]
          · rw [up_n (by decide), up_s, upd_s]
          · rw [up_s, upd_s]
        · obtain ⟨a, b, c⟩ := w1 u (by omega)
          refine ⟨?_, ?_, ?_⟩
          · rw [up_n (by decide), up_n (by decide), up_s, upd_n q, a]
          · rw [up_n (by decide), up_s, upd_n q, up_n (by decide), b]
          · rw [up_s, upd_n q, up_n (by decide), up_n (by decide), c]
      refine sgX10_begins_2 ⟨fun z => ?_, fun _ => ?_⟩
      · have := (nI_leI (a := 8) (by omega) (by omega)).mp z; omega
      · rw [hR1.2.1, hR1.2.2.1, nI_leI (by omega) (by omega)]
        refine ⟨fun z => ⟨t, ⟨by omega, rfl⟩, fun Ha ga => ⟨t, ⟨by omega, rfl⟩, fun Hb gb => ⟨t, ⟨by omega, rfl⟩, fun Hc gc x ex => nx 9 Hc x ?_ (by rw [gc, gb, ga]) ex⟩⟩⟩, fun z => ⟨t, ⟨by omega, rfl⟩, ?_⟩⟩
        · rw [if_neg (by omega)]; rfl
        · have tn : t < pN P := by omega
          have o8 := (hR1.1.2.2.1 t tn).2.2.1
          rw [(hR1.2.2.2.1 t tn).2.1, nI_leI (by omega) (by omega)]
          refine ⟨fun z2 => ⟨t, ⟨by omega, rfl⟩, fun Ha ga => ⟨t, ⟨by omega, rfl⟩, fun Hb gb => ⟨t, ⟨by omega, rfl⟩, fun Hc gc x ex => nx 9 Hc x ?_ (by rw [gc, gb, ga]) ex⟩⟩⟩, fun z2 => ⟨t, ⟨by omega, rfl⟩, t, ⟨by omega, rfl⟩, fun Ha ga => ⟨t, ⟨by omega, rfl⟩, fun Hb gb => ⟨t, ⟨by omega, rfl⟩, fun Hc gc x ex => nx (nI (pOw P t)) Hc x ?_ (by rw [gc, gb, ga, (hR1.2.2.2.1 t tn).2.1]) ex⟩⟩⟩⟩
          · rw [if_pos tn]
            have e : (st0 P).1 t = 9 := if_neg (by omega)
            rw [e]; rfl
          · rw [if_pos tn]
            have e : (st0 P).1 t = pOw P t := if_pos (by omega)
            rw [e]
  exact cmX10_begins (l1 8 0 H rfl (fun _ _ => rfl) (fun u hu => absurd hu (Nat.not_lt_zero u)))
theorem act_p {P : Pm} {z : Sg} {c t : Nat} (ht : t < pN P) (hc : c < pM P) (n8 : pN P ≤ 8) (m8 : pM P ≤ 8) : act P z (8 * c + t) = if z.1 t = c ∧ ld P z + pSz P t ≤ pRm P then (va_up z.1 t 8, va_up z.2.1 t false, z.2.2) else z := by
  have e1 : (8 * c + t) % 8 = t := by omega
  have e2 : (8 * c + t) / 8 % 8 = c := by omega
  unfold act rch
  rw [e1, e2, if_pos ⟨ht, hc⟩, if_neg (by omega)]
  split <;> rfl
def frB (H0 H : Hi) : Prop := ∀ c, c ≠ 111 → c ≠ 113 → c ≠ 114 → H c = H0 c
theorem mt_isIn {E : En} {Q : Option Value → Hi → Prop} {H : Hi} {a k : Nat} (ha : a < 2 ^ 31) (hk : k < 31) (hq : Q (some (.int (bI (a.testBit k)))) H) : Cm E mX10_isIn [.int (nI a), .int (nI k)] H Q := by
  refine cmX10_isIn ?_
  rw [i_bitN ha hk]
  have e : a.testBit k = decide (a / 2 ^ k % 2 = 1) := by rw [Nat.testBit_eq_decide_div_mod_eq]
  have m2 := Nat.mod_lt (a / 2 ^ k) (show 2 > 0 by decide)
  refine ⟨fun z => ?_, fun z => ?_⟩
  · rw [e, decide_eq_false (fun q => z (by rw [q]; rfl))] at hq; exact hq
  · rw [e, decide_eq_true (nI_inj (by omega) (by decide) z)] at hq; exact hq
set_option maxHeartbeats 2000000 in
theorem mt_putsBack {E : En} {Q : Option Value → Hi → Prop} {H : Hi} {P : Pm} {s : Sg} (hR : RdC P H) (hW : MW P s H) (hw : Wf P s)
    (hq : ∀ H' : Hi, frB H H' → MW P (putB P s) H' → Q none H') : Cm E mX10_putsBack [rf E 99] H Q := by
  have n8 := hR.1.1
  have m8 := hR.1.2.1
  obtain ⟨w1, w2, tk, w3, w4⟩ := hW
  -- the loops over cousins and things
  have l3 : ∀ c, c < pM P → (∀ H1 : Hi, frB H H1 → (∀ d, d < 8 → H1 114 d = nI (bs (tk d) 8)) → (∀ u, u < pN P → (itN (pb2 P s.2.1) (c + 1) (s.1, fun _ => false, s.2.2)).1 u ≠ 8 → (itN (pb2 P s.2.1) (c + 1) (s.1, fun _ => false, s.2.2)).1 u = s.1 u) → MW P (itN (pb2 P s.2.1) (c + 1) (s.1, fun _ => false, s.2.2)) H1 → Rm E mX10_putsBack Q 35 [some (rf E 99), some (.int (nI (c + 1))), none, none] [] H1) →
      ∀ (z0 : Sg), z0 = itN (pb2 P s.2.1) c (s.1, fun _ => false, s.2.2) → ∀ (m t : Nat) (H1 : Hi) (z : Sg), t + m = pN P → z = itN (pb1 P s.2.1 c) t z0 → Wf P z → frB H H1 → (∀ d, d < 8 → H1 114 d = nI (bs (tk d) 8)) → (∀ u, u < pN P → z.1 u ≠ 8 → z.1 u = s.1 u) → MW P z H1 →
        Rm E mX10_putsBack Q 45 [some (rf E 99), some (.int (nI c)), some (.int (nI t)), none] [] H1 := by
    intro c hc hout z0 ez0 m
    induction m with
    | zero =>
      intro t H1 z ht ez wz f1 a1 mo mw
      have hR1 : RdC P H1 := rd_keep hR (fun d hd => f1 d (by omega) (by omega) (by omega))
      refine sgX10_putsBack_45 ⟨fun _ x ex => ?_, fun q => ?_⟩
      · rw [ex, ← nI_succ]
        have e : z = itN (pb2 P s.2.1) (c + 1) (s.1, fun _ => false, s.2.2) := by
          have et : t = pN P := by omega
          rw [ez, et, ez0]; rfl
        rw [e] at mo mw
        exact hout H1 f1 a1 mo mw
      · rw [hR1.2.1] at q
        exact absurd (nI_le (show pN P ≤ t by omega) (by omega)) q
    | succ m ih =>
      intro t H1 z ht ez wz f1 a1 mo mw
      have hR1 : RdC P H1 := rd_keep hR (fun d hd => f1 d (by omega) (by omega) (by omega))
      have tn : t < pN P := by omega
      have o8 := (hR.1.2.2.1 t tn).2.2.1
      have wt := (wz t tn).1
      have nx : ∀ (H2 : Hi) (x : Int32), x = nI t + 1 → frB H H2 → (∀ d, d < 8 → H2 114 d = nI (bs (tk d) 8)) → (∀ u, u < pN P → (pb1 P s.2.1 c z t).1 u ≠ 8 → (pb1 P s.2.1 c z t).1 u = s.1 u) → MW P (pb1 P s.2.1 c z t) H2 → Rm E mX10_putsBack Q 45 [some (rf E 99), some (.int (nI c)), some (.int x), none] [] H2 := by
        intro H2 x ex f2 a2 mo2 mw2
        rw [ex, ← nI_succ]
        exact ih (t + 1) H2 (pb1 P s.2.1 c z t) (by omega) (by rw [ez]; rfl) (pb1_wf wz) f2 a2 mo2 mw2
      have sk : pb1 P s.2.1 c z t = z → ∀ x : Int32, x = nI t + 1 → Rm E mX10_putsBack Q 45 [some (rf E 99), some (.int (nI c)), some (.int x), none] [] H1 := by
        intro e x ex
        exact nx H1 x ex f1 a1 (by rw [e]; exact mo) (by rw [e]; exact mw)
      refine sgX10_putsBack_45 ⟨fun q => ?_, fun _ => ⟨c, ⟨by omega, rfl⟩, ?_⟩⟩
      · rw [hR1.2.1] at q
        have := (nI_leI (by omega) (by omega)).mp q; omega
      · rw [(hR1.2.2.2.2.1 c hc).1]
        refine ⟨fun q x ex => sk ?_ x ex, fun q => ⟨c, ⟨by omega, rfl⟩, ?_⟩⟩
        · unfold pb1
          rw [if_neg]
          rintro ⟨q1, -⟩
          exact q (by rw [if_pos q1]; rfl)
        · have ho : pHo P c = true := by
            cases e : pHo P c
            · rw [e] at q; exact absurd q (by decide)
            · rfl
          rw [a1 c (by omega)]
          have bt : (bs (tk c) 8).testBit t = tk c t := by rw [bs_tb, decide_eq_true (by omega)]; rfl
          refine mt_isIn (Nat.lt_of_lt_of_le (bs_lt (tk c) 8) (by decide)) (by omega) ?_
          rw [bt]
          -- where it is the same cousin's, what the model keeps says the same
          have same : z.1 t = c → pOw P t ≠ c → tk c t = s.2.1 t := by
            intro e1 e2
            have e3 := mo t tn (by omega)
            exact w4 c t (by omega) tn (by omega) e2
          have away : ¬ z.1 t = c → pb1 P s.2.1 c z t = z := by
            intro e
            unfold pb1
            split
            · rw [act_p tn hc n8 m8, if_neg (fun q => e q.1)]
            · rfl
          refine ⟨_, rfl, fun q2 x ex => sk ?_ x ex, fun q2 => ⟨t, ⟨by omega, rfl⟩, ?_⟩⟩
          · by_cases e : z.1 t = c
            · unfold pb1
              rw [if_neg]
              rintro ⟨-, q3, q4⟩
              rw [← same e q4, bI_0.mp q2] at q3
              exact absurd q3 (by decide)
            · exact away e
          · rw [(hR1.2.2.2.1 t tn).2.1]
            refine ⟨fun q3 x ex => sk ?_ x ex, fun q3 => ⟨t, ⟨by omega, rfl⟩, ?_⟩⟩
            · have q3' := nI_inj (by omega) (by omega) q3
              unfold pb1
              rw [if_neg (fun q => q.2.2 q3')]
            · have q3' : pOw P t ≠ c := fun q => q3 (by rw [q])
              rw [mw_w mw n8 tn]
              refine ⟨fun q4 x ex => sk (away (fun q => q4 (by rw [q]))) x ex, fun q4 => ?_⟩
              have q4' := nI_inj (by omega) (by omega) q4
              have e5 : pb1 P s.2.1 c z t = act P z (8 * c + t) := by
                unfold pb1
                rw [if_pos ⟨ho, by rw [← same q4' q3']; exact bI_1 q2, q3'⟩]
              refine mt_putsIn hR1 mw wz tn (fun hl H2 g2 => ⟨_, rfl, fun x ex => ?_⟩) (fun hl => ⟨_, rfl, fun x ex => sk ?_ x ex⟩)
              · have e6 : pb1 P s.2.1 c z t = (va_up z.1 t 8, va_up z.2.1 t false, z.2.2) := by rw [e5, act_p tn hc n8 m8, if_pos ⟨q4', hl⟩]
                refine nx H2 x ex (fun d p1 p2 p3 => by rw [g2, up_n p1]; exact f1 d p1 p2 p3) (fun d hd => by rw [g2, up_n (by decide)]; exact a1 d hd) (fun u hu p => ?_) (by rw [e6, g2]; exact mw_put mw tn (by omega))
                rw [e6] at p ⊢
                have p : va_up z.1 t 8 u ≠ 8 := p
                show va_up z.1 t 8 u = s.1 u
                by_cases e : u = t
                · rw [e] at p; simp [va_up] at p
                · have e8 : va_up z.1 t 8 u = z.1 u := by simp [va_up, e]
                  rw [e8] at p ⊢
                  exact mo u hu p
              · rw [e5, act_p tn hc n8 m8, if_neg (fun q => hl q.2)]
  have l2 : ∀ (m c : Nat) (H1 : Hi), c + m = pM P → frB H H1 → (∀ d, d < 8 → H1 114 d = nI (bs (tk d) 8)) → (∀ u, u < pN P → (itN (pb2 P s.2.1) c (s.1, fun _ => false, s.2.2)).1 u ≠ 8 → (itN (pb2 P s.2.1) c (s.1, fun _ => false, s.2.2)).1 u = s.1 u) → MW P (itN (pb2 P s.2.1) c (s.1, fun _ => false, s.2.2)) H1 → Rm E mX10_putsBack Q 35 [some (rf E 99), some (.int (nI c)), none, none] [] H1 := by
    intro m
    induction m with
    | zero =>
      intro c H1 hc f1 a1 mo mw
      have hR1 : RdC P H1 := rd_keep hR (fun d hd => f1 d (by omega) (by omega) (by omega))
      have e : c = pM P := by omega
      subst e
      refine sgX10_putsBack_35 ⟨fun _ => hq H1 f1 mw, fun q => ?_⟩
      rw [hR1.2.2.1] at q
      exact absurd (nI_le (Nat.le_refl (pM P)) (by omega)) q
    | succ m ih =>
      intro c H1 hc f1 a1 mo mw
      have hR1 : RdC P H1 := rd_keep hR (fun d hd => f1 d (by omega) (by omega) (by omega))
      refine sgX10_putsBack_35 ⟨fun q => ?_, fun _ => ?_⟩
      · rw [hR1.2.2.1] at q
        have := (nI_leI (by omega) (by omega)).mp q; omega
      · exact l3 c (by omega) (fun H2 f2 a2 mo2 mw2 => ih (c + 1) H2 (by omega) f2 a2 mo2 mw2) _ rfl (pN P) 0 H1 _ (by omega) rfl (itN_inv (fun a i h => itN_inv (fun b j g => pb1_wf g) _ _ h) _ _ hw) f1 a1 mo mw
  have l1 : ∀ (m c : Nat) (H1 : Hi), c + m = 8 → frB H H1 → H1 111 = H 111 → (∀ d, d < 8 → (d < c → H1 114 d = nI (bs (tk d) 8) ∧ H1 113 d = 0) ∧ (c ≤ d → H1 113 d = nI (bs (tk d) 8))) → Rm E mX10_putsBack Q 2 [some (rf E 99), some (.int (nI c)), none, none] [] H1 := by
    intro m
    induction m with
    | zero =>
      intro c H1 hc f1 e1 a1
      have e : c = 8 := by omega
      subst e
      refine sgX10_putsBack_2 ⟨fun _ => l2 (pM P) 0 H1 (by omega) f1 (fun d hd => ((a1 d hd).1 hd).1) (fun u _ _ => rfl) ?_, fun z => absurd (show nI 8 ≤ nI 8 from nI_le (by omega) (by omega)) z⟩
      refine ⟨fun t ht => by rw [e1]; exact w1 t ht, fun t ht => ?_, fun _ _ => false, fun d hd => by rw [((a1 d hd).1 hd).2, bs_zero]; rfl, fun d u _ _ _ _ => rfl⟩
      rw [f1 112 (by decide) (by decide) (by decide), w2 t ht]
      exact congrArg nI (skv_cg Iff.rfl rfl)
    | succ m ih =>
      intro c H1 hc f1 e1 a1
      refine sgX10_putsBack_2 ⟨fun z => ?_, fun _ => ⟨c, ⟨by omega, rfl⟩, c, ⟨by omega, rfl⟩, fun H2 g2 => ⟨c, ⟨by omega, rfl⟩, fun H3 g3 x ex => ?_⟩⟩⟩
      · have := (nI_leI (a := 8) (by omega) (by omega)).mp z; omega
      · rw [ex, ← nI_succ]
        refine ih (c + 1) H3 (by omega) (fun d p1 p2 p3 => by rw [g3, up_n p2, g2, up_n p3]; exact f1 d p1 p2 p3) (by rw [g3, up_n (by decide), g2, up_n (by decide), e1]) (fun d hd => ⟨fun q => ?_, fun q => ?_⟩)
        · by_cases e : d = c
          · rw [e]
            refine ⟨?_, by rw [g3, up_s, upd_s]⟩
            rw [g3, up_n (by decide), g2, up_s, upd_s]
            exact (a1 c (by omega)).2 (Nat.le_refl c)
          · have h := (a1 d hd).1 (by omega)
            refine ⟨?_, ?_⟩
            · rw [g3, up_n (by decide), g2, up_s, upd_n e]; exact h.1
            · rw [g3, up_s, upd_n e, g2, up_n (by decide)]; exact h.2
        · rw [g3, up_s, upd_n (by omega), g2, up_n (by decide)]
          exact (a1 d hd).2 (by omega)
  exact cmX10_putsBack (l1 8 0 H rfl (fun _ _ _ _ => rfl) rfl (fun d hd => ⟨fun q => absurd q (Nat.not_lt_zero d), fun _ => w3 d hd⟩))
