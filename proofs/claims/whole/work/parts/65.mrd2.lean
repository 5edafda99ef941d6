/-! the model reads: whole texts -/
theorem fbF_is {ok : Nat → Bool} {i : Nat} : ∀ m j, j ≤ i → i ≤ j + m → (∀ k, j ≤ k → k < i → ok k = true) → (i < j + m → ok i = false) → fbF ok m j = i
  | 0, j, h1, h2, _, _ => by
    show j = i
    omega
  | m + 1, j, h1, h2, h3, h4 => by
    show (if ok j = true then fbF ok m (j + 1) else j) = i
    by_cases e : j = i
    · subst e
      rw [if_neg (by rw [h4 (by omega)]; decide)]
    · rw [if_pos (h3 j (Nat.le_refl j) (by omega))]
      exact fbF_is m (j + 1) (by omega) (by omega) (fun k p r => h3 k (by omega) r) (fun p => h4 (by omega))
theorem flt_at {w n i : Nat} {ok : Nat → Bool} (hi : i ≤ n) (h1 : ∀ k, k < i → ok k = true) (h2 : i < n → ok i = false) (h3 : i = n → ¬ (n = 0 ∨ n % (w + 1) = w)) : flt w ok n = nI i ∧ gd w ok n = false := by
  have e := fbF_is (ok := ok) n 0 (Nat.zero_le i) (by omega) (fun k _ p => h1 k p) (fun p => h2 (by omega))
  unfold flt gd
  rw [e]
  by_cases p : i < n
  · rw [if_pos p, decide_eq_false (show ¬ i = n by omega)]; exact ⟨rfl, rfl⟩
  · have e2 : i = n := by omega
    rw [if_neg p, if_neg (h3 e2), decide_eq_false (h3 e2), e2]; exact ⟨rfl, Bool.and_false _⟩
theorem flt_okk {w n : Nat} {ok : Nat → Bool} (h1 : ∀ k, k < n → ok k = true) (h3 : n = 0 ∨ n % (w + 1) = w) : flt w ok n = -1 ∧ gd w ok n = true := by
  have e := fbF_is (ok := ok) (i := n) n 0 (Nat.zero_le n) (by omega) (fun k _ p => h1 k p) (fun p => by omega)
  unfold flt gd
  rw [e, if_neg (Nat.lt_irrefl n), if_pos h3, decide_eq_true h3, decide_eq_true rfl]; exact ⟨rfl, rfl⟩
def frT0 (H H1 : Hi) : Prop := (∀ c, c ≠ 99 → c ≠ 102 → c ≠ 103 → c ≠ 104 → H1 c = H c) ∧ ∀ k, k ≠ 2 → H1 99 k = H 99 k
def MThC (b : Nat → Nat) (n : Nat) (H : Hi) : Prop := ∀ t, t < n → H 102 t = nI (tSz b t) ∧ H 103 t = nI (tOw b t) ∧ H 104 t = nI (tKd b t)
set_option maxHeartbeats 2000000 in
theorem mt_rt0 {E : En} {Q : Option Value → Hi → Prop} {H : Hi} {n0 n1 : Nat} {b0 b1 : Nat → Nat} (hT : TxM n0 b0 n1 b1 H)
    (hq : ∀ H' : Hi, frT0 H H' → H' 99 2 = nI (famN n0 b0) → MThC b0 (famN n0 b0) H' → Q (some (.int (flt 3 (okT0 b0) n0))) H') : Cm E mX10_readsText [rf E 99, .int 0] H Q := by
  have n31 := hT.2.1
  have bl : ∀ k, k < n0 → b0 k < 256 := fun k hk => (hT.2.2.1 k hk).2
  have txk : ∀ H1 : Hi, frT0 H H1 → TxM n0 b0 n1 b1 H1 := fun H1 f => txm_keep hT (f.1 100 (by decide) (by decide) (by decide) (by decide)) (f.1 101 (by decide) (by decide) (by decide) (by decide))
  have bad : ∀ (i : Nat) (H1 : Hi) (x : Int32), x = nI i → i ≤ n0 → (∀ k, k < i → okT0 b0 k = true) → (i < n0 → okT0 b0 i = false) → (i = n0 → ¬ (n0 = 0 ∨ n0 % 4 = 3)) → frT0 H H1 → H1 99 2 = 0 → Q (some (.int x)) H1 := by
    intro i H1 x ex hi h1 h2 h3 f1 e2
    obtain ⟨a1, a2⟩ := flt_at (w := 3) hi h1 h2 h3
    have e : famN n0 b0 = 0 := by unfold famN; rw [a2, if_neg (by decide)]
    have h := hq H1 f1 (by rw [e, e2]; rfl) (by rw [e]; intro t ht; exact absurd ht (Nat.not_lt_zero t))
    rw [a1, ← ex] at h; exact h
  have lp : ∀ (m g : Nat) (H1 : Hi), g + m = 8 → 4 * g ≤ n0 → (∀ i, i < 4 * g → okT0 b0 i = true) → frT0 H H1 → H1 99 2 = 0 → MThC b0 g H1 →
      Rm E mX10_readsText Q 48 [some (rf E 99), some (.int 0), some (.int 3), some (.int (nI g)), some (.int (nI (4 * g))), none] [] H1 := by
    intro m
    induction m with
    | zero => intro g H1 hg h4; omega
    | succ m ih =>
      intro g H1 hg h4 hok f1 e2 th
      have hT1 := txk H1 f1
      have g3f : ∀ i, gT3 n0 b0 i = false → i < n0 → okT0 b0 i = false := by
        intro i q l
        unfold gT3 at q
        rw [decide_eq_true l] at q; exact q
      have g3t : ∀ i, gT3 n0 b0 i = true → i < n0 ∧ okT0 b0 i = true := by
        intro i q
        unfold gT3 at q
        rw [Bool.and_eq_true] at q
        exact ⟨of_decide_eq_true q.1, q.2⟩
      have body : (4 * g < n0 ∨ 0 < g) → Cm E mX10_readsThing [rf E 99, .int (nI g), .int (nI (4 * g))] H1 (fun w zH => ∃ zr : Int32, w = some (.int zr) ∧ (Rm E mX10_readsText Q 95 [some (rf E 99), some (.int 0), some (.int 3), some (.int (nI g)), some (.int (nI (4 * g))), none] [.int zr] zH)) := by
        intro hne
        refine mt_rThing hT1 (by omega) (fun a0 => ⟨_, rfl, ?_⟩) (fun a0 a1 => ⟨_, rfl, ?_⟩) (fun a0 a1 a2 => ⟨_, rfl, ?_⟩) (fun a0 a1 a2 => ⟨_, rfl, ?_⟩)
        · refine sgX10_readsText_95 ⟨fun z => absurd z (by decide), fun _ => bad (4 * g) H1 _ (by show nI (4 * g) + nI 0 = _; rw [nI_add]; rfl) h4 hok (g3f _ a0) (by omega) f1 e2⟩
        · have b0' := g3t _ a0
          refine sgX10_readsText_95 ⟨fun z => absurd z (by decide), fun _ => bad (4 * g + 1) H1 _ (by show nI (4 * g) + nI 1 = _; rw [nI_add]) (by omega) (fun k hk => ?_) (g3f _ a1) (by omega) f1 e2⟩
          by_cases q : k = 4 * g
          · rw [q]; exact b0'.2
          · exact hok k (by omega)
        · have b0' := g3t _ a0
          have b1' := g3t _ a1
          refine sgX10_readsText_95 ⟨fun z => absurd z (by decide), fun _ => bad (4 * g + 2) H1 _ (by show nI (4 * g) + nI 2 = _; rw [nI_add]) (by omega) (fun k hk => ?_) (g3f _ a2) (by omega) f1 e2⟩
          by_cases q : k = 4 * g
          · rw [q]; exact b0'.2
          · by_cases q2 : k = 4 * g + 1
            · rw [q2]; exact b1'.2
            · exact hok k (by omega)
        · have b0' := g3t _ a0
          have b1' := g3t _ a1
          have b2' := g3t _ a2
          have ok3 : ∀ k, k < 4 * g + 3 → okT0 b0 k = true := by
            intro k hk
            by_cases q : k = 4 * g
            · rw [q]; exact b0'.2
            · by_cases q2 : k = 4 * g + 1
              · rw [q2]; exact b1'.2
              · by_cases q3 : k = 4 * g + 2
                · rw [q3]; exact b2'.2
                · exact hok k (by omega)
          generalize eH : up (up (up H1 102 g (nI (tSz b0 g))) 103 g (nI (tOw b0 g))) 104 g (nI (tKd b0 g)) = H2
          have f2 : frT0 H H2 := ⟨fun c p1 p2 p3 p4 => by rw [← eH, up_n p4, up_n p3, up_n p2]; exact f1.1 c p1 p2 p3 p4, fun k p => by rw [← eH, up_n (by decide), up_n (by decide), up_n (by decide)]; exact f1.2 k p⟩
          have e22 : H2 99 2 = 0 := by rw [← eH, up_n (by decide), up_n (by decide), up_n (by decide)]; exact e2
          have th2 : MThC b0 (g + 1) H2 := by
            intro t ht
            rw [← eH]
            by_cases q : t = g
            · subst q
              refine ⟨?_, ?_, ?_⟩
              · rw [up_n (by decide), up_n (by decide), up_s, upd_s]
              · rw [up_n (by decide), up_s, upd_s]
              · rw [up_s, upd_s]
            · obtain ⟨p1, p2, p3⟩ := th t (by omega)
              refine ⟨?_, ?_, ?_⟩
              · rw [up_n (by decide), up_n (by decide), up_s, upd_n q, p1]
              · rw [up_n (by decide), up_s, upd_n q, up_n (by decide), p2]
              · rw [up_s, upd_n q, up_n (by decide), up_n (by decide), p3]
          have hT2 := txk H2 f2
          refine sgX10_readsText_95 ⟨fun _ x3 e3 x4 e4 => ⟨0, ⟨by decide, rfl⟩, ?_⟩, fun z => absurd (by decide) z⟩
          have e4' : x4 = nI (4 * g + 3) := by rw [e4]; show nI (4 * g) + nI 3 = _; rw [nI_add]
          have e3' : x3 = nI (g + 1) := by rw [e3, nI_succ]
          rw [hT2.1, e4', e3']
          refine ⟨fun z => ?_, fun z => ⟨fun z2 => absurd rfl z2, fun _ => ?_⟩⟩
          · have l3 : 4 * g + 3 < n0 := by
              have : ¬ 4 * g + 3 = n0 := fun q => z (by rw [q])
              omega
            have o3 : okT0 b0 (4 * g + 3) = decide (b0 (4 * g + 3) = 59) := by
              unfold okT0
              rw [show (4 * g + 3) % 4 = 3 by omega]; simp [okA]
            refine mt_by0 hT2 (k := 4 * g + 3) (by omega) rfl ⟨_, rfl, fun z2 x ex => ?_, fun z2 => ?_⟩
            · have z2' := ((by_eq (v := 59) (bl _) (by decide)).mp z2).2
              have ex' : x = nI (4 * (g + 1)) := by rw [ex, ← nI_succ, show 4 * g + 3 + 1 = 4 * (g + 1) by omega]
              rw [ex']
              refine ih (g + 1) H2 (by omega) (by omega) (fun i hi => ?_) f2 e22 th2
              by_cases q : i = 4 * g + 3
              · rw [q, o3]; exact decide_eq_true z2'
              · exact ok3 i (by omega)
            · refine bad (4 * g + 3) H2 _ rfl (by omega) ok3 (fun _ => ?_) (by omega) f2 e22
              rw [o3]
              exact decide_eq_false (fun q => z2 ((by_eq (v := 59) (bl _) (by decide)).mpr ⟨l3, q⟩))
          · have l3 : 4 * g + 3 = n0 := nI_inj (by omega) (by omega) z
            obtain ⟨a1, a2⟩ := flt_okk (w := 3) (n := n0) (ok := okT0 b0) (fun k hk => ok3 k (by omega)) (by omega)
            have ef : famN n0 b0 = g + 1 := by unfold famN; rw [a2, if_pos rfl]; omega
            refine sgX10_readsText_142 (fun H3 g3 => ⟨fun _ => sgX10_readsText_159 (fun H4 g4 => ?_), fun z2 => absurd z2 (by decide)⟩)
            have h := hq H4 ⟨fun c p1 p2 p3 p4 => by rw [g4, up_n p1, g3, up_n p1]; exact f2.1 c p1 p2 p3 p4, fun k p => by
                rw [g4, up_s]
                by_cases q : k = 6
                · rw [q, upd_s, g3, up_s, upd_n (by decide)]; exact f2.2 6 (by decide)
                · rw [upd_n q, g3, up_s, upd_n p]; exact f2.2 k p⟩ (by rw [g4, up_s, upd_n (by decide), g3, up_s, upd_s, ef]) (fun t ht => by
                  rw [g4, up_n (by decide), up_n (by decide), up_n (by decide), g3, up_n (by decide), up_n (by decide), up_n (by decide)]
                  exact th2 t (by omega))
            rw [a1] at h; exact h
      have te : (n0 = 0 ∧ g = 0) → Q (some (.int (-1))) H1 := by
        rintro ⟨z0, -⟩
        obtain ⟨a1, a2⟩ := flt_okk (w := 3) (n := n0) (ok := okT0 b0) (fun k hk => by omega) (Or.inl z0)
        have ef : famN n0 b0 = 0 := by unfold famN; rw [a2, if_pos rfl]; omega
        have h := hq H1 f1 (by rw [ef, e2]; rfl) (by rw [ef]; intro t ht; exact absurd ht (Nat.not_lt_zero t))
        rw [a1] at h; exact h
      have ne8 : ¬ nI g = 8 := fun q => by
        have := nI_inj (a := g) (b := 8) (by omega) (by decide) q
        omega
      refine sgX10_readsText_48 ⟨0, ⟨by decide, rfl⟩, ?_⟩
      rw [hT1.1, nI_ltI (by omega) (by omega)]
      refine ⟨fun z => ⟨fun _ => ⟨fun z2 => absurd rfl z2, fun _ => body (Or.inl z)⟩, fun z2 => absurd z2 ne8⟩, fun z => ⟨fun z2 => te ?_, fun z2 => ⟨fun _ => ⟨fun z3 => absurd rfl z3, fun _ => body (Or.inr ?_)⟩, fun z3 => absurd z3 ne8⟩⟩⟩
      · have : nI (4 * g) ≤ nI 0 := z2
        rw [nI_leI (by omega) (by decide)] at this
        omega
      · have : ¬ 4 * g = 0 := fun q => z2 (by rw [q]; decide)
        omega
  refine cmX10_readsText ⟨fun z => absurd rfl z, fun _ => sgX10_readsText_9 ⟨fun z => absurd rfl z, fun _ => sgX10_readsText_28 (fun H1 g1 => ⟨fun _ => sgX10_readsText_45 (fun H2 g2 => ?_), fun z => absurd z (by decide)⟩)⟩⟩
  refine lp 8 0 H2 rfl (Nat.zero_le _) (fun i hi => absurd hi (Nat.not_lt_zero i)) ⟨fun c p1 _ _ _ => by rw [g2, up_n p1, g1, up_n p1], fun k p => ?_⟩ (by rw [g2, up_s, upd_n (by decide), g1, up_s, upd_s]) (fun t ht => absurd ht (Nat.not_lt_zero t))
  rw [g2, up_s]
  by_cases q : k = 6
  · rw [q, upd_s, g1, up_s, upd_n (by decide)]
  · rw [upd_n q, g1, up_s, upd_n p]
/-! cousins -/
def gC2 (n : Nat) (b : Nat → Nat) (i : Nat) : Bool := decide (i < n) && okT1 b i
def wiV (b : Nat → Nat) (g : Nat) : Int32 := if cWi b g < 8 then nI (cWi b g) else -1
def hoV (b : Nat → Nat) (g : Nat) : Int32 := nI (if cHo b g = true then 1 else 0)
set_option maxHeartbeats 1000000 in
theorem mt_rCousin {E : En} {Q : Option Value → Hi → Prop} {H : Hi} {n0 n1 g : Nat} {b0 b1 : Nat → Nat} (hT : TxM n0 b0 n1 b1 H) (hg : g < 8)
    (h0 : gC2 n1 b1 (3 * g) = false → Q (some (.int 0)) H) (h1 : gC2 n1 b1 (3 * g) = true → gC2 n1 b1 (3 * g + 1) = false → Q (some (.int 1)) H)
    (h2 : gC2 n1 b1 (3 * g) = true → gC2 n1 b1 (3 * g + 1) = true → Q (some (.int 2)) (up (up H 105 g (hoV b1 g)) 106 g (wiV b1 g))) :
    Cm E mX10_readsCousin [rf E 99, .int (nI g), .int (nI (3 * g))] H Q := by
  have bl : ∀ k, k < n1 → b1 k < 256 := fun k hk => (hT.2.2.2.2.2 k hk).2
  refine cmX10_readsCousin (mt_by1 hT (k := 3 * g) (by omega) rfl ⟨_, rfl, mt_by1 hT (k := 3 * g + 1) (by omega) (by rw [nI_succ]) ⟨_, rfl, ?_⟩⟩)
  have g0 : gC2 n1 b1 (3 * g) = (decide (3 * g < n1) && decide (b1 (3 * g) = 111 ∨ b1 (3 * g) = 104)) := by unfold gC2 okT1; rw [show 3 * g % 3 = 0 by omega]; rfl
  have g1 : gC2 n1 b1 (3 * g + 1) = (decide (3 * g + 1 < n1) && decide ((48 ≤ b1 (3 * g + 1) ∧ b1 (3 * g + 1) ≤ 55) ∨ b1 (3 * g + 1) = 46)) := by unfold gC2 okT1; rw [show (3 * g + 1) % 3 = 1 by omega]; rfl
  have c111 : byA n1 b1 (3 * g) = 111 ↔ 3 * g < n1 ∧ b1 (3 * g) = 111 := by_eq (v := 111) (bl _) (by decide)
  have c104 : byA n1 b1 (3 * g) = 104 ↔ 3 * g < n1 ∧ b1 (3 * g) = 104 := by_eq (v := 104) (bl _) (by decide)
  have c46 : byA n1 b1 (3 * g + 1) = 46 ↔ 3 * g + 1 < n1 ∧ b1 (3 * g + 1) = 46 := by_eq (v := 46) (bl _) (by decide)
  -- the two writes
  have s68 : ∀ x : Int32, gC2 n1 b1 (3 * g) = true → gC2 n1 b1 (3 * g + 1) = true → x = hoV b1 g → Rm E mX10_readsCousin Q 68 [some (rf E 99), some (.int (nI g)), none, none, some (.int (byA n1 b1 (3 * g + 1)))] [.int x, .int (nI g), rf E 105] H := by
    intro x a0 a1 ex
    have hh := h2 a0 a1
    rw [g1, Bool.and_eq_true] at a1
    have l := of_decide_eq_true a1.1
    have l2 := of_decide_eq_true a1.2
    refine sgX10_readsCousin_68 ⟨g, ⟨by omega, rfl⟩, fun H1 e1 => ⟨fun z => sgX10_readsCousin_90 ⟨g, ⟨by omega, rfl⟩, fun H2 e2 => ?_⟩, fun z => sgX10_readsCousin_90 ⟨g, ⟨by omega, rfl⟩, fun H2 e2 => ?_⟩⟩⟩
    · have nz : ¬ b1 (3 * g + 1) = 46 := fun q => z (c46.mpr ⟨l, q⟩)
      have r : 48 ≤ b1 (3 * g + 1) ∧ b1 (3 * g + 1) ≤ 55 := by omega
      have ew : byA n1 b1 (3 * g + 1) - 48 = wiV b1 g := by
        unfold byA wiV cWi
        rw [if_pos l, s48n _ (bl _ l) (by omega), if_neg nz, if_pos (by omega)]
      rw [e2, e1, ex, ew]; exact hh
    · have ez := (c46.mp z).2
      have ew : (-1 : Int32) = wiV b1 g := by
        unfold wiV cWi
        rw [if_pos ez, if_neg (by decide)]
      rw [e2, e1, ex, ew]; exact hh
  -- the wish
  have ws : ∀ x : Int32, gC2 n1 b1 (3 * g) = true → x = hoV b1 g → (byA n1 b1 (3 * g + 1) = 46 → Rm E mX10_readsCousin Q 68 [some (rf E 99), some (.int (nI g)), none, none, some (.int (byA n1 b1 (3 * g + 1)))] [.int x, .int (nI g), rf E 105] H) := fun x a0 ex z =>
    s68 x a0 (by
      obtain ⟨l, l2⟩ := c46.mp z
      rw [g1, decide_eq_true l, decide_eq_true (Or.inr l2)]; rfl) ex
  have wn : ∀ (x : Int32) (R : Int32 → Prop), gC2 n1 b1 (3 * g) = true → x = hoV b1 g → ¬ byA n1 b1 (3 * g + 1) = 46 → (∀ r : Int32, r = bI (gC2 n1 b1 (3 * g + 1)) → R r) → Cm E mX10_in [.int (byA n1 b1 (3 * g + 1)), .int 48, .int 55] H (fun w zH => ∃ zr : Int32, w = some (.int zr) ∧ (zH = H ∧ R zr)) := fun x R a0 ex z hr => by
    refine mt_in ⟨_, rfl, rfl, hr _ ?_⟩
    have e48 : (48 : Int32).toInt = 48 := by decide
    have e55 : (55 : Int32).toInt = 55 := by decide
    congr 1
    rw [e48, e55, g1]
    unfold byA at z ⊢
    by_cases l : 3 * g + 1 < n1
    · have hb := bl _ l
      rw [if_pos l] at z ⊢
      rw [nI_toInt (by omega), decide_eq_true l, Bool.true_and]
      have nz : ¬ b1 (3 * g + 1) = 46 := fun q => z (by rw [q]; rfl)
      have ee : ((48 : Int) ≤ ((b1 (3 * g + 1) : Nat) : Int) ∧ ((b1 (3 * g + 1) : Nat) : Int) ≤ 55) ↔ ((48 ≤ b1 (3 * g + 1) ∧ b1 (3 * g + 1) ≤ 55) ∨ b1 (3 * g + 1) = 46) := by omega
      exact decide_eq_decide.mpr ee
    · rw [if_neg l, decide_eq_false l, Bool.false_and]
      decide
  have d1 : ∀ k : Nat, ¬ (nI k = -1 ∧ k < 256) := by
    rintro k ⟨q, q2⟩
    have e2 := congrArg Int32.toInt q
    rw [nI_toInt (by omega)] at e2
    have h2 : (-1 : Int32).toInt = -1 := by decide
    omega
  have inn : ∀ {R1 R2 : Prop}, gC2 n1 b1 (3 * g) = true → ¬ byA n1 b1 (3 * g + 1) = 46 → (gC2 n1 b1 (3 * g + 1) = true → R1) → (gC2 n1 b1 (3 * g + 1) = false → R2) → Cm E mX10_in [.int (byA n1 b1 (3 * g + 1)), .int 48, .int 55] H (fun w zH => ∃ zr : Int32, w = some (.int zr) ∧ (zH = H ∧ ((¬ zr = 0 → R1) ∧ (zr = 0 → R2)))) := by
    intro R1 R2 a0 z r1 r2
    exact wn (hoV b1 g) (fun zr => (¬ zr = 0 → R1) ∧ (zr = 0 → R2)) a0 rfl z (fun r er => ⟨fun q => r1 (bI_1 (by rw [← er]; exact q)), fun q => r2 (bI_0.mp (by rw [← er]; exact q))⟩)
  refine ⟨fun z => ?_, fun z => ⟨fun z2 => ?_, fun z2 => ?_⟩⟩
  · obtain ⟨l, l2⟩ := c111.mp z
    have a0 : gC2 n1 b1 (3 * g) = true := by rw [g0, decide_eq_true l, decide_eq_true (Or.inl l2)]; rfl
    have n4 : ¬ byA n1 b1 (3 * g) = 104 := fun q => by have := (c104.mp q).2; omega
    have ho : (0 : Int32) = hoV b1 g := by
      unfold hoV cHo
      rw [decide_eq_false (by omega)]; rfl
    refine ⟨fun z3 => ⟨fun _ => ws 0 a0 ho z3, fun q => absurd q n4⟩, fun z3 => ?_⟩
    have h := inn (R1 := ((¬ byA n1 b1 (3 * g) = 104 → (Rm E mX10_readsCousin Q 68 [some (rf E 99), some (.int (nI g)), none, none, some (.int (byA n1 b1 (3 * g + 1)))] [.int 0, .int (nI g), rf E 105] H)) ∧ (byA n1 b1 (3 * g) = 104 → (Rm E mX10_readsCousin Q 68 [some (rf E 99), some (.int (nI g)), none, none, some (.int (byA n1 b1 (3 * g + 1)))] [.int 1, .int (nI g), rf E 105] H)))) (R2 := Q (some (.int 1)) H) a0 z3 (fun a1 => ⟨fun _ => s68 0 a0 a1 ho, fun q => absurd q n4⟩) (fun a1 => h1 a0 a1)
    refine cm_mono h (fun w zH hw => ?_)
    obtain ⟨zr, e1, e2, e3⟩ := hw
    rw [e2]
    exact ⟨zr, e1, e3⟩
  · obtain ⟨l, l2⟩ := c104.mp z2
    have a0 : gC2 n1 b1 (3 * g) = true := by rw [g0, decide_eq_true l, decide_eq_true (Or.inr l2)]; rfl
    have ho : (1 : Int32) = hoV b1 g := by
      unfold hoV cHo
      rw [decide_eq_true l2]; rfl
    refine ⟨fun z3 => ⟨fun q => absurd z2 q, fun _ => ws 1 a0 ho z3⟩, fun z3 => ?_⟩
    have h := inn (R1 := ((¬ byA n1 b1 (3 * g) = 104 → (Rm E mX10_readsCousin Q 68 [some (rf E 99), some (.int (nI g)), none, none, some (.int (byA n1 b1 (3 * g + 1)))] [.int 0, .int (nI g), rf E 105] H)) ∧ (byA n1 b1 (3 * g) = 104 → (Rm E mX10_readsCousin Q 68 [some (rf E 99), some (.int (nI g)), none, none, some (.int (byA n1 b1 (3 * g + 1)))] [.int 1, .int (nI g), rf E 105] H)))) (R2 := Q (some (.int 1)) H) a0 z3 (fun a1 => ⟨fun q => absurd z2 q, fun _ => s68 1 a0 a1 ho⟩) (fun a1 => h1 a0 a1)
    refine cm_mono h (fun w zH hw => ?_)
    obtain ⟨zr, e1, e2, e3⟩ := hw
    rw [e2]
    exact ⟨zr, e1, e3⟩
  · refine h0 ?_
    rw [g0]
    by_cases l : 3 * g < n1
    · have no : ¬ (b1 (3 * g) = 111 ∨ b1 (3 * g) = 104) := by
        rintro (q | q)
        · exact z (c111.mpr ⟨l, q⟩)
        · exact z2 (c104.mpr ⟨l, q⟩)
      rw [decide_eq_false no]; simp
    · rw [decide_eq_false l]; rfl
set_option maxHeartbeats 2000000 in
theorem mt_rt1 {E : En} {Q : Option Value → Hi → Prop} {H : Hi} {n0 n1 : Nat} {b0 b1 : Nat → Nat} (hT : TxM n0 b0 n1 b1 H)
    (hq : ∀ H' : Hi, ((∀ c, c ≠ 99 → c ≠ 105 → c ≠ 106 → H' c = H c) ∧ ∀ k, k ≠ 6 → H' 99 k = H 99 k) → H' 99 6 = nI (famM n1 b1) → (∀ c, c < famM n1 b1 → H' 105 c = hoV b1 c ∧ H' 106 c = wiV b1 c) → Q (some (.int (flt 2 (okT1 b1) n1))) H') : Cm E mX10_readsText [rf E 99, .int 1] H Q := by
  have n23 := hT.2.2.2.2.1
  have bl : ∀ k, k < n1 → b1 k < 256 := fun k hk => (hT.2.2.2.2.2 k hk).2
  have txk : ∀ H1 : Hi, (∀ c, c ≠ 99 → c ≠ 105 → c ≠ 106 → H1 c = H c) → TxM n0 b0 n1 b1 H1 := fun H1 f => txm_keep hT (f 100 (by decide) (by decide) (by decide)) (f 101 (by decide) (by decide) (by decide))
  have bad : ∀ (i : Nat) (H1 : Hi) (x : Int32), x = nI i → i ≤ n1 → (∀ k, k < i → okT1 b1 k = true) → (i < n1 → okT1 b1 i = false) → (i = n1 → ¬ (n1 = 0 ∨ n1 % 3 = 2)) → (∀ c, c ≠ 99 → c ≠ 105 → c ≠ 106 → H1 c = H c) → (∀ k, k ≠ 6 → H1 99 k = H 99 k) → H1 99 6 = 0 → Q (some (.int x)) H1 := by
    intro i H1 x ex hi h1 h2 h3 f1 f1' e2
    obtain ⟨a1, a2⟩ := flt_at (w := 2) hi h1 h2 h3
    have e : famM n1 b1 = 0 := by unfold famM; rw [a2, if_neg (by decide)]
    have h := hq H1 ⟨f1, f1'⟩ (by rw [e, e2]; rfl) (by rw [e]; intro t ht; exact absurd ht (Nat.not_lt_zero t))
    rw [a1, ← ex] at h; exact h
  have lp : ∀ (m g : Nat) (H1 : Hi), g + m = 8 → 3 * g ≤ n1 → (∀ i, i < 3 * g → okT1 b1 i = true) → (∀ c, c ≠ 99 → c ≠ 105 → c ≠ 106 → H1 c = H c) → (∀ k, k ≠ 6 → H1 99 k = H 99 k) → H1 99 6 = 0 → (∀ c, c < g → H1 105 c = hoV b1 c ∧ H1 106 c = wiV b1 c) →
      Rm E mX10_readsText Q 48 [some (rf E 99), some (.int 1), some (.int 2), some (.int (nI g)), some (.int (nI (3 * g))), none] [] H1 := by
    intro m
    induction m with
    | zero => intro g H1 hg h4; omega
    | succ m ih =>
      intro g H1 hg h4 hok f1 f1' e2 th
      have hT1 := txk H1 f1
      have g3f : ∀ i, gC2 n1 b1 i = false → i < n1 → okT1 b1 i = false := by
        intro i q l
        unfold gC2 at q
        rw [decide_eq_true l] at q; exact q
      have g3t : ∀ i, gC2 n1 b1 i = true → i < n1 ∧ okT1 b1 i = true := by
        intro i q
        unfold gC2 at q
        rw [Bool.and_eq_true] at q
        exact ⟨of_decide_eq_true q.1, q.2⟩
      have body : (3 * g < n1 ∨ 0 < g) → Cm E mX10_readsCousin [rf E 99, .int (nI g), .int (nI (3 * g))] H1 (fun w zH => ∃ zr : Int32, w = some (.int zr) ∧ (Rm E mX10_readsText Q 95 [some (rf E 99), some (.int 1), some (.int 2), some (.int (nI g)), some (.int (nI (3 * g))), none] [.int zr] zH)) := by
        intro hne
        refine mt_rCousin hT1 (by omega) (fun a0 => ⟨_, rfl, ?_⟩) (fun a0 a1 => ⟨_, rfl, ?_⟩) (fun a0 a1 => ⟨_, rfl, ?_⟩)
        · refine sgX10_readsText_95 ⟨fun z => absurd z (by decide), fun _ => bad (3 * g) H1 _ (by show nI (3 * g) + nI 0 = _; rw [nI_add]; rfl) h4 hok (g3f _ a0) (by omega) f1 f1' e2⟩
        · have b0' := g3t _ a0
          refine sgX10_readsText_95 ⟨fun z => absurd z (by decide), fun _ => bad (3 * g + 1) H1 _ (by show nI (3 * g) + nI 1 = _; rw [nI_add]) (by omega) (fun k hk => ?_) (g3f _ a1) (by omega) f1 f1' e2⟩
          by_cases q : k = 3 * g
          · rw [q]; exact b0'.2
          · exact hok k (by omega)
        · have b0' := g3t _ a0
          have b1' := g3t _ a1
          have ok3 : ∀ k, k < 3 * g + 2 → okT1 b1 k = true := by
            intro k hk
            by_cases q : k = 3 * g
            · rw [q]; exact b0'.2
            · by_cases q2 : k = 3 * g + 1
              · rw [q2]; exact b1'.2
              · exact hok k (by omega)
          generalize eH : up (up H1 105 g (hoV b1 g)) 106 g (wiV b1 g) = H2
          have f2 : ∀ c, c ≠ 99 → c ≠ 105 → c ≠ 106 → H2 c = H c := fun c p1 p2 p3 => by rw [← eH, up_n p3, up_n p2]; exact f1 c p1 p2 p3
          have f2' : ∀ k, k ≠ 6 → H2 99 k = H 99 k := fun k p => by rw [← eH, up_n (by decide), up_n (by decide)]; exact f1' k p
          have e22 : H2 99 6 = 0 := by rw [← eH, up_n (by decide), up_n (by decide)]; exact e2
          have th2 : ∀ c, c < g + 1 → H2 105 c = hoV b1 c ∧ H2 106 c = wiV b1 c := by
            intro t ht
            rw [← eH]
            by_cases q : t = g
            · subst q
              refine ⟨?_, ?_⟩
              · rw [up_n (by decide), up_s, upd_s]
              · rw [up_s, upd_s]
            · obtain ⟨p1, p2⟩ := th t (by omega)
              refine ⟨?_, ?_⟩
              · rw [up_n (by decide), up_s, upd_n q, p1]
              · rw [up_s, upd_n q, up_n (by decide), p2]
          have hT2 := txk H2 f2
          refine sgX10_readsText_95 ⟨fun _ x3 e3 x4 e4 => ⟨1, ⟨by decide, rfl⟩, ?_⟩, fun z => absurd (by decide) z⟩
          have e4' : x4 = nI (3 * g + 2) := by rw [e4]; show nI (3 * g) + nI 2 = _; rw [nI_add]
          have e3' : x3 = nI (g + 1) := by rw [e3, nI_succ]
          rw [hT2.2.2.2.1, e4', e3']
          refine ⟨fun z => ?_, fun z => ⟨fun _ => ?_, fun z2 => absurd z2 (by decide)⟩⟩
          · have l3 : 3 * g + 2 < n1 := by
              have : ¬ 3 * g + 2 = n1 := fun q => z (by rw [q])
              omega
            have o3 : okT1 b1 (3 * g + 2) = decide (b1 (3 * g + 2) = 59) := by
              unfold okT1
              rw [show (3 * g + 2) % 3 = 2 by omega]; simp [okB]
            refine mt_by1 hT2 (k := 3 * g + 2) (by omega) rfl ⟨_, rfl, fun z2 x ex => ?_, fun z2 => ?_⟩
            · have z2' := ((by_eq (v := 59) (bl _) (by decide)).mp z2).2
              have ex' : x = nI (3 * (g + 1)) := by rw [ex, ← nI_succ, show 3 * g + 2 + 1 = 3 * (g + 1) by omega]
              rw [ex']
              refine ih (g + 1) H2 (by omega) (by omega) (fun i hi => ?_) f2 f2' e22 th2
              by_cases q : i = 3 * g + 2
              · rw [q, o3]; exact decide_eq_true z2'
              · exact ok3 i (by omega)
            · refine bad (3 * g + 2) H2 _ rfl (by omega) ok3 (fun _ => ?_) (by omega) f2 f2' e22
              rw [o3]
              exact decide_eq_false (fun q => z2 ((by_eq (v := 59) (bl _) (by decide)).mpr ⟨l3, q⟩))
          · have l3 : 3 * g + 2 = n1 := nI_inj (by omega) (by omega) z
            obtain ⟨a1, a2⟩ := flt_okk (w := 2) (n := n1) (ok := okT1 b1) (fun k hk => ok3 k (by omega)) (by omega)
            have ef : famM n1 b1 = g + 1 := by unfold famM; rw [a2, if_pos rfl]; omega
            refine sgX10_readsText_142 (fun H3 g3 => ⟨fun z2 => absurd rfl z2, fun _ => sgX10_readsText_159 (fun H4 g4 => ?_)⟩)
            have h := hq H4 ⟨fun c p1 p2 p3 => by rw [g4, up_n p1, g3, up_n p1]; exact f2 c p1 p2 p3, fun k p => by
                rw [g4, up_s, upd_n p, g3, up_s]
                by_cases q : k = 2
                · rw [q, upd_s]; exact f2' 2 (by decide)
                · rw [upd_n q]; exact f2' k p⟩ (by rw [g4, up_s, upd_s, ef]) (fun t ht => by
                  rw [g4, up_n (by decide), up_n (by decide), g3, up_n (by decide), up_n (by decide)]
                  exact th2 t (by omega))
            rw [a1] at h; exact h
      have te : (n1 = 0 ∧ g = 0) → Q (some (.int (-1))) H1 := by
        rintro ⟨z0, -⟩
        obtain ⟨a1, a2⟩ := flt_okk (w := 2) (n := n1) (ok := okT1 b1) (fun k hk => by omega) (Or.inl z0)
        have ef : famM n1 b1 = 0 := by unfold famM; rw [a2, if_pos rfl]; omega
        have h := hq H1 ⟨f1, f1'⟩ (by rw [ef, e2]; rfl) (by rw [ef]; intro t ht; exact absurd ht (Nat.not_lt_zero t))
        rw [a1] at h; exact h
      have ne8 : ¬ nI g = 8 := fun q => by
        have := nI_inj (a := g) (b := 8) (by omega) (by decide) q
        omega
      have n10 : ¬ (1 : Int32) = 0 := by decide
      refine sgX10_readsText_48 ⟨1, ⟨by decide, rfl⟩, ?_⟩
      rw [hT1.2.2.2.1, nI_ltI (by omega) (by omega)]
      refine ⟨fun z => ⟨fun _ => ⟨fun _ => body (Or.inl z), fun z2 => absurd z2 n10⟩, fun z2 => absurd z2 ne8⟩, fun z => ⟨fun z2 => te ?_, fun z2 => ⟨fun _ => ⟨fun _ => body (Or.inr ?_), fun z3 => absurd z3 n10⟩, fun z3 => absurd z3 ne8⟩⟩⟩
      · have : nI (3 * g) ≤ nI 0 := z2
        rw [nI_leI (by omega) (by decide)] at this
        omega
      · have : ¬ 3 * g = 0 := fun q => z2 (by rw [q]; decide)
        omega
  have n10 : ¬ (1 : Int32) = 0 := by decide
  refine cmX10_readsText ⟨fun _ => sgX10_readsText_9 ⟨fun _ => sgX10_readsText_28 (fun H1 g1 => ⟨fun z => absurd rfl z, fun _ => sgX10_readsText_45 (fun H2 g2 => ?_)⟩), fun z => absurd z n10⟩, fun z => absurd z n10⟩
  refine lp 8 0 H2 rfl (Nat.zero_le _) (fun i hi => absurd hi (Nat.not_lt_zero i)) (fun c p1 _ _ => by rw [g2, up_n p1, g1, up_n p1]) (fun k p => ?_) (by rw [g2, up_s, upd_s]) (fun t ht => absurd ht (Nat.not_lt_zero t))
  rw [g2, up_s, upd_n p, g1, up_s]
  by_cases q : k = 2
  · rw [q, upd_s]
  · rw [upd_n q]
