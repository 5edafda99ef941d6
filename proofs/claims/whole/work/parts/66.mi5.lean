/-! the model: what is told to it -/
def BOk (b : Bd) : Prop := (dn0 b ≤ 31 ∧ ∀ i, i < dn0 b → db0 b i < 256) ∧ (dn1 b ≤ 23 ∧ ∀ i, i < dn1 b → db1 b i < 256) ∧ dRm b ≤ 72 ∧ dA b < 2 ^ 24 ∧ ((dH b).1 ≤ 20 ∧ ∀ k, k < (dH b).1 → (dH b).2.1 k < 24 ∧ (dH b).2.2 k < 128) ∧
  ((dO b).1 ≤ 6 ∧ ∀ k, k < (dO b).1 → (dO b).2.1 k < 24 ∧ (dO b).2.2 k ≤ 9) ∧ ((dF b).1 ≤ 8 ∧ ∀ k, k < (dF b).1 → (dF b).2.1 k < 24 ∧ (dF b).2.2.1 k < 8 ∧ (dF b).2.2.2 k < 2) ∧ ∀ s, s < 4 → (dS b).2.2.1 s ≤ 60 ∧ (dS b).2.1 s ≤ 2
theorem bok_cb {b : Bd} {H : Hi} (h : CB b H) : BOk b := by
  obtain ⟨a1, a2, a3, a4, a5, a6, a7⟩ := h
  refine ⟨⟨a1.2.2.1, fun i hi => (a1.2.2.2.1 i hi).2⟩, ⟨a1.2.2.2.2.2.2.1, fun i hi => (a1.2.2.2.2.2.2.2 i hi).2⟩, a3, a2.2.2.2.2.2.2.2.1, ⟨a2.1, fun k hk => ⟨(a2.2.2.1 k hk).2.1, (a2.2.2.1 k hk).2.2.2⟩⟩, ⟨a2.2.2.2.2.1, fun k hk => ⟨(a2.2.2.2.2.2.1 k hk).2.1, (a2.2.2.2.2.2.1 k hk).2.2.2⟩⟩, ⟨a4.1, fun k hk => ?_⟩, fun s hs => ⟨(a5 s hs).2.1, (a5 s hs).2.2.2.1⟩⟩
  obtain ⟨p1, p2, p3, p4, p5, p6⟩ := a4.2.2 k hk
  exact ⟨p2, p4, p6⟩
theorem bok_pm {b : Bd} (h : BOk b) : PmOk (dP b) := by
  refine ⟨famN_le h.1.1, famM_le h.2.1.1, fun t ht => ?_, h.2.2.1⟩
  obtain ⟨a1, a2, a3, a4, a5, a6⟩ := fam_t (n := dn0 b) (b := db0 b) ht
  show 1 ≤ tSz (db0 b) t ∧ tSz (db0 b) t ≤ 9 ∧ tOw (db0 b) t < 8 ∧ tKd (db0 b) t < 3
  unfold tSz tOw tKd
  refine ⟨by omega, by omega, by omega, ?_⟩
  split
  · omega
  · split <;> omega
def MHa (hd : Hd) (H : Hi) : Prop := H 99 11 = nI hd.1 ∧ ∀ k, k < hd.1 → H 107 k = nI (hd.2.1 k) ∧ H 108 k = nI (hd.2.2 k)
def MHo (o : Hd) (H : Hi) : Prop := H 99 14 = nI o.1 ∧ ∀ k, k < o.1 → H 109 k = nI (o.2.1 k) ∧ H 110 k = nI (o.2.2 k)
def MFe (f : Nat × (Nat → Nat) × (Nat → Nat) × (Nat → Nat)) (H : Hi) : Prop := H 99 30 = nI f.1 ∧ ∀ k, k < f.1 → H 122 k = nI (f.2.1 k) ∧ H 123 k = nI (f.2.2.1 k) ∧ H 124 k = nI (f.2.2.2 k)
def MSh (s : (Nat → Bool) × (Nat → Nat) × (Nat → Nat) × (Nat → Nat → Int32)) (H : Hi) : Prop := ∀ i, i < 4 → H 126 i = bI (s.1 i) ∧ H 127 i = nI (s.2.1 i) ∧ H 128 i = nI (s.2.2.1 i) ∧ ∀ j, j < 60 → H 129 (60 * i + j) = s.2.2.2 i j
/-- the model -/
def MI (b : Bd) (H : Hi) : Prop := TxM (dn0 b) (db0 b) (dn1 b) (db1 b) H ∧ (H 99 9 = nI (dRm b) ∧ H 99 10 = nI (dA b)) ∧ MHa (dH b) H ∧ MHo (dO b) H ∧ MFe (dF b) H ∧ MSh (dS b) H ∧ H 99 41 = nI (dFi b)
theorem mha_k {hd : Hd} {H H' : Hi} (h : MHa hd H) (h1 : H' 99 11 = H 99 11) (h2 : ∀ k, k < hd.1 → H' 107 k = H 107 k ∧ H' 108 k = H 108 k) : MHa hd H' :=
  ⟨by rw [h1]; exact h.1, fun k hk => by rw [(h2 k hk).1, (h2 k hk).2]; exact h.2 k hk⟩
theorem mho_k {o : Hd} {H H' : Hi} (h : MHo o H) (h1 : H' 99 14 = H 99 14) (h2 : H' 109 = H 109) (h3 : H' 110 = H 110) : MHo o H' := by
  unfold MHo
  rw [h1, h2, h3]; exact h
theorem mfe_k {f : Nat × (Nat → Nat) × (Nat → Nat) × (Nat → Nat)} {H H' : Hi} (h : MFe f H) (h1 : H' 99 30 = H 99 30) (h2 : H' 122 = H 122) (h3 : H' 123 = H 123) (h4 : H' 124 = H 124) : MFe f H' := by
  unfold MFe
  rw [h1, h2, h3, h4]; exact h
theorem msh_k {s : (Nat → Bool) × (Nat → Nat) × (Nat → Nat) × (Nat → Nat → Int32)} {H H' : Hi} (h : MSh s H) (h1 : H' 126 = H 126) (h2 : H' 127 = H 127) (h3 : H' 128 = H 128) (h4 : H' 129 = H 129) : MSh s H' := by
  unfold MSh
  rw [h1, h2, h3, h4]; exact h
def frX (n : Nat) (H0 H : Hi) : Prop := (∀ c, c < 99 ∨ c = 100 ∨ c = 101 ∨ c = 109 ∨ c = 110 ∨ (122 ≤ c ∧ c ≤ 124) ∨ (126 ≤ c ∧ c ≤ 129) → H c = H0 c) ∧ (∀ k, k = 9 ∨ k = 10 ∨ k = 11 ∨ k = 14 ∨ k = 30 ∨ k = 41 → H 99 k = H0 99 k) ∧ ∀ k, k < n → H 107 k = H0 107 k ∧ H 108 k = H0 108 k
theorem fx_rf {n : Nat} {H : Hi} : frX n H H := ⟨fun _ _ => rfl, fun _ _ => rfl, fun _ _ => ⟨rfl, rfl⟩⟩
theorem fx_tr {n : Nat} {H H1 H2 : Hi} (h : frX n H H1) (g : frX n H1 H2) : frX n H H2 :=
  ⟨fun c hc => by rw [g.1 c hc, h.1 c hc], fun k hk => by rw [g.2.1 k hk, h.2.1 k hk], fun k hk => by rw [(g.2.2 k hk).1, (g.2.2 k hk).2]; exact h.2.2 k hk⟩
theorem mi_fx {b : Bd} {H H' : Hi} (hM : MI b H) (f : frX (dH b).1 H H') : MI b H' := by
  obtain ⟨m1, m2, m3, m4, m5, m6, m7⟩ := hM
  exact ⟨txm_keep m1 (f.1 100 (by omega)) (f.1 101 (by omega)), ⟨by rw [f.2.1 9 (by omega)]; exact m2.1, by rw [f.2.1 10 (by omega)]; exact m2.2⟩, mha_k m3 (f.2.1 11 (by omega)) f.2.2, mho_k m4 (f.2.1 14 (by omega)) (f.1 109 (by omega)) (f.1 110 (by omega)), mfe_k m5 (f.2.1 30 (by omega)) (f.1 122 (by omega)) (f.1 123 (by omega)) (f.1 124 (by omega)), msh_k m6 (f.1 126 (by omega)) (f.1 127 (by omega)) (f.1 128 (by omega)) (f.1 129 (by omega)), by rw [f.2.1 41 (by omega)]; exact m7⟩
theorem fx_K {n : Nat} {H H' : Hi} (f : frK H H') : frX n H H' := ⟨fun c hc => f c (by omega), fun k _ => by rw [f 99 (by decide)], fun k _ => ⟨by rw [f 107 (by decide)], by rw [f 108 (by decide)]⟩⟩
/-- what reading changes -/
def frR (H H' : Hi) : Prop := (∀ c, c ≠ 99 → (c < 102 ∨ 106 < c) → H' c = H c) ∧ ∀ k, k ≠ 2 → k ≠ 6 → H' 99 k = H 99 k
theorem fx_R {n : Nat} {H H' : Hi} (f : frR H H') : frX n H H' := ⟨fun c hc => f.1 c (by omega) (by omega), fun k hk => f.2 k (by omega) (by omega), fun k _ => ⟨by rw [f.1 107 (by decide) (by decide)], by rw [f.1 108 (by decide) (by decide)]⟩⟩
theorem mt_faultOf {E : En} {Q : Option Value → Hi → Prop} {H : Hi} {b : Bd} {x : Int32} (hO : BOk b) (hM : MI b H)
    (hq : ∀ H' : Hi, frR H H' → RdC (dP b) H' → Q (some (.int (if x = 0 then flt 3 (okT0 (db0 b)) (dn0 b) else flt 2 (okT1 (db1 b)) (dn1 b)))) H') : Cm E mX10_faultOf [rf E 99, .int x] H Q := by
  refine cmX10_faultOf (mt_rt0 hM.1 ?_)
  intro H1 f1 e1 t1
  refine ⟨_, rfl, mt_rt1 (txm_keep hM.1 (f1.1 100 (by decide) (by decide) (by decide) (by decide)) (f1.1 101 (by decide) (by decide) (by decide) (by decide))) ?_⟩
  intro H2 f2 e2 t2
  have fr : frR H H2 := ⟨fun c p1 p2 => by rw [f2.1 c p1 (by omega) (by omega), f1.1 c p1 (by omega) (by omega) (by omega)], fun k p1 p2 => by rw [f2.2 k p2, f1.2 k p1]⟩
  have rd : RdC (dP b) H2 := by
    have fx : frX (dH b).1 H H2 := fx_R fr
    have hM2 := mi_fx hM fx
    refine ⟨bok_pm hO, ?_, e2, fun t ht => ?_, t2, hM2.2.1.1, hM2.2.2.2.1.1, hO.2.2.2.2.2.1.1, fun k hk => ⟨(hM2.2.2.2.1.2 k hk).1, (hO.2.2.2.2.2.1.2 k hk).1, (hM2.2.2.2.1.2 k hk).2, (hO.2.2.2.2.2.1.2 k hk).2⟩⟩
    · rw [f2.2 2 (by decide)]; exact e1
    · rw [f2.1 102 (by decide) (by decide) (by decide), f2.1 103 (by decide) (by decide) (by decide), f2.1 104 (by decide) (by decide) (by decide)]
      exact t1 t ht
  have h := hq H2 fr rd
  refine ⟨_, rfl, fun z => ?_, fun z => ?_⟩
  · rw [if_neg z] at h; exact h
  · rw [if_pos z] at h; exact h
theorem mt_reads {E : En} {Q : Option Value → Hi → Prop} {H : Hi} {b : Bd} (hO : BOk b) (hM : MI b H) (hq : ∀ H' : Hi, frR H H' → RdC (dP b) H' → Q none H') : Cm E mX10_reads [rf E 99] H Q :=
  cmX10_reads (mt_faultOf hO hM (fun H' f' r' => ⟨_, rfl, hq H' f' r'⟩))
theorem ni_m1 {n : Nat} (h : n < 2 ^ 31) : (nI n - 1).toInt = (n : Int) - 1 := by
  by_cases e : n = 0
  · rw [e]; decide
  · rw [ni_prd e, nI_toInt (by omega)]; omega
theorem mt_isThing {E : En} {Q : Option Value → Hi → Prop} {H : Hi} {b : Bd} {x : Int32} (hO : BOk b) (hM : MI b H) (hq : ∀ H' : Hi, frX (dH b).1 H H' → RdC (dP b) H' → Q (some (.int (bI (inN (pN (dP b)) x)))) H') : Cm E mX10_isThing [rf E 99, .int x] H Q := by
  refine cmX10_isThing (mt_reads hO hM (fun H' f' r' => ⟨rfl, ?_⟩))
  have n8 := r'.1.1
  rw [r'.2.1]
  exact mt_inN (N := pN (dP b)) (ni_m1 (by omega)) ⟨_, rfl, bI_nar _, hq H' (fx_R f') r'⟩
theorem mt_isCousin {E : En} {Q : Option Value → Hi → Prop} {H : Hi} {b : Bd} {x : Int32} (hO : BOk b) (hM : MI b H) (hq : ∀ H' : Hi, frX (dH b).1 H H' → RdC (dP b) H' → Q (some (.int (bI (inN (pM (dP b)) x)))) H') : Cm E mX10_isCousin [rf E 99, .int x] H Q := by
  refine cmX10_isCousin (mt_reads hO hM (fun H' f' r' => ⟨rfl, ?_⟩))
  have n8 := r'.1.2.1
  rw [r'.2.2.1]
  exact mt_inN (N := pM (dP b)) (ni_m1 (by omega)) ⟨_, rfl, bI_nar _, hq H' (fx_R f') r'⟩
theorem mt_isText {E : En} {Q : Option Value → Hi → Prop} {H : Hi} {x : Int32} (hq : Q (some (.int (bI (inN 2 x)))) H) : Cm E mX10_isText [.int x] H Q := cmX10_isText (mt_inN (N := 2) (by decide) ⟨_, rfl, bI_nar _, hq⟩)
theorem mt_isHour {E : En} {Q : Option Value → Hi → Prop} {H : Hi} {x : Int32} (hq : Q (some (.int (bI (inN 24 x)))) H) : Cm E mX10_isHour [.int x] H Q := cmX10_isHour (mt_inN (N := 24) (by decide) ⟨_, rfl, bI_nar _, hq⟩)
theorem mt_isEight {E : En} {Q : Option Value → Hi → Prop} {H : Hi} {x : Int32} (hq : Q (some (.int (bI (inN 8 x)))) H) : Cm E mX10_isEight [.int x] H Q := cmX10_isEight (mt_inN (N := 8) (by decide) ⟨_, rfl, bI_nar _, hq⟩)
theorem mt_isSheet {E : En} {Q : Option Value → Hi → Prop} {H : Hi} {x : Int32} (hq : Q (some (.int (bI (inN 4 x)))) H) : Cm E mX10_isSheet [.int x] H Q := cmX10_isSheet (mt_inN (N := 4) (by decide) ⟨_, rfl, bI_nar _, hq⟩)
def fx1 (H H' : Hi) : Prop := ∀ c, c < 99 → H' c = H c
theorem fx_1 {n : Nat} {H H' : Hi} (f : frX n H H') : fx1 H H' := fun c hc => f.1 c (by omega)
/-- a call's contract, for the model -/
def Mc (E : En) (μ : Mt) (as : List Value) (b : Bd) (r : Int32 × Bd) : Prop :=
  ∀ (H : Hi) (Q : Option Value → Hi → Prop), BOk b → MI b H → (∀ H' : Hi, fx1 H H' → MI r.2 H' → Q (some (.int r.1)) H') → Cm E μ as H Q
def McL (E : En) (μ : Mt) (as : List Value) (b : Bd) (r : Int64 × Bd) : Prop :=
  ∀ (H : Hi) (Q : Option Value → Hi → Prop), BOk b → MI b H → (∀ H' : Hi, fx1 H H' → MI r.2 H' → Q (some (.long r.1)) H') → Cm E μ as H Q
/-- only texts changed -/
theorem mi_tx {b : Bd} {H H' : Hi} {v : Tx4} (hM : MI b H) (hT : TxM v.1 v.2.1 v.2.2.1 v.2.2.2 H') (f : ∀ c, c ≠ 100 → c ≠ 101 → H' c = H c) : MI (v, b.2) H' := by
  obtain ⟨m1, m2, m3, m4, m5, m6, m7⟩ := hM
  have f99 : H' 99 = H 99 := f 99 (by decide) (by decide)
  exact ⟨hT, ⟨by rw [f99]; exact m2.1, by rw [f99]; exact m2.2⟩, mha_k m3 (by rw [f99]) (fun k _ => ⟨by rw [f 107 (by decide) (by decide)], by rw [f 108 (by decide) (by decide)]⟩), mho_k m4 (by rw [f99]) (f 109 (by decide) (by decide)) (f 110 (by decide) (by decide)), mfe_k m5 (by rw [f99]) (f 122 (by decide) (by decide)) (f 123 (by decide) (by decide)) (f 124 (by decide) (by decide)), msh_k m6 (f 126 (by decide) (by decide)) (f 127 (by decide) (by decide)) (f 128 (by decide) (by decide)) (f 129 (by decide) (by decide)), by rw [f99]; exact m7⟩
set_option maxHeartbeats 1000000 in
theorem mc_type {E : En} {b : Bd} {x y : Int32} : Mc E mX10_type [rf E 99, .int x, .int y] b (sType b x y) := by
  intro H Q hO hM hq
  refine cmX10_type (mt_isText ⟨_, rfl, fun z => ?_, fun z => mt_inN (N := 256) (by decide) ⟨_, rfl, fun z2 => ?_, fun z2 => ?_⟩⟩)
  · have e : sType b x y = (-2, b) := if_neg (by rw [bI_0.mp z]; simp)
    rw [e] at hq; exact hq H (fun _ _ => rfl) hM
  · have x2 := bI_1 z
    have y2 := bI_1 z2
    have e : sType b x y = _ := if_pos ⟨x2, y2⟩
    rw [e] at hq
    obtain ⟨j, j1, j2, j3⟩ := inN_of y2 (by decide)
    obtain ⟨t1, t2, t3, t4, t5, t6⟩ := hM.1
    rcases inN_2.mp x2 with ex | ex
    · subst ex
      rw [if_pos rfl] at hq
      refine ⟨0, ⟨by decide, rfl⟩, fun z3 => absurd rfl z3, fun _ => ?_⟩
      rw [t1]
      refine ⟨fun z3 => ⟨0, ⟨by decide, rfl⟩, dn0 b, ⟨by omega, ?_⟩, fun H1 g1 => ⟨0, ⟨by decide, rfl⟩, 0, ⟨by decide, rfl⟩, fun H2 g2 => ⟨0, ⟨by decide, rfl⟩, ?_⟩⟩⟩, fun z3 => ?_⟩
      · rw [t1]
        show nI 31 * nI 0 + nI (dn0 b) = _
        rw [ni_mulN, nI_add, Nat.mul_zero, Nat.zero_add]
      · have n31 : ¬ dn0 b = 31 := fun q => z3 (by rw [q]; rfl)
        rw [if_pos (by omega)] at hq
        have e2 : H2 100 0 = nI (dn0 b + 1) := by rw [g2, up_s, upd_s, g1, up_n (by decide), t1, nI_succ]
        rw [e2]
        refine hq H2 (fun c hc => by rw [g2, up_n (by omega), g1, up_n (by omega)]) (mi_tx (v := (dn0 b + 1, nup (db0 b) (dn0 b) (un y), dn1 b, db1 b)) hM ⟨e2, by show dn0 b + 1 ≤ 31; omega, fun i hi => ?_, ?_, t5, fun i hi => ?_⟩ (fun c p1 p2 => by rw [g2, up_n p1, g1, up_n p2]))
        · rw [g2, up_n (by decide), g1, up_s]
          show upd _ _ _ i = nI (nup (db0 b) (dn0 b) (un y) i) ∧ nup (db0 b) (dn0 b) (un y) i < 256
          unfold nup
          by_cases ei : i = dn0 b
          · rw [if_pos ei, ei, upd_s, j3]; exact ⟨j2, by omega⟩
          · have hi' : i < dn0 b + 1 := hi
            rw [if_neg ei, upd_n ei]; exact t3 i (by omega)
        · rw [g2, up_s, upd_n (by decide), g1, up_n (by decide)]; exact t4
        · have hi' : i < dn1 b := hi
          rw [g2, up_n (by decide), g1, up_s, upd_n (by omega)]; exact t6 i hi'
      · have n31 : dn0 b = 31 := nI_inj (by omega) (by decide) z3
        rw [if_neg (by omega)] at hq
        exact hq H (fun _ _ => rfl) hM
    · subst ex
      rw [if_neg (by decide)] at hq
      refine ⟨1, ⟨by decide, rfl⟩, fun _ => ?_, fun z3 => absurd z3 (by decide)⟩
      rw [t4]
      refine ⟨fun z3 => ⟨1, ⟨by decide, rfl⟩, 31 + dn1 b, ⟨by omega, ?_⟩, fun H1 g1 => ⟨1, ⟨by decide, rfl⟩, 1, ⟨by decide, rfl⟩, fun H2 g2 => ⟨1, ⟨by decide, rfl⟩, ?_⟩⟩⟩, fun z3 => ?_⟩
      · rw [t4]
        show nI 31 * nI 1 + nI (dn1 b) = _
        rw [ni_mulN, nI_add]
      · have n31 : ¬ dn1 b = 23 := fun q => z3 (by rw [q]; rfl)
        rw [if_pos (by omega)] at hq
        have e2 : H2 100 1 = nI (dn1 b + 1) := by rw [g2, up_s, upd_s, g1, up_n (by decide), t4, nI_succ]
        rw [e2]
        refine hq H2 (fun c hc => by rw [g2, up_n (by omega), g1, up_n (by omega)]) (mi_tx (v := (dn0 b, db0 b, dn1 b + 1, nup (db1 b) (dn1 b) (un y))) hM ⟨?_, t2, fun i hi => ?_, e2, by show dn1 b + 1 ≤ 23; omega, fun i hi => ?_⟩ (fun c p1 p2 => by rw [g2, up_n p1, g1, up_n p2]))
        · rw [g2, up_s, upd_n (by decide), g1, up_n (by decide)]; exact t1
        · have hi' : i < dn0 b := hi
          rw [g2, up_n (by decide), g1, up_s, upd_n (by omega)]; exact t3 i hi'
        · rw [g2, up_n (by decide), g1, up_s]
          show upd _ _ _ (31 + i) = nI (nup (db1 b) (dn1 b) (un y) i) ∧ nup (db1 b) (dn1 b) (un y) i < 256
          unfold nup
          by_cases ei : i = dn1 b
          · rw [if_pos ei, ei, upd_s, j3]; exact ⟨j2, by omega⟩
          · have hi' : i < dn1 b + 1 := hi
            rw [if_neg ei, upd_n (by omega)]; exact t6 i (by omega)
      · have n31 : dn1 b = 23 := nI_inj (by omega) (by decide) z3
        rw [if_neg (by omega)] at hq
        exact hq H (fun _ _ => rfl) hM
  · have e : sType b x y = (-2, b) := if_neg (by rw [bI_0.mp z2]; simp)
    rw [e] at hq; exact hq H (fun _ _ => rfl) hM
theorem mc_wipe {E : En} {b : Bd} {x : Int32} : Mc E mX10_wipe [rf E 99, .int x] b (sWipe b x) := by
  intro H Q hO hM hq
  refine cmX10_wipe (mt_isText ⟨_, rfl, fun z => ?_, fun z => ?_⟩)
  · have e : sWipe b x = _ := if_pos (bI_1 z)
    rw [e] at hq
    obtain ⟨t1, t2, t3, t4, t5, t6⟩ := hM.1
    rcases inN_2.mp (bI_1 z) with ex | ex
    · subst ex
      rw [if_pos rfl] at hq
      refine ⟨0, ⟨by decide, rfl⟩, fun y ey => ⟨0, ⟨by decide, rfl⟩, fun H1 g1 => ?_⟩⟩
      rw [ey, t1]
      refine hq H1 (fun c hc => by rw [g1, up_n (by omega)]) (mi_tx (v := (0, db0 b, dn1 b, db1 b)) hM ⟨by rw [g1, up_s, upd_s]; rfl, Nat.zero_le _, fun i hi => absurd hi (Nat.not_lt_zero i), by rw [g1, up_s, upd_n (by decide)]; exact t4, t5, by rw [g1, up_n (by decide)]; exact t6⟩ (fun c p1 _ => by rw [g1, up_n p1]))
    · subst ex
      rw [if_neg (by decide)] at hq
      refine ⟨1, ⟨by decide, rfl⟩, fun y ey => ⟨1, ⟨by decide, rfl⟩, fun H1 g1 => ?_⟩⟩
      rw [ey, t4]
      refine hq H1 (fun c hc => by rw [g1, up_n (by omega)]) (mi_tx (v := (dn0 b, db0 b, 0, db1 b)) hM ⟨by rw [g1, up_s, upd_n (by decide)]; exact t1, t2, by rw [g1, up_n (by decide)]; exact t3, by rw [g1, up_s, upd_s]; rfl, Nat.zero_le _, fun i hi => absurd hi (Nat.not_lt_zero i)⟩ (fun c p1 _ => by rw [g1, up_n p1]))
  · have e : sWipe b x = (-2, b) := if_neg (by rw [bI_0.mp z]; simp)
    rw [e] at hq; exact hq H (fun _ _ => rfl) hM
theorem mc_undo {E : En} {b : Bd} {x : Int32} : Mc E mX10_undo [rf E 99, .int x] b (sUndo b x) := by
  intro H Q hO hM hq
  refine cmX10_undo (mt_isText ⟨_, rfl, fun z => ?_, fun z => ?_⟩)
  · have e : sUndo b x = _ := if_pos (bI_1 z)
    rw [e] at hq
    obtain ⟨t1, t2, t3, t4, t5, t6⟩ := hM.1
    rcases inN_2.mp (bI_1 z) with ex | ex
    · subst ex
      rw [if_pos rfl] at hq
      refine ⟨0, ⟨by decide, rfl⟩, ?_⟩
      rw [t1, nI_eq0 (by omega)]
      refine ⟨fun z2 => ⟨0, ⟨by decide, rfl⟩, 0, ⟨by decide, rfl⟩, fun H1 g1 => ⟨0, ⟨by decide, rfl⟩, ?_⟩⟩, fun z2 => ?_⟩
      · rw [if_neg z2] at hq
        have e2 : H1 100 0 = nI (dn0 b - 1) := by rw [g1, up_s, upd_s, t1, ni_prd z2]
        rw [e2]
        exact hq H1 (fun c hc => by rw [g1, up_n (by omega)]) (mi_tx (v := (dn0 b - 1, db0 b, dn1 b, db1 b)) hM ⟨e2, by show dn0 b - 1 ≤ 31; omega, fun i hi => by
          have hi' : i < dn0 b - 1 := hi
          rw [g1, up_n (by decide)]; exact t3 i (by omega), by rw [g1, up_s, upd_n (by decide)]; exact t4, t5, by rw [g1, up_n (by decide)]; exact t6⟩ (fun c p1 _ => by rw [g1, up_n p1]))
      · rw [if_pos z2] at hq
        exact hq H (fun _ _ => rfl) hM
    · subst ex
      rw [if_neg (by decide)] at hq
      refine ⟨1, ⟨by decide, rfl⟩, ?_⟩
      rw [t4, nI_eq0 (by omega)]
      refine ⟨fun z2 => ⟨1, ⟨by decide, rfl⟩, 1, ⟨by decide, rfl⟩, fun H1 g1 => ⟨1, ⟨by decide, rfl⟩, ?_⟩⟩, fun z2 => ?_⟩
      · rw [if_neg z2] at hq
        have e2 : H1 100 1 = nI (dn1 b - 1) := by rw [g1, up_s, upd_s, t4, ni_prd z2]
        rw [e2]
        exact hq H1 (fun c hc => by rw [g1, up_n (by omega)]) (mi_tx (v := (dn0 b, db0 b, dn1 b - 1, db1 b)) hM ⟨by rw [g1, up_s, upd_n (by decide)]; exact t1, t2, by rw [g1, up_n (by decide)]; exact t3, e2, by show dn1 b - 1 ≤ 23; omega, fun i hi => by
          have hi' : i < dn1 b - 1 := hi
          rw [g1, up_n (by decide)]; exact t6 i (by omega)⟩ (fun c p1 _ => by rw [g1, up_n p1]))
      · rw [if_pos z2] at hq
        exact hq H (fun _ _ => rfl) hM
  · have e : sUndo b x = (-2, b) := if_neg (by rw [bI_0.mp z]; simp)
    rw [e] at hq; exact hq H (fun _ _ => rfl) hM
theorem mc_fault {E : En} {b : Bd} {x : Int32} : Mc E mX10_fault [rf E 99, .int x] b (sFault b x) := by
  intro H Q hO hM hq
  refine cmX10_fault (mt_isText ⟨_, rfl, fun z => ?_, fun z => ?_⟩)
  · have e : sFault b x = (-2, b) := if_neg (by rw [bI_0.mp z]; simp)
    rw [e] at hq; exact hq H (fun _ _ => rfl) hM
  · have e : sFault b x = _ := if_pos (bI_1 z)
    rw [e] at hq
    refine mt_faultOf hO hM (fun H' f' r' => ⟨_, rfl, ?_⟩)
    by_cases z2 : x = 0
    · rw [if_pos z2] at hq ⊢
      exact hq H' (fx_1 (n := 0) (fx_R f')) (mi_fx hM (fx_R f'))
    · rw [if_neg z2] at hq ⊢
      exact hq H' (fx_1 (n := 0) (fx_R f')) (mi_fx hM (fx_R f'))
