/-! the model: jumps -/
def nL (n : Nat) : Int64 := Int64.ofNat n
theorem nL_toInt {n : Nat} (h : n < 2 ^ 63) : (nL n).toInt = (n : Int) := lg_ofNat_toInt h
theorem nL_mul (a b : Nat) : nL a * nL b = nL (a * b) := (Int64.ofNat_mul a b).symm
theorem nL_add (a b : Nat) : nL a + nL b = nL (a + b) := (Int64.ofNat_add a b).symm
theorem nL_sub (a b : Nat) : nL (a + b) - nL a = nL b := by rw [← nL_add, Int64.add_comm, Int64.add_sub_cancel]
theorem nL_inj {a b : Nat} (ha : a < 2 ^ 63) (hb : b < 2 ^ 63) (h : nL a = nL b) : a = b := by
  have := congrArg Int64.toInt h
  rw [nL_toInt ha, nL_toInt hb] at this
  omega
theorem nL_div {a b : Nat} (ha : a < 2 ^ 63) (hb : b < 2 ^ 63) (h0 : 0 < b) : nL a / nL b = nL (a / b) := by
  apply Int64.toInt_inj.mp
  have l := Nat.div_le_self a b
  rw [lg_ldiv_nonneg (by rw [nL_toInt ha]; omega) (by rw [nL_toInt hb]; omega), nL_toInt ha, nL_toInt hb, nL_toInt (by omega)]
  exact (Int.natCast_ediv a b).symm
theorem nL_mod {a b : Nat} (ha : a < 2 ^ 63) (hb : b < 2 ^ 63) (h0 : 0 < b) : nL a - nL a / nL b * nL b = nL (a % b) := by
  rw [nL_div ha hb h0, nL_mul]
  have e : a = a / b * b + a % b := by have := Nat.div_add_mod a b; rw [Nat.mul_comm] at this; omega
  have h := nL_sub (a / b * b) (a % b)
  rw [← e] at h
  exact h
theorem nI_64 {n : Nat} (h : n < 2 ^ 31) : (nI n).toInt64 = nL n := by
  apply Int64.toInt_inj.mp
  rw [Int32.toInt_toInt64, nI_toInt h, nL_toInt (by omega)]
theorem low_loop {E : En} {Q : Option Value → Hi → Prop} {H : Hi} {tp bt : Nat} {x : Int32} (ht : tp < 2 ^ 63) (hb : bt < 2 ^ 63) (h0 : 0 < bt) (hq : Q (some (.long (nL ((if x = 0 then tp else bt) / Nat.gcd tp bt)))) H) :
    ∀ (N a b : Nat), b < N → a < 2 ^ 63 → b < 2 ^ 63 → Nat.gcd a b = Nat.gcd tp bt →
      Rm E mX10_lowest Q 6 [some (.long (nL tp)), none, some (.long (nL bt)), none, some (.int x), some (.long (nL a)), none, some (.long (nL b)), none, none, none] [] H := by
  intro N
  induction N with
  | zero => intro a b h; omega
  | succ N ih =>
    intro a b hN ha hb' hg
    have ec : lg_cmp (nL b) 0 = 0 ↔ b = 0 := by
      rw [lg_cmp_eq]
      exact ⟨fun p => nL_inj (b := 0) hb' (by decide) p, fun p => by rw [p]; rfl⟩
    have nz : ∀ n : Nat, n < 2 ^ 63 → 0 < n → ¬ nL n = 0 := fun n h1 h2 p => by
      have := nL_inj (b := 0) h1 (by decide) p
      omega
    refine sgX10_lowest_6 ⟨fun z => ?_, fun z => ?_⟩
    · have b0 := ec.mp z
      have ea : a = Nat.gcd tp bt := by rw [← hg, b0, Nat.gcd_zero_right]
      have gp : 0 < Nat.gcd tp bt := Nat.gcd_pos_of_pos_right tp h0
      refine ⟨fun z2 => ⟨nz a ha (by omega), ?_⟩, fun z2 => ⟨nz a ha (by omega), ?_⟩⟩
      · rw [if_neg z2] at hq
        rw [nL_div hb ha (by omega), ea]; exact hq
      · rw [if_pos z2] at hq
        rw [nL_div ht ha (by omega), ea]; exact hq
    · have b0 : ¬ b = 0 := fun p => z (ec.mpr p)
      refine ⟨nz b hb' (by omega), fun y ey => ?_⟩
      have ml := Nat.mod_lt a (show 0 < b by omega)
      rw [ey, nL_mod ha hb' (by omega)]
      refine ih b (a % b) (by omega) hb' (by omega) ?_
      rw [← hg, Nat.gcd_comm b (a % b), ← Nat.gcd_rec b a, Nat.gcd_comm]
theorem mt_lowest {E : En} {Q : Option Value → Hi → Prop} {H : Hi} {tp bt : Nat} {x : Int32} (ht : tp < 2 ^ 63) (hb : bt < 2 ^ 63) (h0 : 0 < bt) (hq : Q (some (.long (nL ((if x = 0 then tp else bt) / Nat.gcd tp bt)))) H) :
    Cm E mX10_lowest [.long (nL tp), .long (nL bt), .int x] H Q := cmX10_lowest (low_loop ht hb h0 hq (bt + 1) tp bt (Nat.lt_succ_self bt) ht hb rfl)
def cF (p : Nat → Bool) (n : Nat) : Nat := sm (fun j => if p j = true then 1 else 0) n
theorem cF_le (p : Nat → Bool) : ∀ n, cF p n ≤ n
  | 0 => Nat.le_refl 0
  | n + 1 => by
    have := cF_le p n
    show cF p n + (if p n = true then 1 else 0) ≤ n + 1
    split <;> omega
theorem jp_pow {p : Nat → Bool} {y : Nat} : ∀ m h, jpF p (nL y) m h (nL (y ^ cF p h)) = nL (y ^ cF p (h + m))
  | 0, h => rfl
  | m + 1, h => by
    have e1 : jpF p (nL y) (m + 1) h (nL (y ^ cF p h)) = jpF p (nL y) m (h + 1) (if p h = true then nL (y ^ cF p h) * nL y else nL (y ^ cF p h)) := rfl
    have e2 : (if p h = true then nL (y ^ cF p h) * nL y else nL (y ^ cF p h)) = nL (y ^ cF p (h + 1)) := by
      have ec : cF p (h + 1) = cF p h + (if p h = true then 1 else 0) := rfl
      by_cases c : p h = true
      · rw [if_pos c, nL_mul, ec, if_pos c, Nat.pow_succ]
      · rw [if_neg c, ec, if_neg c, Nat.add_zero]
    rw [e1, e2, jp_pow m (h + 1), show h + 1 + m = h + (m + 1) by omega]
theorem hv_ok : ∀ c, c < 17 → ∀ m, m < 14 → ((16 - c) ^ m / Nat.gcd ((16 - c) ^ m) (16 ^ m) = (hvF 4 (16 - c) 16).1 ^ m ∧ 16 ^ m / Nat.gcd ((16 - c) ^ m) (16 ^ m) = (hvF 4 (16 - c) 16).2 ^ m) := by decide +kernel
theorem hv_lt : ∀ c, c < 17 → (hvF 4 (16 - c) 16).1 < 17 ∧ (hvF 4 (16 - c) 16).2 < 17 := by decide +kernel
theorem jmp_eq {b : Bd} {c t n : Nat} {x : Int32} (hc : c < 17) (hn : n ≤ 12) : jmp b c t n x = nL ((if x = 0 then (16 - c) ^ cF (frgP b t) (n + 1) else 16 ^ cF (frgP b t) (n + 1)) / Nat.gcd ((16 - c) ^ cF (frgP b t) (n + 1)) (16 ^ cF (frgP b t) (n + 1))) := by
  have l := cF_le (frgP b t) (n + 1)
  obtain ⟨h1, h2⟩ := hv_ok c hc (cF (frgP b t) (n + 1)) (by omega)
  obtain ⟨v1, v2⟩ := hv_lt c hc
  have go : ∀ y : Nat, y < 17 → jpF (frgP b t) (nI y).toInt64 (n + 1) 0 1 = nL (y ^ cF (frgP b t) (n + 1)) := by
    intro y hy
    rw [nI_64 (by omega)]
    have := jp_pow (p := frgP b t) (y := y) (n + 1) 0
    rw [Nat.zero_add] at this
    exact this
  unfold jmp
  by_cases z : x = 0
  · rw [if_pos z, if_pos z, h1, go _ v1]
  · rw [if_neg z, if_neg z, h2, go _ v2]
set_option maxHeartbeats 1000000 in
theorem mt_jumpsOf {E : En} {Q : Option Value → Hi → Prop} {H : Hi} {b : Bd} {c t n : Nat} {x : Int32} (hO : BOk b) (hM : MI b H) (hc : c < 17) (ht : t < pN (dP b)) (hn : n ≤ 12)
    (hq : ∀ H' : Hi, frX (dH b).1 H H' → RdC (dP b) H' → Q (some (.long (jmp b c t n x))) H') : Cm E mX10_jumpsOf [rf E 99, .int (nI c), .int (nI t), .int (nI n), .int x] H Q := by
  refine cmX10_jumpsOf (mt_reads hO hM (fun H1 f1 r1 => ⟨rfl, mt_asTold hO (mi_fx hM (fx_R f1)) r1 (fun H2 f2 t2 _ => ⟨rfl, mt_beg (hd := dH b) (a := dA b) t2.1 (fun H3 f3 n3 => ⟨rfl, ?_⟩)⟩)⟩))
  have n8 := t2.1.1.1
  have m8 := t2.1.1.2.1
  have k3 := (t2.1.1.2.2.1 t ht).2.2.2
  have fx3 : frX (dH b).1 H H3 := fx_tr (fx_tr (fx_R f1) f2) (fx_K f3)
  have t3 := mt_keep t2 f3
  rw [jmp_eq hc hn] at hq
  have ec : (16 - nI c : Int32).toInt64 = nL (16 - c) := by
    have : (16 : Int32) - nI c = nI (16 - c) := pk_sub (a := 16) (by omega)
    rw [this, nI_64 (by omega)]
  have lp : ∀ (m h : Nat) (H4 : Hi), h + m = n + 1 → frK H3 H4 → MN (dP b) (dH b) (dA b) h H4 → Rm E mX10_jumpsOf Q 21 [some (rf E 99), some (.int (nI c)), some (.int (nI t)), some (.int (nI n)), some (.int x), some (.long (nL ((16 - c) ^ cF (frgP b t) h))), none, some (.long (nL (16 ^ cF (frgP b t) h))), none, some (.int (nI h))] [] H4 := by
    intro m
    induction m with
    | zero =>
      intro h H4 hh f4 n4
      have eh : h = n + 1 := by omega
      have l := cF_le (frgP b t) h
      have p1 : (16 - c) ^ cF (frgP b t) h ≤ 16 ^ cF (frgP b t) h := Nat.pow_le_pow_left (by omega) _
      have p2 : 16 ^ cF (frgP b t) h ≤ 16 ^ 13 := Nat.pow_le_pow_right (by decide) (by omega)
      have p3 : (16 : Nat) ^ 13 < 2 ^ 63 := by decide
      have p4 : 0 < 16 ^ cF (frgP b t) h := Nat.pow_pos (by decide)
      refine sgX10_jumpsOf_21 ⟨fun _ => mt_lowest (by omega) (by omega) p4 ⟨_, rfl, ?_⟩, fun z => absurd (nI_lt (show n < h by omega) (by omega)) z⟩
      rw [eh]
      exact hq H4 (fx_tr fx3 (fx_K f4)) (mt_keep t3 f4).1
    | succ m ih =>
      intro h H4 hh f4 n4
      refine sgX10_jumpsOf_21 ⟨fun z => ?_, fun _ => mt_go (mt_keep t3 f4) n4 (by omega) (fun H5 f5 n5 => ⟨rfl, t, ⟨by omega, rfl⟩, ?_⟩)⟩
      · have := (nI_ltI (by omega) (by omega)).mp z; omega
      · have k5 : frK H3 H5 := fun c hc => by rw [f5 c hc]; exact f4 c hc
        have r5 := (mt_keep t3 k5).1
        have w := (stN_wf (P := dP b) (hd := dH b) (a := dA b) m8 (h + 1) t ht).1
        have es : cF (frgP b t) (h + 1) = cF (frgP b t) h + (if frgP b t h = true then 1 else 0) := rfl
        have skip : frgP b t h = false → ∀ x2 : Int32, x2 = nI h + 1 → Rm E mX10_jumpsOf Q 21 [some (rf E 99), some (.int (nI c)), some (.int (nI t)), some (.int (nI n)), some (.int x), some (.long (nL ((16 - c) ^ cF (frgP b t) h))), none, some (.long (nL (16 ^ cF (frgP b t) h))), none, some (.int x2)] [] H5 := by
          intro e x2 ex
          have e2 : cF (frgP b t) h = cF (frgP b t) (h + 1) := by rw [es, e]; simp
          rw [ex, ← nI_succ, e2]
          exact ih (h + 1) H5 (by omega) k5 n5
        rw [(r5.2.2.2.1 t ht).2.2]
        refine ⟨fun z x2 ex => skip (decide_eq_false (fun p => z (by rw [p.1]; rfl))) x2 ex, fun z => ⟨t, ⟨by omega, rfl⟩, ?_⟩⟩
        have z' : pKd (dP b) t = 2 := nI_inj (by omega) (by decide) z
        rw [mw_w n5.1 n8 ht]
        refine ⟨fun z2 x2 ex => skip (decide_eq_false (fun p => z2 ?_)) x2 ex, fun z2 y5 e5 y7 e7 x2 ex => ?_⟩
        · have p2 : (stN (dP b) (dH b) (dA b) (h + 1)).1 t = 8 := p.2
          rw [p2]; rfl
        · have e : frgP b t h = true := decide_eq_true ⟨z', nI_inj (Nat.lt_of_le_of_lt w (by decide)) (by decide) z2⟩
          have e2 : cF (frgP b t) (h + 1) = cF (frgP b t) h + 1 := by rw [es, if_pos e]
          have e5' : y5 = nL ((16 - c) ^ cF (frgP b t) (h + 1)) := by rw [e5, ec, nL_mul, e2, Nat.pow_succ]
          have e7' : y7 = nL (16 ^ cF (frgP b t) (h + 1)) := by
            rw [e7, e2, Nat.pow_succ, ← nL_mul]; rfl
          rw [ex, ← nI_succ, e5', e7']
          exact ih (h + 1) H5 (by omega) k5 n5
  exact lp (n + 1) 0 H3 (Nat.zero_add _) (fun _ _ => rfl) n3
theorem mc_jumps {E : En} {b : Bd} {x1 x2 x3 x4 : Int32} : McL E mX10_jumps [rf E 99, .int x1, .int x2, .int x3, .int x4] b (sJumps b x1 x2 x3 x4) := by
  intro H0 Q hO hM0 hq
  have n8 := (bok_pm hO).1
  have bad : ∀ H : Hi, frX (dH b).1 H0 H → sJumps b x1 x2 x3 x4 = (-9223372036854775806, b) → Cm E mX10_no [.int (-2)] H (fun w zH => ∃ zr : Int64, w = some (.long zr) ∧ (Q (some (.long zr)) zH)) := by
    intro H f e
    rw [e] at hq
    refine cmX10_no ⟨_, rfl, ?_⟩
    have e2 : (-9223372036854775808 : Int64) - ((-2 : Int32).toInt64) = -9223372036854775806 := by decide
    rw [e2]
    exact hq H (fx_1 f) (mi_fx hM0 f)
  refine cmX10_jumps (mt_inN (N := 17) (by decide) ⟨_, rfl, fun z => bad H0 fx_rf (if_neg (by rw [bI_0.mp z]; simp)), fun z1 => mt_isThing hO hM0 (fun H f r => ⟨_, rfl, fun z => bad H f (if_neg (by rw [bI_0.mp z]; simp)), fun z2 => mt_inN (N := 13) (by decide) ⟨_, rfl, fun z => bad H f (if_neg (by rw [bI_0.mp z]; simp)), fun z3 => mt_inN (N := 2) (by decide) ⟨_, rfl, fun z => bad H f (if_neg (by rw [bI_0.mp z]; simp)), fun z4 => ?_⟩⟩⟩)⟩)
  have e : sJumps b x1 x2 x3 x4 = _ := if_pos ⟨bI_1 z1, bI_1 z2, bI_1 z3, bI_1 z4⟩
  rw [e] at hq
  obtain ⟨c, a1, b1, d1⟩ := inN_of (bI_1 z1) (by decide)
  obtain ⟨t, a2, b2, d2⟩ := inN_of (bI_1 z2) (by omega)
  obtain ⟨n, a3, b3, d3⟩ := inN_of (bI_1 z3) (by decide)
  rw [d1, d2, d3] at hq
  rw [b1, b2, b3]
  refine mt_jumpsOf hO (mi_fx hM0 f) a1 a2 (by omega) (fun H' f' r' => ⟨_, rfl, ?_⟩)
  have f4 := fx_tr f f'
  exact hq H' (fx_1 f4) (mi_fx hM0 f4)
