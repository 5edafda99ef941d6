/-! hangs: all orders of an hour's first five hands -/
def hFv (hd : Hd) (h : Nat) : Nat := if cq hd h hd.1 < 5 then cq hd h hd.1 else 5
def nh (hd : Hd) (h j : Nat) : Nat := (fnd (fun k => decide (hd.2.1 k = h) && decide (cq hd h k = j)) hd.1).getD 0
def cdj (hd : Hd) (h j : Nat) : Nat := hd.2.2 (nh hd h j)
def hK (hd : Hd) (h : Nat) : Nat := (fnd (fun k => decide (cq hd h k = hFv hd h)) (hd.1 + 1)).getD 0
def fo (P : Pm) (hd : Hd) (h : Nat) (s : Sg) (l : List Nat) : Sg := l.foldl (fun z j => act P z (cdj hd h j)) s
def hfin (P : Pm) (hd : Hd) (a h : Nat) (s : Sg) (l : List Nat) : Sg := clo P a h (itF (te1 P hd h) (hK hd h) (hd.1 - hK hd h) (fo P hd h s l))
def anyN (f : Nat → Bool) : Nat → Bool
  | 0 => false
  | n + 1 => anyN f n || f n
def anyO (n : Nat) (q : List Nat → Bool) : Nat → List Nat → Bool
  | 0, pre => q pre
  | m + 1, pre => anyN (fun x => !(pre.contains x) && anyO n q m (pre ++ [x])) n
def hq1 (P : Pm) (hd : Hd) (a h t : Nat) (l : List Nat) : Bool := decide ((hfin P hd a h (putB P (stN P hd a h)) l).1 t ≠ (stN P hd a (h + 1)).1 t)
def hgP (P : Pm) (hd : Hd) (a h t : Nat) : Bool := anyO (hFv hd h) (hq1 P hd a h t) (hFv hd h) []
theorem cq_s (hd : Hd) (h k : Nat) : cq hd h (k + 1) = cq hd h k + (if hd.2.1 k = h then 1 else 0) := rfl
theorem nh_ex (hd : Hd) (h j : Nat) : ∀ N, j < cq hd h N → ∃ k, k < N ∧ hd.2.1 k = h ∧ cq hd h k = j
  | 0, q => absurd q (Nat.not_lt_zero j)
  | N + 1, q => by
    by_cases e : j < cq hd h N
    · obtain ⟨k, a, b⟩ := nh_ex hd h j N e
      exact ⟨k, by omega, b⟩
    · rw [cq_s] at q
      by_cases e2 : hd.2.1 N = h
      · rw [if_pos e2] at q
        exact ⟨N, by omega, e2, by omega⟩
      · rw [if_neg e2] at q; omega
theorem nh_ok {hd : Hd} {h j : Nat} (q : j < cq hd h hd.1) : nh hd h j < hd.1 ∧ hd.2.1 (nh hd h j) = h ∧ cq hd h (nh hd h j) = j := by
  obtain ⟨k, a, b, c⟩ := nh_ex hd h j hd.1 q
  unfold nh
  cases e : fnd (fun k => decide (hd.2.1 k = h) && decide (cq hd h k = j)) hd.1 with
  | none =>
    have z := fndF_no hd.1 0 e k (Nat.zero_le k) (by omega)
    rw [decide_eq_true b, decide_eq_true c] at z
    exact absurd z (by decide)
  | some i =>
    obtain ⟨z1, -, z2⟩ := fndF_so hd.1 0 i e
    rw [Bool.and_eq_true] at z1
    exact ⟨by show i < hd.1; omega, of_decide_eq_true z1.1, of_decide_eq_true z1.2⟩
theorem hk_ex (hd : Hd) (h j : Nat) : ∀ N, j ≤ cq hd h N → ∃ k, k ≤ N ∧ cq hd h k = j
  | 0, q => ⟨0, Nat.le_refl 0, by
    have : cq hd h 0 = 0 := rfl
    omega⟩
  | N + 1, q => by
    by_cases e : j ≤ cq hd h N
    · obtain ⟨k, a, b⟩ := hk_ex hd h j N e
      exact ⟨k, by omega, b⟩
    · refine ⟨N + 1, Nat.le_refl _, ?_⟩
      rw [cq_s] at q ⊢
      split <;> simp_all <;> omega
theorem hFv_le {hd : Hd} {h : Nat} : hFv hd h ≤ cq hd h hd.1 ∧ hFv hd h ≤ 5 := by unfold hFv; split <;> omega
theorem hK_ok {hd : Hd} {h : Nat} : hK hd h ≤ hd.1 ∧ cq hd h (hK hd h) = hFv hd h := by
  obtain ⟨k, a, b⟩ := hk_ex hd h (hFv hd h) hd.1 hFv_le.1
  unfold hK
  cases e : fnd (fun k => decide (cq hd h k = hFv hd h)) (hd.1 + 1) with
  | none =>
    have z := fndF_no (hd.1 + 1) 0 e k (Nat.zero_le k) (by omega)
    rw [decide_eq_true b] at z
    exact absurd z (by decide)
  | some i =>
    obtain ⟨z1, -, z2⟩ := fndF_so (hd.1 + 1) 0 i e
    exact ⟨by show i ≤ hd.1; omega, of_decide_eq_true z1⟩
theorem fo_wf {P : Pm} {hd : Hd} {h : Nat} : ∀ (l : List Nat) (s : Sg), Wf P s → Wf P (fo P hd h s l)
  | [], _, w => w
  | x :: l, _, w => fo_wf l _ (act_wf w)
theorem fo_ap {P : Pm} {hd : Hd} {h : Nat} {s : Sg} {l : List Nat} {x : Nat} : fo P hd h s (l ++ [x]) = act P (fo P hd h s l) (cdj hd h x) := by
  unfold fo
  rw [List.foldl_append]; rfl
theorem itF_te_wf {P : Pm} {hd : Hd} {h : Nat} : ∀ (m k : Nat) (s : Sg), Wf P s → Wf P (itF (te1 P hd h) k m s)
  | 0, _, _, w => w
  | m + 1, k, s, w => itF_te_wf m (k + 1) _ (by unfold te1; split; exact act_wf w; exact w)
/-! digits that are not alike -/
def EW (x : Int32) (N : Nat) (p : Nat → Bool) : Prop := ∃ e, e < 2 ^ 32 ∧ x = nI e ∧ ∀ t, t < N → decide (e / 2 ^ (4 * t) % 16 ≠ 0) = p t
theorem o16 : ∀ a, a < 16 → ∀ b, b < 16 → ∀ c, c < 16 → (decide ((a ||| (b ^^^ c)) ≠ 0) = (decide (a ≠ 0) || decide (b ≠ c))) := by decide +kernel
theorem dg_4 {w : Nat → Nat} {N t : Nat} (hw : ∀ t, t < N → w t < 16) (ht : t < N) : dg 16 w N / 2 ^ (4 * t) % 16 = w t := by
  have := dg_get (B := 16) (by decide) hw ht
  rw [show (2 : Nat) ^ (4 * t) = 16 ^ t by rw [Nat.pow_mul]]
  exact this
theorem dg_32 {w : Nat → Nat} {N : Nat} (hN : N ≤ 8) (hw : ∀ t, t < N → w t < 16) : dg 16 w N < 2 ^ 32 := by
  have h1 := dg_lt (B := 16) (by decide) hw
  have h2 : 16 ^ N ≤ 16 ^ 8 := Nat.pow_le_pow_right (by decide) hN
  have h3 : (16 : Nat) ^ 8 = 2 ^ 32 := by decide
  omega
theorem ew_or {x : Int32} {N : Nat} {p : Nat → Bool} {w w' : Nat → Nat} (hN : N ≤ 8) (hw : ∀ t, t < N → w t < 16) (hw' : ∀ t, t < N → w' t < 16) (h : EW x N p) :
    EW (x ||| (nI (dg 16 w N) ^^^ nI (dg 16 w' N))) N (fun t => p t || decide (w t ≠ w' t)) := by
  obtain ⟨e, e1, e2, e3⟩ := h
  refine ⟨e ||| (dg 16 w N ^^^ dg 16 w' N), Nat.or_lt_two_pow e1 (Nat.xor_lt_two_pow (dg_32 hN hw) (dg_32 hN hw')), by rw [e2, nI_xor, nI_or], fun t ht => ?_⟩
  have q : (e ||| (dg 16 w N ^^^ dg 16 w' N)) / 2 ^ (4 * t) % 16 = (e / 2 ^ (4 * t) % 16 ||| (dg 16 w N / 2 ^ (4 * t) % 16 ^^^ dg 16 w' N / 2 ^ (4 * t) % 16)) := by
    show _ % 2 ^ 4 = (_ % 2 ^ 4 ||| (_ % 2 ^ 4 ^^^ _ % 2 ^ 4))
    rw [Nat.or_div_two_pow, Nat.xor_div_two_pow, Nat.or_mod_two_pow, Nat.xor_mod_two_pow]
  rw [q, dg_4 hw ht, dg_4 hw' ht, o16 _ (Nat.mod_lt _ (by decide)) _ (hw t ht) _ (hw' t ht), e3 t ht]
theorem ew_cg {x : Int32} {N : Nat} {p q : Nat → Bool} (h : EW x N p) (e : ∀ t, t < N → p t = q t) : EW x N q := by
  obtain ⟨y, a, b, c⟩ := h
  exact ⟨y, a, b, fun t ht => by rw [c t ht, e t ht]⟩
theorem mmin_n {a b : Nat} (ha : a < 2 ^ 31) (hb : b < 2 ^ 31) : mmin (nI a) (nI b) = nI (if b < a then b else a) := by
  unfold mmin
  by_cases q : b < a
  · rw [if_pos ((nI_ltI hb ha).mpr q), if_pos q]
  · rw [if_neg (fun z => q ((nI_ltI hb ha).mp z)), if_neg q]
theorem ni_subA {a b : Nat} : nI (a + b) - nI a = nI b := by
  rw [← nI_add, Int32.add_comm, Int32.add_sub_cancel]
def frO (d : Nat) (H0 H : Hi) : Prop := (∀ c, c ≠ 75 → (c < 80 + d ∨ 85 < c) → H c = H0 c) ∧ ∀ k, k ≠ 8 → H 75 k = H0 75 k
def usd (pre : List Nat) : Nat := bs (fun x => pre.contains x) 5
set_option maxHeartbeats 4000000 in
theorem ct_order {E : En} {P : Pm} {hd : Hd} {a h : Nat} {s0 : Sg} (hh : h < 24) (hw0 : Wf P s0) : ∀ (j d : Nat), d + j = 5 → ∀ (pre : List Nat) (H : Hi) (Q : Option Value → Hi → Prop) (p : Nat → Bool), d ≤ hFv hd h → FamC P H → ToldC P hd a H → Rs P (fo P hd h s0 pre) (H (80 + d)) → H (28 + 2 * h) 0 = nI (dg 16 (stN P hd a (h + 1)).1 (pN P)) → EW (H 75 8) (pN P) p →
    (∀ H' : Hi, frO d H H' → EW (H' 75 8) (pN P) (fun t => p t || anyO (hFv hd h) (fun l => decide ((hfin P hd a h s0 l).1 t ≠ (stN P hd a (h + 1)).1 t)) (hFv hd h - d) pre) → Q none H') →
    Cm E (mX3_order (j + 1)) [rf E 75, .int (nI h), .int (nI d), .int (nI (usd pre))] H Q := by
  intro j
  induction j with
  | zero =>
    intro d hd5 pre H Q p hdf hF hT hr hb hew hq
    have ok := hF.1
    have n8 := ok.1
    have m8 := ok.2.1
    have hfv := hFv_le (hd := hd) (h := h)
    have cs : H 20 (h + 1) = nI (cnt hd h + cq hd h hd.1) := by rw [hT.2.2.1 (h + 1) (by omega), ← cnt_s]; rfl
    have ch : H 20 h = nI (cnt hd h) := hT.2.2.1 h (by omega)
    have cl : cnt hd h + cq hd h hd.1 ≤ hd.1 := by
      have := cnt_le hd (h + 1)
      rw [← cnt_s] at this; exact this
    have hd20 := hT.1
    refine cmX3_order ⟨h, ⟨by omega, rfl⟩, fun x4 ex4 => ⟨h + 1, ⟨by omega, by rw [nI_succ]⟩, fun x5 ex5 => ?_⟩⟩
    have e4 : x4 = nI (cnt hd h) := by rw [ex4, ch]
    have e5 : x5 = nI (hFv hd h) := by
      rw [ex5, cs, e4, ni_subA]
      exact mmin_n (a := 5) (by decide) (by omega)
    refine ⟨fun z => ?_, fun z => ⟨d, ⟨by omega, ?_⟩, h + 1, ⟨by omega, by rw [nI_succ]⟩, ?_⟩⟩
    · rw [e5] at z
      have := (nI_ltI (by omega) (by omega)).mp z
      omega
    · have : mmin (nI d) (nI 5) = nI (if 5 < d then 5 else d) := mmin_n (by omega) (by decide)
      rw [if_neg (by omega)] at this; exact this
    · have ek : x4 + x5 = nI (ps hd h (hK hd h)) := by
        rw [e4, e5, nI_add]
        unfold ps
        rw [hK_ok.2]
      rw [ek, hT.2.2.1 (h + 1) (by omega)]
      have std := (st_tri d (by omega)).1
      have w1 : Wf P (fo P hd h s0 pre) := fo_wf pre s0 hw0
      refine ct_tell hF hT std hr w1 hh hK_ok.1 ?_
      intro H1 g1 s1
      have w2 : Wf P (itF (te1 P hd h) (hK hd h) (hd.1 - hK hd h) (fo P hd h s0 pre)) := itF_te_wf _ _ _ w1
      have hT1 := told_keep std hT g1
      refine ⟨_, rfl, ?_⟩
      rw [hT1.2.2.2.2.2.2.1]
      refine ct_close (fam_keep std hF g1) hT1 std s1 w2 hh hT1.2.2.2.2.2.2.2 ?_
      intro H2 g2 s2
      refine ⟨rfl, h, ⟨hh, rfl⟩, fun H3 g3 => ?_⟩
      have k2 : ∀ c, c ≠ 80 + d → H2 c = H c := fun c q => by rw [g2 c q, g1 c q]
      have w3 : Wf P (hfin P hd a h s0 pre) := clo_wf m8 w2
      refine hq H3 ⟨fun c q1 q2 => by rw [g3, up_n q1, k2 c (by omega)], fun k q => by rw [g3, up_s, upd_n q, k2 75 (by omega)]⟩ ?_
      have e0 : hFv hd h - d = 0 := by omega
      rw [g3, up_s, upd_s, e0, s2.1, k2 (28 + 2 * h) (by omega), hb, k2 75 (by omega)]
      exact ew_or n8 (wf16 w3) (wf16 (stN_wf m8 (h + 1))) hew
  | succ j ih =>
    intro d hd5 pre H Q p hdf hF hT hr hb hew hq
    have ok := hF.1
    have n8 := ok.1
    have m8 := ok.2.1
    have hfv := hFv_le (hd := hd) (h := h)
    have cs : H 20 (h + 1) = nI (cnt hd h + cq hd h hd.1) := by rw [hT.2.2.1 (h + 1) (by omega), ← cnt_s]; rfl
    have ch : H 20 h = nI (cnt hd h) := hT.2.2.1 h (by omega)
    have cl : cnt hd h + cq hd h hd.1 ≤ hd.1 := by
      have := cnt_le hd (h + 1)
      rw [← cnt_s] at this; exact this
    have hd20 := hT.1
    have w1 : Wf P (fo P hd h s0 pre) := fo_wf pre s0 hw0
    refine cmX3_order ⟨h, ⟨by omega, rfl⟩, fun x4 ex4 => ⟨h + 1, ⟨by omega, by rw [nI_succ]⟩, fun x5 ex5 => ?_⟩⟩
    have e4 : x4 = nI (cnt hd h) := by rw [ex4, ch]
    have e5 : x5 = nI (hFv hd h) := by
      rw [ex5, cs, e4, ni_subA]
      exact mmin_n (a := 5) (by decide) (by omega)
    refine ⟨fun z => ?_, fun z => ⟨d, ⟨by omega, ?_⟩, h + 1, ⟨by omega, by rw [nI_succ]⟩, ?_⟩⟩
    · rw [e5] at z
      have z' := (nI_ltI (by omega) (by omega)).mp z
      rw [e4, e5]
      -- the loop over what comes next
      have lp : ∀ (m k : Nat) (H1 : Hi), k + m = hFv hd h → (∀ c, c ≠ 75 → (c < 80 + d + 1 ∨ 85 < c) → H1 c = H c) → (∀ i, i ≠ 8 → H1 75 i = H 75 i) →
          EW (H1 75 8) (pN P) (fun t => p t || anyN (fun x => !(pre.contains x) && anyO (hFv hd h) (fun l => decide ((hfin P hd a h s0 l).1 t ≠ (stN P hd a (h + 1)).1 t)) (hFv hd h - (d + 1)) (pre ++ [x])) k) →
          Rm E (mX3_order (j + 1 + 1)) Q 123 [some (rf E 75), some (.int (nI h)), some (.int (nI d)), some (.int (nI (usd pre))), some (.int (nI (cnt hd h))), some (.int (nI (hFv hd h))), some (.int (nI k)), none] [] H1 := by
        intro m
        induction m with
        | zero =>
          intro k H1 hk f1 f75 ew1
          refine sgX3_order_123 ⟨fun _ => hq H1 ⟨fun c q1 q2 => f1 c q1 (by omega), f75⟩ ?_, fun q => absurd (nI_le (show hFv hd h ≤ k by omega) (by omega)) q⟩
          have e1 : k = hFv hd h := by omega
          rw [e1] at ew1
          have e2 : hFv hd h - d = (hFv hd h - (d + 1)) + 1 := by omega
          rw [e2]
          exact ew1
        | succ m ih2 =>
          intro k H1 hk f1 f75 ew1
          have hF1 : FamC P H1 := fam_keep2 hF (fun c q1 q2 => f1 c (by omega) (by omega))
          have hT1 : ToldC P hd a H1 := told_keep2 hT (fun c q1 q2 => f1 c (by omega) (by omega))
          have k5 : k < 5 := by omega
          refine sgX3_order_123 ⟨fun q => ?_, fun _ => ?_⟩
          · have := (nI_leI (by omega) (by omega)).mp q; omega
          · have ebit : ((nI (usd pre) >>> (nI k &&& 31)) &&& 1) = nI (if pre.contains k = true then 1 else 0) := i_bit (p := fun x => pre.contains x) (by decide) k5
            rw [ebit]
            refine ⟨fun q x ex => ?_, fun q => ?_⟩
            · have pc : pre.contains k = true := by
                cases e : pre.contains k
                · rw [e] at q; exact absurd rfl q
                · rfl
              rw [ex, ← nI_succ]
              refine ih2 (k + 1) H1 (by omega) f1 f75 (ew_cg ew1 (fun t _ => ?_))
              show _ = (p t || (anyN _ k || (!(pre.contains k) && _)))
              rw [pc]; simp
            · have pc : pre.contains k = false := by
                cases e : pre.contains k
                · rfl
                · rw [e] at q; exact absurd q (by decide)
              obtain ⟨n1, n2, n3⟩ := nh_ok (hd := hd) (h := h) (j := k) (by omega)
              have std := (st_tri d (by omega)).1
              have std1 := (st_tri (d + 1) (by omega)).1
              refine ⟨d + 1, ⟨by omega, by rw [nI_succ]⟩, d, ⟨by omega, rfl⟩, ?_⟩
              refine ct_become std1 std (s := fo P hd h s0 pre) (P := P) (by rw [f1 (80 + d) (by omega) (by omega)]; exact hr) ?_
              intro H2 g2 s2
              have hF2 := fam_keep std1 hF1 g2
              have hT2 := told_keep std1 hT1 g2
              have ps1 := ps_lt (hd := hd) n1
              have ps2 : ps hd (hd.2.1 (nh hd h k)) (nh hd h k) = cnt hd h + k := by unfold ps; rw [n2, n3]
              have cl2 := cnt_le hd (hd.2.1 (nh hd h k) + 1)
              refine ⟨rfl, cnt hd h + k, ⟨by omega, nI_add _ _⟩, nh hd h k, ⟨by omega, by rw [← ps2]; exact hT2.2.2.2.1 _ n1⟩, ?_⟩
              obtain ⟨c1, c2, c3⟩ := hT2.2.1 _ n1
              rw [c1]
              refine ct_reach hF2 std1 s2 w1 c2 ?_
              intro H3 g3 s3
              have k3 : ∀ c, c ≠ 80 + (d + 1) → H3 c = H1 c := fun c q => by rw [g3 c q, g2 c q]
              have ed : nI d + 1 = nI (d + 1) := (nI_succ d).symm
              have eu : nI (usd pre) ||| ((1 : Int32) <<< (nI k &&& 31)) = nI (usd (pre ++ [k])) := by
                rw [i_one k (by omega), nI_or]
                unfold usd
                rw [bs_or_bit k5]
                congr 1
                refine bs_congr (fun x hx => ?_)
                unfold va_up
                by_cases e : x = k
                · rw [if_pos e, e]; simp
                · rw [if_neg e]; simp [e]
              refine ⟨_, rfl, ?_⟩
              rw [ed, eu]
              refine ih (d + 1) (by omega) (pre ++ [k]) H3 _ _ (by omega) (fam_keep std1 hF2 g3) (told_keep std1 hT2 g3) (by rw [fo_ap]; exact s3) (by rw [k3 (28 + 2 * h) (by omega), f1 (28 + 2 * h) (by omega) (by omega)]; exact hb) (by rw [k3 75 (by omega)]; exact ew1) ?_
              intro H4 f4 ew4
              refine ⟨rfl, fun x ex => ?_⟩
              rw [ex, ← nI_succ]
              refine ih2 (k + 1) H4 (by omega) (fun c q1 q2 => by rw [f4.1 c q1 (by omega), k3 c (by omega), f1 c q1 q2]) (fun i qi => by rw [f4.2 i qi, k3 75 (by omega), f75 i qi]) (ew_cg ew4 (fun t _ => ?_))
              show ((p t || anyN _ k) || _) = (p t || (anyN _ k || (!(pre.contains k) && _)))
              rw [pc, Bool.or_assoc]; rfl
      exact lp (hFv hd h) 0 H (by omega) (fun _ _ _ => rfl) (fun _ _ => rfl) (ew_cg hew (fun t _ => by show _ = (p t || false); rw [Bool.or_false]))
    · have : mmin (nI d) (nI 5) = nI (if 5 < d then 5 else d) := mmin_n (by omega) (by decide)
      rw [if_neg (by omega)] at this; exact this
    · rw [e5] at z
      have z' : ¬ d < hFv hd h := fun q => z (nI_lt q (by omega))
      have ek : x4 + x5 = nI (ps hd h (hK hd h)) := by
        rw [e4, e5, nI_add]
        unfold ps
        rw [hK_ok.2]
      rw [ek, hT.2.2.1 (h + 1) (by omega)]
      have std := (st_tri d (by omega)).1
      refine ct_tell hF hT std hr w1 hh hK_ok.1 ?_
      intro H1 g1 s1
      have w2 : Wf P (itF (te1 P hd h) (hK hd h) (hd.1 - hK hd h) (fo P hd h s0 pre)) := itF_te_wf _ _ _ w1
      have hT1 := told_keep std hT g1
      refine ⟨_, rfl, ?_⟩
      rw [hT1.2.2.2.2.2.2.1]
      refine ct_close (fam_keep std hF g1) hT1 std s1 w2 hh hT1.2.2.2.2.2.2.2 ?_
      intro H2 g2 s2
      refine ⟨rfl, h, ⟨hh, rfl⟩, fun H3 g3 => ?_⟩
      have k2 : ∀ c, c ≠ 80 + d → H2 c = H c := fun c q => by rw [g2 c q, g1 c q]
      have w3 : Wf P (hfin P hd a h s0 pre) := clo_wf m8 w2
      refine hq H3 ⟨fun c q1 q2 => by rw [g3, up_n q1, k2 c (by omega)], fun k q => by rw [g3, up_s, upd_n q, k2 75 (by omega)]⟩ ?_
      have e0 : hFv hd h - d = 0 := by omega
      rw [g3, up_s, upd_s, e0, s2.1, k2 (28 + 2 * h) (by omega), hb, k2 75 (by omega)]
      exact ew_or n8 (wf16 w3) (wf16 (stN_wf m8 (h + 1))) hew
def hgS (b : Bd) (h : Nat) : Nat := bs (hgP (dP b) (dH b) (dA b) h) (pN (dP b))
theorem uns_loop {E : En} {Q : Option Value → Hi → Prop} {H : Hi} {P : Pm} {p : Nat → Bool} (hF : FamC P H) (hew : EW (H 75 8) (pN P) p) (hq : Q (some (.int (nI (bs p (pN P))))) H) :
    ∀ (m t : Nat), t + m = pN P → Rm E mX3_unsettled Q 63 [some (rf E 75), none, some (.int (nI (bs p t))), some (.int (nI t))] [] H := by
  have n8 := hF.1.1
  obtain ⟨e, e1, e2, e3⟩ := hew
  intro m
  induction m with
  | zero =>
    intro t ht
    have e : t = pN P := by omega
    subst e
    refine sgX3_unsettled_63 ⟨fun _ => hq, fun z => ?_⟩
    rw [hF.2.1] at z
    exact absurd (nI_le (Nat.le_refl (pN P)) (by omega)) z
  | succ m ih =>
    intro t ht
    have q1 : (ushr (H 75 8) (4 * nI t)) &&& 15 = nI (e / 2 ^ (4 * t) % 16) := by
      have : (4 : Int32) * nI t = nI (4 * t) := ni_mulN 4 t
      rw [this, e2, i_ush e1 (by omega), i_and15 (by have := Nat.div_le_self e (2 ^ (4 * t)); omega)]
    refine sgX3_unsettled_63 ⟨fun z => ?_, fun z => ?_⟩
    · rw [hF.2.1] at z
      have := (nI_leI (by omega) (by omega)).mp z; omega
    · rw [q1]
      have md := Nat.mod_lt (e / 2 ^ (4 * t)) (show 16 > 0 by decide)
      have e3t := e3 t (by omega)
      refine ⟨fun z2 x ex => ?_, fun z2 x ex y ey => ?_⟩
      · have z3 := (nI_eq0 (by omega)).mp z2
        rw [z3] at e3t
        have pt : p t = false := by rw [← e3t]; rfl
        have b1 : bs p t = bs p (t + 1) := by rw [bs_succ, if_neg (by rw [pt]; decide)]
        rw [ex, ← nI_succ, b1]
        exact ih (t + 1) (by omega)
      · have z3 : ¬ e / 2 ^ (4 * t) % 16 = 0 := fun q => z2 (by rw [q]; rfl)
        rw [decide_eq_true z3] at e3t
        have b1 : nI (bs p t) ||| ((1 : Int32) <<< (nI t &&& 31)) = nI (bs p (t + 1)) := by
          rw [i_one t (by omega), nI_or, bs_succ, if_pos e3t.symm]
        rw [ex, b1, ey, ← nI_succ]
        exact ih (t + 1) (by omega)
set_option maxHeartbeats 2000000 in
theorem ct_uns {E : En} {Q : Option Value → Hi → Prop} {H : Hi} {b : Bd} {h : Nat} (hF : FR b H) (hh : h < 24)
    (hq : ∀ H' : Hi, frP H H' → FR b H' → Q (some (.int (nI (hgS b h)))) H') : Cm E mX3_unsettled [rf E 75, .int (nI h)] H Q := by
  have ok := hF.1.1
  have n8 := ok.1
  have m8 := ok.2.1
  have go : ∀ (q : Nat) (H1 : Hi), H1 = up H 75 8 0 → isSt q → q ≤ 74 → Rs (dP b) (stN (dP b) (dH b) (dA b) h) (H q) →
      Cm E mX6_become [rf E (80 + 0), rf E q] H1 (fun w zH => w = none ∧ (Cm E mX2_putBack [rf E 22, rf E (80 + 0)] zH (fun w zH => w = none ∧ (Cm E (mX3_order 6) [rf E 75, .int (nI h), .int 0, .int 0] zH (fun w zH => w = none ∧ (Rm E mX3_unsettled Q 63 [some (rf E 75), none, some (.int 0), some (.int 0)] [] zH)))))) := by
    intro q H1 g1 sq q74 rq
    have k1 : ∀ c, c ≠ 75 → H1 c = H c := fun c z => by rw [g1, up_n z]
    refine ct_become st_80 sq (s := stN (dP b) (dH b) (dA b) h) (P := dP b) (by rw [k1 q (by omega)]; exact rq) ?_
    intro H2 g2 s2
    have k2 : ∀ c, c ≠ 75 → c ≠ 80 → H2 c = H c := fun c z1 z2 => by rw [g2 c z2, k1 c z1]
    have hF2 : FamC (dP b) H2 := fam_keep2 hF.1 (fun c z1 z2 => k2 c (by omega) (by omega))
    refine ⟨rfl, ct_putBack hF2 st_80 s2 (stN_wf m8 h) ?_⟩
    intro H3 g3 s3
    have k3 : ∀ c, c ≠ 75 → c ≠ 80 → H3 c = H c := fun c z1 z2 => by rw [g3 c z2, k2 c z1 z2]
    have k375 : H3 75 = upd (H 75) 8 0 := by rw [g3 75 (by decide), g2 75 (by decide), g1, up_s]
    refine ⟨rfl, ?_⟩
    refine ct_order (P := dP b) (hd := dH b) (a := dA b) (h := h) (s0 := putB (dP b) (stN (dP b) (dH b) (dA b) h)) hh (putB_wf (stN_wf m8 h)) 5 0 rfl [] H3 _ (fun _ => false) (Nat.zero_le _) (fam_keep2 hF.1 (fun c z1 z2 => k3 c (by omega) (by omega))) (told_keep2 hF.2.1 (fun c z1 z2 => k3 c (by omega) (by omega))) s3 (by rw [k3 (28 + 2 * h) (by omega) (by omega)]; exact (hF.2.2.1.2.2.2 h hh).2.1) ⟨0, by decide, by rw [k375, upd_s]; rfl, fun t _ => by rw [Nat.zero_div]; rfl⟩ ?_
    intro H4 f4 ew4
    have k4 : ∀ c, c ≠ 75 → (c < 80 ∨ 85 < c) → H4 c = H c := fun c z1 z2 => by rw [f4.1 c z1 (by omega), k3 c z1 (by omega)]
    have k475 : ∀ k, k ≠ 8 → H4 75 k = H 75 k := fun k z => by rw [f4.2 k z, k375, upd_n z]
    refine ⟨rfl, ?_⟩
    have hF4 : FamC (dP b) H4 := fam_keep2 hF.1 (fun c z1 z2 => k4 c (by omega) (by omega))
    refine uns_loop (p := hgP (dP b) (dH b) (dA b) h) hF4 (ew_cg ew4 (fun t _ => ?_)) ?_ (pN (dP b)) 0 (by omega)
    · rw [Bool.false_or]; rfl
    · refine hq H4 (fun c hc => k4 c (by omega) (by omega)) ⟨hF4, told_keep2 hF.2.1 (fun c z1 z2 => k4 c (by omega) (by omega)), ho_keep hF.2.2.1 (fun c z1 z2 _ => k4 c (by omega) (by omega)), ?_⟩
      unfold PlC
      rw [k475 5 (by decide), k475 6 (by decide), k4 76 (by decide) (by decide), k4 77 (by decide) (by decide)]
      exact hF.2.2.2
  refine cmX3_unsettled ?_
  intro H1 g1
  refine ⟨fun z => ?_, fun z => ?_⟩
  · have h0 : h ≠ 0 := fun q => z (by rw [q]; rfl)
    refine ⟨h - 1, ⟨by omega, ni_prd h0⟩, ?_⟩
    have r := (hF.2.2.1.2.2.2 (h - 1) (by omega)).2
    rw [show h - 1 + 1 = h by omega] at r
    exact go (28 + 2 * (h - 1)) H1 g1 (st_beh (h - 1) (by omega)).1 (by omega) r
  · have h0 : h = 0 := (nI_eq0 (by omega)).mp z
    refine go 23 H1 g1 st_23 (by decide) ?_
    rw [h0]
    exact hF.2.2.1.1
def sHangs (b : Bd) (x : Int32) : Int32 × Bd := if inN 24 x = true then (nI (hgS b (un x)), b) else (-2, b)
theorem cc_hangs {E : En} {b : Bd} {x : Int32} : Cc E mX9_hangs [rf E 0, .int x] b (sHangs b x) := by
  intro H0 Q hC hq
  refine cmX9_hangs (ct_refresh hC fun H kH hB hF h9 => ⟨rfl, ?_⟩)
  have bad : sHangs b x = (-2, b) → Q (some (.int (-2))) H := fun e => by
    rw [e] at hq; exact hq H kH (ci_fr hB hF)
  refine ct_isHour ⟨_, rfl, fun z => bad (if_neg (by rw [bI_0.mp z]; simp)), fun z1 => ?_⟩
  obtain ⟨n, a1, b1, d1⟩ := inN_of (bI_1 z1) (by decide)
  have e : sHangs b x = _ := if_pos (bI_1 z1)
  rw [e, d1] at hq
  rw [b1]
  refine ct_uns hF a1 (fun H' f' F' => ⟨_, rfl, ?_⟩)
  exact hq H' (fun c hc => by rw [f' c (by omega)]; exact kH c hc) (ci_fr (cb_frP hB f') F')
