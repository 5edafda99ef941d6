/-! the model: hangs -/
def frH (H H' : Hi) : Prop := ∀ c, c < 111 ∨ 121 < c → H' c = H c
theorem fx_H {n : Nat} {H H' : Hi} (f : frH H H') : frX n H H' := ⟨fun c hc => f c (by omega), fun k _ => by rw [f 99 (by decide)], fun k _ => ⟨by rw [f 107 (by decide)], by rw [f 108 (by decide)]⟩⟩
theorem mt_kH {P : Pm} {hd : Hd} {a : Nat} {H H' : Hi} (h : MT P hd a H) (f : frH H H') : MT P hd a H' :=
  ⟨rd_keep h.1 (fun c hc => f c (by omega)), mhd_keep h.2.1 (fun c hc => f c (by omega)), by rw [f 99 (by decide)]; exact h.2.2.1, h.2.2.2⟩
theorem frH_tr {H H1 H2 : Hi} (h : frH H H1) (g : frH H1 H2) : frH H H2 := fun c hc => by rw [g c hc, h c hc]
def rwP (b : Bd) (h t r : Nat) : Nat := (hfin (dP b) (dH b) (dA b) h (putB (dP b) (stN (dP b) (dH b) (dA b) h)) (dgl (hFv (dH b) h) r)).1 t
theorem hfin_wf {P : Pm} {hd : Hd} {a h : Nat} {s : Sg} {l : List Nat} (m8 : pM P ≤ 8) (w : Wf P s) : Wf P (hfin P hd a h s l) := clo_wf m8 (itF_te_wf _ _ _ (fo_wf l s w))
theorem hg_rows {b : Bd} {h t : Nat} (hO : BOk b) (ht : t < pN (dP b)) : (pbN (rwP b h t) (ful (hFv (dH b) h)) (hFv (dH b) h ^ hFv (dH b) h) ≠ 0) ∧ (pbN (rwP b h t) (ful (hFv (dH b) h)) (hFv (dH b) h ^ hFv (dH b) h) &&& (pbN (rwP b h t) (ful (hFv (dH b) h)) (hFv (dH b) h ^ hFv (dH b) h) - 1) = 0 ↔ hgP (dP b) (dH b) (dA b) h t = false) := by
  have m8 := (bok_pm hO).2.1
  have l5 := (hFv_le (hd := dH b) (h := h)).2
  obtain ⟨r0, i1, i2, i3⟩ := id_row (n := hFv (dH b) h) (by omega)
  have hf : ∀ r, rwP b h t r ≤ 9 := fun r => (hfin_wf m8 (putB_wf (stN_wf m8 h)) t ht).1
  have e0 : rwP b h t r0 = (stN (dP b) (dH b) (dA b) (h + 1)).1 t := by
    unfold rwP
    rw [i3, hf_id]
  obtain ⟨p1, p2⟩ := pbN_one (f := rwP b h t) (p := ful (hFv (dH b) h)) (N := hFv (dH b) h ^ hFv (dH b) h) (r0 := r0) hf ⟨i1, i2, e0⟩
  refine ⟨p1, ?_⟩
  rw [p2]
  have hr := any_rows (n := hFv (dH b) h) (q := hq1 (dP b) (dH b) (dA b) h t) (by omega)
  have eg : hgP (dP b) (dH b) (dA b) h t = anyO (hFv (dH b) h) (hq1 (dP b) (dH b) (dA b) h t) (hFv (dH b) h) [] := rfl
  refine ⟨fun no => ?_, fun no => ?_⟩
  · refine Bool.eq_false_iff.mpr (fun q => no ?_)
    rw [eg] at q
    obtain ⟨r, h1, h2, h3⟩ := hr.mp q
    exact ⟨r, h1, h2, of_decide_eq_true h3⟩
  · rintro ⟨r, h1, h2, h3⟩
    have q := hr.mpr ⟨r, h1, h2, decide_eq_true h3⟩
    rw [← eg, no] at q
    exact absurd q (by decide)
theorem uS_lt {n r : Nat} (hn : n ≤ 5) (h0 : 0 < n) : ∀ k, uS n r k < 2 ^ 5
  | 0 => by show 0 < 2 ^ 5; decide
  | k + 1 => by
    show uS n r k ||| 2 ^ (r / n ^ k % n) < 2 ^ 5
    have := Nat.mod_lt (r / n ^ k) h0
    exact Nat.or_lt_two_pow (uS_lt hn h0 k) (Nat.pow_lt_pow_right (by decide) (by omega))
theorem cdj_lt {b : Bd} {h j : Nat} (hO : BOk b) (hj : j < cq (dH b) h (dH b).1) : cdj (dH b) h j < 128 := (hO.2.2.2.2.1.2 _ (nh_ok hj).1).2
set_option maxHeartbeats 4000000 in
theorem mt_hangsOf {E : En} {Q : Option Value → Hi → Prop} {H : Hi} {b : Bd} {h : Nat} (hO : BOk b) (hM : MI b H) (hh : h < 24)
    (hq : ∀ H' : Hi, frX (dH b).1 H H' → RdC (dP b) H' → Q (some (.int (nI (hgS b h)))) H') : Cm E mX10_hangsOf [rf E 99, .int (nI h)] H Q := by
  have n8 := (bok_pm hO).1
  have m8 := (bok_pm hO).2.1
  have d20 := hO.2.2.2.2.1.1
  obtain ⟨v1, v2⟩ := hFv_le (hd := dH b) (h := h)
  have c20 : cq (dH b) h (dH b).1 ≤ 20 := by
    have : ∀ n, cq (dH b) h n ≤ n := by
      intro n
      induction n with
      | zero => exact Nat.le_refl 0
      | succ n ih =>
        rw [cq_s]
        split <;> omega
    have := this (dH b).1
    omega
  generalize es : putB (dP b) (stN (dP b) (dH b) (dA b) h) = s at *
  have ws : Wf (dP b) s := by rw [← es]; exact putB_wf (stN_wf m8 h)
  have efn : ∀ l, hfin (dP b) (dH b) (dA b) h (putB (dP b) (stN (dP b) (dH b) (dA b) h)) l = hfin (dP b) (dH b) (dA b) h s l := fun l => by rw [es]
  generalize ef : hFv (dH b) h = five at *
  generalize ec : cq (dH b) h (dH b).1 = nn at *
  have pw : five ^ five ≤ 3125 := by
    have : five = 0 ∨ five = 1 ∨ five = 2 ∨ five = 3 ∨ five = 4 ∨ five = 5 := by omega
    rcases this with e | e | e | e | e | e <;> rw [e] <;> decide
  -- everything behind keeping
  have rest : ∀ H0 : Hi, frX (dH b).1 H H0 → MT (dP b) (dH b) (dA b) H0 → MK (dP b) s H0 → Rm E mX10_hangsOf Q 27 [some (rf E 99), some (.int (nI h)), some (.int 0), some (.int 0), none, none, none, none, none, none] [] H0 := by
    intro H0 f0 t0 k0
    have ofC : ∀ H1 : Hi, Prop := fun H1 => ∀ j, j < nn → H1 120 j = nI (cdj (dH b) h j)
    -- the last loop
    have l310 : ∀ H1 : Hi, frH H0 H1 → (∀ t, t < pN (dP b) → H1 121 t = nI (pbN (rwP b h t) (ful five) (five ^ five))) → Rm E mX10_hangsOf Q 310 [some (rf E 99), none, none, none, none, some (.int 0), some (.int 0), none, none, none] [] H1 := by
      intro H1 f1 p1
      have t1 := mt_kH t0 f1
      have lp : ∀ (m t : Nat), t + m = pN (dP b) → Rm E mX10_hangsOf Q 310 [some (rf E 99), none, none, none, none, some (.int (nI (bs (hgP (dP b) (dH b) (dA b) h) t))), some (.int (nI t)), none, none, none] [] H1 := by
        intro m
        induction m with
        | zero =>
          intro t ht
          refine sgX10_hangsOf_310 ⟨fun _ => ?_, fun z => ?_⟩
          · have e : t = pN (dP b) := by omega
            rw [e]; exact hq H1 (fx_tr f0 (fx_H f1)) t1.1
          · rw [t1.1.2.1] at z
            exact absurd (nI_le (show pN (dP b) ≤ t by omega) (by omega)) z
        | succ m ih =>
          intro t ht
          have tn : t < pN (dP b) := by omega
          obtain ⟨g1, g2⟩ := hg_rows (h := h) hO tn
          rw [ef] at g1 g2
          have hf : ∀ r, rwP b h t r ≤ 9 := fun r => (hfin_wf m8 (putB_wf (stN_wf m8 h)) t tn).1
          have lt := pbN_lt (p := ful five) hf (five ^ five)
          have land : pbN (rwP b h t) (ful five) (five ^ five) &&& (pbN (rwP b h t) (ful five) (five ^ five) - 1) < 2 ^ 10 := Nat.and_lt_two_pow _ (by omega)
          have ex : H1 121 t &&& (H1 121 t - 1) = nI (pbN (rwP b h t) (ful five) (five ^ five) &&& (pbN (rwP b h t) (ful five) (five ^ five) - 1)) := by
            rw [p1 t tn, ni_prd g1, nI_and]
          refine sgX10_hangsOf_310 ⟨fun z => ?_, fun _ => ⟨t, ⟨by omega, rfl⟩, t, ⟨by omega, rfl⟩, ?_⟩⟩
          · rw [t1.1.2.1] at z
            have := (nI_leI (by omega) (by omega)).mp z; omega
          · rw [ex, nI_eq0 (by omega), g2]
            refine ⟨fun z y ey x ex' => ?_, fun z y ey x ex' => ?_⟩
            · have e2 : bs (hgP (dP b) (dH b) (dA b) h) t = bs (hgP (dP b) (dH b) (dA b) h) (t + 1) := by rw [bs_succ, if_neg (by rw [z]; decide)]
              rw [ex', ← nI_succ, ey, or_0, e2]
              exact ih (t + 1) (by omega)
            · have z' : hgP (dP b) (dH b) (dA b) h t = true := by
                cases e : hgP (dP b) (dH b) (dA b) h t
                · exact absurd e z
                · rfl
              have e2 : nI (bs (hgP (dP b) (dH b) (dA b) h) t) ||| ((1 : Int32) <<< (nI t &&& 31)) = nI (bs (hgP (dP b) (dH b) (dA b) h) (t + 1)) := by rw [i_one t (by omega), nI_or, bs_succ, if_pos z']
              rw [ex', ← nI_succ, ey, e2]
              exact ih (t + 1) (by omega)
      exact lp _ 0 (Nat.zero_add _)
    -- the loop over rows
    have l128 : ∀ (m r : Nat) (H1 : Hi), r + m = five ^ five → frH H0 H1 → MK (dP b) s H1 → (∀ j, j < nn → H1 120 j = nI (cdj (dH b) h j)) → (∀ t, t < pN (dP b) → H1 121 t = nI (pbN (rwP b h t) (ful five) r)) →
        Rm E mX10_hangsOf Q 128 [some (rf E 99), some (.int (nI h)), some (.int (nI nn)), some (.int (nI five)), some (.int (nI (five ^ five))), some (.int (nI r)), none, none, none, none] [] H1 := by
      intro m
      induction m with
      | zero =>
        intro r H1 hr f1 k1 o1 p1
        have e : r = five ^ five := by omega
        refine sgX10_hangsOf_128 ⟨fun _ => l310 H1 f1 (by rw [← e]; exact p1), fun z => absurd (nI_le (show five ^ five ≤ r by omega) (by omega)) z⟩
      | succ m ih =>
        intro r H1 hr f1 k1 o1 p1
        refine sgX10_hangsOf_128 ⟨fun z => ?_, fun _ => ?_⟩
        · have := (nI_leI (by omega) (by omega)).mp z; omega
        have t1 := mt_kH t0 f1
        -- behind a row
        have nx : ∀ (H2 : Hi) (x : Int32), x = nI r + 1 → frH H0 H2 → MK (dP b) s H2 → (∀ j, j < nn → H2 120 j = nI (cdj (dH b) h j)) → (∀ t, t < pN (dP b) → H2 121 t = nI (pbN (rwP b h t) (ful five) (r + 1))) → Rm E mX10_hangsOf Q 128 [some (rf E 99), some (.int (nI h)), some (.int (nI nn)), some (.int (nI five)), some (.int (nI (five ^ five))), some (.int x), none, none, none, none] [] H2 := by
          intro H2 x ex f2 k2 o2 p2
          rw [ex, ← nI_succ]
          exact ih (r + 1) H2 (by omega) f2 k2 o2 p2
        -- places are put down
        have l264 : ful five r = true → ∀ (H2 : Hi), frH H0 H2 → MK (dP b) s H2 → (∀ j, j < nn → H2 120 j = nI (cdj (dH b) h j)) → MW (dP b) (hfin (dP b) (dH b) (dA b) h s (dgl five r)) H2 → ∀ (m2 t : Nat) (H3 : Hi), t + m2 = pN (dP b) → (∀ c, c ≠ 121 → H3 c = H2 c) → (∀ u, u < pN (dP b) → H3 121 u = nI (if u < t then pbN (rwP b h u) (ful five) (r + 1) else pbN (rwP b h u) (ful five) r)) →
            Rm E mX10_hangsOf Q 264 [some (rf E 99), some (.int (nI h)), some (.int (nI nn)), some (.int (nI five)), some (.int (nI (five ^ five))), some (.int (nI r)), none, none, some (.int (nI t)), none] [] H3 := by
          intro fu H2 f2 k2 o2 w2 m2
          have wfn : Wf (dP b) (hfin (dP b) (dH b) (dA b) h s (dgl five r)) := hfin_wf m8 ws
          induction m2 with
          | zero =>
            intro t H3 ht f3 p3
            have fH3 : frH H0 H3 := fun c hc => by rw [f3 c (by omega)]; exact f2 c hc
            refine sgX10_hangsOf_264 ⟨fun _ x ex => ?_, fun z => ?_⟩
            · refine nx H3 x ex fH3 (mk_keep n8 k2 (fun c q1 q2 => f3 c (by omega))) (fun j hj => by rw [f3 120 (by decide)]; exact o2 j hj) (fun u hu => ?_)
              rw [p3 u hu, if_pos (by omega)]
            · rw [(mt_kH t0 fH3).1.2.1] at z
              exact absurd (nI_le (show pN (dP b) ≤ t by omega) (by omega)) z
          | succ m2 ih2 =>
            intro t H3 ht f3 p3
            have fH3 : frH H0 H3 := fun c hc => by rw [f3 c (by omega)]; exact f2 c hc
            have tn : t < pN (dP b) := by omega
            have pl := (wfn t tn).1
            have w3 : MW (dP b) (hfin (dP b) (dH b) (dA b) h s (dgl five r)) H3 := mw_keep w2 (fun c hc => f3 c (by omega))
            have er : rwP b h t r = (hfin (dP b) (dH b) (dA b) h s (dgl five r)).1 t := by unfold rwP; rw [ef, es]
            refine sgX10_hangsOf_264 ⟨fun z => ?_, fun _ => ⟨t, ⟨by omega, rfl⟩, t, ⟨by omega, rfl⟩, t, ⟨by omega, rfl⟩, fun H4 g4 x ex => ?_⟩⟩
            · rw [(mt_kH t0 fH3).1.2.1] at z
              have := (nI_leI (by omega) (by omega)).mp z; omega
            · rw [ex, ← nI_succ]
              refine ih2 (t + 1) H4 (by omega) (fun c q => by rw [g4, up_n q]; exact f3 c q) (fun u hu => ?_)
              rw [g4, up_s]
              by_cases eu : u = t
              · subst eu
                rw [upd_s, p3 u hu, if_neg (Nat.lt_irrefl u), if_pos (Nat.lt_succ_self u), mw_w w3 n8 hu, i_one _ (by omega), nI_or]
                congr 1
                show _ = if ful five r = true then pbN (rwP b h u) (ful five) r ||| 2 ^ rwP b h u r else pbN (rwP b h u) (ful five) r
                rw [if_pos fu, er]
              · rw [upd_n eu, p3 u hu]
                by_cases q3 : u < t
                · rw [if_pos q3, if_pos (by omega)]
                · rw [if_neg q3, if_neg (by omega)]
        -- the others come as told
        have l231 : ful five r = true → ∀ (m2 j : Nat) (H2 : Hi), j + m2 = nn → five ≤ j → frH H0 H2 → MK (dP b) s H2 → (∀ q, q < nn → H2 120 q = nI (cdj (dH b) h q)) → (∀ t, t < pN (dP b) → H2 121 t = nI (pbN (rwP b h t) (ful five) r)) → MW (dP b) (itF (acF (dP b) (dH b) h) five (j - five) (fo (dP b) (dH b) h s (dgl five r))) H2 →
            Rm E mX10_hangsOf Q 231 [some (rf E 99), some (.int (nI h)), some (.int (nI nn)), some (.int (nI five)), some (.int (nI (five ^ five))), some (.int (nI r)), none, none, some (.int (nI j)), none] [] H2 := by
          intro fu m2
          have wac : ∀ m3 k z, Wf (dP b) z → Wf (dP b) (itF (acF (dP b) (dH b) h) k m3 z) := by
            intro m3
            induction m3 with
            | zero => intro k z wz; exact wz
            | succ m3 ih3 => intro k z wz; exact ih3 (k + 1) _ (act_wf wz)
          induction m2 with
          | zero =>
            intro j H2 hj h5 f2 k2 o2 p2 w2
            have ej : j = nn := by omega
            have t2 := mt_kH t0 f2
            have wz := wac (j - five) five _ (fo_wf (hd := dH b) (h := h) (dgl five r) s ws)
            refine sgX10_hangsOf_231 ⟨fun _ => mt_ends t2.1 w2 wz t2.2.2.1 t2.2.2.2 hh (fun H3 f3 w3 => ⟨rfl, ?_⟩), fun z => absurd (nI_le (show nn ≤ j by omega) (by omega)) z⟩
            have ehf : clo (dP b) (dA b) h (itF (acF (dP b) (dH b) h) five (j - five) (fo (dP b) (dH b) h s (dgl five r))) = hfin (dP b) (dH b) (dA b) h s (dgl five r) := by
              obtain ⟨q1, q2⟩ := hK_ok (hd := dH b) (h := h)
              have e1 := te_ac (P := dP b) (hd := dH b) (h := h) ((dH b).1 - hK (dH b) h) (hK (dH b) h) (fo (dP b) (dH b) h s (dgl five r)) (by omega)
              unfold hfin
              rw [e1, q2, ef, show hK (dH b) h + ((dH b).1 - hK (dH b) h) = (dH b).1 by omega, ec, ej]
            rw [ehf] at w3
            have fH3 : frH H0 H3 := fun c hc => by rw [f3 c (by omega) (by omega)]; exact f2 c hc
            refine l264 fu H3 fH3 (mk_keep n8 k2 (fun c q1 q2 => f3 c (by omega) (by omega))) (fun q hq' => by rw [f3 120 (by decide) (by decide)]; exact o2 q hq') w3 (pN (dP b)) 0 H3 (Nat.zero_add _) (fun _ _ => rfl) (fun u hu => ?_)
            rw [f3 121 (by decide) (by decide), p2 u hu, if_neg (Nat.not_lt_zero u)]
          | succ m2 ih2 =>
            intro j H2 hj h5 f2 k2 o2 p2 w2
            have t2 := mt_kH t0 f2
            have wz := wac (j - five) five _ (fo_wf (hd := dH b) (h := h) (dgl five r) s ws)
            refine sgX10_hangsOf_231 ⟨fun z => ?_, fun _ => ⟨j, ⟨by omega, rfl⟩, ?_⟩⟩
            · have := (nI_leI (by omega) (by omega)).mp z; omega
            · rw [o2 j (by omega)]
              refine mt_acts t2.1 w2 wz (cdj_lt hO (by omega)) (fun H3 f3 w3 => ⟨_, rfl, fun x ex => ?_⟩)
              rw [ex, ← nI_succ]
              refine ih2 (j + 1) H3 (by omega) (by omega) (fun c hc => by rw [f3 c (by omega) (by omega)]; exact f2 c hc) (mk_keep n8 k2 (fun c q1 q2 => f3 c (by omega) (by omega))) (fun q hq' => by rw [f3 120 (by decide) (by decide)]; exact o2 q hq') (fun u hu => by rw [f3 121 (by decide) (by decide)]; exact p2 u hu) ?_
              have e1 := itF_sp (f := acF (dP b) (dH b) h) (j - five) five 1 (fo (dP b) (dH b) h s (dgl five r))
              rw [show j + 1 - five = j - five + 1 by omega, e1, show five + (j - five) = j by omega]
              exact w3
        -- the first five
        have l195 : ful five r = true → ∀ (m2 k : Nat) (H2 : Hi), k + m2 = five → frH H0 H2 → MK (dP b) s H2 → (∀ q, q < nn → H2 120 q = nI (cdj (dH b) h q)) → (∀ t, t < pN (dP b) → H2 121 t = nI (pbN (rwP b h t) (ful five) r)) → MW (dP b) (itN (fun z j => act (dP b) z (cdj (dH b) h (r / five ^ j % five))) k s) H2 →
            Rm E mX10_hangsOf Q 195 [some (rf E 99), some (.int (nI h)), some (.int (nI nn)), some (.int (nI five)), some (.int (nI (five ^ five))), some (.int (nI r)), none, some (.int (nI (r / five ^ k))), some (.int (nI k)), none] [] H2 := by
          intro fu m2
          induction m2 with
          | zero =>
            intro k H2 hk f2 k2 o2 p2 w2
            have ek : k = five := by omega
            refine sgX10_hangsOf_195 ⟨fun _ => l231 fu (nn - five) five H2 (by omega) (Nat.le_refl five) f2 k2 o2 p2 ?_, fun z => absurd (nI_le (show five ≤ k by omega) (by omega)) z⟩
            rw [Nat.sub_self]
            show MW (dP b) (fo (dP b) (dH b) h s (dgl five r)) H2
            unfold dgl
            rw [fo_map]
            rw [ek] at w2; exact w2
          | succ m2 ih2 =>
            intro k H2 hk f2 k2 o2 p2 w2
            have t2 := mt_kH t0 f2
            have f0' : 0 < five := by omega
            have rl : r / five ^ k ≤ r := Nat.div_le_self _ _
            have dl := Nat.mod_lt (r / five ^ k) f0'
            have wz : Wf (dP b) (itN (fun z j => act (dP b) z (cdj (dH b) h (r / five ^ j % five))) k s) := itN_inv (I := fun z => Wf (dP b) z) (fun z i w => act_wf w) k s ws
            have n0 : ¬ nI five = 0 := fun p => by
              have := (nI_eq0 (n := five) (by omega)).mp p
              omega
            refine sgX10_hangsOf_195 ⟨fun z => ?_, fun _ => ⟨n0, r / five ^ k % five, ⟨by omega, ni_mod (by omega) f0' (by omega)⟩, ?_⟩⟩
            · have := (nI_leI (by omega) (by omega)).mp z; omega
            · rw [o2 _ (by omega)]
              refine mt_acts t2.1 w2 wz (cdj_lt hO (by omega)) (fun H3 f3 w3 => ⟨_, rfl, n0, fun y ey x ex => ?_⟩)
              have ey' : y = nI (r / five ^ (k + 1)) := by rw [ey, pk_div (by omega) f0' (by omega), Nat.div_div_eq_div_mul, Nat.pow_succ]
              rw [ex, ← nI_succ, ey']
              exact ih2 (k + 1) H3 (by omega) (fun c hc => by rw [f3 c (by omega) (by omega)]; exact f2 c hc) (mk_keep n8 k2 (fun c q1 q2 => f3 c (by omega) (by omega))) (fun q hq' => by rw [f3 120 (by decide) (by decide)]; exact o2 q hq') (fun u hu => by rw [f3 121 (by decide) (by decide)]; exact p2 u hu) w3
        -- is it an order?
        have l145 : ∀ (m2 k : Nat), k + m2 = five → Rm E mX10_hangsOf Q 145 [some (rf E 99), some (.int (nI h)), some (.int (nI nn)), some (.int (nI five)), some (.int (nI (five ^ five))), some (.int (nI r)), some (.int (nI (uS five r k))), some (.int (nI (r / five ^ k))), some (.int (nI k)), none] [] H1 := by
          intro m2
          induction m2 with
          | zero =>
            intro k hk
            have ek : k = five := by omega
            have u5 : uS five r five < 2 ^ 5 := by
              by_cases e0 : five = 0
              · rw [e0]; show 0 < 2 ^ 5; decide
              · exact uS_lt v2 (by omega) five
            have p5 : 2 ^ five ≤ 2 ^ 5 := Nat.pow_le_pow_right (by decide) v2
            have pp : 0 < 2 ^ five := Nat.pow_pos (by decide)
            have em : ((1 : Int32) <<< (nI five &&& 31)) - 1 = nI (2 ^ five - 1) := by rw [i_one five (by omega), ni_prd (by omega)]
            refine sgX10_hangsOf_145 ⟨fun _ => ?_, fun z => absurd (nI_le (show five ≤ k by omega) (by omega)) z⟩
            rw [em, ek]
            refine ⟨fun z x ex => ?_, fun z => ?_⟩
            · have nf : ful five r = false := decide_eq_false (fun q => z (by rw [q]))
              refine nx H1 x ex f1 k1 o1 (fun t ht => ?_)
              rw [p1 t ht]
              congr 1
              show _ = if ful five r = true then _ else pbN (rwP b h t) (ful five) r
              rw [if_neg (by rw [nf]; decide)]
            · have fu : ful five r = true := decide_eq_true (nI_inj (by omega) (by omega) z)
              refine mt_rest n8 k1 (fun H2 f2 w2 => ⟨rfl, ?_⟩)
              have fH2 : frH H0 H2 := fun c hc => by rw [f2 c (by omega)]; exact f1 c hc
              have e0 : r / five ^ 0 = r := by rw [Nat.pow_zero, Nat.div_one]
              have go := l195 fu five 0 H2 (Nat.zero_add _) fH2 (mk_keep n8 k1 (fun c q1 q2 => f2 c (by omega))) (fun q hq' => by rw [f2 120 (by decide)]; exact o1 q hq') (fun u hu => by rw [f2 121 (by decide)]; exact p1 u hu) w2
              rw [e0] at go
              exact go
          | succ m2 ih2 =>
            intro k hk
            have f0' : 0 < five := by omega
            have rl : r / five ^ k ≤ r := Nat.div_le_self _ _
            have dl := Nat.mod_lt (r / five ^ k) f0'
            have n0 : ¬ nI five = 0 := fun p => by
              have := (nI_eq0 (n := five) (by omega)).mp p
              omega
            refine sgX10_hangsOf_145 ⟨fun z => ?_, fun _ => ⟨n0, fun y ey => ⟨n0, fun y2 ey2 x ex => ?_⟩⟩⟩
            · have := (nI_leI (by omega) (by omega)).mp z; omega
            · have ey' : y = nI (uS five r (k + 1)) := by
                rw [ey, ni_mod (by omega) f0' (by omega), i_one _ (by omega), nI_or]; rfl
              have ey2' : y2 = nI (r / five ^ (k + 1)) := by rw [ey2, pk_div (by omega) f0' (by omega), Nat.div_div_eq_div_mul, Nat.pow_succ]
              rw [ex, ← nI_succ, ey', ey2']
              exact ih2 (k + 1) (by omega)
        have go := l145 five 0 (Nat.zero_add _)
        have e0 : r / five ^ 0 = r := by rw [Nat.pow_zero, Nat.div_one]
        rw [e0] at go
        exact go
    -- places are cleared
    have l104 : ∀ (m k : Nat) (H1 : Hi), k + m = 8 → frH H0 H1 → MK (dP b) s H1 → (∀ j, j < nn → H1 120 j = nI (cdj (dH b) h j)) → (∀ t, t < k → H1 121 t = 0) → Rm E mX10_hangsOf Q 104 [some (rf E 99), some (.int (nI h)), some (.int (nI nn)), some (.int (nI five)), some (.int (nI (five ^ five))), some (.int (nI k)), none, none, none, none] [] H1 := by
      intro m
      induction m with
      | zero =>
        intro k H1 hk f1 k1 o1 p1
        have e : k = 8 := by omega
        subst e
        exact sgX10_hangsOf_104 ⟨fun _ => l128 (five ^ five) 0 H1 (Nat.zero_add _) f1 k1 o1 (fun t ht => by rw [p1 t (by omega)]; rfl), fun z => absurd (show nI 8 ≤ nI 8 from nI_le (by omega) (by omega)) z⟩
      | succ m ih =>
        intro k H1 hk f1 k1 o1 p1
        refine sgX10_hangsOf_104 ⟨fun z => ?_, fun _ => ⟨k, ⟨by omega, rfl⟩, fun H2 g2 x ex => ?_⟩⟩
        · have := (nI_leI (a := 8) (by omega) (by omega)).mp z; omega
        · rw [ex, ← nI_succ]
          refine ih (k + 1) H2 (by omega) (fun c hc => by rw [g2, up_n (by omega)]; exact f1 c hc) (mk_keep n8 k1 (fun c q1 q2 => by rw [g2, up_n (by omega)])) (fun j hj => by rw [g2, up_n (by decide)]; exact o1 j hj) (fun t ht => ?_)
          rw [g2, up_s]
          by_cases q : t = k
          · rw [q, upd_s]
          · rw [upd_n q]; exact p1 t (by omega)
    -- how many rows
    have l83 : ∀ (m k : Nat) (H1 : Hi), k + m = five → frH H0 H1 → MK (dP b) s H1 → (∀ j, j < nn → H1 120 j = nI (cdj (dH b) h j)) → Rm E mX10_hangsOf Q 83 [some (rf E 99), some (.int (nI h)), some (.int (nI nn)), some (.int (nI five)), some (.int (nI (five ^ k))), some (.int (nI k)), none, none, none, none] [] H1 := by
      intro m
      induction m with
      | zero =>
        intro k H1 hk f1 k1 o1
        have e : k = five := by omega
        refine sgX10_hangsOf_83 ⟨fun _ => ?_, fun z => absurd (nI_le (show five ≤ k by omega) (by omega)) z⟩
        rw [e]
        exact l104 8 0 H1 rfl f1 k1 o1 (fun t ht => absurd ht (Nat.not_lt_zero t))
      | succ m ih =>
        intro k H1 hk f1 k1 o1
        refine sgX10_hangsOf_83 ⟨fun z => ?_, fun _ y ey x ex => ?_⟩
        · have := (nI_leI (by omega) (by omega)).mp z; omega
        · rw [ex, ← nI_succ, ey, ni_mulN, ← Nat.pow_succ]
          exact ih (k + 1) H1 (by omega) f1 k1 o1
    -- the hands of this hour
    have l27 : ∀ (m k : Nat) (H1 : Hi), k + m = (dH b).1 → frH H0 H1 → MK (dP b) s H1 → (∀ j, j < cq (dH b) h k → H1 120 j = nI (cdj (dH b) h j)) → Rm E mX10_hangsOf Q 27 [some (rf E 99), some (.int (nI h)), some (.int (nI (cq (dH b) h k))), some (.int (nI k)), none, none, none, none, none, none] [] H1 := by
      intro m
      induction m with
      | zero =>
        intro k H1 hk f1 k1 o1
        have e : k = (dH b).1 := by omega
        have t1 := mt_kH t0 f1
        have m1 := mi_fx hM (fx_tr f0 (fx_H f1))
        rw [e, ec] at o1
        rw [e, ec]
        have go : five = five → Rm E mX10_hangsOf Q 83 [some (rf E 99), some (.int (nI h)), some (.int (nI nn)), some (.int (nI five)), some (.int 1), some (.int 0), none, none, none, none] [] H1 := fun _ => l83 five 0 H1 (Nat.zero_add _) f1 k1 o1
        refine sgX10_hangsOf_27 ⟨fun _ => ⟨fun z => ?_, fun z => ?_⟩, fun z => ?_⟩
        · have z' : 5 ≤ nn := (nI_leI (a := 5) (by omega) (by omega)).mp z
          have e5 : five = 5 := by rw [← ef]; unfold hFv; rw [ec, if_neg (by omega)]
          rw [e5] at go
          exact go rfl
        · have z' : ¬ 5 ≤ nn := fun p => z (nI_le (a := 5) p (by omega))
          have e5 : five = nn := by rw [← ef]; unfold hFv; rw [ec, if_pos (by omega)]
          rw [e5] at go
          exact go rfl
        · rw [m1.2.2.1.1] at z
          exact absurd (nI_le (Nat.le_refl (dH b).1) (by omega)) z
      | succ m ih =>
        intro k H1 hk f1 k1 o1
        have m1 := mi_fx hM (fx_tr f0 (fx_H f1))
        have p1 := m1.2.2.1.2 k (by omega)
        have p2 := hO.2.2.2.2.1.2 k (by omega)
        have cm : cq (dH b) h (k + 1) ≤ nn := by rw [← ec]; exact cq_mono (dH b) h (show k + 1 ≤ (dH b).1 by omega)
        have cs := cq_s (dH b) h k
        refine sgX10_hangsOf_27 ⟨fun z => ?_, fun _ => ⟨k, ⟨by omega, rfl⟩, ?_⟩⟩
        · rw [m1.2.2.1.1] at z
          have := (nI_leI (by omega) (by omega)).mp z; omega
        · rw [p1.1]
          refine ⟨fun z x ex => ?_, fun z => ?_⟩
          · rw [if_neg (fun p => z (by rw [p]))] at cs
            have cs' : cq (dH b) h k = cq (dH b) h (k + 1) := by omega
            rw [ex, ← nI_succ, cs']
            exact ih (k + 1) H1 (by omega) f1 k1 (by rw [← cs']; exact o1)
          · have z' : (dH b).2.1 k = h := nI_inj (by omega) (by omega) z
            rw [if_pos z'] at cs
            refine ⟨k, ⟨by omega, rfl⟩, cq (dH b) h k, ⟨by omega, rfl⟩, fun H2 g2 y ey x ex => ?_⟩
            have ey' : y = nI (cq (dH b) h (k + 1)) := by rw [ey, cs, nI_succ]
            rw [ex, ← nI_succ, ey']
            refine ih (k + 1) H2 (by omega) (fun c hc => by rw [g2, up_n (by omega)]; exact f1 c hc) (mk_keep n8 k1 (fun c q1 q2 => by rw [g2, up_n (by omega)])) (fun j hj => ?_)
            rw [g2, up_s]
            by_cases q : j = cq (dH b) h k
            · rw [q, upd_s, p1.2]
              have : cdj (dH b) h (cq (dH b) h k) = (dH b).2.2 k := by unfold cdj; rw [nh_u (by omega) z']
              rw [this]
            · rw [upd_n q]; exact o1 j (by omega)
    exact l27 (dH b).1 0 H0 (Nat.zero_add _) (fun _ _ => rfl) k0 (fun j hj => absurd hj (Nat.not_lt_zero j))
  have body : ∀ H2 : Hi, frX (dH b).1 H H2 → MT (dP b) (dH b) (dA b) H2 → MW (dP b) (stN (dP b) (dH b) (dA b) h) H2 →
      Cm E mX10_putsBack [rf E 99] H2 (fun w zH_3 => w = none ∧ (Cm E mX10_keeps [rf E 99] zH_3 (fun w zH_4 => w = none ∧ (Rm E mX10_hangsOf Q 27 [some (rf E 99), some (.int (nI h)), some (.int 0), some (.int 0), none, none, none, none, none, none] [] zH_4)))) := by
    intro H2 f2 t2 w2
    refine mt_putsBack t2.1 w2 (stN_wf m8 h) (fun H3 f3 w3 => ⟨rfl, ?_⟩)
    have k3 : frK H2 H3 := fun c hc => f3 c (by omega) (by omega) (by omega)
    have t3 := mt_keep t2 k3
    have w3' : MW (dP b) s H3 := by rw [← es]; exact w3
    refine mt_keeps n8 w3' (fun H5 f5 k5 => ⟨rfl, ?_⟩)
    have f35 : frH H3 H5 := fun c hc => f5 c (by omega)
    exact rest H5 (fx_tr (fx_tr f2 (fx_K k3)) (fx_H f35)) (mt_kH t3 f35) k5
  refine cmX10_hangsOf (mt_told hO hM (n := h) (by omega) (ni_m1 (by omega)) (fun H2 f2 t2 n2 => ⟨rfl, fun z => body H2 f2 t2 n2.1, fun z => ?_⟩))
  refine mt_beg (hd := dH b) (a := dA b) t2.1 (fun H3 f3 n3 => ⟨rfl, body H3 (fx_tr f2 (fx_K f3)) (mt_keep t2 f3) ?_⟩)
  have h0 : h = 0 := (nI_eq0 (by omega)).mp z
  rw [h0]; exact n3.1
theorem mc_hangs {E : En} {b : Bd} {x : Int32} : Mc E mX10_hangs [rf E 99, .int x] b (sHangs b x) := by
  intro H0 Q hO hM0 hq
  refine cmX10_hangs (mt_isHour ⟨_, rfl, fun z => ?_, fun z => ?_⟩)
  · have e : sHangs b x = (-2, b) := if_neg (by rw [bI_0.mp z]; simp)
    rw [e] at hq; exact hq H0 (fun _ _ => rfl) hM0
  · have e : sHangs b x = _ := if_pos (bI_1 z)
    rw [e] at hq
    obtain ⟨n, a1, b1, d1⟩ := inN_of (bI_1 z) (by decide)
    rw [d1] at hq
    rw [b1]
    exact mt_hangsOf hO hM0 a1 (fun H' f' r' => ⟨_, rfl, hq H' (fx_1 f') (mi_fx hM0 f')⟩)
