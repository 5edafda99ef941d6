/-! arrange -/
theorem cnt_mono (hd : Hd) {h1 h2 : Nat} (h : h1 ≤ h2) : cnt hd h1 ≤ cnt hd h2 := sm_le (fun k _ => by split <;> split <;> omega)
theorem ps_lt {hd : Hd} {k : Nat} (hk : k < hd.1) : ps hd (hd.2.1 k) k < cnt hd (hd.2.1 k + 1) := by
  have h1 := ps_s hd (hd.2.1 k) k
  rw [if_pos rfl] at h1
  have h2 := cnt_s hd (hd.2.1 k)
  have h3 := cq_mono hd (hd.2.1 k) (show k + 1 ≤ hd.1 by omega)
  unfold ps at *
  omega
/-- hands, holes, the aunt, the room, as they were told to the class -/
def ToB (P : Pm) (hd : Hd) (a : Nat) (H : Hi) : Prop := hd.1 ≤ 20 ∧ H 11 2 = nI hd.1 ∧ (∀ k, k < hd.1 → H 12 k = nI (hd.2.1 k) ∧ hd.2.1 k < 24 ∧ H 13 k = nI (hd.2.2 k) ∧ hd.2.2 k < 128) ∧
  H 11 5 = nI (pO P).1 ∧ (pO P).1 ≤ 6 ∧ (∀ k, k < (pO P).1 → H 14 k = nI ((pO P).2.1 k) ∧ (pO P).2.1 k < 24 ∧ H 15 k = nI ((pO P).2.2 k) ∧ (pO P).2.2 k ≤ 9) ∧ H 11 1 = nI a ∧ a < 2 ^ 24 ∧ H 11 0 = nI (pRm P)
def frA (H0 H : Hi) : Prop := ∀ c, c ≠ 19 → c ≠ 20 → c ≠ 21 → H c = H0 c
theorem toB_keep {P : Pm} {hd : Hd} {a : Nat} {H H' : Hi} (hB : ToB P hd a H) (h : ∀ c, 11 ≤ c → c ≤ 15 → H' c = H c) : ToB P hd a H' := by
  unfold ToB
  rw [h 11 (by decide) (by decide), h 12 (by decide) (by decide), h 13 (by decide) (by decide), h 14 (by decide) (by decide), h 15 (by decide) (by decide)]
  exact hB
def AO (hd : Hd) (h k : Nat) (H : Hi) : Prop := ∀ j, j < hd.1 → (hd.2.1 j < h ∨ (hd.2.1 j = h ∧ j < k)) → H 19 (ps hd (hd.2.1 j) j) = nI j
set_option maxHeartbeats 4000000 in
theorem arr_in {E : En} {Q : Option Value → Hi → Prop} {P : Pm} {hd : Hd} {a h : Nat} {H0 : Hi} (hh : h < 24)
    (hout : ∀ H : Hi, ToB P hd a H → frA H0 H → (∀ j, j ≤ h → H 20 j = nI (cnt hd j)) → AO hd (h + 1) 0 H → Rm E mX8_arrange Q 4 [some (rf E 11), some (.int (nI (cnt hd (h + 1)))), some (.int (nI (h + 1))), none] [] H) :
    ∀ (m k : Nat) (H : Hi), k + m = hd.1 → ToB P hd a H → frA H0 H → (∀ j, j ≤ h → H 20 j = nI (cnt hd j)) → AO hd h k H →
      Rm E mX8_arrange Q 19 [some (rf E 11), some (.int (nI (ps hd h k))), some (.int (nI h)), some (.int (nI k))] [] H := by
  intro m
  induction m with
  | zero =>
    intro k H hk hB hf h20 hO
    have e : k = hd.1 := by omega
    subst e
    refine sgX8_arrange_19 ⟨fun _ => ?_, fun z => ?_⟩
    · intro x ex
      rw [nI_1] at ex
      subst ex
      rw [cnt_s]
      refine hout H hB hf h20 (fun j hj hc => hO j hj ?_)
      rcases hc with hc | hc
      · by_cases e : hd.2.1 j = h
        · exact Or.inr ⟨e, hj⟩
        · exact Or.inl (by omega)
      · omega
    · rw [hB.2.1] at z; exact absurd (Int32.le_refl _) z
  | succ m ih =>
    intro k H hk hB hf h20 hO
    have hn := hB.1
    have hk' : k < hd.1 := by omega
    obtain ⟨b1, b2, b3, b4⟩ := hB.2.2.1 k hk'
    have hps := ps_s hd h k
    refine sgX8_arrange_19 ⟨fun z => ?_, fun _ => ?_⟩
    · rw [hB.2.1, nI_leI (by omega) (by omega)] at z; omega
    refine ⟨k, ⟨by omega, rfl⟩, ?_⟩
    rw [b1]
    refine ⟨fun z => ?_, fun z => ?_⟩
    · have e : ¬ hd.2.1 k = h := fun q => z (by rw [q])
      intro x ex
      rw [nI_1] at ex
      subst ex
      rw [if_neg e] at hps
      have := ih (k + 1) H (by omega) hB hf h20 (fun j hj hc => hO j hj (by
        rcases hc with hc | hc
        · exact Or.inl hc
        · by_cases q : j = k
          · subst q; exact absurd hc.1 e
          · exact Or.inr ⟨hc.1, by omega⟩))
      rw [show ps hd h (k + 1) = ps hd h k by omega] at this
      exact this
    · have e : hd.2.1 k = h := nI_inj (by omega) (by omega) z
      have hlt := ps_lt hk'
      rw [e] at hlt
      have hcl := cnt_le hd (h + 1)
      refine ⟨ps hd h k, ⟨by omega, rfl⟩, ?_⟩
      intro H1 g1 x1 e1 x3 e3
      rw [nI_1] at e1 e3
      subst e1; subst e3
      rw [if_pos e] at hps
      rw [← hps]
      have o1 : ∀ c, c ≠ 19 → H1 c = H c := fun c hc => by rw [g1, up_n hc]
      refine ih (k + 1) H1 (by omega) (toB_keep hB (fun c z1 z2 => o1 c (by omega))) (fun c z1 z2 z3 => by rw [o1 c z1]; exact hf c z1 z2 z3) (fun j hj => by rw [o1 20 (by decide)]; exact h20 j hj) (fun j hj hc => ?_)
      rw [g1, up_s]
      by_cases q : j = k
      · subst q; rw [e, upd_s]
      · rw [upd_n]
        · refine hO j hj ?_
          rcases hc with hc | hc
          · exact Or.inl hc
          · exact Or.inr ⟨hc.1, by omega⟩
        · intro z2
          rcases hc with hc | hc
          · have p1 := ps_lt hj
            have p2 := cnt_mono hd (show hd.2.1 j + 1 ≤ h by omega)
            unfold ps at z2 p1
            omega
          · have p1 := ps_s hd h j
            rw [if_pos hc.1] at p1
            have p2 := cq_mono hd h (show j + 1 ≤ k by omega)
            rw [hc.1] at z2
            unfold ps at z2 p1
            omega
theorem mmax_n {a b : Nat} (ha : a < 2 ^ 31) (hb : b < 2 ^ 31) : mmax (nI a) (nI b) = nI (if a < b then b else a) := by
  unfold mmax
  by_cases h : a < b
  · rw [if_pos ((nI_ltI ha hb).mpr h), if_pos h]
  · rw [if_neg (fun z => h ((nI_ltI ha hb).mp z)), if_neg h]
set_option maxHeartbeats 4000000 in
theorem arr_w {E : En} {Q : Option Value → Hi → Prop} {P : Pm} {hd : Hd} {a : Nat} {H0 : Hi}
    (hq : ∀ H' : Hi, (∀ c, c ≠ 21 → H' c = H0 c) → (∀ h, h < 24 → H' 21 h = nI (wid P h)) → Q none H') :
    ∀ (m k : Nat) (H : Hi), k + m = (pO P).1 → ToB P hd a H → (∀ c, c ≠ 21 → H c = H0 c) → (∀ h, h < 24 → H 21 h = nI (itN (wid1 P h) k 0)) →
      Rm E mX8_arrange Q 77 [some (rf E 11), none, some (.int (nI k)), none] [] H := by
  intro m
  induction m with
  | zero =>
    intro k H hk hB hf hw
    have e : k = (pO P).1 := by omega
    subst e
    refine sgX8_arrange_77 ⟨fun _ => hq H hf hw, fun z => ?_⟩
    rw [hB.2.2.2.1] at z; exact absurd (Int32.le_refl _) z
  | succ m ih =>
    intro k H hk hB hf hw
    obtain ⟨-, -, -, b4, b5, b6, -⟩ := id hB
    obtain ⟨c1, c2, c3, c4⟩ := b6 k (by omega)
    refine sgX8_arrange_77 ⟨fun z => ?_, fun _ => ?_⟩
    · rw [b4, nI_leI (by omega) (by omega)] at z; omega
    refine ⟨k, ⟨by omega, rfl⟩, ?_⟩
    intro x3 e3
    rw [c1] at e3
    subst e3
    refine ⟨_, ⟨c2, rfl⟩, k, ⟨by omega, rfl⟩, _, ⟨c2, rfl⟩, ?_⟩
    intro H1 g1 x ex
    rw [nI_1] at ex
    subst ex
    have hle : ∀ n, n ≤ (pO P).1 → ∀ h, itN (wid1 P h) n 0 ≤ 9 := by
      intro n
      induction n with
      | zero => intro _ h; exact Nat.zero_le _
      | succ n ih2 =>
        intro hn h
        have h1 := ih2 (by omega) h
        have h2 := (b6 n (by omega)).2.2.2
        simp only [itN, wid1]
        split
        · split <;> omega
        · exact h1
    refine ih (k + 1) H1 (by omega) (toB_keep hB (fun c z1 z2 => by rw [g1, up_n (by omega)])) (fun c z => by rw [g1, up_n z, hf c z]) (fun h hh => ?_)
    have hk9 := hle k (by omega) h
    rw [g1, up_s, hw _ c2, c3, mmax_n (by have := hle k (by omega) ((pO P).2.1 k); omega) (by omega)]
    by_cases e : h = (pO P).2.1 k
    · subst e
      rw [upd_s]
      simp only [itN, wid1, if_true]
    · rw [upd_n e, hw h hh]
      simp only [itN, wid1]
      rw [if_neg (fun z => e z.symm)]
set_option maxHeartbeats 4000000 in
theorem arr_out {E : En} {Q : Option Value → Hi → Prop} {P : Pm} {hd : Hd} {a : Nat} {H0 : Hi}
    (hq : ∀ H' : Hi, frA H0 H' → ToldC P hd a H' → Q none H') :
    ∀ (m h : Nat) (H : Hi), h + m = 24 → ToB P hd a H → frA H0 H → (∀ j, j < h → H 20 j = nI (cnt hd j)) → AO hd h 0 H →
      Rm E mX8_arrange Q 4 [some (rf E 11), some (.int (nI (cnt hd h))), some (.int (nI h)), none] [] H := by
  intro m
  induction m with
  | zero =>
    intro h H hm hB hf h20 hO
    have e : h = 24 := by omega
    subst e
    refine sgX8_arrange_4 ⟨fun _ => ?_, fun z => absurd (by decide) z⟩
    intro H1 g1
    refine ct_fill sh_21 ?_
    intro H2 c2 v2
    refine ⟨rfl, ?_⟩
    have o1 : ∀ c, c ≠ 20 → H1 c = H c := fun c z => by rw [g1, up_n z]
    have hB2 : ToB P hd a H2 := toB_keep hB (fun c z1 z2 => by rw [c2 c (by omega), o1 c (by omega)])
    refine arr_w (H0 := H2) ?_ (pO P).1 0 H2 (by omega) hB2 (fun _ _ => rfl) (fun h hh => by rw [v2 h hh]; rfl)
    intro H3 c3 w3
    refine hq H3 (fun c z1 z2 z3 => by rw [c3 c z3, c2 c z3, o1 c z2]; exact hf c z1 z2 z3) ?_
    obtain ⟨b1, b2, b3, b4, b5, b6, b7, b8, b9⟩ := id hB2
    have e20 : H3 20 = upd (H 20) 24 (nI (cnt hd 24)) := by rw [c3 20 (by decide), c2 20 (by decide), g1, up_s]
    have e19 : H3 19 = H 19 := by rw [c3 19 (by decide), c2 19 (by decide), o1 19 (by decide)]
    refine ⟨b1, fun k hk => ?_, fun h hh => ?_, fun k hk => ?_, w3, fun k hk => (b6 k hk).2.2.2, by rw [c3 11 (by decide)]; exact b7, b8⟩
    · rw [c3 13 (by decide)]
      exact ⟨(b3 k hk).2.2.1, (b3 k hk).2.2.2, (b3 k hk).2.1⟩
    · rw [e20]
      by_cases q : h = 24
      · subst q; rw [upd_s]
      · rw [upd_n q]; exact h20 h (by omega)
    · rw [e19]
      exact hO k hk (Or.inl (b3 k hk).2.1)
  | succ m ih =>
    intro h H hm hB hf h20 hO
    have hh : h < 24 := by omega
    refine sgX8_arrange_4 ⟨fun z => ?_, fun _ => ?_⟩
    · rw [show (24 : Int32) = nI 24 from rfl, nI_leI (by omega) (by omega)] at z; omega
    refine ⟨h, ⟨by omega, rfl⟩, ?_⟩
    intro H1 g1
    have o1 : ∀ c, c ≠ 20 → H1 c = H c := fun c z => by rw [g1, up_n z]
    have := arr_in (H0 := H0) hh (fun H2 hB2 hf2 h2 hO2 => ih (h + 1) H2 (by omega) hB2 hf2 (fun j hj => h2 j (by omega)) hO2) hd.1 0 H1 (by omega)
      (toB_keep hB (fun c z1 z2 => o1 c (by omega))) (fun c z1 z2 z3 => by rw [o1 c z2]; exact hf c z1 z2 z3)
      (fun j hj => by
        rw [g1, up_s]
        by_cases q : j = h
        · subst q; rw [upd_s]
        · rw [upd_n q]; exact h20 j (by omega)) (fun j hj hc => by rw [o1 19 (by decide)]; exact hO j hj hc)
    exact this
theorem cnt_0 (hd : Hd) : cnt hd 0 = 0 := by
  unfold cnt
  rw [sm_congr (g := fun _ => 0) (fun k _ => by rw [if_neg (Nat.not_lt_zero _)]), sm_0]
theorem ct_arrange {E : En} {Q : Option Value → Hi → Prop} {H : Hi} {P : Pm} {hd : Hd} {a : Nat} (hB : ToB P hd a H) (hq : ∀ H' : Hi, frA H H' → ToldC P hd a H' → Q none H') : Cm E mX8_arrange [rf E 11] H Q := by
  refine cmX8_arrange ?_
  have := arr_out (E := E) hq 24 0 H (by omega) hB (fun _ _ _ _ => rfl) (fun j hj => by omega) (fun j hj hc => by omega)
  rw [cnt_0] at this
  exact this
