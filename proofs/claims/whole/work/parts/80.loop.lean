/-! THE LAW'S LOOP -/
theorem mi_99k {b : Bd} {H H' : Hi} (hM : MI b H) (f : ∀ c, 99 ≤ c → H' c = H c) : MI b H' := by
  obtain ⟨m1, m2, m3, m4, m5, m6, m7⟩ := hM
  have g99 := f 99 (by decide)
  exact ⟨txm_keep m1 (f 100 (by decide)) (f 101 (by decide)), ⟨by rw [g99]; exact m2.1, by rw [g99]; exact m2.2⟩, mha_k m3 (by rw [g99]) (fun k _ => ⟨by rw [f 107 (by decide)], by rw [f 108 (by decide)]⟩), mho_k m4 (by rw [g99]) (f 109 (by decide)) (f 110 (by decide)), mfe_k m5 (by rw [g99]) (f 122 (by decide)) (f 123 (by decide)) (f 124 (by decide)), msh_k m6 (f 126 (by decide)) (f 127 (by decide)) (f 128 (by decide)) (f 129 (by decide)), by rw [g99]; exact m7⟩
theorem ci_k99 {b : Bd} {H H' : Hi} (hC : CI b H) (f : fx1 H H') : CI b H' := by
  refine ⟨cb_keep hC.1 (fun c z1 z2 => f c (by omega)) (fun c z1 z2 => f c (by omega)) (fun c z1 z2 => f c (by omega)) (by rw [f 0 (by decide)]) (fun k z1 z2 => by rw [f 23 (by decide)]; exact hC.1.2.2.2.2.2.2 k z1 z2), fun z => ?_⟩
  rw [f 0 (by decide)] at z
  exact fr_k2 (hC.2 z) (fun c z1 z2 _ => f c (by omega))
set_option maxHeartbeats 8000000 in
set_option maxRecDepth 20000 in
theorem law_loop {E : En} (hL : (eX E).2.1 ≤ 384) : ∀ (m k : Nat) (b : Bd) (H : Hi), (eX E).2.1 ≤ 6 * (k + m) → k ≤ 64 → CI b H → MI b H →
    Rn E mL_law 600000 7302250 Zl 131 1782 18 [some (rs E), some (rf E 0), some (rf E 99), some (.int (nI (6 * k)))] [] nN (lay E H) := by
  have cmp : ∀ k : Nat, k ≤ 64 → ((Int32.ofNat (eX E).2.1) - (6 : Int32) < nI (6 * k) ↔ (eX E).2.1 < 6 * k + 6) := by
    intro k hk
    have e : (Int32.ofNat (eX E).2.1) - (6 : Int32) = nI (eX E).2.1 - nI 6 := rfl
    have t : (nI (eX E).2.1 - nI 6).toInt = ((eX E).2.1 : Int) - 6 := by
      rw [Int32.toInt_sub, nI_toInt (by omega), nI_toInt (by decide)]
      exact Int.bmod_eq_of_le_mul_two (by omega) (by omega)
    rw [e, Int32.lt_iff_toInt_lt, t, nI_toInt (by omega)]
    omega
  intro m
  induction m with
  | zero =>
    intro k b H hk hk2 hC hM
    refine sgL_18 ⟨by decide, by decide⟩ (by omega) ⟨fun _ => rn_lawret dL_law_1376, fun z => absurd ((cmp k hk2).mpr (by omega)) z⟩
  | succ m ih =>
    intro k b H hk hk2 hC hM
    have bo : BOk b := bok_cb hC.1
    refine sgL_18 ⟨by decide, by decide⟩ (by omega) ⟨fun _ => rn_lawret dL_law_1376, fun z => ?_⟩
    have l6 : 6 * k + 6 ≤ (eX E).2.1 := by
      apply Classical.byContradiction
      intro q
      exact z ((cmp k hk2).mpr (by omega))
    have nx : ∀ (H2 : Hi) (x : Int32), x = nI (6 * k) + (6 : Int32) → ∀ b' : Bd, CI b' H2 → MI b' H2 → Rn E mL_law 600000 7302250 Zl 131 1782 18 [some (rs E), some (rf E 0), some (rf E 99), some (.int x)] [] nN (lay E H2) := by
      intro H2 x ex b' c2 m2
      have e : x = nI (6 * (k + 1)) := by
        rw [ex]
        show nI (6 * k) + nI 6 = _
        rw [nI_add, show 6 * k + 6 = 6 * (k + 1) by omega]
      rw [e]
      exact ih (k + 1) b' H2 (by omega) (by omega) c2 m2
    have a1 : nI (6 * k) + (1 : Int32) = nI (6 * k + 1) := nI_add (6 * k) 1
    have a2 : nI (6 * k) + (2 : Int32) = nI (6 * k + 2) := nI_add (6 * k) 2
    have a3 : nI (6 * k) + (3 : Int32) = nI (6 * k + 3) := nI_add (6 * k) 3
    have a4 : nI (6 * k) + (4 : Int32) = nI (6 * k + 4) := nI_add (6 * k) 4
    have a5 : nI (6 * k) + (5 : Int32) = nI (6 * k + 5) := nI_add (6 * k) 5
    exact ⟨6 * k, ⟨by omega, rfl⟩, fun _ x ex => nx H x ex b hC hM,
      fun _ => ⟨6 * k + 1, ⟨by omega, a1⟩, 6 * k + 2, ⟨by omega, a2⟩, cc_type H _ hC (fun H1 k1 C1 => ⟨_, rfl, 6 * k + 1, ⟨by omega, a1⟩, 6 * k + 2, ⟨by omega, a2⟩, mc_type H1 _ bo (mi_99k hM k1) (fun H2 f2 M2 => ⟨_, rfl, fun _ x ex => nx H2 x ex _ (ci_k99 C1 f2) M2, fun z => absurd rfl z⟩)⟩)⟩,
      fun _ => ⟨6 * k + 1, ⟨by omega, a1⟩, cc_wipe H _ hC (fun H1 k1 C1 => ⟨_, rfl, 6 * k + 1, ⟨by omega, a1⟩, mc_wipe H1 _ bo (mi_99k hM k1) (fun H2 f2 M2 => ⟨_, rfl, fun _ x ex => nx H2 x ex _ (ci_k99 C1 f2) M2, fun z => absurd rfl z⟩)⟩)⟩,
      fun _ => ⟨6 * k + 1, ⟨by omega, a1⟩, cc_undo H _ hC (fun H1 k1 C1 => ⟨_, rfl, 6 * k + 1, ⟨by omega, a1⟩, mc_undo H1 _ bo (mi_99k hM k1) (fun H2 f2 M2 => ⟨_, rfl, fun _ x ex => nx H2 x ex _ (ci_k99 C1 f2) M2, fun z => absurd rfl z⟩)⟩)⟩,
      fun _ => ⟨6 * k + 1, ⟨by omega, a1⟩, cc_fault H _ hC (fun H1 k1 C1 => ⟨_, rfl, 6 * k + 1, ⟨by omega, a1⟩, mc_fault H1 _ bo (mi_99k hM k1) (fun H2 f2 M2 => ⟨_, rfl, fun _ x ex => nx H2 x ex _ (ci_k99 C1 f2) M2, fun z => absurd rfl z⟩)⟩)⟩,
      fun _ => ⟨6 * k + 1, ⟨by omega, a1⟩, 6 * k + 2, ⟨by omega, a2⟩, cc_thing H _ hC (fun H1 k1 C1 => ⟨_, rfl, 6 * k + 1, ⟨by omega, a1⟩, 6 * k + 2, ⟨by omega, a2⟩, mc_thing H1 _ bo (mi_99k hM k1) (fun H2 f2 M2 => ⟨_, rfl, fun _ x ex => nx H2 x ex _ (ci_k99 C1 f2) M2, fun z => absurd rfl z⟩)⟩)⟩,
      fun _ => ⟨6 * k + 1, ⟨by omega, a1⟩, 6 * k + 2, ⟨by omega, a2⟩, cc_cousin H _ hC (fun H1 k1 C1 => ⟨_, rfl, 6 * k + 1, ⟨by omega, a1⟩, 6 * k + 2, ⟨by omega, a2⟩, mc_cousin H1 _ bo (mi_99k hM k1) (fun H2 f2 M2 => ⟨_, rfl, fun _ x ex => nx H2 x ex _ (ci_k99 C1 f2) M2, fun z => absurd rfl z⟩)⟩)⟩,
      fun _ => ⟨6 * k + 1, ⟨by omega, a1⟩, cc_room H _ hC (fun H1 k1 C1 => ⟨_, rfl, 6 * k + 1, ⟨by omega, a1⟩, mc_room H1 _ bo (mi_99k hM k1) (fun H2 f2 M2 => ⟨_, rfl, fun _ x ex => nx H2 x ex _ (ci_k99 C1 f2) M2, fun z => absurd rfl z⟩)⟩)⟩,
      fun _ => ⟨6 * k + 1, ⟨by omega, a1⟩, cc_aunt H _ hC (fun H1 k1 C1 => ⟨_, rfl, 6 * k + 1, ⟨by omega, a1⟩, mc_aunt H1 _ bo (mi_99k hM k1) (fun H2 f2 M2 => ⟨_, rfl, fun _ x ex => nx H2 x ex _ (ci_k99 C1 f2) M2, fun z => absurd rfl z⟩)⟩)⟩,
      fun _ => ⟨6 * k + 1, ⟨by omega, a1⟩, 6 * k + 2, ⟨by omega, a2⟩, 6 * k + 3, ⟨by omega, a3⟩, 6 * k + 4, ⟨by omega, a4⟩, cc_hand H _ hC (fun H1 k1 C1 => ⟨_, rfl, 6 * k + 1, ⟨by omega, a1⟩, 6 * k + 2, ⟨by omega, a2⟩, 6 * k + 3, ⟨by omega, a3⟩, 6 * k + 4, ⟨by omega, a4⟩, mc_hand H1 _ bo (mi_99k hM k1) (fun H2 f2 M2 => ⟨_, rfl, fun _ x ex => nx H2 x ex _ (ci_k99 C1 f2) M2, fun z => absurd rfl z⟩)⟩)⟩,
      fun _ => ⟨6 * k + 1, ⟨by omega, a1⟩, 6 * k + 2, ⟨by omega, a2⟩, cc_hole H _ hC (fun H1 k1 C1 => ⟨_, rfl, 6 * k + 1, ⟨by omega, a1⟩, 6 * k + 2, ⟨by omega, a2⟩, mc_hole H1 _ bo (mi_99k hM k1) (fun H2 f2 M2 => ⟨_, rfl, fun _ x ex => nx H2 x ex _ (ci_k99 C1 f2) M2, fun z => absurd rfl z⟩)⟩)⟩,
      fun _ => ⟨6 * k + 1, ⟨by omega, a1⟩, cc_back H _ hC (fun H1 k1 C1 => ⟨_, rfl, 6 * k + 1, ⟨by omega, a1⟩, mc_back H1 _ bo (mi_99k hM k1) (fun H2 f2 M2 => ⟨_, rfl, fun _ x ex => nx H2 x ex _ (ci_k99 C1 f2) M2, fun z => absurd rfl z⟩)⟩)⟩,
      fun _ => ⟨6 * k + 1, ⟨by omega, a1⟩, cc_read H _ hC (fun H1 k1 C1 => ⟨_, rfl, 6 * k + 1, ⟨by omega, a1⟩, mc_read H1 _ bo (mi_99k hM k1) (fun H2 f2 M2 => ⟨_, rfl, fun _ x ex => nx H2 x ex _ (ci_k99 C1 f2) M2, fun z => absurd rfl z⟩)⟩)⟩,
      fun _ => ⟨6 * k + 1, ⟨by omega, a1⟩, 6 * k + 2, ⟨by omega, a2⟩, cc_where H _ hC (fun H1 k1 C1 => ⟨_, rfl, 6 * k + 1, ⟨by omega, a1⟩, 6 * k + 2, ⟨by omega, a2⟩, mc_where H1 _ bo (mi_99k hM k1) (fun H2 f2 M2 => ⟨_, rfl, fun _ x ex => nx H2 x ex _ (ci_k99 C1 f2) M2, fun z => absurd rfl z⟩)⟩)⟩,
      fun _ => ⟨6 * k + 1, ⟨by omega, a1⟩, 6 * k + 2, ⟨by omega, a2⟩, cc_has H _ hC (fun H1 k1 C1 => ⟨_, rfl, 6 * k + 1, ⟨by omega, a1⟩, 6 * k + 2, ⟨by omega, a2⟩, mc_has H1 _ bo (mi_99k hM k1) (fun H2 f2 M2 => ⟨_, rfl, fun _ x ex => nx H2 x ex _ (ci_k99 C1 f2) M2, fun z => absurd rfl z⟩)⟩)⟩,
      fun _ => ⟨6 * k + 1, ⟨by omega, a1⟩, cc_load H _ hC (fun H1 k1 C1 => ⟨_, rfl, 6 * k + 1, ⟨by omega, a1⟩, mc_load H1 _ bo (mi_99k hM k1) (fun H2 f2 M2 => ⟨_, rfl, fun _ x ex => nx H2 x ex _ (ci_k99 C1 f2) M2, fun z => absurd rfl z⟩)⟩)⟩,
      fun _ => ⟨6 * k + 1, ⟨by omega, a1⟩, cc_happy H _ hC (fun H1 k1 C1 => ⟨_, rfl, 6 * k + 1, ⟨by omega, a1⟩, mc_happy H1 _ bo (mi_99k hM k1) (fun H2 f2 M2 => ⟨_, rfl, fun _ x ex => nx H2 x ex _ (ci_k99 C1 f2) M2, fun z => absurd rfl z⟩)⟩)⟩,
      fun _ => ⟨6 * k + 1, ⟨by omega, a1⟩, cc_works H _ hC (fun H1 k1 C1 => ⟨_, rfl, 6 * k + 1, ⟨by omega, a1⟩, mc_works H1 _ bo (mi_99k hM k1) (fun H2 f2 M2 => ⟨_, rfl, fun _ x ex => nx H2 x ex _ (ci_k99 C1 f2) M2, fun z => absurd rfl z⟩)⟩)⟩,
      fun _ => cc_fails H _ hC (fun H1 k1 C1 => ⟨_, rfl, mc_fails H1 _ bo (mi_99k hM k1) (fun H2 f2 M2 => ⟨_, rfl, fun _ x ex => nx H2 x ex _ (ci_k99 C1 f2) M2, fun z => absurd rfl z⟩)⟩),
      fun _ => ⟨6 * k + 1, ⟨by omega, a1⟩, cc_went H _ hC (fun H1 k1 C1 => ⟨_, rfl, 6 * k + 1, ⟨by omega, a1⟩, mc_went H1 _ bo (mi_99k hM k1) (fun H2 f2 M2 => ⟨_, rfl, fun _ x ex => nx H2 x ex _ (ci_k99 C1 f2) M2, fun z => absurd rfl z⟩)⟩)⟩,
      fun _ => ⟨6 * k + 1, ⟨by omega, a1⟩, 6 * k + 2, ⟨by omega, a2⟩, 6 * k + 3, ⟨by omega, a3⟩, 6 * k + 4, ⟨by omega, a4⟩, 6 * k + 5, ⟨by omega, a5⟩, cc_lend H _ hC (fun H1 k1 C1 => ⟨_, rfl, 6 * k + 1, ⟨by omega, a1⟩, 6 * k + 2, ⟨by omega, a2⟩, 6 * k + 3, ⟨by omega, a3⟩, 6 * k + 4, ⟨by omega, a4⟩, 6 * k + 5, ⟨by omega, a5⟩, mc_lend H1 _ bo (mi_99k hM k1) (fun H2 f2 M2 => ⟨_, rfl, fun _ x ex => nx H2 x ex _ (ci_k99 C1 f2) M2, fun z => absurd rfl z⟩)⟩)⟩,
      fun _ => ⟨6 * k + 1, ⟨by omega, a1⟩, cc_hangs H _ hC (fun H1 k1 C1 => ⟨_, rfl, 6 * k + 1, ⟨by omega, a1⟩, mc_hangs H1 _ bo (mi_99k hM k1) (fun H2 f2 M2 => ⟨_, rfl, fun _ x ex => nx H2 x ex _ (ci_k99 C1 f2) M2, fun z => absurd rfl z⟩)⟩)⟩,
      fun _ => ⟨6 * k + 1, ⟨by omega, a1⟩, 6 * k + 2, ⟨by omega, a2⟩, cc_sort H _ hC (fun H1 k1 C1 => ⟨_, rfl, 6 * k + 1, ⟨by omega, a1⟩, 6 * k + 2, ⟨by omega, a2⟩, mc_sort H1 _ bo (mi_99k hM k1) (fun H2 f2 M2 => ⟨_, rfl, fun _ x ex => nx H2 x ex _ (ci_k99 C1 f2) M2, fun z => absurd rfl z⟩)⟩)⟩,
      fun _ => ⟨6 * k + 1, ⟨by omega, a1⟩, 6 * k + 2, ⟨by omega, a2⟩, 6 * k + 3, ⟨by omega, a3⟩, cc_felt H _ hC (fun H1 k1 C1 => ⟨_, rfl, 6 * k + 1, ⟨by omega, a1⟩, 6 * k + 2, ⟨by omega, a2⟩, 6 * k + 3, ⟨by omega, a3⟩, mc_felt H1 _ bo (mi_99k hM k1) (fun H2 f2 M2 => ⟨_, rfl, fun _ x ex => nx H2 x ex _ (ci_k99 C1 f2) M2, fun z => absurd rfl z⟩)⟩)⟩,
      fun _ => cc_forget H _ hC (fun H1 k1 C1 => ⟨_, rfl, mc_forget H1 _ bo (mi_99k hM k1) (fun H2 f2 M2 => ⟨_, rfl, fun _ x ex => nx H2 x ex _ (ci_k99 C1 f2) M2, fun z => absurd rfl z⟩)⟩),
      fun _ => ⟨6 * k + 1, ⟨by omega, a1⟩, 6 * k + 2, ⟨by omega, a2⟩, cc_when H _ hC (fun H1 k1 C1 => ⟨_, rfl, 6 * k + 1, ⟨by omega, a1⟩, 6 * k + 2, ⟨by omega, a2⟩, mc_when H1 _ bo (mi_99k hM k1) (fun H2 f2 M2 => ⟨_, rfl, fun _ x ex => nx H2 x ex _ (ci_k99 C1 f2) M2, fun z => absurd rfl z⟩)⟩)⟩,
      fun _ => ⟨6 * k + 1, ⟨by omega, a1⟩, cc_thief H _ hC (fun H1 k1 C1 => ⟨_, rfl, 6 * k + 1, ⟨by omega, a1⟩, mc_thief H1 _ bo (mi_99k hM k1) (fun H2 f2 M2 => ⟨_, rfl, fun _ x ex => nx H2 x ex _ (ci_k99 C1 f2) M2, fun z => absurd rfl z⟩)⟩)⟩,
      fun _ => ⟨6 * k + 1, ⟨by omega, a1⟩, 6 * k + 2, ⟨by omega, a2⟩, cc_feel H _ hC (fun H1 k1 C1 => ⟨_, rfl, 6 * k + 1, ⟨by omega, a1⟩, 6 * k + 2, ⟨by omega, a2⟩, mc_feel H1 _ bo (mi_99k hM k1) (fun H2 f2 M2 => ⟨_, rfl, fun _ x ex => nx H2 x ex _ (ci_k99 C1 f2) M2, fun z => absurd rfl z⟩)⟩)⟩,
      fun _ => ⟨6 * k + 1, ⟨by omega, a1⟩, 6 * k + 2, ⟨by omega, a2⟩, 6 * k + 3, ⟨by omega, a3⟩, 6 * k + 4, ⟨by omega, a4⟩, cc_jumps H _ hC (fun H1 k1 C1 => ⟨_, rfl, 6 * k + 1, ⟨by omega, a1⟩, 6 * k + 2, ⟨by omega, a2⟩, 6 * k + 3, ⟨by omega, a3⟩, 6 * k + 4, ⟨by omega, a4⟩, mc_jumps H1 _ bo (mi_99k hM k1) (fun H2 f2 M2 => ⟨_, rfl, fun _ x ex => nx H2 x ex _ (ci_k99 C1 f2) M2, fun z => absurd ((lg_cmp_eq _ _).mpr rfl) z⟩)⟩)⟩,
      fun _ => ⟨6 * k + 1, ⟨by omega, a1⟩, 6 * k + 2, ⟨by omega, a2⟩, 6 * k + 3, ⟨by omega, a3⟩, cc_day H _ hC (fun H1 k1 C1 => ⟨_, rfl, 6 * k + 1, ⟨by omega, a1⟩, 6 * k + 2, ⟨by omega, a2⟩, 6 * k + 3, ⟨by omega, a3⟩, mc_day H1 _ bo (mi_99k hM k1) (fun H2 f2 M2 => ⟨_, rfl, fun _ x ex => nx H2 x ex _ (ci_k99 C1 f2) M2, fun z => absurd rfl z⟩)⟩)⟩,
      fun _ => ⟨6 * k + 1, ⟨by omega, a1⟩, 6 * k + 2, ⟨by omega, a2⟩, 6 * k + 3, ⟨by omega, a3⟩, cc_sheet H _ hC (fun H1 k1 C1 => ⟨_, rfl, 6 * k + 1, ⟨by omega, a1⟩, 6 * k + 2, ⟨by omega, a2⟩, 6 * k + 3, ⟨by omega, a3⟩, mc_sheet H1 _ bo (mi_99k hM k1) (fun H2 f2 M2 => ⟨_, rfl, fun _ x ex => nx H2 x ex _ (ci_k99 C1 f2) M2, fun z => absurd rfl z⟩)⟩)⟩,
      fun _ => ⟨6 * k + 1, ⟨by omega, a1⟩, cc_lose H _ hC (fun H1 k1 C1 => ⟨_, rfl, 6 * k + 1, ⟨by omega, a1⟩, mc_lose H1 _ bo (mi_99k hM k1) (fun H2 f2 M2 => ⟨_, rfl, fun _ x ex => nx H2 x ex _ (ci_k99 C1 f2) M2, fun z => absurd rfl z⟩)⟩)⟩,
      fun _ => ⟨6 * k + 1, ⟨by omega, a1⟩, 6 * k + 2, ⟨by omega, a2⟩, 6 * k + 3, ⟨by omega, a3⟩, 6 * k + 4, ⟨by omega, a4⟩, cc_put H _ hC (fun H1 k1 C1 => ⟨_, rfl, 6 * k + 1, ⟨by omega, a1⟩, 6 * k + 2, ⟨by omega, a2⟩, 6 * k + 3, ⟨by omega, a3⟩, 6 * k + 4, ⟨by omega, a4⟩, mc_put H1 _ bo (mi_99k hM k1) (fun H2 f2 M2 => ⟨_, rfl, fun _ x ex => nx H2 x ex _ (ci_k99 C1 f2) M2, fun z => absurd rfl z⟩)⟩)⟩,
      fun _ => ⟨6 * k + 1, ⟨by omega, a1⟩, 6 * k + 2, ⟨by omega, a2⟩, 6 * k + 3, ⟨by omega, a3⟩, cc_get H _ hC (fun H1 k1 C1 => ⟨_, rfl, 6 * k + 1, ⟨by omega, a1⟩, 6 * k + 2, ⟨by omega, a2⟩, 6 * k + 3, ⟨by omega, a3⟩, mc_get H1 _ bo (mi_99k hM k1) (fun H2 f2 M2 => ⟨_, rfl, fun _ x ex => nx H2 x ex _ (ci_k99 C1 f2) M2, fun z => absurd rfl z⟩)⟩)⟩,
      fun _ => ⟨6 * k + 1, ⟨by omega, a1⟩, 6 * k + 2, ⟨by omega, a2⟩, 6 * k + 3, ⟨by omega, a3⟩, 6 * k + 4, ⟨by omega, a4⟩, 6 * k + 5, ⟨by omega, a5⟩, cc_copy H _ hC (fun H1 k1 C1 => ⟨_, rfl, 6 * k + 1, ⟨by omega, a1⟩, 6 * k + 2, ⟨by omega, a2⟩, 6 * k + 3, ⟨by omega, a3⟩, 6 * k + 4, ⟨by omega, a4⟩, 6 * k + 5, ⟨by omega, a5⟩, mc_copy H1 _ bo (mi_99k hM k1) (fun H2 f2 M2 => ⟨_, rfl, fun _ x ex => nx H2 x ex _ (ci_k99 C1 f2) M2, fun z => absurd rfl z⟩)⟩)⟩,
      fun _ => ⟨6 * k + 1, ⟨by omega, a1⟩, 6 * k + 2, ⟨by omega, a2⟩, cc_write H _ hC (fun H1 k1 C1 => ⟨_, rfl, 6 * k + 1, ⟨by omega, a1⟩, 6 * k + 2, ⟨by omega, a2⟩, mc_write H1 _ bo (mi_99k hM k1) (fun H2 f2 M2 => ⟨_, rfl, fun _ x ex => nx H2 x ex _ (ci_k99 C1 f2) M2, fun z => absurd rfl z⟩)⟩)⟩,
      fun _ => ⟨6 * k + 1, ⟨by omega, a1⟩, cc_count H _ hC (fun H1 k1 C1 => ⟨_, rfl, 6 * k + 1, ⟨by omega, a1⟩, mc_count H1 _ bo (mi_99k hM k1) (fun H2 f2 M2 => ⟨_, rfl, fun _ x ex => nx H2 x ex _ (ci_k99 C1 f2) M2, fun z => absurd rfl z⟩)⟩)⟩,
      fun _ => cc_digest H _ hC (fun H1 k1 C1 => ⟨_, rfl, mc_digest H1 _ bo (mi_99k hM k1) (fun H2 f2 M2 => ⟨_, rfl, fun _ x ex => nx H2 x ex _ (ci_k99 C1 f2) M2, fun z => absurd ((lg_cmp_eq _ _).mpr rfl) z⟩)⟩), trivial⟩
def bd0 : Bd := ((0, fun _ => 0, 0, fun _ => 0), (20, 0), (0, fun _ => 0, fun _ => 0), (0, fun _ => 0, fun _ => 0), (0, fun _ => 0, fun _ => 0, fun _ => 0), (fun _ => false, fun _ => 0, fun _ => 0, fun _ _ => 0), 0)
theorem ini_0 {c k : Nat} (h : iniL.getD c [] = []) : iniH c k = 0 := by
  unfold iniH
  rw [h]; rfl
theorem ini_sh : ∀ s, s < 4 → iniH (91 + 2 * s) 1 = -1 ∧ iniH (91 + 2 * s) 0 = 0 ∧ iniL.getD (92 + 2 * s) [] = [] := by decide +kernel
theorem ini_23 : iniL.getD 23 [] = [] := by decide +kernel
theorem ini_m : iniL.getD 100 [] = [] ∧ iniL.getD 126 [] = [] ∧ iniL.getD 127 [] = [] ∧ iniL.getD 128 [] = [] ∧ iniL.getD 129 [] = [] := by decide +kernel
theorem ini_99 : iniH 99 9 = 20 ∧ iniH 99 10 = 0 ∧ iniH 99 11 = 0 ∧ iniH 99 14 = 0 ∧ iniH 99 30 = 0 ∧ iniH 99 41 = 0 := by decide +kernel
theorem ini_c : iniH 1 4 = 3 ∧ iniH 1 5 = 0 ∧ iniH 3 4 = 2 ∧ iniH 3 5 = 0 ∧ iniH 11 2 = 0 ∧ iniH 11 5 = 0 ∧ iniH 11 1 = 0 ∧ iniH 11 0 = 20 ∧ iniH 11 8 = 0 ∧ iniH 0 8 = 0 ∧ iniH 0 9 = 1 := by decide +kernel
theorem ci_ini : CI bd0 iniH := by
  obtain ⟨c1, c2, c3, c4, c5, c6, c7, c8, c9, c10, c11⟩ := ini_c
  refine ci_stale ⟨⟨c1, c2, Nat.zero_le _, fun i hi => absurd hi (Nat.not_lt_zero i), c3, c4, Nat.zero_le _, fun i hi => absurd hi (Nat.not_lt_zero i)⟩, ⟨Nat.zero_le _, c5, fun k hk => absurd hk (Nat.not_lt_zero k), c6, Nat.zero_le _, fun k hk => absurd hk (Nat.not_lt_zero k), c7, by decide, c8⟩, by decide, ⟨Nat.zero_le _, c9, fun k hk => absurd hk (Nat.not_lt_zero k)⟩, fun s hs => ?_, c10, fun k _ _ => ini_0 ini_23⟩ c11
  obtain ⟨p1, p2, p3⟩ := ini_sh s hs
  exact ⟨p1, Nat.zero_le _, p2, Nat.zero_le _, fun i _ => ini_0 p3⟩
theorem mi_ini : MI bd0 iniH := by
  obtain ⟨c1, c2, c3, c4, c5, c6⟩ := ini_99
  obtain ⟨m1, m2, m3, m4, m5⟩ := ini_m
  exact ⟨⟨ini_0 m1, Nat.zero_le _, fun i hi => absurd hi (Nat.not_lt_zero i), ini_0 m1, Nat.zero_le _, fun i hi => absurd hi (Nat.not_lt_zero i)⟩, ⟨c1, c2⟩, ⟨c3, fun k hk => absurd hk (Nat.not_lt_zero k)⟩, ⟨c4, fun k hk => absurd hk (Nat.not_lt_zero k)⟩, ⟨c5, fun k hk => absurd hk (Nat.not_lt_zero k)⟩, fun i _ => ⟨ini_0 m2, ini_0 m3, ini_0 m4, fun j _ => ini_0 m5⟩, c6⟩
theorem law_from0 {E : En} (hL : (eX E).2.1 ≤ 384) : Rn E mL_law 600000 7302250 Zl 131 1782 18 [some (rs E), some (rf E 0), some (rf E 99), some (.int (0 : Int32))] [] nN (lay E iniH) :=
  law_loop hL 64 0 bd0 iniH (by omega) (Nat.zero_le _) ci_ini mi_ini
