/-! feel -/
def frM (H0 H : Hi) : Prop := ∀ c, c ≠ 87 → c ≠ 88 → c ≠ 89 → H c = H0 c
def sn1 (b : Bd) (t g k h : Nat) : Nat := bs (inP (lkS b g k h)) (pN (dP b)) / 2 ^ t % 2
theorem seen_loop {E : En} {Q : Option Value → Hi → Prop} {H0 : Hi} {b : Bd} {t g k : Nat} {v : Nat → Nat} (n8 : pN (dP b) ≤ 8) (ht : t < 8) (hS : SeC b g k 24 H0)
    (hq : ∀ H' : Hi, (∀ c, c ≠ 89 → H' c = H0 c) → (∀ h, h < 24 → H' 89 h = nI (v h + sn1 b t g k h)) → Q none H') :
    ∀ (m h : Nat) (H : Hi), h + m = 24 → (∀ c, c ≠ 89 → H c = H0 c) → (∀ j, j < 24 → H 89 j = nI (if j < h then v j + sn1 b t g k j else v j)) →
      Rm E mX1_countSeen Q 2 [some (rf E 86), some (.int (nI t)), some (.int (nI h))] [] H := by
  intro m
  induction m with
  | zero =>
    intro h H hh fH sH
    have e : h = 24 := by omega
    subst e
    exact sgX1_countSeen_2 ⟨fun _ => hq H fH (fun j hj => by rw [sH j hj, if_pos hj]), fun z => absurd (show nI 24 ≤ nI 24 from nI_le (by omega) (by omega)) z⟩
  | succ m ih =>
    intro h H hh fH sH
    refine sgX1_countSeen_2 ⟨fun z => absurd z ?_, fun _ => ⟨h, ⟨by omega, rfl⟩, h, ⟨by omega, rfl⟩, h, ⟨by omega, rfl⟩, fun H1 g1 x gx => ?_⟩⟩
    · show ¬ nI 24 ≤ nI h
      rw [nI_leI (by decide) (by omega)]; omega
    have lt : bs (inP (lkS b g k h)) (pN (dP b)) < 2 ^ 31 := Nat.lt_of_lt_of_le (bs_lt _ _) (Nat.pow_le_pow_right (by decide) (by omega))
    rw [sH h (by omega), if_neg (Nat.lt_irrefl h), fH 88 (by decide), hS h (by omega), i_bitN lt (by omega), nI_add] at g1
    rw [gx, ← nI_succ]
    refine ih (h + 1) H1 (by omega) (fun c hc => by rw [g1, up_n hc]; exact fH c hc) (fun j hj => ?_)
    rw [g1, up_s]
    by_cases ej : j = h
    · subst ej
      rw [upd_s, if_pos (by omega)]
      rfl
    · rw [upd_n ej, sH j hj]
      by_cases q : j < h
      · rw [if_pos q, if_pos (by omega)]
      · rw [if_neg q, if_neg (by omega)]
theorem ct_seen {E : En} {Q : Option Value → Hi → Prop} {H : Hi} {b : Bd} {t g k : Nat} {v : Nat → Nat} (n8 : pN (dP b) ≤ 8) (ht : t < 8) (hS : SeC b g k 24 H) (hv : ∀ h, h < 24 → H 89 h = nI (v h))
    (hq : ∀ H' : Hi, (∀ c, c ≠ 89 → H' c = H c) → (∀ h, h < 24 → H' 89 h = nI (v h + sn1 b t g k h)) → Q none H') : Cm E mX1_countSeen [rf E 86, .int (nI t)] H Q :=
  cmX1_countSeen (seen_loop n8 ht hS hq 24 0 H rfl (fun _ _ => rfl) (fun j hj => by rw [hv j hj, if_neg (Nat.not_lt_zero j)]))
