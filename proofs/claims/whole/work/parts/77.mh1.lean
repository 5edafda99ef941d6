/-! the model: hangs; orders as rows of digits -/
def permO (n : Nat) : Nat → List Nat → List (List Nat)
  | 0, pre => [pre]
  | m + 1, pre => (List.range n).flatMap (fun x => if pre.contains x then [] else permO n m (pre ++ [x]))
theorem anyN_l {f : Nat → Bool} : ∀ n, anyN f n = (List.range n).any f
  | 0 => rfl
  | n + 1 => by
    show (anyN f n || f n) = _
    rw [anyN_l n, List.range_succ, List.any_append]
    simp
theorem anyO_p {n : Nat} {q : List Nat → Bool} : ∀ m pre, anyO n q m pre = (permO n m pre).any q
  | 0, pre => by
    show q pre = [pre].any q
    simp
  | m + 1, pre => by
    show anyN _ n = ((List.range n).flatMap _).any q
    rw [anyN_l, List.any_flatMap]
    congr 1
    funext x
    rw [anyO_p m (pre ++ [x])]
    cases e : pre.contains x
    · simp
    · simp
def dgl (n r : Nat) : List Nat := (List.range n).map (fun j => r / n ^ j % n)
def uS (n r k : Nat) : Nat := itN (fun u j => u ||| 2 ^ (r / n ^ j % n)) k 0
def ful (n r : Nat) : Bool := decide (uS n r n = 2 ^ n - 1)
def rwL (n : Nat) (l : List Nat) : Nat := l.foldr (fun x acc => x + n * acc) 0
def okL (n : Nat) : Bool := (permO n n []).all (fun l => decide (rwL n l < n ^ n) && (ful n (rwL n l) && decide (dgl n (rwL n l) = l)))
def okR (n : Nat) : Bool := (List.range (n ^ n)).all (fun r => !(ful n r) || (permO n n []).contains (dgl n r))
def okI (n : Nat) : Bool := (permO n n []).contains (List.range n)
theorem okL_all : ∀ n, n < 6 → okL n = true := by decide +kernel
theorem okR_all : ∀ n, n < 6 → okR n = true := by decide +kernel
theorem okI_all : ∀ n, n < 6 → okI n = true := by decide +kernel
theorem any_rows {n : Nat} {q : List Nat → Bool} (hn : n < 6) : anyO n q n [] = true ↔ ∃ r, r < n ^ n ∧ ful n r = true ∧ q (dgl n r) = true := by
  rw [anyO_p, List.any_eq_true]
  have hl := okL_all n hn
  have hr := okR_all n hn
  unfold okL at hl
  unfold okR at hr
  rw [List.all_eq_true] at hl hr
  refine ⟨fun ⟨l, h1, h2⟩ => ?_, fun ⟨r, h1, h2, h3⟩ => ?_⟩
  · have h := hl l h1
    rw [Bool.and_eq_true, Bool.and_eq_true] at h
    refine ⟨rwL n l, of_decide_eq_true h.1, h.2.1, ?_⟩
    rw [of_decide_eq_true h.2.2]; exact h2
  · have h := hr r (List.mem_range.mpr h1)
    rw [h2] at h
    have h' : (permO n n []).contains (dgl n r) = true := by simpa using h
    exact ⟨dgl n r, List.contains_iff_mem.mp h', h3⟩
theorem id_row {n : Nat} (hn : n < 6) : ∃ r, r < n ^ n ∧ ful n r = true ∧ dgl n r = List.range n := by
  have hl := okL_all n hn
  have hi := okI_all n hn
  unfold okL at hl
  unfold okI at hi
  rw [List.all_eq_true] at hl
  have h := hl (List.range n) (List.contains_iff_mem.mp hi)
  rw [Bool.and_eq_true, Bool.and_eq_true] at h
  exact ⟨rwL n (List.range n), of_decide_eq_true h.1, h.2.1, of_decide_eq_true h.2.2⟩
def pbN (f : Nat → Nat) (p : Nat → Bool) : Nat → Nat
  | 0 => 0
  | r + 1 => if p r = true then pbN f p r ||| 2 ^ f r else pbN f p r
theorem pbN_tb {f : Nat → Nat} {p : Nat → Bool} {i : Nat} : ∀ N, (pbN f p N).testBit i = true ↔ ∃ r, r < N ∧ p r = true ∧ f r = i
  | 0 => by
    show (0 : Nat).testBit i = true ↔ _
    rw [Nat.zero_testBit]
    exact ⟨fun h => absurd h (by decide), fun ⟨r, h, _⟩ => absurd h (Nat.not_lt_zero r)⟩
  | N + 1 => by
    show (if p N = true then pbN f p N ||| 2 ^ f N else pbN f p N).testBit i = true ↔ _
    by_cases c : p N = true
    · rw [if_pos c, Nat.testBit_or, Bool.or_eq_true, pbN_tb N, Nat.testBit_two_pow, decide_eq_true_iff]
      refine ⟨fun h => ?_, fun ⟨r, h1, h2, h3⟩ => ?_⟩
      · rcases h with ⟨r, h1, h2⟩ | h
        · exact ⟨r, by omega, h2⟩
        · exact ⟨N, Nat.lt_succ_self N, c, h⟩
      · by_cases e : r = N
        · exact Or.inr (by rw [← e]; exact h3)
        · exact Or.inl ⟨r, by omega, h2, h3⟩
    · rw [if_neg c, pbN_tb N]
      refine ⟨fun ⟨r, h1, h2⟩ => ⟨r, by omega, h2⟩, fun ⟨r, h1, h2, h3⟩ => ⟨r, ?_, h2, h3⟩⟩
      have : r ≠ N := fun e => c (by rw [← e]; exact h2)
      omega
theorem pbN_lt {f : Nat → Nat} {p : Nat → Bool} (hf : ∀ r, f r ≤ 9) : ∀ N, pbN f p N < 2 ^ 10
  | 0 => by show 0 < 2 ^ 10; decide
  | N + 1 => by
    show (if p N = true then pbN f p N ||| 2 ^ f N else pbN f p N) < 2 ^ 10
    have ih := pbN_lt (p := p) hf N
    split
    · exact Nat.or_lt_two_pow ih (Nat.pow_lt_pow_right (by decide) (by have := hf N; omega))
    · exact ih
theorem pw2 : ∀ x, x < 1024 → x ≠ 0 → (x &&& (x - 1) = 0 ↔ ∃ v, v < 10 ∧ x = 2 ^ v) := by decide +kernel
theorem pbN_one {f : Nat → Nat} {p : Nat → Bool} {N v r0 : Nat} (hf : ∀ r, f r ≤ 9) (h0 : r0 < N ∧ p r0 = true ∧ f r0 = v) :
    pbN f p N ≠ 0 ∧ (pbN f p N &&& (pbN f p N - 1) = 0 ↔ ¬ ∃ r, r < N ∧ p r = true ∧ f r ≠ v) := by
  have b0 : (pbN f p N).testBit v = true := (pbN_tb N).mpr ⟨r0, h0.1, h0.2.1, h0.2.2⟩
  have nz : pbN f p N ≠ 0 := fun e => by
    rw [e, Nat.zero_testBit] at b0
    exact absurd b0 (by decide)
  refine ⟨nz, ?_⟩
  rw [pw2 _ (pbN_lt hf N) nz]
  refine ⟨fun ⟨u, _, hu⟩ => ?_, fun h => ⟨v, ?_, ?_⟩⟩
  · rintro ⟨r, h1, h2, h3⟩
    have b1 : (pbN f p N).testBit (f r) = true := (pbN_tb N).mpr ⟨r, h1, h2, rfl⟩
    rw [hu, Nat.testBit_two_pow, decide_eq_true_iff] at b0 b1
    exact h3 (by rw [← b1, ← b0])
  · have := hf r0
    rw [h0.2.2] at this
    omega
  · apply Nat.eq_of_testBit_eq
    intro i
    rw [Nat.testBit_two_pow]
    by_cases e : v = i
    · rw [decide_eq_true e, ← e]; exact b0
    · rw [decide_eq_false e]
      cases c : (pbN f p N).testBit i
      · rfl
      · obtain ⟨r, h1, h2, h3⟩ := (pbN_tb N).mp c
        exact absurd ⟨r, h1, h2, by rw [h3]; exact fun q => e q.symm⟩ h
/-! hands of an hour, in their order -/
theorem nh_u {hd : Hd} {h k : Nat} (hk : k < hd.1) (e : hd.2.1 k = h) : nh hd h (cq hd h k) = k := by
  have l : cq hd h k < cq hd h hd.1 := by
    have h1 := cq_s hd h k
    rw [if_pos e] at h1
    have h2 := cq_mono hd h (show k + 1 ≤ hd.1 by omega)
    omega
  obtain ⟨n1, n2, n3⟩ := nh_ok l
  apply Classical.byContradiction
  intro ne
  by_cases lt : nh hd h (cq hd h k) < k
  · have h1 := cq_s hd h (nh hd h (cq hd h k))
    rw [if_pos n2] at h1
    have h2 := cq_mono hd h (show nh hd h (cq hd h k) + 1 ≤ k by omega)
    omega
  · have h1 := cq_s hd h k
    rw [if_pos e] at h1
    have h2 := cq_mono hd h (show k + 1 ≤ nh hd h (cq hd h k) by omega)
    omega
def acF (P : Pm) (hd : Hd) (h : Nat) : Sg → Nat → Sg := fun z j => act P z (cdj hd h j)
theorem te_ac {P : Pm} {hd : Hd} {h : Nat} : ∀ (m k : Nat) (s : Sg), k + m ≤ hd.1 → itF (te1 P hd h) k m s = itF (acF P hd h) (cq hd h k) (cq hd h (k + m) - cq hd h k) s
  | 0, k, s, _ => by
    rw [Nat.add_zero, Nat.sub_self]; rfl
  | m + 1, k, s, q => by
    have ih := te_ac (P := P) (hd := hd) (h := h) m (k + 1) (te1 P hd h s k) (by omega)
    have e1 : itF (te1 P hd h) k (m + 1) s = itF (te1 P hd h) (k + 1) m (te1 P hd h s k) := rfl
    rw [e1, ih, show k + 1 + m = k + (m + 1) by omega]
    have c1 := cq_s hd h k
    have mo := cq_mono hd h (show k + 1 ≤ k + (m + 1) by omega)
    by_cases e : hd.2.1 k = h
    · rw [if_pos e] at c1
      have et : te1 P hd h s k = act P s (hd.2.2 k) := if_pos e
      have ec : cdj hd h (cq hd h k) = hd.2.2 k := by unfold cdj; rw [nh_u (by omega) e]
      rw [et, c1, show cq hd h (k + (m + 1)) - cq hd h k = (cq hd h (k + (m + 1)) - (cq hd h k + 1)) + 1 by omega]
      show _ = itF (acF P hd h) (cq hd h k + 1) _ (act P s (cdj hd h (cq hd h k)))
      rw [ec]
    · rw [if_neg e] at c1
      have et : te1 P hd h s k = s := if_neg e
      rw [et, c1]
      rfl
theorem itF_sp {α : Type} {f : α → Nat → α} : ∀ (m k m' : Nat) (a : α), itF f k (m + m') a = itF f (k + m) m' (itF f k m a)
  | 0, k, m', a => by rw [Nat.zero_add]; rfl
  | m + 1, k, m', a => by
    rw [show m + 1 + m' = (m + m') + 1 by omega]
    show itF f (k + 1) (m + m') (f a k) = itF f (k + (m + 1)) m' (itF f (k + 1) m (f a k))
    rw [itF_sp m (k + 1) m' (f a k), show k + 1 + m = k + (m + 1) by omega]
theorem fo_map {P : Pm} {hd : Hd} {h : Nat} {g : Nat → Nat} {s : Sg} : ∀ k, fo P hd h s ((List.range k).map g) = itN (fun z j => act P z (cdj hd h (g j))) k s
  | 0 => rfl
  | k + 1 => by
    rw [List.range_succ, List.map_append]
    show fo P hd h s ((List.range k).map g ++ [g k]) = act P (itN _ k s) (cdj hd h (g k))
    rw [fo_ap, fo_map k]
theorem hf_id {P : Pm} {hd : Hd} {a h : Nat} : hfin P hd a h (putB P (stN P hd a h)) (List.range (hFv hd h)) = stN P hd a (h + 1) := by
  obtain ⟨k1, k2⟩ := hK_ok (hd := hd) (h := h)
  obtain ⟨l1, l2⟩ := hFv_le (hd := hd) (h := h)
  have e1 := te_ac (P := P) (hd := hd) (h := h) (hd.1 - hK hd h) (hK hd h) (fo P hd h (putB P (stN P hd a h)) (List.range (hFv hd h))) (by omega)
  have e2 : fo P hd h (putB P (stN P hd a h)) (List.range (hFv hd h)) = itF (acF P hd h) 0 (hFv hd h) (putB P (stN P hd a h)) := by
    have := fo_map (P := P) (hd := hd) (h := h) (g := fun j => j) (s := putB P (stN P hd a h)) (hFv hd h)
    rw [List.map_id'] at this
    rw [this, itF_0]; rfl
  have e3 := te_ac (P := P) (hd := hd) (h := h) hd.1 0 (putB P (stN P hd a h)) (by omega)
  unfold hfin
  rw [e1, k2, show hK hd h + (hd.1 - hK hd h) = hd.1 by omega, e2]
  have e4 := itF_sp (f := acF P hd h) (hFv hd h) 0 (cq hd h hd.1 - hFv hd h) (putB P (stN P hd a h))
  rw [Nat.zero_add] at e4
  rw [← e4, show hFv hd h + (cq hd h hd.1 - hFv hd h) = cq hd h hd.1 by omega]
  have c0 : cq hd h 0 = 0 := rfl
  rw [c0, Nat.zero_add, Nat.sub_zero] at e3
  rw [← e3, itF_0]; rfl
