/-! a beat that fits, on the class's side -/
theorem sinB_iff {t : Nat → Nat} {j l : Nat} : ∀ r i, sinB t j l r i = true ↔ ∀ q, i ≤ q → q < i + r → t q + t (j - l) ≠ t j + t (q - l) := by
  intro r
  induction r with
  | zero => intro i; exact ⟨fun _ q h1 h2 => by omega, fun _ => rfl⟩
  | succ r ih =>
    intro i
    rw [sinB, Bool.and_eq_true, ih (i + 1), bne_iff_ne]
    constructor
    · intro h q h1 h2
      by_cases e : q = i
      · subst e; exact h.1
      · exact h.2 q (by omega) (by omega)
    · intro h
      exact ⟨h i (by omega) (by omega), fun q h1 h2 => h q (by omega) (by omega)⟩
theorem soutB_iff {t : Nat → Nat} {j : Nat} : ∀ r l, l + r = j + 1 → (soutB t j r l = true ↔ ∀ q, l ≤ q → q ≤ j → t j ≠ t (j - q) ∧ ∀ i, q ≤ i → i < j → t i + t (j - q) ≠ t j + t (i - q)) := by
  intro r
  induction r with
  | zero => intro l hl; exact ⟨fun _ q h1 h2 => by omega, fun _ => rfl⟩
  | succ r ih =>
    intro l hl
    rw [soutB, Bool.and_eq_true, Bool.and_eq_true, ih (l + 1) (by omega), bne_iff_ne, sinB_iff]
    constructor
    · intro h q h1 h2
      by_cases e : q = l
      · subst e; exact ⟨h.1.1, fun i i1 i2 => h.1.2 i i1 (by omega)⟩
      · exact h.2 q (by omega) h2
    · intro h
      exact ⟨⟨(h l (by omega) (by omega)).1, fun i i1 i2 => (h l (by omega) (by omega)).2 i i1 (by omega)⟩, fun q h1 h2 => h q (by omega) h2⟩
theorem staysB_iff {t : Nat → Nat} {j : Nat} : staysB t j = true ↔ ∀ q, 1 ≤ q → q ≤ j → t j ≠ t (j - q) ∧ ∀ i, q ≤ i → i < j → t i + t (j - q) ≠ t j + t (i - q) := soutB_iff j 1 (by omega)
theorem staysB_congr {t u : Nat → Nat} {j : Nat} (h : ∀ i, i ≤ j → t i = u i) : staysB t j = staysB u j := by
  rw [Bool.eq_iff_iff, staysB_iff, staysB_iff]
  constructor
  · intro g q h1 h2
    obtain ⟨a, b⟩ := g q h1 h2
    rw [h j (by omega), h (j - q) (by omega)] at a
    refine ⟨a, fun i i1 i2 => ?_⟩
    have := b i i1 i2
    rw [h i (by omega), h (j - q) (by omega), h j (by omega), h (i - q) (by omega)] at this
    exact this
  · intro g q h1 h2
    obtain ⟨a, b⟩ := g q h1 h2
    rw [← h j (by omega), ← h (j - q) (by omega)] at a
    refine ⟨a, fun i i1 i2 => ?_⟩
    have := b i i1 i2
    rw [← h i (by omega), ← h (j - q) (by omega), ← h j (by omega), ← h (i - q) (by omega)] at this
    exact this
theorem sub_eq {a b c d : Nat} (ha : a < 6) (hb : b < 6) (hc : c < 6) (hd : d < 6) : (nI a - nI b = nI c - nI d) = (a + d = c + b) := by
  refine propext ?_
  have e1 := q_n (show a < 2 ^ 31 by omega)
  have e2 := q_n (show b < 2 ^ 31 by omega)
  have e3 := q_n (show c < 2 ^ 31 by omega)
  have e4 := q_n (show d < 2 ^ 31 by omega)
  rw [q_eq, q_sub (by rw [e1, e2]; omega) (by rw [e1, e2]; omega), q_sub (by rw [e3, e4]; omega) (by rw [e3, e4]; omega), e1, e2, e3, e4]
  omega
theorem sub_0 {a b : Nat} (ha : a < 6) (hb : b < 6) : (nI a - nI b = 0) = (a = b) := by
  refine propext ?_
  have e1 := q_n (show a < 2 ^ 31 by omega)
  have e2 := q_n (show b < 2 ^ 31 by omega)
  rw [q_eq, q_sub (by rw [e1, e2]; omega) (by rw [e1, e2]; omega), e1, e2, t_0]
  omega
theorem g_sin {σ : my_M} {A j : Nat} {t : Nat → Nat} (lA : my_len layC A = 6) (hj : j < 6) (hA : ∀ i, i ≤ j → σ A i = nI (t i)) (ht : ∀ i, i ≤ j → t i < 6) {l : Nat} (hl : 1 ≤ l) (hlj : l ≤ j) : ∀ (r i F : Nat), i + r = j → l ≤ i → r < F → (g_X3_staysGood F).2 σ A (nI j) (nI l) (nI (t j) - nI (t (j - l))) (nI i) = if sinB t j l r i = true then (g_X3_staysGood (F - r - 1)).1 σ A (nI j) (nI (l + 1)) else some (0, σ) := by
  intro r
  induction r with
  | zero =>
    intro i F hi hli hF
    obtain rfl : i = j := by omega
    obtain ⟨F, rfl⟩ : ∃ G, F = G + 1 := ⟨F - 1, by omega⟩
    rw [if_pos (show sinB t i l 0 i = true from rfl)]
    simp only [gs_X3_staysGood_1, b_X3_staysGood_1, if_pos (show nI i ≤ nI i from Int32.le_refl _), nI_p1, Nat.sub_zero, Nat.add_sub_cancel]
  | succ r ih =>
    intro i F hi hli hF
    obtain ⟨F, rfl⟩ : ∃ G, F = G + 1 := ⟨F - 1, by omega⟩
    rw [show F + 1 - (r + 1) - 1 = F - r - 1 by omega]
    simp only [gs_X3_staysGood_1, b_X3_staysGood_1, nIle (show j < 2 ^ 31 by omega) (show i < 2 ^ 31 by omega), if_neg (show ¬ j ≤ i by omega), lA, nI_sub hli (show i < 2 ^ 31 by omega), if_pos (ixN (show i < 6 by omega) (by omega)), if_pos (ixN (show i - l < 6 by omega) (by omega)), q_clamp (show i < 2 ^ 31 by omega), q_clamp (show i - l < 2 ^ 31 by omega), hA i (by omega), hA (i - l) (by omega), sub_eq (ht i (by omega)) (ht (i - l) (by omega)) (ht j (by omega)) (ht (j - l) (by omega)), nI_p1]
    rw [sinB]
    by_cases q : t i + t (j - l) = t j + t (i - l)
    · rw [if_pos q, show (t i + t (j - l) != t j + t (i - l)) = false by rw [q]; simp, Bool.false_and, if_neg Bool.false_ne_true]
    · rw [if_neg q, ih (i + 1) F (by omega) (by omega) (by omega), show (t i + t (j - l) != t j + t (i - l)) = true from bne_iff_ne.mpr q, Bool.true_and]
theorem g_sout {σ : my_M} {A j : Nat} {t : Nat → Nat} (lA : my_len layC A = 6) (hj : j < 6) (hA : ∀ i, i ≤ j → σ A i = nI (t i)) (ht : ∀ i, i ≤ j → t i < 6) : ∀ (r l F : Nat), l + r = j + 1 → 1 ≤ l → r * 8 < F → (g_X3_staysGood F).1 σ A (nI j) (nI l) = some (bI (soutB t j r l = true), σ) := by
  intro r
  induction r with
  | zero =>
    intro l F hi hl hF
    obtain ⟨F, rfl⟩ : ∃ G, F = G + 1 := ⟨F - 1, by omega⟩
    rw [bI_t (show soutB t j 0 l = true from rfl)]
    simp only [gs_X3_staysGood_0, b_X3_staysGood_0, nIlt (show j < 2 ^ 31 by omega) (show l < 2 ^ 31 by omega), if_pos (show j < l by omega)]
  | succ r ih =>
    intro l F hi hl hF
    obtain ⟨F, rfl⟩ : ∃ G, F = G + 1 := ⟨F - 1, by omega⟩
    simp only [gs_X3_staysGood_0, b_X3_staysGood_0, nIlt (show j < 2 ^ 31 by omega) (show l < 2 ^ 31 by omega), if_neg (show ¬ j < l by omega), lA, nI_sub (show l ≤ j by omega) (show j < 2 ^ 31 by omega), if_pos (ixN (show j < 6 by omega) (by omega)), if_pos (ixN (show j - l < 6 by omega) (by omega)), q_clamp (show j < 2 ^ 31 by omega), q_clamp (show j - l < 2 ^ 31 by omega), hA j (by omega), hA (j - l) (by omega), sub_0 (ht j (by omega)) (ht (j - l) (by omega))]
    by_cases q : t j = t (j - l)
    · rw [if_pos q, bI_f]
      rw [soutB, show (t j != t (j - l)) = false by rw [← q]; simp, Bool.false_and, Bool.false_and]
      exact Bool.false_ne_true
    · rw [if_neg q, g_sin lA hj hA ht hl (by omega) (j - l) l F (by omega) (by omega) (by omega)]
      by_cases s : sinB t j l (j - l) l = true
      · rw [if_pos s, ih (l + 1) (F - (j - l) - 1) (by omega) (by omega) (by omega)]
        have e : soutB t j (r + 1) l = soutB t j r (l + 1) := by
          rw [soutB, s, show (t j != t (j - l)) = true from bne_iff_ne.mpr q, Bool.true_and, Bool.true_and]
        rw [e]
      · rw [if_neg s, bI_f]
        rw [soutB, Bool.eq_false_iff.mpr s, Bool.and_false, Bool.false_and]
        exact Bool.false_ne_true
theorem s_stays {σ : my_M} {A j : Nat} {t : Nat → Nat} (lA : my_len layC A = 6) (hj : j < 6) (hA : ∀ i, i ≤ j → σ A i = nI (t i)) (ht : ∀ i, i ≤ j → t i < 6) : f_X3_staysGood σ A (nI j) = some (bI (staysB t j = true), σ) := by
  have hN := NF_big
  unfold f_X3_staysGood
  rw [nI_lit1]
  exact g_sout lA hj hA ht j 1 my_NF (by omega) (by omega) (by omega)
