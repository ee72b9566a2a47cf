theorem nIle {a b : Nat} (ha : a < 2 ^ 31) (hb : b < 2 ^ 31) : (nI a ≤ nI b) = (a ≤ b) := propext (nI_leI ha hb)
theorem nIlt {a b : Nat} (ha : a < 2 ^ 31) (hb : b < 2 ^ 31) : (nI a < nI b) = (a < b) := propext (nI_ltI ha hb)
theorem nI_p1 (a : Nat) : nI a + 1 = nI (a + 1) := nI_1 a
theorem enc_m1 {o : Option Nat} {n : Nat} (hv : ∀ v, o = some v → v < n) (hn : n ≤ 6) : (enc (-1) o = -1) = (o = none) := by
  cases o with
  | none => simp [enc]
  | some v =>
    have := hv v rfl
    refine propext ⟨fun h => ?_, fun h => by cases h⟩
    have h2 := congrArg Int32.toInt h
    simp only [enc] at h2
    rw [q_n (by omega), t_m1] at h2
    omega
theorem enc_ge {o : Option Nat} {n : Nat} (hv : ∀ v, o = some v → v < n) (hn : n ≤ 6) : (0 ≤ enc (-9) o) = (o ≠ none) := by
  cases o with
  | none =>
    refine propext ⟨fun h => ?_, fun h => absurd rfl h⟩
    rw [q_le] at h
    simp only [enc] at h
    rw [t_0, t_m9] at h
    omega
  | some v =>
    have := hv v rfl
    refine propext ⟨fun h => by simp, fun h => ?_⟩
    rw [q_le]
    simp only [enc]
    rw [q_n (by omega), t_0]
    omega
theorem enc_lt {o : Option Nat} {n : Nat} (hv : ∀ v, o = some v → v < n) (hn : n ≤ 6) : (enc (-9) o < 0) = (o = none) := by
  have h := enc_ge hv hn
  refine propext ?_
  rw [← Int32.not_le, h]
  simp
/-- the pitch of a beat, on the reference's side -/
theorem s_pitch {c n : Nat} {kd : Nat → Nat} {pt : Nat → Nat → Option Nat} {ρ : my_M} (hB : ChB c n kd pt) (hR : ChR c n kd pt ρ) {k i : Nat} (hk : k < c) (hi : i < n) : f_X9_pitch ρ (nI k) (nI i) = some (enc (-9) (pt k i), ρ) := by
  have h4 := hB.1
  have h6 := hB.2.1
  have e : (6 : Int32) * nI k + nI i = nI (6 * k + i) := by
    rw [show (6 : Int32) = nI 6 by decide, pk_mul, nI_add]
  unfold f_X9_pitch
  rw [e, lenR_2, if_pos (ixN (by omega) (by omega)), q_clamp (by omega), hR.2.2.2 k hk i hi]
def fcnt (p : Nat → Option Nat) : Nat → Nat → Nat
  | _, 0 => 0
  | i, r + 1 => (if p i = none then 1 else 0) + fcnt p (i + 1) r
theorem fcnt_le (p : Nat → Option Nat) : ∀ r i, fcnt p i r ≤ r
  | 0, i => Nat.le_refl 0
  | r + 1, i => by
    have := fcnt_le p r (i + 1)
    unfold fcnt
    split <;> omega
theorem fcnt_0 (p : Nat → Option Nat) : ∀ r i, fcnt p i r = 0 ↔ ∀ j, i ≤ j → j < i + r → p j ≠ none
  | 0, i => by simp only [fcnt, true_iff]; intro j h1 h2; omega
  | r + 1, i => by
    have ih := fcnt_0 p r (i + 1)
    unfold fcnt
    constructor
    · intro h j h1 h2
      by_cases e : j = i
      · subst e
        intro q
        rw [if_pos q] at h
        omega
      · exact ih.mp (by omega) j (by omega) (by omega)
    · intro h
      rw [if_neg (h i (by omega) (by omega)), ih.mpr (fun j h1 h2 => h j (by omega) (by omega))]
theorem g_free_C {c n : Nat} {kd : Nat → Nat} {pt : Nat → Nat → Option Nat} {σ : my_M} (hB : ChB c n kd pt) (hC : ChC c n kd pt σ) {k : Nat} (hk : k < c) : ∀ (r i acc F : Nat), i + r = n → r < F → g_X1_freeBeats F σ k (nI n) (nI acc) (nI i) = some (nI (acc + fcnt (pt k) i r), σ) := by
  have h4 := hB.1
  have h6 := hB.2.1
  intro r
  induction r with
  | zero =>
    intro i acc F hi hF
    obtain ⟨F, rfl⟩ : ∃ G, F = G + 1 := ⟨F - 1, by omega⟩
    show b_X1_freeBeats_0 _ _ _ _ _ _ = _
    simp only [b_X1_freeBeats_0, if_pos (show k < 4 by omega), nIle (show n < 2 ^ 31 by omega) (show i < 2 ^ 31 by omega), if_pos (show n ≤ i by omega), fcnt, Nat.add_zero]
  | succ r ih =>
    intro i acc F hi hF
    obtain ⟨F, rfl⟩ : ∃ G, F = G + 1 := ⟨F - 1, by omega⟩
    have hv := hB.2.2.2.1 k hk i (by omega)
    show b_X1_freeBeats_0 _ _ _ _ _ _ = _
    simp only [b_X1_freeBeats_0, if_pos (show k < 4 by omega), nIle (show n < 2 ^ 31 by omega) (show i < 2 ^ 31 by omega), if_neg (show ¬ n ≤ i by omega), lenC_p (show k < 4 by omega), if_pos (ixN (show i < 6 by omega) (by omega)), q_clamp (show i < 2 ^ 31 by omega), hC.2.2.2 k hk i (by omega), enc_m1 hv h6, nI_p1]
    by_cases hp : pt k i = none
    · rw [if_pos hp, ih (i + 1) (acc + 1) F (by omega) (by omega)]
      simp only [fcnt, if_pos hp]
      rw [show acc + 1 + fcnt (pt k) (i + 1) r = acc + (1 + fcnt (pt k) (i + 1) r) by omega]
    · rw [if_neg hp, ih (i + 1) acc F (by omega) (by omega)]
      simp only [fcnt, if_neg hp, Nat.zero_add]
theorem g_free_R {c n : Nat} {kd : Nat → Nat} {pt : Nat → Nat → Option Nat} {ρ : my_M} (hB : ChB c n kd pt) (hR : ChR c n kd pt ρ) {k : Nat} (hk : k < c) : ∀ (r i acc F : Nat), i + r = n → r < F → g_X9_freeOf F ρ (nI k) (nI acc) (nI i) = some (nI (acc + fcnt (pt k) i r), ρ) := by
  have h4 := hB.1
  have h6 := hB.2.1
  intro r
  induction r with
  | zero =>
    intro i acc F hi hF
    obtain ⟨F, rfl⟩ : ∃ G, F = G + 1 := ⟨F - 1, by omega⟩
    show b_X9_freeOf_0 _ _ _ _ _ = _
    simp only [b_X9_freeOf_0, hR.2.1, nIle (show n < 2 ^ 31 by omega) (show i < 2 ^ 31 by omega), if_pos (show n ≤ i by omega), fcnt, Nat.add_zero]
  | succ r ih =>
    intro i acc F hi hF
    obtain ⟨F, rfl⟩ : ∃ G, F = G + 1 := ⟨F - 1, by omega⟩
    have hv := hB.2.2.2.1 k hk i (by omega)
    show b_X9_freeOf_0 _ _ _ _ _ = _
    simp only [b_X9_freeOf_0, hR.2.1, nIle (show n < 2 ^ 31 by omega) (show i < 2 ^ 31 by omega), if_neg (show ¬ n ≤ i by omega), s_pitch hB hR hk (show i < n by omega), bnd_s, enc_ge hv h6, nI_p1]
    by_cases hp : pt k i = none
    · rw [if_neg (fun q => q hp), nI_p1, ih (i + 1) (acc + 1) F (by omega) (by omega)]
      simp only [fcnt, if_pos hp]
      rw [show acc + 1 + fcnt (pt k) (i + 1) r = acc + (1 + fcnt (pt k) (i + 1) r) by omega]
    · rw [if_pos hp, show nI acc + 0 = nI acc by rw [← nI_0, nI_add, Nat.add_zero], ih (i + 1) acc F (by omega) (by omega)]
      simp only [fcnt, if_neg hp, Nat.zero_add]
theorem NF_big : 60000 < my_NF := by decide
theorem s_free_C {c n : Nat} {kd : Nat → Nat} {pt : Nat → Nat → Option Nat} {σ : my_M} (hB : ChB c n kd pt) (hC : ChC c n kd pt σ) {k : Nat} (hk : k < c) : f_X1_freeBeats σ k (nI n) = some (nI (fcnt (pt k) 0 n), σ) := by
  have h4 := hB.1
  have h6 := hB.2.1
  have hN := NF_big
  unfold f_X1_freeBeats
  rw [if_pos (show k < 4 by omega), ← nI_0, g_free_C hB hC hk n 0 0 my_NF (by omega) (by omega), Nat.zero_add]
theorem s_free_R {c n : Nat} {kd : Nat → Nat} {pt : Nat → Nat → Option Nat} {ρ : my_M} (hB : ChB c n kd pt) (hR : ChR c n kd pt ρ) {k : Nat} (hk : k < c) : f_X9_freeOf ρ (nI k) = some (nI (fcnt (pt k) 0 n), ρ) := by
  have h4 := hB.1
  have h6 := hB.2.1
  have hN := NF_big
  unfold f_X9_freeOf
  rw [← nI_0, g_free_R hB hR hk n 0 0 my_NF (by omega) (by omega), Nat.zero_add]
/-! what is counted of two pitches -/
def cntd (kd : Nat) (d : Int) : Int32 := if kd = 0 then bI (d = 0) else if kd = 1 then bI (-1 ≤ d ∧ d ≤ 1) else if d = 0 then 2 else bI (-1 ≤ d ∧ d ≤ 1)
theorem s_counted {σ : my_M} {k kd : Nat} (hk : k < 4) (e : σ (3 + k) 0 = nI kd) (hd : kd ≤ 2) (d : Int) : f_X1_counted σ k (bI (d = 0)) (bI (d = 1 ∨ d = -1)) = some (cntd kd d, σ) := by
  unfold f_X1_counted cntd
  rw [if_pos hk, e]
  have h0 : (nI kd = 0) = (kd = 0) := by rw [← nI_0, nI_inj (by omega) (by omega)]
  have h1 : (nI kd = 1) = (kd = 1) := by rw [nI_lit1, nI_inj (by omega) (by omega)]
  simp only [h0, h1, bI_0]
  by_cases hd0 : d = 0
  · simp only [hd0, bI, not_true, if_true, if_false]
    by_cases a0 : kd = 0
    · simp only [a0, if_true]
    · by_cases a1 : kd = 1
      · simp only [a1, if_true]; rfl
      · simp only [a0, a1, if_false]; rfl
  · by_cases hd1 : d = 1 ∨ d = -1
    · have hd2 : -1 ≤ d ∧ d ≤ 1 := by omega
      simp only [hd0, hd1, hd2, bI, not_true, not_false_eq_true, if_true, if_false, and_self]
      by_cases a0 : kd = 0
      · simp only [a0, if_true]
      · by_cases a1 : kd = 1
        · simp only [a1, if_true]; rfl
        · simp only [a0, a1, if_false]; rfl
    · have hd2 : ¬ (-1 ≤ d ∧ d ≤ 1) := by omega
      simp only [hd0, hd1, hd2, bI, not_true, not_false_eq_true, if_true, if_false]
      by_cases a0 : kd = 0
      · simp only [a0, if_true]
      · by_cases a1 : kd = 1
        · simp only [a1, if_true]; rfl
        · simp only [a0, a1, if_false]; rfl
theorem s_counts {ρ : my_M} {k kd : Nat} (hk : k < 4) (e : ρ 1 k = nI kd) (hd : kd ≤ 2) (x y : Int32) (hx : iv x (-1000) 1000) (hy : iv y (-1000) 1000) : f_X9_counts ρ (nI k) x y = some (cntd kd (x.toInt - y.toInt), ρ) := by
  have h0 : (nI kd = 0) = (kd = 0) := by rw [← nI_0, nI_inj (by omega) (by omega)]
  have h1 : (nI kd = 1) = (kd = 1) := by rw [nI_lit1, nI_inj (by omega) (by omega)]
  have hxy : (x = y) = (x.toInt - y.toInt = 0) := propext (by rw [q_eq]; omega)
  have hs : (Int32.toInt64 x - Int32.toInt64 y).toInt = x.toInt - y.toInt := by
    rw [q_subL (by rw [q_l, q_l]; omega) (by rw [q_l, q_l]; omega), q_l, q_l]
  unfold f_X9_counts cntd
  simp only [s_in, hs, u_m1, u_1, bnd_s, lenR_1, if_pos (ixN hk (by omega)), q_clamp (show k < 2 ^ 31 by omega), e, h0, h1, hxy]
  generalize x.toInt - y.toInt = d
  have hb : (if -1 ≤ d ∧ d ≤ 1 then (1 : Int32) else 0) = bI (-1 ≤ d ∧ d ≤ 1) := rfl
  simp only [hb, bI_0]
  by_cases hd0 : d = 0
  · simp only [hd0, if_true]
    by_cases a0 : kd = 0
    · simp only [a0, if_true]; rfl
    · by_cases a1 : kd = 1
      · simp only [a1, if_true]; rfl
      · simp only [a0, a1, if_false]
  · by_cases hd2 : -1 ≤ d ∧ d ≤ 1
    · simp only [hd0, hd2, bI, not_true, not_false_eq_true, if_true, if_false, and_self]
      by_cases a0 : kd = 0
      · simp only [a0, if_true]
      · by_cases a1 : kd = 1
        · simp only [a1, if_true]; rfl
        · simp only [a0, a1, if_false]
    · simp only [hd0, hd2, bI, not_true, not_false_eq_true, if_true, if_false]
      by_cases a0 : kd = 0
      · simp only [a0, if_true]
      · by_cases a1 : kd = 1
        · simp only [a1, if_true]; rfl
        · simp only [a0, a1, if_false]
