/-! callers out of a text -/
abbrev sOK (B : Nat) (x : Int32) : Prop := x = 45 ∨ iv x 48 (48 + (B : Int) - 1)
abbrev kOK (x : Int32) : Prop := x = 112 ∨ x = 98 ∨ x = 107
def pv (x : Int32) : Option Nat := if x = 45 then none else some (x.toInt - 48).toNat
def kv (x : Int32) : Nat := if x = 112 then 0 else if x = 98 then 1 else 2
def RdS (σ : my_M) (B D P : Nat) (τ : my_M) : Prop := τ 30 0 = nI B ∧ τ 30 1 = nI D ∧ τ 30 2 = nI P ∧ τ 30 3 = 0 ∧ ∀ j, j ≠ 30 → τ j = σ j
theorem s_kindOf {x : Int32} (σ : my_M) (h : kOK x) : f_X7_kindOf σ x = some (nI (kv x), σ) := by
  rcases h with rfl | rfl | rfl <;> rfl
theorem s_kindNo {x : Int32} (σ : my_M) (h : ¬ kOK x) : f_X7_kindOf σ x = some (-9, σ) := by
  have h1 : ¬ x = 98 := fun e => h (Or.inr (Or.inl e))
  have h2 : ¬ x = 107 := fun e => h (Or.inr (Or.inr e))
  have h3 : ¬ x = 112 := fun e => h (Or.inl e)
  simp only [f_X7_kindOf, if_neg h1, if_neg h2, if_neg h3]
theorem kv_le (x : Int32) : kv x ≤ 2 := by
  unfold kv
  split
  · omega
  · split <;> omega
theorem big01 {i : Nat} (h : 2 ≤ i) (hi : i < 100) : ¬ nI i = 0 ∧ ¬ nI i = 1 := by
  refine ⟨?_, ?_⟩
  · rw [← nI_0, nI_inj (by omega) (by omega)]; omega
  · rw [nI_lit1, nI_inj (by omega) (by omega)]; omega
/-- one step of the class's reader, part 0 -/
theorem rd_0 {σ τ : my_M} {B D k p m i F : Nat} {w : Nat → Int32} (hk : k < 4) (hp : p + m ≤ 60) (hw : ∀ i, i < m → σ (36 + k) (p + i) = w i) (hs : RdS σ B D 0 τ) (hD : D ≤ 4) (hi : 2 ≤ i) (him : i < m) : g_X7_readUpTo (F + 1) τ k (nI p) (nI m) (nI i) = if w i = 59 ∧ D < 4 then g_X7_readUpTo F (my_up τ 30 2 (nI 1)) k (nI p) (nI m) (nI (i + 1)) else some (nI i, τ) := by
  obtain ⟨s0, s1, s2, s3, s4⟩ := hs
  obtain ⟨i0, i1⟩ := big01 hi (by omega)
  have wi : τ (36 + k) (p + i) = w i := by rw [s4 _ (by omega)]; exact hw i him
  have d4 : (4 ≤ nI D) = (4 ≤ D) := by rw [show (4 : Int32) = nI 4 by decide, nIle (by omega) (by omega)]
  by_cases h59 : w i = 59
  · by_cases hd : 4 ≤ D
    · rw [if_neg (show ¬ (w i = 59 ∧ D < 4) by omega)]
      simp only [gs_X7_readUpTo, b_X7_readUpTo_0, if_pos hk, nIle (show m < 2 ^ 31 by omega) (show i < 2 ^ 31 by omega), if_neg (show ¬ m ≤ i by omega), nI_add, lenC_s hk, if_pos (ixN (show p + i < 60 by omega) (by omega)), q_clamp (show p + i < 2 ^ 31 by omega), wi, f_X7_goesOn, if_neg i0, if_neg i1, f_X7_fitsPart, s2, if_pos (show nI 0 = 0 by decide), if_pos h59, s1, d4, if_pos hd, if_pos b00, bnd_s, e00, if_true]
    · rw [if_pos (show w i = 59 ∧ D < 4 from ⟨h59, by omega⟩)]
      have nb : ¬ nI 1 = nI B + 2 ∨ True := Or.inr trivial
      have e2 : ¬ (my_up τ 30 2 (nI 0 + 1)) 30 2 = (my_up τ 30 2 (nI 0 + 1)) 30 0 + 2 ∨ True := Or.inr trivial
      have s0' : my_up τ 30 2 (nI 1) 30 0 = nI B := by rw [up_i (by omega)]; exact s0
      have ne : B ≤ 6 → ¬ nI 1 = nI B + 2 := by
        intro b6
        rw [nI_lit2, nI_add, nI_inj (by omega) (by omega)]; omega
      by_cases b6 : B ≤ 6
      · simp only [gs_X7_readUpTo, b_X7_readUpTo_0, if_pos hk, nIle (show m < 2 ^ 31 by omega) (show i < 2 ^ 31 by omega), if_neg (show ¬ m ≤ i by omega), nI_add, lenC_s hk, if_pos (ixN (show p + i < 60 by omega) (by omega)), q_clamp (show p + i < 2 ^ 31 by omega), wi, f_X7_goesOn, if_neg i0, if_neg i1, f_X7_fitsPart, s2, if_pos (show nI 0 = 0 by decide), if_pos h59, s1, d4, if_neg hd, if_pos b10, bnd_s, e10, if_false, nI_p1, Nat.zero_add, up_at, s0', if_neg (ne b6)]
      · sorry
  · rw [if_neg (show ¬ (w i = 59 ∧ D < 4) from fun z => h59 z.1)]
    simp only [gs_X7_readUpTo, b_X7_readUpTo_0, if_pos hk, nIle (show m < 2 ^ 31 by omega) (show i < 2 ^ 31 by omega), if_neg (show ¬ m ≤ i by omega), nI_add, lenC_s hk, if_pos (ixN (show p + i < 60 by omega) (by omega)), q_clamp (show p + i < 2 ^ 31 by omega), wi, f_X7_goesOn, if_neg i0, if_neg i1, f_X7_fitsPart, s2, if_pos (show nI 0 = 0 by decide), if_neg h59, bnd_s, e00, if_true]
