/-! callers out of a text -/
abbrev sOK (B : Nat) (x : Int32) : Prop := x = 45 ∨ iv x 48 (48 + (B : Int) - 1)
abbrev kOK (x : Int32) : Prop := x = 112 ∨ x = 98 ∨ x = 107
def pv (x : Int32) : Option Nat := if x = 45 then none else some (x.toInt - 48).toNat
def kv (x : Int32) : Nat := if x = 112 then 0 else if x = 98 then 1 else 2
def RdS (σ : my_M) (B D P : Nat) (τ : my_M) : Prop := τ 30 0 = nI B ∧ τ 30 1 = nI D ∧ τ 30 2 = nI P ∧ τ 30 3 = 0 ∧ ∀ j, j ≠ 30 → τ j = σ j
theorem s_kindOf {x : Int32} (σ : my_M) (h : kOK x) : f_X7_kindOf σ x = some (nI (kv x), σ) := by
  rcases h with rfl | rfl | rfl <;> rfl
theorem s_kindNo {x : Int32} (σ : my_M) (h : ¬ kOK x) : f_X7_kindOf σ x = some (-9, σ) := by
  have h1 : ¬ x = 98 := fun e => h (Or.inr (Or.inl e))
  have h2 : ¬ x = 107 := fun e => h (Or.inr (Or.inr e))
  have h3 : ¬ x = 112 := fun e => h (Or.inl e)
  simp only [f_X7_kindOf, if_neg h1, if_neg h2, if_neg h3]
theorem kv_le (x : Int32) : kv x ≤ 2 := by
  unfold kv
  split
  · omega
  · split <;> omega
theorem big01 {i : Nat} (h : 2 ≤ i) (hi : i < 100) : ¬ nI i = 0 ∧ ¬ nI i = 1 := by
  refine ⟨?_, ?_⟩
  · rw [← nI_0, nI_inj (by omega) (by omega)]; omega
  · rw [nI_lit1, nI_inj (by omega) (by omega)]; omega
/-- the steps of the class's reader -/
theorem rd_0 {σ τ : my_M} {B D k p m i F : Nat} {w : Nat → Int32} (hk : k < 4) (hp : p + m ≤ 60) (hw : ∀ i, i < m → σ (36 + k) (p + i) = w i) (b2 : 2 ≤ B) (b6 : B ≤ 6) (hs : RdS σ B D 0 τ) (hD : D ≤ 4) (hi : 2 ≤ i) (him : i < m) : g_X7_readUpTo (F + 1) τ k (nI p) (nI m) (nI i) = if w i = 59 ∧ D < 4 then g_X7_readUpTo F (my_up τ 30 2 (nI 1)) k (nI p) (nI m) (nI (i + 1)) else some (nI i, τ) := by
  obtain ⟨s0, s1, s2, s3, s4⟩ := hs
  obtain ⟨i0, i1⟩ := big01 hi (by omega)
  have wi : τ (36 + k) (p + i) = w i := by rw [s4 _ (by omega)]; exact hw i him
  have d4 : (4 ≤ nI D) = (4 ≤ D) := by rw [show (4 : Int32) = nI 4 by decide, nIle (by omega) (by omega)]
  by_cases h59 : w i = 59
  · by_cases hd : 4 ≤ D
    · rw [if_neg (show ¬ (w i = 59 ∧ D < 4) by omega)]
      simp only [gs_X7_readUpTo, b_X7_readUpTo_0, if_pos hk, nIle (show m < 2 ^ 31 by omega) (show i < 2 ^ 31 by omega), if_neg (show ¬ m ≤ i by omega), nI_add, lenC_s hk, if_pos (ixN (show p + i < 60 by omega) (by omega)), q_clamp (show p + i < 2 ^ 31 by omega), wi, f_X7_goesOn, if_neg i0, if_neg i1, f_X7_fitsPart, s2, if_pos (show nI 0 = 0 by decide), if_pos h59, s1, d4, if_pos hd, if_pos b00, bnd_s, e00, if_true]
    · rw [if_pos (show w i = 59 ∧ D < 4 from ⟨h59, by omega⟩)]
      have s0' : my_up τ 30 2 (nI 1) 30 0 = nI B := by rw [up_i (by omega)]; exact s0
      have ne : ¬ nI 1 = nI B + 2 := by rw [nI_lit2, nI_add, nI_inj (by omega) (by omega)]; omega
      simp only [gs_X7_readUpTo, b_X7_readUpTo_0, if_pos hk, nIle (show m < 2 ^ 31 by omega) (show i < 2 ^ 31 by omega), if_neg (show ¬ m ≤ i by omega), nI_add, lenC_s hk, if_pos (ixN (show p + i < 60 by omega) (by omega)), q_clamp (show p + i < 2 ^ 31 by omega), wi, f_X7_goesOn, if_neg i0, if_neg i1, f_X7_fitsPart, s2, if_pos (show nI 0 = 0 by decide), if_pos h59, s1, d4, if_neg hd, if_pos b10, bnd_s, e10, if_false, nI_p1, Nat.zero_add, up_at, s0', if_neg ne]
  · rw [if_neg (show ¬ (w i = 59 ∧ D < 4) from fun z => h59 z.1)]
    simp only [gs_X7_readUpTo, b_X7_readUpTo_0, if_pos hk, nIle (show m < 2 ^ 31 by omega) (show i < 2 ^ 31 by omega), if_neg (show ¬ m ≤ i by omega), nI_add, lenC_s hk, if_pos (ixN (show p + i < 60 by omega) (by omega)), q_clamp (show p + i < 2 ^ 31 by omega), wi, f_X7_goesOn, if_neg i0, if_neg i1, f_X7_fitsPart, s2, if_pos (show nI 0 = 0 by decide), if_neg h59, bnd_s, e00, if_true]
theorem rd_1 {σ τ : my_M} {B D k p m i F : Nat} {w : Nat → Int32} (hk : k < 4) (hp : p + m ≤ 60) (hw : ∀ i, i < m → σ (36 + k) (p + i) = w i) (b2 : 2 ≤ B) (b6 : B ≤ 6) (hs : RdS σ B D 1 τ) (hi : 2 ≤ i) (him : i < m) : g_X7_readUpTo (F + 1) τ k (nI p) (nI m) (nI i) = if kOK (w i) then g_X7_readUpTo F (my_up τ 30 2 (nI 2)) k (nI p) (nI m) (nI (i + 1)) else some (nI i, τ) := by
  obtain ⟨s0, s1, s2, s3, s4⟩ := hs
  obtain ⟨i0, i1⟩ := big01 hi (by omega)
  have wi : τ (36 + k) (p + i) = w i := by rw [s4 _ (by omega)]; exact hw i him
  by_cases hq : kOK (w i)
  · rw [if_pos hq]
    have s0' : my_up τ 30 2 (nI 2) 30 0 = nI B := by rw [up_i (by omega)]; exact s0
    have ne : ¬ nI 2 = nI B + 2 := by rw [nI_lit2, nI_add, nI_inj (by omega) (by omega)]; omega
    have kl := kv_le (w i)
    have n9 : ¬ nI (kv (w i)) = -9 := by rw [q_eq, q_n (by omega), t_m9]; omega
    simp only [gs_X7_readUpTo, b_X7_readUpTo_0, if_pos hk, nIle (show m < 2 ^ 31 by omega) (show i < 2 ^ 31 by omega), if_neg (show ¬ m ≤ i by omega), nI_add, lenC_s hk, if_pos (ixN (show p + i < 60 by omega) (by omega)), q_clamp (show p + i < 2 ^ 31 by omega), wi, f_X7_goesOn, if_neg i0, if_neg i1, f_X7_fitsPart, s2, if_neg (show ¬ nI 1 = 0 by decide), if_pos (show nI 1 = 1 by decide), s_kindOf τ hq, if_neg n9, if_pos b10, bnd_s, e10, if_false, nI_p1, Nat.reduceAdd, up_at, s0', if_neg ne]
  · rw [if_neg hq]
    simp only [gs_X7_readUpTo, b_X7_readUpTo_0, if_pos hk, nIle (show m < 2 ^ 31 by omega) (show i < 2 ^ 31 by omega), if_neg (show ¬ m ≤ i by omega), nI_add, lenC_s hk, if_pos (ixN (show p + i < 60 by omega) (by omega)), q_clamp (show p + i < 2 ^ 31 by omega), wi, f_X7_goesOn, if_neg i0, if_neg i1, f_X7_fitsPart, s2, if_neg (show ¬ nI 1 = 0 by decide), if_pos (show nI 1 = 1 by decide), s_kindNo τ hq, if_pos b00, bnd_s, e00, if_true]
theorem rd_2 {σ τ : my_M} {B D k p m i F : Nat} {w : Nat → Int32} (hk : k < 4) (hp : p + m ≤ 60) (hw : ∀ i, i < m → σ (36 + k) (p + i) = w i) (b2 : 2 ≤ B) (b6 : B ≤ 6) {j : Nat} (hs : RdS σ B D (2 + j) τ) (hj : j < B) (hi : 2 ≤ i) (him : i < m) : g_X7_readUpTo (F + 1) τ k (nI p) (nI m) (nI i) = if sOK B (w i) then g_X7_readUpTo F (if j + 1 = B then my_up (my_up (my_up τ 30 2 (nI (3 + j))) 30 2 0) 30 1 (nI (D + 1)) else my_up τ 30 2 (nI (3 + j))) k (nI p) (nI m) (nI (i + 1)) else some (nI i, τ) := by
  obtain ⟨s0, s1, s2, s3, s4⟩ := hs
  obtain ⟨i0, i1⟩ := big01 hi (by omega)
  have wi : τ (36 + k) (p + i) = w i := by rw [s4 _ (by omega)]; exact hw i him
  have s0' : my_up τ 30 2 (nI (3 + j)) 30 0 = nI B := by rw [up_i (by omega)]; exact s0
  have s1' : my_up (my_up τ 30 2 (nI (3 + j))) 30 2 0 30 1 = nI D := by rw [up_i (by omega), up_i (by omega)]; exact s1
  have n0 : ¬ nI (2 + j) = 0 := by rw [← nI_0, nI_inj (by omega) (by omega)]; omega
  have n1 : ¬ nI (2 + j) = 1 := by rw [nI_lit1, nI_inj (by omega) (by omega)]; omega
  have eb : (nI (3 + j) = nI B + 2) = (j + 1 = B) := by
    refine propext ?_
    rw [nI_lit2, nI_add, nI_inj (by omega) (by omega)]; omega
  have ej : nI (2 + j) + 1 = nI (3 + j) := by rw [nI_p1, show 2 + j + 1 = 3 + j by omega]
  have tb : (48 + nI B - 1).toInt = 48 + (B : Int) - 1 := by
    rw [show (48 : Int32) = nI 48 by decide, nI_add, q_sub1 (by omega)]
    omega
  by_cases h45 : w i = 45
  · rw [if_pos (show sOK B (w i) from Or.inl h45)]
    simp only [gs_X7_readUpTo, b_X7_readUpTo_0, if_pos hk, nIle (show m < 2 ^ 31 by omega) (show i < 2 ^ 31 by omega), if_neg (show ¬ m ≤ i by omega), nI_add, lenC_s hk, if_pos (ixN (show p + i < 60 by omega) (by omega)), q_clamp (show p + i < 2 ^ 31 by omega), wi, f_X7_goesOn, if_neg i0, if_neg i1, f_X7_fitsPart, s2, if_neg n0, if_neg n1, if_pos h45, bnd_s, e10, if_false, ej, up_at, s0', eb]
    by_cases e : j + 1 = B
    · simp only [if_pos e, s1', nI_p1, bnd_s, e10, if_false]
    · simp only [if_neg e, bnd_s, e10, if_false, nI_p1]
  · by_cases hq : iv (w i) 48 (48 + (B : Int) - 1)
    · rw [if_pos (show sOK B (w i) from Or.inr hq)]
      simp only [gs_X7_readUpTo, b_X7_readUpTo_0, if_pos hk, nIle (show m < 2 ^ 31 by omega) (show i < 2 ^ 31 by omega), if_neg (show ¬ m ≤ i by omega), nI_add, lenC_s hk, if_pos (ixN (show p + i < 60 by omega) (by omega)), q_clamp (show p + i < 2 ^ 31 by omega), wi, f_X7_goesOn, if_neg i0, if_neg i1, f_X7_fitsPart, s2, if_neg n0, if_neg n1, if_neg h45, s0, s_W, t_48, tb, bI_t hq, if_pos b10, bnd_s, e10, if_false, ej, up_at, s0', eb]
      by_cases e : j + 1 = B
      · simp only [if_pos e, s1', nI_p1, bnd_s, e10, if_false]
      · simp only [if_neg e, bnd_s, e10, if_false, nI_p1]
    · rw [if_neg (show ¬ sOK B (w i) from fun z => z.elim h45 hq)]
      simp only [gs_X7_readUpTo, b_X7_readUpTo_0, if_pos hk, nIle (show m < 2 ^ 31 by omega) (show i < 2 ^ 31 by omega), if_neg (show ¬ m ≤ i by omega), nI_add, lenC_s hk, if_pos (ixN (show p + i < 60 by omega) (by omega)), q_clamp (show p + i < 2 ^ 31 by omega), wi, f_X7_goesOn, if_neg i0, if_neg i1, f_X7_fitsPart, s2, if_neg n0, if_neg n1, if_neg h45, s0, s_W, t_48, tb, bI_f hq, if_pos b00, bnd_s, e00, if_true]
theorem rd_end {σ τ : my_M} {B D P k p m F : Nat} (hk : k < 4) (hm : m < 100) (hs : RdS σ B D P τ) (hD : D ≤ 4) (hP : P < 100) : ∃ τ', g_X7_readUpTo (F + 1) τ k (nI p) (nI m) (nI m) = some (nI m, τ') ∧ (∀ j, j ≠ 30 → τ' j = σ j) ∧ τ' 30 1 = nI D ∧ τ' 30 3 = (if 0 < D ∧ P = 0 then 1 else 0) := by
  obtain ⟨s0, s1, s2, s3, s4⟩ := hs
  by_cases d0 : D = 0
  · have e : nI D ≤ 0 := by rw [d0]; decide
    refine ⟨my_up τ 30 3 0, ?_, fun j hj => by rw [up_j hj]; exact s4 j hj, by rw [up_i (by omega)]; exact s1, by rw [up_at, if_neg (by omega)]⟩
    simp only [gs_X7_readUpTo, b_X7_readUpTo_0, if_pos hk, if_pos (show nI m ≤ nI m from Int32.le_refl _), s1, if_pos e]
  · have e : ¬ nI D ≤ 0 := by rw [← nI_0, nIle (by omega) (by omega)]; omega
    have e2 : (nI P = 0) = (P = 0) := by rw [← nI_0, nI_inj (by omega) (by omega)]
    refine ⟨my_up τ 30 3 (if P = 0 then 1 else 0), ?_, fun j hj => by rw [up_j hj]; exact s4 j hj, by rw [up_i (by omega)]; exact s1, ?_⟩
    · simp only [gs_X7_readUpTo, b_X7_readUpTo_0, if_pos hk, if_pos (show nI m ≤ nI m from Int32.le_refl _), s1, if_neg e, s2, e2, if_pos my_b_if]
    · rw [up_at]
      by_cases p0 : P = 0
      · rw [if_pos p0, if_pos ⟨by omega, p0⟩]
      · rw [if_neg p0, if_neg (fun z => p0 z.2)]
/-- what the reference has read so far -/
def pos (B d : Nat) : Nat := 2 + d * (B + 2)
def RS (ρ : my_M) (w : Nat → Int32) (i B D : Nat) (υ : my_M) : Prop := υ 0 5 = nI i ∧ υ 0 6 = nI D ∧ υ 0 7 = nI B ∧ (∀ j, j ≠ 0 → j ≠ 3 → j ≠ 4 → υ j = ρ j) ∧ (∀ t, t ≠ 5 → t ≠ 6 → t ≠ 7 → υ 0 t = ρ 0 t) ∧ ∀ d, d < D → υ 3 d = nI (kv (w (pos B d + 1))) ∧ ∀ j, j < B → υ 4 (6 * d + j) = enc (-9) (pv (w (pos B d + 2 + j)))
def FRR (ρ υ : my_M) : Prop := (∀ j, j ≠ 0 → j ≠ 3 → j ≠ 4 → υ j = ρ j) ∧ ∀ t, t ≠ 5 → t ≠ 6 → t ≠ 7 → υ 0 t = ρ 0 t
def VAL (w : Nat → Int32) (B D : Nat) : Prop := ∀ d, d < D → kOK (w (pos B d + 1)) ∧ ∀ j, j < B → sOK B (w (pos B d + 2 + j))
theorem s_codeAt {ρ υ : my_M} {q m i : Nat} {w : Nat → Int32} (hq : q + m ≤ 240) (hw : ∀ i, i < m → ρ 19 (q + i) = w i) (h19 : υ 19 = ρ 19) (h5 : υ 0 5 = nI i) (hi : i ≤ m) : f_X9_codeAt υ (nI q) (nI m) = some (if i < m then w i else -9, υ) := by
  by_cases e : i < m
  · have wi : υ 19 (q + i) = w i := by rw [h19]; exact hw i e
    simp only [f_X9_codeAt, h5, nIle (show m < 2 ^ 31 by omega) (show i < 2 ^ 31 by omega), if_neg (show ¬ m ≤ i by omega), nI_add, lenR_19, if_pos (ixN (show q + i < 240 by omega) (by omega)), q_clamp (show q + i < 2 ^ 31 by omega), wi, if_pos e]
  · simp only [f_X9_codeAt, h5, nIle (show m < 2 ^ 31 by omega) (show i < 2 ^ 31 by omega), if_pos (show m ≤ i by omega), if_neg e]
theorem pv_enc {B : Nat} {x : Int32} (h : sOK B x) (h45 : ¬ x = 45) : x - 48 = enc (-9) (pv x) := by
  have hq := h.resolve_left h45
  have q1 := hq.1
  have q2 := hq.2
  unfold pv
  rw [if_neg h45]
  show x - 48 = nI (x.toInt - 48).toNat
  have xl := Int32.toInt_lt x
  rw [q_eq, q_sub (by rw [t_48]; omega) (by rw [t_48]; omega), t_48, q_n (by omega)]
  omega
/-- one sign -/
theorem s_sign {ρ υ : my_M} {q m i B D j : Nat} {w : Nat → Int32} (hq : q + m ≤ 240) (hw : ∀ i, i < m → ρ 19 (q + i) = w i) (h19 : υ 19 = ρ 19) (h5 : υ 0 5 = nI i) (h6 : υ 0 6 = nI D) (h7 : υ 0 7 = nI B) (hi : i ≤ m) (b6 : B ≤ 6) (hD : D < 4) (hj : j < B) : f_X9_readsSign υ (nI q) (nI m) (nI j) = if i < m ∧ sOK B (w i) then some (1, my_up (my_up υ 4 (6 * D + j) (enc (-9) (pv (w i)))) 0 5 (nI (i + 1))) else some (0, υ) := by
  have ec := s_codeAt hq hw h19 h5 hi
  have u5 : ∀ x, my_up υ 4 (6 * D + j) x 0 5 = nI i := fun x => by rw [up_j (by omega)]; exact h5
  have tb : (Int32.toInt64 (nI B) - 1).toInt = (B : Int) - 1 := by rw [q_lsub1, q_n (by omega)]
  by_cases e : i < m
  · rw [if_pos e] at ec
    by_cases h45 : w i = 45
    · rw [if_pos ⟨e, Or.inl h45⟩]
      have ep : pv (w i) = none := if_pos h45
      rw [ep]
      simp only [f_X9_readsSign, ec, bnd_s, if_pos h45, h6, six, lenR_4, if_pos (ixN (show 6 * D + j < 24 by omega) (by omega)), q_clamp (show 6 * D + j < 2 ^ 31 by omega), u5, nI_p1, enc]
    · have xl := Int32.toInt_lt (w i)
      have xg := Int32.le_toInt (w i)
      have es : (Int32.toInt64 (w i) - 48).toInt = (w i).toInt - 48 := by
        rw [q_subL (by rw [q_l, u_48]; omega) (by rw [q_l, u_48]; omega), q_l, u_48]
      by_cases hs : iv (w i) 48 (48 + (B : Int) - 1)
      · have hs' : 0 ≤ (w i).toInt - 48 ∧ (w i).toInt - 48 ≤ (B : Int) - 1 := by
          have := hs.1
          have := hs.2
          omega
        rw [if_pos ⟨e, Or.inr hs⟩, ← pv_enc (B := B) (Or.inr hs) h45]
        simp only [f_X9_readsSign, ec, bnd_s, if_neg h45, s_in, u_0, es, h7, tb, if_pos hs', e10, if_false, h6, six, lenR_4, if_pos (ixN (show 6 * D + j < 24 by omega) (by omega)), q_clamp (show 6 * D + j < 2 ^ 31 by omega), u5, nI_p1]
      · have hs' : ¬ (0 ≤ (w i).toInt - 48 ∧ (w i).toInt - 48 ≤ (B : Int) - 1) := by
          intro z
          refine hs ⟨?_, ?_⟩ <;> omega
        rw [if_neg (fun z => z.2.elim h45 hs)]
        simp only [f_X9_readsSign, ec, bnd_s, if_neg h45, s_in, u_0, es, h7, tb, if_neg hs', e00, if_true]
  · rw [if_neg e] at ec
    have es : (Int32.toInt64 (-9) - 48).toInt = -57 := by decide
    have hs' : ¬ (0 ≤ (-57 : Int) ∧ (-57 : Int) ≤ (B : Int) - 1) := by omega
    rw [if_neg (fun z => e z.1)]
    simp only [f_X9_readsSign, ec, bnd_s, if_neg (show ¬ (-9 : Int32) = 45 by decide), s_in, u_0, es, h7, tb, if_neg hs', e00, if_true]
