/-! a day's pairs -/
abbrev okP (w : Nat → Int32) (i : Nat) : Prop := (w (2 * i + 1) = 9 ∧ iv (w (2 * i)) 0 8) ∨ (w (2 * i + 1) ≠ 9 ∧ iv (w (2 * i + 1)) 0 3 ∧ iv (w (2 * i)) 0 20)
theorem ix2 {q i : Nat} : nI q + 2 * nI i = nI (q + 2 * i) := by
  rw [nI_lit2, pk_mul, nI_add]
theorem iv9 {x : Int32} (h : x = 9) : ¬ iv x 0 3 := by
  intro q
  have q2 := q.2
  rw [h, t_9] at q2
  omega
theorem g_acts {σ : my_M} {k p m : Nat} {w : Nat → Int32} (hk : k < 4) (hp : p + 2 * m ≤ 60) (hw : ∀ i, i < 2 * m → σ (36 + k) (p + i) = w i) : ∀ (r i F : Nat), i + r = m → r < F → g_X8_areActs F σ k (nI p) (nI m) (nI i) = some (bI (soB (fun i => decide (okP w i)) r i = true), σ) := by
  intro r
  induction r with
  | zero =>
    intro i F hi hF
    obtain ⟨F, rfl⟩ : ∃ G, F = G + 1 := ⟨F - 1, by omega⟩
    simp only [gs_X8_areActs, b_X8_areActs_0, if_pos hk, nIle (show m < 2 ^ 31 by omega) (show i < 2 ^ 31 by omega), if_pos (show m ≤ i by omega)]
    rw [bI_t (show soB _ 0 i = true from rfl)]
  | succ r ih =>
    intro i F hi hF
    obtain ⟨F, rfl⟩ : ∃ G, F = G + 1 := ⟨F - 1, by omega⟩
    have w0 := hw (2 * i) (by omega)
    have w1 : σ (36 + k) (p + 2 * i + 1) = w (2 * i + 1) := hw (2 * i + 1) (by omega)
    have ih' := ih (i + 1) F (by omega) (by omega)
    simp only [gs_X8_areActs, b_X8_areActs_0, if_pos hk, nIle (show m < 2 ^ 31 by omega) (show i < 2 ^ 31 by omega), if_neg (show ¬ m ≤ i by omega), lenC_s hk, ix2, nI_p1, if_pos (ixN (show p + 2 * i < 60 by omega) (by omega)), if_pos (ixN (show p + 2 * i + 1 < 60 by omega) (by omega)), q_clamp (show p + 2 * i < 2 ^ 31 by omega), q_clamp (show p + 2 * i + 1 < 2 ^ 31 by omega), w0, w1, s_W, t_0, t_3, t_8, t_20, bnd_s]
    by_cases h9 : w (2 * i + 1) = 9
    · simp only [bI_f (iv9 h9), e00, if_true, if_pos h9]
      by_cases h8 : iv (w (2 * i)) 0 8
      · rw [bI_t h8, if_neg (by decide), ih', bI_soB (show (fun i => decide (okP w i)) i = true from decide_eq_true (Or.inl ⟨h9, h8⟩))]
      · rw [bI_f h8, if_pos (by decide), bI_f]
        rw [soB_f (show (fun i => decide (okP w i)) i = false from decide_eq_false (fun z => by rcases z with z | z; exact h8 z.2; exact z.1 h9))]
        exact Bool.false_ne_true
    · by_cases h3 : iv (w (2 * i + 1)) 0 3
      · simp only [bI_t h3, e10, if_false, if_neg h9]
        by_cases h8 : iv (w (2 * i)) 0 20
        · rw [bI_t h8, if_neg (by decide), ih', bI_soB (show (fun i => decide (okP w i)) i = true from decide_eq_true (Or.inr ⟨h9, h3, h8⟩))]
        · rw [bI_f h8, if_pos (by decide), bI_f]
          rw [soB_f (show (fun i => decide (okP w i)) i = false from decide_eq_false (fun z => by rcases z with z | z; exact h9 z.1; exact h8 z.2.2))]
          exact Bool.false_ne_true
      · simp only [bI_f h3, e00, if_true, if_neg h9]
        rw [bI_f]
        rw [soB_f (show (fun i => decide (okP w i)) i = false from decide_eq_false (fun z => by rcases z with z | z; exact h9 z.1; exact h3 z.2.1))]
        exact Bool.false_ne_true
theorem s_asTold (ρ : my_M) (w : Nat → Int32) (i : Nat) : f_X9_isAsTold ρ (w (2 * i)) (w (2 * i + 1)) = some (bI (okP w i), ρ) := by
  unfold f_X9_isAsTold
  by_cases h9 : w (2 * i + 1) = 9
  · simp only [if_pos h9, s_inI, u_0, u_8, bnd_s, if_pos bI_b]
    by_cases h8 : iv (w (2 * i)) 0 8
    · rw [bI_t h8, bI_t (Or.inl ⟨h9, h8⟩)]
    · rw [bI_f h8, bI_f (fun z => by rcases z with z | z; exact h8 z.2; exact z.1 h9)]
  · simp only [if_neg h9, s_inI, u_0, u_3, u_20, bnd_s]
    by_cases h3 : iv (w (2 * i + 1)) 0 3
    · simp only [bI_t h3, e10, if_false]
      by_cases h8 : iv (w (2 * i)) 0 20
      · rw [bI_t h8, bI_t (Or.inr ⟨h9, h3, h8⟩)]; rfl
      · rw [bI_f h8, bI_f (fun z => by rcases z with z | z; exact h9 z.1; exact h8 z.2.2)]; rfl
    · simp only [bI_f h3, e00, if_true]
      rw [bI_f (fun z => by rcases z with z | z; exact h9 z.1; exact h3 z.2.1)]
theorem g_told {ρ : my_M} {q m : Nat} {w : Nat → Int32} (hq : q + 2 * m ≤ 240) (hw : ∀ i, i < 2 * m → ρ 19 (q + i) = w i) (x : Int32) : ∀ (r i F : Nat), i + r = m → r < F → (g_X9_day F).1 ρ (nI m) x (nI q) (nI i) = if soB (fun i => decide (okP w i)) r i = true then (g_X9_day (F - r - 1)).2.1 (my_up ρ 0 15 (ρ 0 11)) (nI m) x (nI q) 0 else some (-2, my_up ρ 0 0 0) := by
  intro r
  induction r with
  | zero =>
    intro i F hi hF
    obtain ⟨F, rfl⟩ : ∃ G, F = G + 1 := ⟨F - 1, by omega⟩
    rw [if_pos (show soB _ 0 i = true from rfl)]
    simp only [gs_X9_day_0, b_X9_day_0, nIle (show m < 2 ^ 31 by omega) (show i < 2 ^ 31 by omega), if_pos (show m ≤ i by omega), Nat.sub_zero, Nat.add_sub_cancel]
  | succ r ih =>
    intro i F hi hF
    obtain ⟨F, rfl⟩ : ∃ G, F = G + 1 := ⟨F - 1, by omega⟩
    have w0 := hw (2 * i) (by omega)
    have w1 : ρ 19 (q + 2 * i + 1) = w (2 * i + 1) := hw (2 * i + 1) (by omega)
    have ih' := ih (i + 1) F (by omega) (by omega)
    rw [show F + 1 - (r + 1) - 1 = F - r - 1 by omega]
    simp only [gs_X9_day_0, b_X9_day_0, nIle (show m < 2 ^ 31 by omega) (show i < 2 ^ 31 by omega), if_neg (show ¬ m ≤ i by omega), lenR_19, ix2, nI_p1, if_pos (ixN (show q + 2 * i < 240 by omega) (by omega)), if_pos (ixN (show q + 2 * i + 1 < 240 by omega) (by omega)), q_clamp (show q + 2 * i < 2 ^ 31 by omega), q_clamp (show q + 2 * i + 1 < 2 ^ 31 by omega), w0, w1, s_asTold, bnd_s]
    by_cases ho : okP w i
    · rw [bI_t ho, if_neg (by decide), ih', soB_t (show (fun i => decide (okP w i)) i = true from decide_eq_true ho)]
    · rw [bI_f ho, if_pos rfl, soB_f (show (fun i => decide (okP w i)) i = false from decide_eq_false ho), if_neg Bool.false_ne_true]
      rfl
theorem g_save {m q : Int32} (x : Int32) : ∀ (r i F : Nat) (ρ : my_M), i + r = 8 → r < F → ∃ υ, (g_X9_day F).2.1 ρ m x q (nI i) = (my_bnd (f_X9_dayOf υ q m x) fun r1 σ1 => (g_X9_day (F - r - 1)).2.2 (my_up σ1 0 11 (σ1 0 15)) r1 0) ∧ (∀ j, j ≠ 9 → j ≠ 10 → j ≠ 11 → υ j = ρ j) ∧ (∀ t, i ≤ t → t < 8 → υ 9 t = ρ 6 t ∧ υ 10 t = ρ 7 t ∧ υ 11 t = ρ 8 t) ∧ ∀ t, t < i → υ 9 t = ρ 9 t ∧ υ 10 t = ρ 10 t ∧ υ 11 t = ρ 11 t := by
  intro r
  induction r with
  | zero =>
    intro i F ρ hi hF
    obtain rfl : i = 8 := by omega
    obtain ⟨F, rfl⟩ : ∃ G, F = G + 1 := ⟨F - 1, by omega⟩
    refine ⟨ρ, ?_, fun _ _ _ _ => rfl, fun t h1 h2 => by omega, fun t _ => ⟨rfl, rfl, rfl⟩⟩
    simp only [gs_X9_day_1, b_X9_day_1, if_pos (show (8 : Int32) ≤ nI 8 by decide), Nat.sub_zero, Nat.add_sub_cancel]
  | succ r ih =>
    intro i F ρ hi hF
    obtain ⟨F, rfl⟩ : ∃ G, F = G + 1 := ⟨F - 1, by omega⟩
    have n8 : ¬ (8 : Int32) ≤ nI i := by rw [show (8 : Int32) = nI 8 by decide, nIle (by omega) (by omega)]; omega
    obtain ⟨υ, q1, q2, q3, q4⟩ := ih (i + 1) F (my_up (my_up (my_up ρ 9 i (ρ 6 i)) 10 i (ρ 7 i)) 11 i (ρ 8 i)) (by omega) (by omega)
    refine ⟨υ, ?_, fun j h1 h2 h3 => by rw [q2 j h1 h2 h3, up_j h3, up_j h2, up_j h1], fun t h1 h2 => ?_, fun t h1 => ?_⟩
    · rw [show F + 1 - (r + 1) - 1 = F - r - 1 by omega, ← q1]
      simp only [gs_X9_day_1, b_X9_day_1, if_neg n8, lenR_6, lenR_7, lenR_8, lenR_9, lenR_10, lenR_11, if_pos (ixN (show i < 8 by omega) (by omega)), q_clamp (show i < 2 ^ 31 by omega), up_j (show 7 ≠ 9 by omega), up_j (show 8 ≠ 9 by omega), up_j (show 8 ≠ 10 by omega), nI_p1]
    · by_cases e : t = i
      · subst e
        obtain ⟨a1, a2, a3⟩ := q4 t (by omega)
        rw [a1, a2, a3]
        refine ⟨?_, ?_, ?_⟩
        · rw [up_j (by omega), up_j (by omega), up_at]
        · rw [up_j (by omega), up_at]
        · rw [up_at]
      · obtain ⟨a1, a2, a3⟩ := q3 t (by omega) h2
        rw [a1, a2, a3]
        refine ⟨?_, ?_, ?_⟩ <;> rw [up_j (by omega), up_j (by omega), up_j (by omega)]
    · obtain ⟨a1, a2, a3⟩ := q4 t (by omega)
      rw [a1, a2, a3]
      refine ⟨?_, ?_, ?_⟩
      · rw [up_j (by omega), up_j (by omega), up_i (by omega)]
      · rw [up_j (by omega), up_i (by omega), up_j (by omega)]
      · rw [up_i (by omega), up_j (by omega), up_j (by omega)]
theorem g_rest (x : Int32) : ∀ (r i F : Nat) (ρ : my_M), i + r = 8 → r < F → ∃ υ, (g_X9_day F).2.2 ρ x (nI i) = some (x, my_up υ 0 0 0) ∧ (∀ j, j ≠ 6 → j ≠ 7 → j ≠ 8 → υ j = ρ j) ∧ (∀ t, i ≤ t → t < 8 → υ 6 t = ρ 9 t ∧ υ 7 t = ρ 10 t ∧ υ 8 t = ρ 11 t) ∧ ∀ t, t < i → υ 6 t = ρ 6 t ∧ υ 7 t = ρ 7 t ∧ υ 8 t = ρ 8 t := by
  intro r
  induction r with
  | zero =>
    intro i F ρ hi hF
    obtain rfl : i = 8 := by omega
    obtain ⟨F, rfl⟩ : ∃ G, F = G + 1 := ⟨F - 1, by omega⟩
    refine ⟨ρ, ?_, fun _ _ _ _ => rfl, fun t h1 h2 => by omega, fun t _ => ⟨rfl, rfl, rfl⟩⟩
    simp only [gs_X9_day_2, b_X9_day_2, if_pos (show (8 : Int32) ≤ nI 8 by decide), f_X9_refused, bnd_s]
  | succ r ih =>
    intro i F ρ hi hF
    obtain ⟨F, rfl⟩ : ∃ G, F = G + 1 := ⟨F - 1, by omega⟩
    have n8 : ¬ (8 : Int32) ≤ nI i := by rw [show (8 : Int32) = nI 8 by decide, nIle (by omega) (by omega)]; omega
    obtain ⟨υ, q1, q2, q3, q4⟩ := ih (i + 1) F (my_up (my_up (my_up ρ 6 i (ρ 9 i)) 7 i (ρ 10 i)) 8 i (ρ 11 i)) (by omega) (by omega)
    refine ⟨υ, ?_, fun j h1 h2 h3 => by rw [q2 j h1 h2 h3, up_j h3, up_j h2, up_j h1], fun t h1 h2 => ?_, fun t h1 => ?_⟩
    · rw [← q1]
      simp only [gs_X9_day_2, b_X9_day_2, if_neg n8, lenR_6, lenR_7, lenR_8, lenR_9, lenR_10, lenR_11, if_pos (ixN (show i < 8 by omega) (by omega)), q_clamp (show i < 2 ^ 31 by omega), up_j (show 10 ≠ 6 by omega), up_j (show 11 ≠ 6 by omega), up_j (show 11 ≠ 7 by omega), nI_p1]
    · by_cases e : t = i
      · subst e
        obtain ⟨a1, a2, a3⟩ := q4 t (by omega)
        rw [a1, a2, a3]
        refine ⟨?_, ?_, ?_⟩
        · rw [up_j (by omega), up_j (by omega), up_at]
        · rw [up_j (by omega), up_at]
        · rw [up_at]
      · obtain ⟨a1, a2, a3⟩ := q3 t (by omega) h2
        rw [a1, a2, a3]
        refine ⟨?_, ?_, ?_⟩ <;> rw [up_j (by omega), up_j (by omega), up_j (by omega)]
    · obtain ⟨a1, a2, a3⟩ := q4 t (by omega)
      rw [a1, a2, a3]
      refine ⟨?_, ?_, ?_⟩
      · rw [up_j (by omega), up_j (by omega), up_i (by omega)]
      · rw [up_j (by omega), up_i (by omega), up_j (by omega)]
      · rw [up_i (by omega), up_j (by omega), up_j (by omega)]
theorem g_wrong {υ : my_M} {m t : Nat} (ht : t < 2 ^ 31) (q x y : Int32) (F : Nat) : g_X9_dayOf (F + 1) υ q (nI m) x (nI t) y = some (if x = 1 then nI t else -100 - nI t, υ) := by
  have n0 : ¬ nI t < 0 := by rw [q_lt, t_0, q_n ht]; omega
  have p0 : 0 ≤ nI t := by rw [q_le, t_0, q_n ht]; omega
  simp only [gs_X9_dayOf, b_X9_dayOf_0, if_pos p0, if_neg n0]
  by_cases hx : x = 1
  · simp only [if_pos hx, ite_self]
  · simp only [if_neg hx, ite_self]
