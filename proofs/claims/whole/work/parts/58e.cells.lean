theorem fC_S {σ : my_M} {j : Nat} (hj : j ≠ 0) : my_up σ 0 8 0 j = σ j := up_j hj
theorem Rel_put {σ ρ : my_M} (h : Rel σ ρ) {k i L ln : Nat} {v : Int32} (hk : k < 4) (hi : i < L) (hL : L ≤ 60) (hln : ln ≤ 2) (q1 : σ (32 + k) 0 = 1) (q4 : σ (32 + k) 1 = nI ln) (q5 : ρ 18 k = nI ln) (q6 : σ (32 + k) 2 = nI L) (q7 : ρ 17 k = nI L) (q8 : ∀ i, i < L → σ (36 + k) i = ρ 19 (60 * k + i)) : Rel (my_up (my_up σ 0 8 0) (36 + k) i v) (my_up (my_up ρ 19 (60 * k + i) v) 0 0 0) := by
  refine Rel_sh0 h.1 (fun j hj => ?_) (fun j hj => ?_) (ShR_at (k := k) (RelX_S (RelX_fC (x := 0) h.1)) (fun j j1 j2 j3 => ?_) (fun i hi => ?_) (fun i hi => ?_) (fun i hi => ?_) (Or.inr ⟨?_, L, ln, hL, hln, ?_, ?_, ?_, ?_, fun i' hi' => ?_⟩) hk)
  · rw [up_j (by omega)]
  · rw [up_j (by omega)]
  · rw [up_j (by omega)]
  · rw [up_j (by omega)]
  · rw [up_j (by omega)]
  · rw [up_i (by omega)]
  · rw [up_j (by omega), up_j (by omega)]; exact q1
  · rw [up_j (by omega), up_j (by omega)]; exact q4
  · rw [up_j (by omega)]; exact q5
  · rw [up_j (by omega), up_j (by omega)]; exact q6
  · rw [up_j (by omega)]; exact q7
  · by_cases e : i' = i
    · subst e; rw [up_at, up_at]
    · rw [up_i e, up_i (by omega), up_j (by omega)]; exact q8 i' hi'
theorem pr_put {σ ρ : my_M} (h : Rel σ ρ) (x y z : Int32) : ∃ (r : Int32) (σ1 ρ1 : my_M), f_X8_put σ x y z = some (r, σ1) ∧ f_X9_put ρ x y z = some (r, ρ1) ∧ Rel σ1 ρ1 := by
  have hS := RelX_S h.1
  by_cases hx : iv x 0 3
  · obtain ⟨k, hk, rfl⟩ := sht hx
    have nx : ¬ ¬ iv (nI k) 0 3 := fun q => q hx
    rcases hS k hk with ⟨q1, q2⟩ | ⟨q1, L, ln, q2, q3, q4, q5, q6, q7, q8⟩
    · refine ⟨-10 - 1, my_up (my_up σ 0 8 0) 0 8 1, my_up ρ 0 0 1, ?_, ?_, ?_⟩
      · simp only [f_X8_put, s_isSheetC, bnd_s, bI_t hx, e10, if_false, if_pos (ixN hk (by omega)), q_clamp (show k < 2 ^ 31 by omega), fC_S (show 32 + k ≠ 0 by omega), q1, if_true, f_X8_faulted]
      · simp only [f_X9_put, s_noSheetR, bnd_s, bI_f nx, e00, if_true, s_noCell0 hk q2, if_neg (show ¬ (1 : Int32) ≤ 0 by decide), f_X9_failed]
      · rw [up_up]; exact Rel_set h.1
    · have q6' : my_up σ 0 8 0 (32 + k) 2 = nI L := by rw [fC_S (by omega)]; exact q6
      by_cases hy : iv y 0 ((L : Int) - 1)
      · obtain ⟨i, hi, rfl⟩ := cal hy
        have hh : hold (nI i) 1 L := hold1.mpr hy
        have R := fun v => Rel_put h (v := v) hk hi q2 q3 q1 q4 q5 q6 q7 q8
        obtain l0 | l1 | l2 : ln = 0 ∨ ln = 1 ∨ ln = 2 := by omega
        · subst l0
          refine ⟨1, _, _, ?_, ?_, R (Int32.toInt8 z).toInt32⟩
          · simp only [f_X8_put, s_isSheetC, bnd_s, bI_t hx, e10, if_false, if_pos (ixN hk (by omega)), q_clamp (show k < 2 ^ 31 by omega), fC_S (show 32 + k ≠ 0 by omega), q1, s_holds hk q6' q2, bI_t hh, f_X6_write, if_pos hk, q4, if_pos (show nI 0 = 0 by decide), lenC_s hk, if_pos (ixN (show i < 60 by omega) (by omega)), q_clamp (show i < 2 ^ 31 by omega)]
          · simp only [f_X9_put, s_noSheetR, bnd_s, bI_f nx, e00, if_true, s_noCell hk q7 q2, if_pos hy, if_pos (show (0 : Int32) ≤ 0 by decide), lenR_18, if_pos (ixN hk (by omega)), q_clamp (show k < 2 ^ 31 by omega), q5, if_pos (show nI 0 = 0 by decide), sx, lenR_19, if_pos (ixN (show 60 * k + i < 240 by omega) (by omega)), q_clamp (show 60 * k + i < 2 ^ 31 by omega), f_X9_refused]
        · subst l1
          refine ⟨1, _, _, ?_, ?_, R (Int32.toInt16 z).toInt32⟩
          · simp only [f_X8_put, s_isSheetC, bnd_s, bI_t hx, e10, if_false, if_pos (ixN hk (by omega)), q_clamp (show k < 2 ^ 31 by omega), fC_S (show 32 + k ≠ 0 by omega), q1, s_holds hk q6' q2, bI_t hh, f_X6_write, if_pos hk, q4, if_neg (show ¬ nI 1 = 0 by decide), if_pos (show nI 1 = 1 by decide), lenC_s hk, if_pos (ixN (show i < 60 by omega) (by omega)), q_clamp (show i < 2 ^ 31 by omega)]
          · simp only [f_X9_put, s_noSheetR, bnd_s, bI_f nx, e00, if_true, s_noCell hk q7 q2, if_pos hy, if_pos (show (0 : Int32) ≤ 0 by decide), lenR_18, if_pos (ixN hk (by omega)), q_clamp (show k < 2 ^ 31 by omega), q5, if_neg (show ¬ nI 1 = 0 by decide), if_pos (show nI 1 = 1 by decide), sx, lenR_19, if_pos (ixN (show 60 * k + i < 240 by omega) (by omega)), q_clamp (show 60 * k + i < 2 ^ 31 by omega), f_X9_refused]
        · subst l2
          refine ⟨1, _, _, ?_, ?_, R z⟩
          · simp only [f_X8_put, s_isSheetC, bnd_s, bI_t hx, e10, if_false, if_pos (ixN hk (by omega)), q_clamp (show k < 2 ^ 31 by omega), fC_S (show 32 + k ≠ 0 by omega), q1, s_holds hk q6' q2, bI_t hh, f_X6_write, if_pos hk, q4, if_neg (show ¬ nI 2 = 0 by decide), if_neg (show ¬ nI 2 = 1 by decide), lenC_s hk, if_pos (ixN (show i < 60 by omega) (by omega)), q_clamp (show i < 2 ^ 31 by omega)]
          · simp only [f_X9_put, s_noSheetR, bnd_s, bI_f nx, e00, if_true, s_noCell hk q7 q2, if_pos hy, if_pos (show (0 : Int32) ≤ 0 by decide), lenR_18, if_pos (ixN hk (by omega)), q_clamp (show k < 2 ^ 31 by omega), q5, if_neg (show ¬ nI 2 = 0 by decide), if_neg (show ¬ nI 2 = 1 by decide), sx, lenR_19, if_pos (ixN (show 60 * k + i < 240 by omega) (by omega)), q_clamp (show 60 * k + i < 2 ^ 31 by omega), f_X9_refused]
      · have hh : ¬ hold y 1 L := fun q => hy (hold1.mp q)
        refine ⟨-10 - 3, my_up (my_up σ 0 8 0) 0 8 3, my_up ρ 0 0 3, ?_, ?_, ?_⟩
        · simp only [f_X8_put, s_isSheetC, bnd_s, bI_t hx, e10, if_false, if_pos (ixN hk (by omega)), q_clamp (show k < 2 ^ 31 by omega), fC_S (show 32 + k ≠ 0 by omega), q1, s_holds hk q6' q2, bI_f hh, e00, if_true, f_X8_faulted]
        · simp only [f_X9_put, s_noSheetR, bnd_s, bI_f nx, e00, if_true, s_noCell hk q7 q2, if_neg hy, if_neg (show ¬ (3 : Int32) ≤ 0 by decide), f_X9_failed]
        · rw [up_up]; exact Rel_set h.1
  · refine ⟨-1, my_up σ 0 8 0, my_up ρ 0 0 0, ?_, ?_, Rel_set h.1⟩
    · simp only [f_X8_put, s_isSheetC, bnd_s, bI_f hx, e00, if_true]
    · simp only [f_X9_put, s_noSheetR, bnd_s, bI_t hx, e10, if_false, f_X9_refused]
theorem pr_cell {σ ρ : my_M} (h : Rel σ ρ) (x y z : Int32) : ∃ (r : Int64) (σ1 ρ1 : my_M), f_X8_cell σ x y z = some (r, σ1) ∧ f_X9_cell ρ x y z = some (r, ρ1) ∧ Rel σ1 ρ1 := by
  have hS := RelX_S h.1
  have uR : ∀ j, j ≠ 0 → my_up ρ 0 0 0 j = ρ j := fun j hj => up_j hj
  by_cases hx : iv x 0 3
  · obtain ⟨k, hk, rfl⟩ := sht hx
    have nx : ¬ ¬ iv (nI k) 0 3 := fun q => q hx
    by_cases hz : iv z 0 2
    · rcases hS k hk with ⟨q1, q2⟩ | ⟨q1, L, ln, q2, q3, q4, q5, q6, q7, q8⟩
      · have q2' : my_up ρ 0 0 0 17 k = -1 := by rw [uR 17 (by omega)]; exact q2
        refine ⟨-9223372036854775808, my_up (my_up σ 0 8 0) 0 8 1, my_up (my_up ρ 0 0 0) 0 0 1, ?_, ?_, ?_⟩
        · simp only [f_X8_cell, s_isSheetC, bnd_s, bI_t hx, e10, if_false, s_isLaneC, bI_t hz, if_pos (ixN hk (by omega)), q_clamp (show k < 2 ^ 31 by omega), f_X6_faultAs, if_pos hk, fC_S (show 32 + k ≠ 0 by omega), q1, if_true, up_at]
        · simp only [f_X9_cell, s_noSheetR, bnd_s, bI_f nx, e00, if_true, s_inI, u_0, u_2, bI_t hz, e10, if_false, lenR_17, if_pos (ixN hk (by omega)), q_clamp (show k < 2 ^ 31 by omega), q2', if_pos (show (-1 : Int32) < 0 by decide), s_noCell0 hk q2', if_neg (show ¬ (1 : Int32) ≤ 0 by decide), f_X9_failedLong, f_X9_lost]
        · rw [up_up, up_up]; exact Rel_set h.1
      · have q6' : my_up σ 0 8 0 (32 + k) 2 = nI L := by rw [fC_S (by omega)]; exact q6
        have q7' : my_up ρ 0 0 0 17 k = nI L := by rw [uR 17 (by omega)]; exact q7
        have q5' : my_up ρ 0 0 0 18 k = nI ln := by rw [uR 18 (by omega)]; exact q5
        have nL : ¬ nI L < 0 := by rw [← nI_0, nIlt (by omega) (by omega)]; omega
        by_cases hl : nI ln = z
        · by_cases hy : iv y 0 ((L : Int) - 1)
          · obtain ⟨i, hi, rfl⟩ := cal hy
            have hh : hold (nI i) 1 L := hold1.mpr hy
            refine ⟨Int32.toInt64 (σ (36 + k) i), my_up (my_up σ 0 8 0) 0 8 0, my_up ρ 0 0 0, ?_, ?_, ?_⟩
            · simp only [f_X8_cell, s_isSheetC, bnd_s, bI_t hx, e10, if_false, s_isLaneC, bI_t hz, if_pos (ixN hk (by omega)), q_clamp (show k < 2 ^ 31 by omega), f_X6_faultAs, if_pos hk, fC_S (show 32 + k ≠ 0 by omega), q1, q4, if_pos hl, if_pos (show (0 : Int32) ≤ 1 by decide), s_holds hk q6' q2, bI_t hh, up_at, if_true, lenC_s hk, if_pos (ixN (show i < 60 by omega) (by omega)), q_clamp (show i < 2 ^ 31 by omega), fC_S (show 36 + k ≠ 0 by omega)]
            · simp only [f_X9_cell, s_noSheetR, bnd_s, bI_f nx, e00, if_true, s_inI, u_0, u_2, bI_t hz, e10, if_false, lenR_17, lenR_18, if_pos (ixN hk (by omega)), q_clamp (show k < 2 ^ 31 by omega), q7', if_neg nL, q5', if_pos hl, s_noCell hk q7' q2, if_pos hy, if_pos (show (0 : Int32) ≤ 0 by decide), sx, lenR_19, if_pos (ixN (show 60 * k + i < 240 by omega) (by omega)), q_clamp (show 60 * k + i < 2 ^ 31 by omega), uR 19 (by omega), q8 i hi]
            · rw [up_up]; exact Rel_set h.1
          · have hh : ¬ hold y 1 L := fun q => hy (hold1.mp q)
            refine ⟨-9223372036854775808, my_up (my_up σ 0 8 0) 0 8 3, my_up (my_up ρ 0 0 0) 0 0 3, ?_, ?_, ?_⟩
            · simp only [f_X8_cell, s_isSheetC, bnd_s, bI_t hx, e10, if_false, s_isLaneC, bI_t hz, if_pos (ixN hk (by omega)), q_clamp (show k < 2 ^ 31 by omega), f_X6_faultAs, if_pos hk, fC_S (show 32 + k ≠ 0 by omega), q1, q4, if_pos hl, if_pos (show (0 : Int32) ≤ 1 by decide), s_holds hk q6' q2, bI_f hh, up_at, if_true, if_neg (show ¬ (3 : Int32) = 0 by decide)]
            · simp only [f_X9_cell, s_noSheetR, bnd_s, bI_f nx, e00, if_true, s_inI, u_0, u_2, bI_t hz, e10, if_false, lenR_17, lenR_18, if_pos (ixN hk (by omega)), q_clamp (show k < 2 ^ 31 by omega), q7', if_neg nL, q5', if_pos hl, s_noCell hk q7' q2, if_neg hy, if_neg (show ¬ (3 : Int32) ≤ 0 by decide), f_X9_failedLong, f_X9_lost]
            · rw [up_up, up_up]; exact Rel_set h.1
        · refine ⟨-9223372036854775808, my_up (my_up σ 0 8 0) 0 8 2, my_up (my_up ρ 0 0 0) 0 0 2, ?_, ?_, ?_⟩
          · simp only [f_X8_cell, s_isSheetC, bnd_s, bI_t hx, e10, if_false, s_isLaneC, bI_t hz, if_pos (ixN hk (by omega)), q_clamp (show k < 2 ^ 31 by omega), f_X6_faultAs, if_pos hk, fC_S (show 32 + k ≠ 0 by omega), q1, q4, if_neg hl, up_at, if_neg (show ¬ (2 : Int32) = 0 by decide)]
          · simp only [f_X9_cell, s_noSheetR, bnd_s, bI_f nx, e00, if_true, s_inI, u_0, u_2, bI_t hz, e10, if_false, lenR_17, lenR_18, if_pos (ixN hk (by omega)), q_clamp (show k < 2 ^ 31 by omega), q7', if_neg nL, q5', if_neg hl, f_X9_failedLong, f_X9_lost]
          · rw [up_up, up_up]; exact Rel_set h.1
    · refine ⟨-9223372036854775808, my_up σ 0 8 0, my_up ρ 0 0 0, ?_, ?_, Rel_set h.1⟩
      · simp only [f_X8_cell, s_isSheetC, bnd_s, bI_t hx, e10, if_false, s_isLaneC, bI_f hz, e00, if_true]
      · simp only [f_X9_cell, s_noSheetR, bnd_s, bI_f nx, e00, if_true, s_inI, u_0, u_2, bI_f hz, f_X9_lost]
  · refine ⟨-9223372036854775808, my_up σ 0 8 0, my_up ρ 0 0 0, ?_, ?_, Rel_set h.1⟩
    · simp only [f_X8_cell, s_isSheetC, bnd_s, bI_f hx, e00, if_true]
    · simp only [f_X9_cell, s_noSheetR, bnd_s, bI_t hx, e10, if_false, f_X9_lost]
theorem s_beyond {ρ : my_M} {L : Nat} (hL : L ≤ 60) (x m : Int32) : f_X9_isBeyond ρ x (Int32.toInt64 m) (nI L) = some (bI (¬ hold x m L), ρ) := by
  have tL := q_n (show L < 2 ^ 31 by omega)
  unfold f_X9_isBeyond
  by_cases x0 : x < 0
  · rw [if_pos x0, bI_t]
    rw [q_lt, t_0] at x0
    intro q; have := q.1; omega
  · rw [if_neg x0]
    rw [q_lt, t_0] at x0
    by_cases m0 : lg_cmp (Int32.toInt64 m) 0 < 0
    · rw [if_pos m0, bI_t]
      rw [q_cmp_lt, Int64.lt_iff_toInt_lt, q_l, u_0] at m0
      intro q; have := q.2.1; omega
    · rw [if_neg m0]
      rw [q_cmp_lt, Int64.lt_iff_toInt_lt, q_l, u_0] at m0
      have := Int32.toInt_lt m
      have := Int32.toInt_lt x
      have e : (lg_cmp (Int32.toInt64 x + Int32.toInt64 m) (Int32.toInt64 (nI L)) ≤ 0) = hold x m L := by
        refine propext ?_
        rw [q_cmp_le, Int64.le_iff_toInt_le, q_addL (by rw [q_l, q_l]; omega) (by rw [q_l, q_l]; omega), q_l, q_l, q_l, tL]
        unfold hold
        omega
      rw [if_pos my_b_if']
      by_cases q : hold x m L
      · rw [bI_f (fun z => z q), if_pos (by rw [e]; exact q)]
      · rw [bI_t q, if_neg (by rw [e]; exact q)]
theorem g_take {k p l q m : Nat} (hk : k < 4) (hp : p + m ≤ 60) : ∀ (r i F : Nat) (ρ : my_M), i + r = m → r < F → ∃ υ, (g_X9_copy F).1 ρ (nI k) (nI p) (nI l) (nI q) (nI m) (nI i) = (g_X9_copy (F - r - 1)).2 υ (nI l) (nI q) (nI m) 0 ∧ (∀ j, j ≠ 20 → υ j = ρ j) ∧ ∀ j, υ 20 j = if i ≤ j ∧ j < m then ρ 19 (60 * k + p + j) else ρ 20 j := by
  intro r
  induction r with
  | zero =>
    intro i F ρ hi hF
    obtain ⟨F, rfl⟩ : ∃ G, F = G + 1 := ⟨F - 1, by omega⟩
    refine ⟨ρ, ?_, fun _ _ => rfl, fun j => by rw [if_neg (by omega)]⟩
    simp only [gs_X9_copy_0, b_X9_copy_0, nIle (show m < 2 ^ 31 by omega) (show i < 2 ^ 31 by omega), if_pos (show m ≤ i by omega), Nat.sub_zero, Nat.add_sub_cancel]
  | succ r ih =>
    intro i F ρ hi hF
    obtain ⟨F, rfl⟩ : ∃ G, F = G + 1 := ⟨F - 1, by omega⟩
    obtain ⟨τ, q1, q2, q3⟩ := ih (i + 1) F (my_up ρ 20 i (ρ 19 (60 * k + p + i))) (by omega) (by omega)
    refine ⟨τ, ?_, fun j hj => by rw [q2 j hj, up_j hj], fun j => ?_⟩
    · rw [show F + 1 - (r + 1) - 1 = F - r - 1 by omega, ← q1]
      simp only [gs_X9_copy_0, b_X9_copy_0, nIle (show m < 2 ^ 31 by omega) (show i < 2 ^ 31 by omega), if_neg (show ¬ m ≤ i by omega), sx, nI_add, lenR_19, lenR_20, if_pos (ixN (show 60 * k + p + i < 240 by omega) (by omega)), if_pos (ixN (show i < 60 by omega) (by omega)), q_clamp (show 60 * k + p + i < 2 ^ 31 by omega), q_clamp (show i < 2 ^ 31 by omega), nI_p1]
    · rw [q3 j, up_j (show 19 ≠ 20 by omega)]
      by_cases e : j = i
      · subst e; rw [up_at, if_neg (by omega), if_pos (by omega)]
      · rw [up_i e]
        by_cases e2 : i + 1 ≤ j ∧ j < m
        · rw [if_pos e2, if_pos (by omega)]
        · rw [if_neg e2, if_neg (by omega)]
theorem g_give {l q m : Nat} (hl : l < 4) (hq : q + m ≤ 60) : ∀ (r i F : Nat) (ρ : my_M), i + r = m → r < F → ∃ υ, (g_X9_copy F).2 ρ (nI l) (nI q) (nI m) (nI i) = some (nI m, my_up υ 0 0 0) ∧ (∀ j, j ≠ 19 → υ j = ρ j) ∧ ∀ j, υ 19 j = if 60 * l + q + i ≤ j ∧ j < 60 * l + q + m then ρ 20 (j - (60 * l + q)) else ρ 19 j := by
  intro r
  induction r with
  | zero =>
    intro i F ρ hi hF
    obtain ⟨F, rfl⟩ : ∃ G, F = G + 1 := ⟨F - 1, by omega⟩
    refine ⟨ρ, ?_, fun _ _ => rfl, fun j => by rw [if_neg (by omega)]⟩
    simp only [gs_X9_copy_1, b_X9_copy_1, nIle (show m < 2 ^ 31 by omega) (show i < 2 ^ 31 by omega), if_pos (show m ≤ i by omega), f_X9_refused, bnd_s]
  | succ r ih =>
    intro i F ρ hi hF
    obtain ⟨F, rfl⟩ : ∃ G, F = G + 1 := ⟨F - 1, by omega⟩
    obtain ⟨τ, q1, q2, q3⟩ := ih (i + 1) F (my_up ρ 19 (60 * l + q + i) (ρ 20 i)) (by omega) (by omega)
    refine ⟨τ, ?_, fun j hj => by rw [q2 j hj, up_j hj], fun j => ?_⟩
    · rw [← q1]
      simp only [gs_X9_copy_1, b_X9_copy_1, nIle (show m < 2 ^ 31 by omega) (show i < 2 ^ 31 by omega), if_neg (show ¬ m ≤ i by omega), sx, nI_add, lenR_19, lenR_20, if_pos (ixN (show 60 * l + q + i < 240 by omega) (by omega)), if_pos (ixN (show i < 60 by omega) (by omega)), q_clamp (show 60 * l + q + i < 2 ^ 31 by omega), q_clamp (show i < 2 ^ 31 by omega), nI_p1]
    · rw [q3 j, up_j (show 20 ≠ 19 by omega)]
      by_cases e : j = 60 * l + q + i
      · subst e; rw [up_at, if_neg (by omega), if_pos (by omega), Nat.add_sub_cancel_left]
      · rw [up_i e]
        by_cases e2 : 60 * l + q + (i + 1) ≤ j ∧ j < 60 * l + q + m
        · rw [if_pos e2, if_pos (by omega)]
        · rw [if_neg e2, if_neg (by omega)]
theorem cp_at {σ : my_M} {a b : Nat} {p q m t : Nat} (hp : p < 2 ^ 31) (hq : q < 2 ^ 31) (hm : m < 2 ^ 31) : my_cp σ a b (nI p) (nI q) (nI m) b t = if q ≤ t ∧ t < q + m then σ a (p + (t - q)) else σ b t := by
  simp only [my_cp, va_up, va_cpy, if_true, q_clamp hp, q_clamp hq, q_clamp hm]
theorem cp_j {σ : my_M} {a b j : Nat} {x y z : Int32} (h : j ≠ b) : my_cp σ a b x y z j = σ j := by
  simp only [my_cp, va_up, if_neg h]
