/-! sheets -/
theorem ShR_at {σ τ ρ υ : my_M} (h : ShR σ ρ) {k : Nat} (g : ∀ j, 31 ≤ j → j ≠ 32 + k → j ≠ 36 + k → τ j = σ j) (g17 : ∀ i, i ≠ k → υ 17 i = ρ 17 i) (g18 : ∀ i, i ≠ k → υ 18 i = ρ 18 i) (g19 : ∀ i, ¬ (60 * k ≤ i ∧ i < 60 * k + 60) → υ 19 i = ρ 19 i) (h1 : ShR1 k τ υ) (hk : k < 4) : ShR τ υ := by
  intro l hl
  by_cases e : l = k
  · subst e; exact h1
  · have h2 := h l hl
    unfold ShR1 at h2 ⊢
    rw [g (32 + l) (by omega) (by omega) (by omega), g17 l e, g18 l e]
    rcases h2 with h2 | ⟨q1, L, ln, q2, q3, q4, q5, q6, q7, q8⟩
    · exact Or.inl h2
    · refine Or.inr ⟨q1, L, ln, q2, q3, q4, q5, q6, q7, fun i hi => ?_⟩
      rw [g (36 + l) (by omega) (by omega) (by omega), g19 (60 * l + i) (by omega)]
      exact q8 i hi
theorem RelX_sh {σ ρ τ υ : my_M} (h : RelX σ ρ) (g : ∀ j, j < 31 → τ j = σ j) (g2 : ∀ j, j < 17 → υ j = ρ j) (hs : ShR τ υ) : RelX τ υ := by
  obtain ⟨c, n, kd, pt, a, sw, sm, sh, b, rh, rw_, rl, rg, rv, hB, hC, hR, aB, aC, aR, dB, dC, dR, hS, hG, hT⟩ := id h
  exact ⟨c, n, kd, pt, a, sw, sm, sh, b, rh, rw_, rl, rg, rv, hB, ChC_f hB.1 hC (fun j _ _ => g j (by omega)), ChR_f hR (g2 1 (by omega)) (g2 2 (by omega)) (by rw [g2 0 (by omega)]) (by rw [g2 0 (by omega)]), aB, AiC_f aC (fun j _ _ => g j (by omega)), AiR_f aR (fun j _ _ => g2 j (by omega)) (by rw [g2 0 (by omega)]), dB, RdC_f dC (fun j _ _ => g j (by omega)), RdR_f dR (fun j _ _ => g2 j (by omega)) (by rw [g2 0 (by omega)]), hs, GdC_of hG (g 27 (by omega)) (g 28 (by omega)), by rw [g 0 (by omega), g2 0 (by omega)]; exact hT⟩
theorem RelX_S {σ ρ : my_M} (h : RelX σ ρ) : ShR σ ρ := by
  obtain ⟨c, n, kd, pt, a, sw, sm, sh, b, rh, rw_, rl, rg, rv, hB, hC, hR, aB, aC, aR, dB, dC, dR, hS, hG, hT⟩ := id h
  exact hS
/-- after the fault was cleared on one side first, on the other last -/
theorem Rel_sh0 {σ ρ τ υ : my_M} (h : RelX σ ρ) (g : ∀ j, j < 31 → τ j = my_up σ 0 8 0 j) (g2 : ∀ j, j < 17 → υ j = ρ j) (hs : ShR τ υ) : Rel τ (my_up υ 0 0 0) := by
  refine ⟨RelX_fR (RelX_sh (RelX_fC h) g g2 hs), ?_⟩
  rw [g 0 (by omega), up_at, up_at]
theorem sht {x : Int32} (h : iv x 0 3) : ∃ k, k < 4 ∧ x = nI k := cal (c := 4) h
theorem sx {k i : Nat} : (60 : Int32) * nI k + nI i = nI (60 * k + i) := by
  rw [show (60 : Int32) = nI 60 by decide, pk_mul, nI_add]
theorem pr_lose {σ ρ : my_M} (h : Rel σ ρ) (x : Int32) : ∃ (r : Int32) (σ1 ρ1 : my_M), f_X8_lose σ x = some (r, σ1) ∧ f_X9_lose ρ x = some (r, ρ1) ∧ Rel σ1 ρ1 := by
  have hS := RelX_S h.1
  by_cases hx : iv x 0 3
  · obtain ⟨k, hk, rfl⟩ := sht hx
    have nx : ¬ ¬ iv (nI k) 0 3 := fun q => q hx
    have R : Rel (my_up σ (32 + k) 0 0) (my_up ρ 17 k (-1)) := by
      refine ⟨RelX_sh h.1 (fun j _ => up_j (by omega)) (fun j _ => up_j (by omega)) (ShR_at hS (fun j _ _ _ => up_j (by omega)) (fun i hi => up_i hi) (fun i _ => by rw [up_j (by omega)]) (fun i _ => by rw [up_j (by omega)]) (Or.inl ⟨up_at, up_at⟩) hk), ?_⟩
      rw [up_j (by omega), up_j (by omega)]; exact h.2
    rcases hS k hk with ⟨q1, q2⟩ | ⟨q1, L, ln, q2, q3, q4, q5, q6, q7, q8⟩
    · refine ⟨0, _, _, ?_, ?_, R⟩
      · simp only [f_X8_lose, s_isSheetC, bnd_s, bI_t hx, e10, if_false, if_pos (ixN hk (by omega)), q_clamp (show k < 2 ^ 31 by omega), q1, if_true]
      · simp only [f_X9_lose, s_noSheetR, bnd_s, bI_f nx, e00, if_true, lenR_17, if_pos (ixN hk (by omega)), q_clamp (show k < 2 ^ 31 by omega), q2, if_neg (show ¬ (0 : Int32) ≤ -1 by decide)]
    · refine ⟨1, _, _, ?_, ?_, R⟩
      · simp only [f_X8_lose, s_isSheetC, bnd_s, bI_t hx, e10, if_false, if_pos (ixN hk (by omega)), q_clamp (show k < 2 ^ 31 by omega), q1]
      · simp only [f_X9_lose, s_noSheetR, bnd_s, bI_f nx, e00, if_true, lenR_17, if_pos (ixN hk (by omega)), q_clamp (show k < 2 ^ 31 by omega), q7, if_pos (show (0 : Int32) ≤ nI L by rw [← nI_0, nIle (by omega) (by omega)]; omega)]
  · refine ⟨-1, σ, ρ, ?_, ?_, h⟩
    · simp only [f_X8_lose, s_isSheetC, bnd_s, bI_f hx, e00, if_true]
    · simp only [f_X9_lose, s_noSheetR, bnd_s, bI_t hx, e10, if_false]
theorem g_fill {a L : Nat} (hl : my_len layC a = L) (hL : L < 1000) (x : Int32) : ∀ (r i F : Nat) (σ : my_M), i + r = L → r < F → ∃ τ, g_J7_fill_53178 F σ a x (nI i) (nI L) = some ((), τ) ∧ (∀ j, j ≠ a → τ j = σ j) ∧ ∀ j, τ a j = if i ≤ j ∧ j < L then x else σ a j := by
  intro r
  induction r with
  | zero =>
    intro i F σ hi hF
    obtain ⟨F, rfl⟩ : ∃ G, F = G + 1 := ⟨F - 1, by omega⟩
    refine ⟨σ, ?_, fun _ _ => rfl, fun j => by rw [if_neg (by omega)]⟩
    simp only [gs_J7_fill_53178, b_J7_fill_53178_0, nIle (show L < 2 ^ 31 by omega) (show i < 2 ^ 31 by omega), if_pos (show L ≤ i by omega)]
  | succ r ih =>
    intro i F σ hi hF
    obtain ⟨F, rfl⟩ : ∃ G, F = G + 1 := ⟨F - 1, by omega⟩
    obtain ⟨τ, q1, q2, q3⟩ := ih (i + 1) F (my_up σ a i x) (by omega) (by omega)
    refine ⟨τ, ?_, fun j hj => by rw [q2 j hj, up_j hj], fun j => ?_⟩
    · rw [← q1]
      simp only [gs_J7_fill_53178, b_J7_fill_53178_0, nIle (show L < 2 ^ 31 by omega) (show i < 2 ^ 31 by omega), if_neg (show ¬ L ≤ i by omega), hl, if_pos (ixN (show i < L by omega) (by omega)), q_clamp (show i < 2 ^ 31 by omega), nI_p1]
    · rw [q3 j]
      by_cases e : j = i
      · subst e; rw [up_at, if_neg (by omega), if_pos (by omega)]
      · rw [up_i e]
        by_cases e2 : i + 1 ≤ j ∧ j < L
        · rw [if_pos e2, if_pos (by omega)]
        · rw [if_neg e2, if_neg (by omega)]
theorem g_blank {k L : Nat} (hk : k < 4) (hL : L ≤ 60) : ∀ (r i F : Nat) (ρ : my_M), i + r = L → r < F → ∃ υ, g_X9_sheet F ρ (nI k) (nI L) (nI i) = some (1, my_up υ 0 0 0) ∧ (∀ j, j ≠ 19 → υ j = ρ j) ∧ ∀ j, υ 19 j = if 60 * k + i ≤ j ∧ j < 60 * k + L then 0 else ρ 19 j := by
  intro r
  induction r with
  | zero =>
    intro i F ρ hi hF
    obtain ⟨F, rfl⟩ : ∃ G, F = G + 1 := ⟨F - 1, by omega⟩
    refine ⟨ρ, ?_, fun _ _ => rfl, fun j => by rw [if_neg (by omega)]⟩
    simp only [gs_X9_sheet, b_X9_sheet_0, nIle (show L < 2 ^ 31 by omega) (show i < 2 ^ 31 by omega), if_pos (show L ≤ i by omega), f_X9_refused, bnd_s]
  | succ r ih =>
    intro i F ρ hi hF
    obtain ⟨F, rfl⟩ : ∃ G, F = G + 1 := ⟨F - 1, by omega⟩
    obtain ⟨τ, q1, q2, q3⟩ := ih (i + 1) F (my_up ρ 19 (60 * k + i) 0) (by omega) (by omega)
    refine ⟨τ, ?_, fun j hj => by rw [q2 j hj, up_j hj], fun j => ?_⟩
    · rw [← q1]
      simp only [gs_X9_sheet, b_X9_sheet_0, nIle (show L < 2 ^ 31 by omega) (show i < 2 ^ 31 by omega), if_neg (show ¬ L ≤ i by omega), sx, lenR_19, if_pos (ixN (show 60 * k + i < 240 by omega) (by omega)), q_clamp (show 60 * k + i < 2 ^ 31 by omega), nI_p1]
    · rw [q3 j]
      by_cases e : j = 60 * k + i
      · subst e; rw [up_at, if_neg (by omega), if_pos (by omega)]
      · rw [up_i e]
        by_cases e2 : 60 * k + (i + 1) ≤ j ∧ j < 60 * k + L
        · rw [if_pos e2, if_pos (by omega)]
        · rw [if_neg e2, if_neg (by omega)]
theorem pr_sheet {σ ρ : my_M} (h : Rel σ ρ) (x y z : Int32) : ∃ (r : Int32) (σ1 ρ1 : my_M), f_X8_sheet σ x y z = some (r, σ1) ∧ f_X9_sheet ρ x y z = some (r, ρ1) ∧ Rel σ1 ρ1 := by
  have hS := RelX_S h.1
  have hN := NF_big
  by_cases hx : iv x 0 3
  · obtain ⟨k, hk, rfl⟩ := sht hx
    have nx : ¬ ¬ iv (nI k) 0 3 := fun q => q hx
    by_cases hy : iv y 0 2
    · obtain ⟨ln, hln, rfl⟩ := iv_nat (m := 2) hy
      by_cases hz : z ≤ 60
      · by_cases h0 : 0 ≤ z
        · have z1 := h0
          have z2 := hz
          rw [q_le, t_0] at z1
          rw [q_le, t_60] at z2
          obtain ⟨L, hL, rfl⟩ := iv_nat (m := 60) ⟨z1, z2⟩
          have lk := lenC_s hk
          obtain ⟨τ, q1, q2, q3⟩ := g_fill lk (by omega) 0 60 0 my_NF (my_up (my_up (my_up (my_up σ 0 8 0) (32 + k) 0 1) (32 + k) 1 (nI ln)) (32 + k) 2 (nI L)) (by omega) (by omega)
          obtain ⟨υ, p1, p2, p3⟩ := g_blank hk hL L 0 my_NF (my_up (my_up ρ 17 k (nI L)) 18 k (nI ln)) (by omega) (by omega)
          refine ⟨1, τ, my_up υ 0 0 0, ?_, ?_, ?_⟩
          · rw [nI_0] at q1
            simp only [f_X8_sheet, s_isSheetC, bnd_s, bI_t hx, e10, if_false, s_isLaneC, bI_t hy, if_pos hz, if_pos h0, if_pos (ixN hk (by omega)), q_clamp (show k < 2 ^ 31 by omega), f_X6_begin, if_pos hk, f_J7_fill_53178, lk, if_pos (show 0 < 60 by omega), q1]
          · rw [nI_0] at p1
            rw [← p1]
            simp only [f_X9_sheet, s_noSheetR, bnd_s, bI_f nx, e00, if_true, s_inI, u_0, u_2, bI_t hy, e10, if_false, if_pos hz, if_pos h0, lenR_17, lenR_18, if_pos (ixN hk (by omega)), q_clamp (show k < 2 ^ 31 by omega)]
          · refine Rel_sh0 h.1 (fun j hj => ?_) (fun j hj => ?_) (ShR_at (k := k) (RelX_S (RelX_fC (x := 0) h.1)) (fun j j1 j2 j3 => ?_) (fun i hi => ?_) (fun i hi => ?_) (fun i hi => ?_) (Or.inr ⟨?_, L, ln, hL, hln, ?_, ?_, ?_, ?_, fun i hi => ?_⟩) hk)
            · rw [q2 j (by omega), up_j (by omega), up_j (by omega), up_j (by omega)]
            · rw [p2 j (by omega), up_j (by omega), up_j (by omega)]
            · rw [q2 j (by omega), up_j (by omega), up_j (by omega), up_j (by omega)]
            · rw [p2 17 (by omega), up_j (by omega), up_i hi]
            · rw [p2 18 (by omega), up_i hi, up_j (by omega)]
            · rw [p3 i, if_neg (by omega), up_j (by omega), up_j (by omega)]
            · rw [q2 _ (by omega), up_i (by omega), up_i (by omega), up_at]
            · rw [q2 _ (by omega), up_i (by omega), up_at]
            · rw [p2 18 (by omega), up_at]
            · rw [q2 _ (by omega), up_at]
            · rw [p2 17 (by omega), up_j (by omega), up_at]
            · rw [q3 i, p3 _, if_pos (by omega), if_pos (by omega)]
        · refine ⟨-10 - 4, my_up (my_up σ 0 8 0) 0 8 4, my_up ρ 0 0 4, ?_, ?_, ?_⟩
          · simp only [f_X8_sheet, s_isSheetC, bnd_s, bI_t hx, e10, if_false, s_isLaneC, bI_t hy, if_pos hz, if_neg h0, f_X8_faulted]
          · simp only [f_X9_sheet, s_noSheetR, bnd_s, bI_f nx, e00, if_true, s_inI, u_0, u_2, bI_t hy, e10, if_false, if_pos hz, if_neg h0, f_X9_failed]
          · rw [up_up]; exact Rel_set h.1
      · refine ⟨-2, my_up σ 0 8 0, my_up ρ 0 0 0, ?_, ?_, Rel_set h.1⟩
        · simp only [f_X8_sheet, s_isSheetC, bnd_s, bI_t hx, e10, if_false, s_isLaneC, bI_t hy, if_neg hz]
        · simp only [f_X9_sheet, s_noSheetR, bnd_s, bI_f nx, e00, if_true, s_inI, u_0, u_2, bI_t hy, e10, if_false, if_neg hz, f_X9_refused]
    · refine ⟨-2, my_up σ 0 8 0, my_up ρ 0 0 0, ?_, ?_, Rel_set h.1⟩
      · simp only [f_X8_sheet, s_isSheetC, bnd_s, bI_t hx, e10, if_false, s_isLaneC, bI_f hy, e00, if_true]
      · simp only [f_X9_sheet, s_noSheetR, bnd_s, bI_f nx, e00, if_true, s_inI, u_0, u_2, bI_f hy, f_X9_refused]
  · refine ⟨-1, my_up σ 0 8 0, my_up ρ 0 0 0, ?_, ?_, Rel_set h.1⟩
    · simp only [f_X8_sheet, s_isSheetC, bnd_s, bI_f hx, e00, if_true]
    · simp only [f_X9_sheet, s_noSheetR, bnd_s, bI_t hx, e10, if_false, f_X9_refused]
/-- m cells from x on lie within the first L -/
abbrev hold (x m : Int32) (L : Nat) : Prop := 0 ≤ x.toInt ∧ 0 ≤ m.toInt ∧ x.toInt + m.toInt ≤ (L : Int)
theorem s_holds {σ : my_M} {k L : Nat} (hk : k < 4) (hl : σ (32 + k) 2 = nI L) (hL : L ≤ 60) (x m : Int32) : f_X6_holds σ k x m = some (bI (hold x m L), σ) := by
  have tL := q_n (show L < 2 ^ 31 by omega)
  unfold f_X6_holds
  rw [if_pos hk]
  by_cases m0 : m < 0
  · rw [if_pos m0, bI_f]
    rw [q_lt, t_0] at m0
    intro q; have := q.2.1; omega
  · rw [if_neg m0]
    rw [q_lt, t_0] at m0
    by_cases m1 : σ (32 + k) 2 < m
    · rw [if_pos m1, bI_f]
      rw [hl, q_lt, tL] at m1
      intro q; have := q.2.2; have := q.1; omega
    · rw [if_neg m1]
      rw [hl, q_lt, tL] at m1
      by_cases x0 : x < 0
      · rw [if_pos x0, bI_f]
        rw [q_lt, t_0] at x0
        intro q; have := q.1; omega
      · rw [if_neg x0]
        rw [q_lt, t_0] at x0
        have e : (nI L - m < x) = ¬ hold x m L := by
          refine propext ?_
          rw [q_lt, q_sub (by rw [tL]; omega) (by rw [tL]; omega), tL]
          unfold hold
          omega
        rw [if_pos my_b_if', hl]
        by_cases q : hold x m L
        · rw [bI_t q, if_neg (by rw [e]; exact fun z => z q)]
        · rw [bI_f q, if_pos (by rw [e]; exact q)]
theorem hold1 {x : Int32} {L : Nat} : hold x 1 L ↔ iv x 0 ((L : Int) - 1) := by
  unfold hold iv
  rw [t_1]
  omega
theorem s_noCell0 {ρ : my_M} {k : Nat} (hk : k < 4) (hl : ρ 17 k = -1) (x : Int32) : f_X9_noCell ρ (nI k) x = some (1, ρ) := by
  simp only [f_X9_noCell, lenR_17, if_pos (ixN hk (by omega)), q_clamp (show k < 2 ^ 31 by omega), hl, if_neg (show ¬ (0 : Int32) ≤ -1 by decide)]
theorem s_noCell {ρ : my_M} {k L : Nat} (hk : k < 4) (hl : ρ 17 k = nI L) (hL : L ≤ 60) (x : Int32) : f_X9_noCell ρ (nI k) x = some ((if iv x 0 ((L : Int) - 1) then 0 else 3), ρ) := by
  have tn : (Int32.toInt64 (nI L) - 1).toInt = (L : Int) - 1 := by rw [q_lsub1, q_n (by omega)]
  simp only [f_X9_noCell, lenR_17, if_pos (ixN hk (by omega)), q_clamp (show k < 2 ^ 31 by omega), hl, if_pos (show (0 : Int32) ≤ nI L by rw [← nI_0, nIle (by omega) (by omega)]; omega), s_inI, u_0, tn, bnd_s]
  by_cases q : iv x 0 ((L : Int) - 1)
  · rw [bI_t q, if_pos q, if_neg (by decide)]
  · rw [bI_f q, if_neg q, if_pos rfl]
