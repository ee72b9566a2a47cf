theorem e10 : ((1 : Int32) = 0) = False := eq_false (by decide)
theorem e00 : ((0 : Int32) = 0) = True := eq_true rfl
theorem b10 : my_b (1 : Int32) := Or.inr rfl
theorem b00 : my_b (0 : Int32) := Or.inl rfl
theorem lenR_1 : my_len layR 1 = 4 := rfl
theorem lenR_2 : my_len layR 2 = 24 := rfl
theorem lenR_3 : my_len layR 3 = 4 := rfl
theorem lenR_4 : my_len layR 4 = 24 := rfl
theorem lenR_5 : my_len layR 5 = 6 := rfl
theorem lenR_6 : my_len layR 6 = 8 := rfl
theorem lenR_7 : my_len layR 7 = 8 := rfl
theorem lenR_8 : my_len layR 8 = 8 := rfl
theorem lenR_9 : my_len layR 9 = 8 := rfl
theorem lenR_10 : my_len layR 10 = 8 := rfl
theorem lenR_11 : my_len layR 11 = 8 := rfl
theorem lenR_12 : my_len layR 12 = 8 := rfl
theorem lenR_13 : my_len layR 13 = 8 := rfl
theorem lenR_14 : my_len layR 14 = 8 := rfl
theorem lenR_15 : my_len layR 15 = 8 := rfl
theorem lenR_16 : my_len layR 16 = 8 := rfl
theorem lenR_17 : my_len layR 17 = 4 := rfl
theorem lenR_18 : my_len layR 18 = 4 := rfl
theorem lenR_19 : my_len layR 19 = 240 := rfl
theorem lenR_20 : my_len layR 20 = 60 := rfl
theorem lenC_22 : my_len layC 22 = 8 := rfl
theorem lenC_23 : my_len layC 23 = 8 := rfl
theorem lenC_24 : my_len layC 24 = 8 := rfl
theorem lenC_25 : my_len layC 25 = 8 := rfl
theorem lenC_26 : my_len layC 26 = 8 := rfl
theorem lenC_28 : my_len layC 28 = 116 := rfl
theorem lenC_29 : my_len layC 29 = 6 := rfl
theorem lenC_15 : my_len layC 15 = 26 := rfl
theorem lenC_p {e : Nat} (h : e < 4) : my_len layC (7 + e) = 6 := by
  match e, h with
  | 0, _ => rfl
  | 1, _ => rfl
  | 2, _ => rfl
  | 3, _ => rfl
theorem lenC_s {e : Nat} (h : e < 4) : my_len layC (36 + e) = 60 := by
  match e, h with
  | 0, _ => rfl
  | 1, _ => rfl
  | 2, _ => rfl
  | 3, _ => rfl
theorem lenC_a {e : Nat} (h : e < 2) : my_len layC (12 + 5 * e) = 8 ∧ my_len layC (13 + 5 * e) = 8 ∧ my_len layC (14 + 5 * e) = 8 ∧ my_len layC (15 + 5 * e) = 26 := by
  match e, h with
  | 0, _ => exact ⟨rfl, rfl, rfl, rfl⟩
  | 1, _ => exact ⟨rfl, rfl, rfl, rfl⟩
/-- a number that names a caller -/
theorem cal {x : Int32} {c : Nat} (h : iv x 0 ((c : Int) - 1)) : ∃ k, k < c ∧ x = nI k := q_of h.1 (by omega)
theorem calN {k c : Nat} (h : k < c) (hc : c < 2 ^ 31) : iv (nI k) 0 ((c : Int) - 1) := by
  show 0 ≤ (nI k).toInt ∧ (nI k).toInt ≤ (c : Int) - 1
  rw [q_n (by omega)]; omega
theorem ixN {k n : Nat} (h : k < n) (hn : n < 2 ^ 31) : my_ix (nI k) n := my_ix_nI h hn
theorem nI_inj {a b : Nat} (ha : a < 2 ^ 31) (hb : b < 2 ^ 31) : (nI a = nI b) = (a = b) := propext (nI_eq ha hb)
theorem nI_lit2 : (2 : Int32) = nI 2 := by decide
theorem nI_lit1 : (1 : Int32) = nI 1 := by decide
theorem RelX_ag2 {σ ρ σ1 ρ1 : my_M} (h : RelX σ ρ) (gC : ∀ j, (1 ≤ j ∧ j ≤ 14) ∨ (21 ≤ j ∧ j ≤ 26) ∨ 31 ≤ j → σ1 j = σ j) (gG : GdC σ1) (gR : ∀ j, j = 1 ∨ j = 2 ∨ (6 ≤ j ∧ j ≤ 8) ∨ (12 ≤ j ∧ j ≤ 19) → ρ1 j = ρ j) (gR2 : ∀ i, i = 1 ∨ i = 2 ∨ i = 11 ∨ i = 22 → ρ1 0 i = ρ 0 i) (hT1 : σ1 0 7 = ρ1 0 32) : RelX σ1 ρ1 := by
  -- through a pair of memories that differ in the trace alone
  have h0 : RelX (my_up σ1 0 7 (σ 0 7)) (my_up ρ1 0 32 (ρ 0 32)) := by
    refine RelX_ag h ⟨fun j hj => by rw [up_j (by omega)]; exact gC j hj, up_at⟩ ?_ ⟨fun j hj => by rw [up_j (by omega)]; exact gR j hj, fun i hi => ?_⟩
    · unfold GdC at gG ⊢
      rw [up_j (show 27 ≠ 0 by omega), up_j (show 28 ≠ 0 by omega)]
      exact gG
    · by_cases hi2 : i = 32
      · subst hi2; exact up_at
      · rw [up_i hi2]; exact gR2 i (by omega)
  obtain ⟨c, n, kd, pt, a, sw, sm, sh, b, rh, rw_, rl, rg, rv, hB, hC, hR, aB, aC, aR, dB, dC, dR, hS, hG, -⟩ := h0
  have eC : ∀ j, j ≠ 0 → my_up σ1 0 7 (σ 0 7) j = σ1 j := fun j hj => up_j hj
  have eR : ∀ j, j ≠ 0 → my_up ρ1 0 32 (ρ 0 32) j = ρ1 j := fun j hj => up_j hj
  refine ⟨c, n, kd, pt, a, sw, sm, sh, b, rh, rw_, rl, rg, rv, hB, ?_, ?_, aB, ?_, ?_, dB, ?_, ?_, ?_, gG, hT1⟩
  · obtain ⟨h1, h2, h3, h5⟩ := hC
    exact ⟨by rw [← eC 1 (by omega)]; exact h1, by rw [← eC 1 (by omega)]; exact h2, fun k hk => by rw [← eC (3 + k) (by omega)]; exact h3 k hk, fun k hk i hi => by rw [← eC (7 + k) (by omega)]; exact h5 k hk i hi⟩
  · obtain ⟨h1, h2, h3, h5⟩ := hR
    exact ⟨(up_i (show 1 ≠ 32 by omega)).symm.trans h1, (up_i (show 2 ≠ 32 by omega)).symm.trans h2, fun k hk => by rw [← eR 1 (by omega)]; exact h3 k hk, fun k hk i hi => by rw [← eR 2 (by omega)]; exact h5 k hk i hi⟩
  · refine ⟨by rw [← eC _ (by omega)]; exact aC.1, fun s hs => ?_⟩
    rw [← eC (12 + 5 * 0) (by omega), ← eC (13 + 5 * 0) (by omega), ← eC (14 + 5 * 0) (by omega)]
    exact aC.2 s hs
  · refine ⟨(up_i (show 11 ≠ 32 by omega)).symm.trans aR.1, fun s hs => ?_⟩
    rw [← eR 6 (by omega), ← eR 7 (by omega), ← eR 8 (by omega)]
    exact aR.2 s hs
  · refine ⟨by rw [← eC _ (by omega)]; exact dC.1, fun s hs => ?_⟩
    rw [← eC 22 (by omega), ← eC 23 (by omega), ← eC 24 (by omega), ← eC 25 (by omega), ← eC 26 (by omega)]
    exact dC.2 s hs
  · refine ⟨(up_i (show 22 ≠ 32 by omega)).symm.trans dR.1, fun s hs => ?_⟩
    rw [← eR 12 (by omega), ← eR 13 (by omega), ← eR 14 (by omega), ← eR 15 (by omega), ← eR 16 (by omega)]
    exact dR.2 s hs
  · intro k hk
    have h1 := hS k hk
    unfold ShR1 at h1 ⊢
    rw [eC (32 + k) (by omega), eC (36 + k) (by omega), eR 17 (by omega), eR 18 (by omega), eR 19 (by omega)] at h1
    exact h1
theorem GdC_of {σ τ : my_M} (h : GdC σ) (e1 : τ 27 = σ 27) (e2 : τ 28 = σ 28) : GdC τ := by
  unfold GdC at h ⊢
  rw [e1, e2]; exact h
/-- one more number left in the trace, on both sides -/
theorem Rel_trace {σ ρ : my_M} (h : Rel σ ρ) (x : Int32) : Rel (my_up σ 0 7 ((31 * (σ 0 7)) + x)) (my_up ρ 0 32 ((31 * (ρ 0 32)) + x)) := by
  have hT : σ 0 7 = ρ 0 32 := by
    obtain ⟨c, n, kd, pt, a, sw, sm, sh, b, rh, rw_, rl, rg, rv, hB, hC, hR, aB, aC, aR, dB, dC, dR, hS, hG, hT⟩ := h.1
    exact hT
  refine ⟨RelX_ag2 h.1 (fun j hj => up_j (by omega)) (GdC_of (RelX_G h.1) (up_j (by omega)) (up_j (by omega))) (fun j hj => up_j (by omega)) (fun i hi => up_i (by omega)) (by rw [up_at, up_at, hT]), ?_⟩
  rw [up_i (by omega), up_i (by omega)]
  exact h.2
theorem s_leave (σ : my_M) (x : Int32) : f_X8_leave σ x = some ((), my_up σ 0 7 ((31 * (σ 0 7)) + x)) := rfl
theorem s_traced (ρ : my_M) (x : Int32) : f_X9_traced ρ x = some ((), my_up ρ 0 32 ((31 * (ρ 0 32)) + x)) := rfl
theorem pr_hail {σ ρ : my_M} (h : Rel σ ρ) (x : Int32) : ∃ (r : Int32) (σ1 ρ1 : my_M), f_X8_hail σ x = some (r, σ1) ∧ f_X9_hail ρ x = some (r, ρ1) ∧ Rel σ1 ρ1 := by
  obtain ⟨⟨c, n, kd, pt, a, sw, sm, sh, b, rh, rw_, rl, rg, rv, hB, hC, hR, aB, aC, aR, dB, dC, dR, hS, hG, hT⟩, hF⟩ := id h
  have h4 := hB.1
  by_cases hk : iv x 0 ((c : Int) - 1)
  · obtain ⟨k, hk', rfl⟩ := cal hk
    have e1 := hC.2.2.1 k hk'
    have e2 := hR.2.2.1 k hk'
    have hd := hB.2.2.1 k hk'
    by_cases h2 : kd k = 2
    · refine ⟨60, _, _, ?_, ?_, Rel_trace h 5⟩
      · simp only [f_X8_hail, s_has hC.1 h4, bnd_s, bI_t hk, e10, if_false, if_pos (ixN (show k < 4 by omega) (by omega)), q_clamp (show k < 2 ^ 31 by omega), e1, h2, if_pos (show nI 2 = 2 by decide), f_X8_keenHail, s_leave]
      · simp only [f_X9_hail, s_noCaller hR.1 h4, bnd_s, bI_f (show ¬ ¬ iv (nI k) 0 ((c : Int) - 1) from fun q => q hk), e00, if_true, lenR_1, if_pos (ixN (show k < 4 by omega) (by omega)), q_clamp (show k < 2 ^ 31 by omega), e2, h2, if_pos (show nI 2 = 2 by decide), s_traced, up_j (show 1 ≠ 0 by omega)]
    · have h2' : ¬ nI (kd k) = 2 := by rw [nI_lit2, nI_inj (by omega) (by omega)]; exact h2
      refine ⟨nI k, _, _, ?_, ?_, Rel_trace h 4⟩
      · simp only [f_X8_hail, s_has hC.1 h4, bnd_s, bI_t hk, e10, if_false, if_pos (ixN (show k < 4 by omega) (by omega)), q_clamp (show k < 2 ^ 31 by omega), e1, if_neg h2', f_X8_lentHail, s_leave]
      · simp only [f_X9_hail, s_noCaller hR.1 h4, bnd_s, bI_f (show ¬ ¬ iv (nI k) 0 ((c : Int) - 1) from fun q => q hk), e00, if_true, lenR_1, if_pos (ixN (show k < 4 by omega) (by omega)), q_clamp (show k < 2 ^ 31 by omega), e2, if_neg h2', s_traced, up_j (show 1 ≠ 0 by omega)]
  · refine ⟨-1, σ, ρ, ?_, ?_, h⟩
    · simp only [f_X8_hail, s_has hC.1 h4, bnd_s, bI_f hk, e00, if_true]
    · simp only [f_X9_hail, s_noCaller hR.1 h4, bnd_s, bI_t hk, e10, if_false]
