theorem AiB_le {c a a' : Nat} {sw sm sh : Nat → Nat} (h : AiB c a sw sm sh) (ha : a' ≤ a) : AiB c a' sw sm sh := ⟨by have := h.1; omega, fun s hs => h.2 s (by omega)⟩
theorem RdB_le {c b b' : Nat} {rh rw_ : Nat → Nat} {rl rg : Nat → Int32} (h : RdB c b rh rw_ rl rg) (hb : b' ≤ b) : RdB c b' rh rw_ rl rg := ⟨by have := h.1; omega, fun s hs => h.2 s (by omega)⟩
theorem pr_unsend {σ ρ : my_M} (h : Rel σ ρ) (x : Int32) : ∃ (r : Int32) (σ1 ρ1 : my_M), f_X8_unsend σ x = some (r, σ1) ∧ f_X9_unsend ρ x = some (r, ρ1) ∧ Rel σ1 ρ1 := by
  obtain ⟨⟨c, n, kd, pt, a, sw, sm, sh, b, rh, rw_, rl, rg, rv, hB, hC, hR, aB, aC, aR, dB, dC, dR, hS, hG, hT⟩, hF⟩ := id h
  have h8 := aB.1
  have aC1 : σ 11 0 = nI a := aC.1
  have ta := q_n (show a < 2 ^ 31 by omega)
  by_cases hx : iv x 0 (a : Int)
  · obtain ⟨k, hk, rfl⟩ := iv_nat hx
    refine ⟨nI (a - k), my_up σ 11 0 (nI (a - k)), my_up ρ 0 11 (nI (a - k)), ?_, ?_, ?_⟩
    · simp only [f_X8_unsend, f_X4_takeBackA, if_pos (show 0 < 2 by omega), s_W, t_0, Nat.mul_zero, Nat.add_zero, aC1, ta, bI_t hx, bnd_s, e10, if_false, nI_sub hk (show a < 2 ^ 31 by omega), up_at]
    · simp only [f_X9_unsend, s_inI, u_0, aR.1, q_l, ta, bI_t hx, bnd_s, e10, if_false, nI_sub hk (show a < 2 ^ 31 by omega), up_at]
    · refine ⟨⟨c, n, kd, pt, a - k, sw, sm, sh, b, rh, rw_, rl, rg, rv, hB, ChC_f hB.1 hC (fun j _ _ => up_j (by omega)), ChR_f hR (up_j (by omega)) (up_j (by omega)) (up_i (by omega)) (up_i (by omega)), AiB_le aB (by omega), ⟨up_at, fun s hs => ?_⟩, ⟨up_at, fun s hs => ?_⟩, dB, RdC_f dC (fun j _ _ => up_j (by omega)), RdR_f dR (fun j _ _ => up_j (by omega)) (up_i (by omega)), ShR_f hS (fun j _ => up_j (by omega)) (fun j _ _ => up_j (by omega)), GdC_of hG (up_j (by omega)) (up_j (by omega)), ?_⟩, ?_⟩
      · rw [up_j (by omega), up_j (by omega), up_j (by omega)]; exact aC.2 s (by omega)
      · rw [up_j (by omega), up_j (by omega), up_j (by omega)]; exact aR.2 s (by omega)
      · rw [up_j (by omega), up_i (by omega)]; exact hT
      · rw [up_j (by omega), up_i (by omega)]; exact hF
  · refine ⟨-2, σ, ρ, ?_, ?_, h⟩
    · simp only [f_X8_unsend, f_X4_takeBackA, if_pos (show 0 < 2 by omega), s_W, t_0, Nat.mul_zero, Nat.add_zero, aC1, ta, bI_f hx, bnd_s, e00, if_true]
    · simp only [f_X9_unsend, s_inI, u_0, aR.1, q_l, ta, bI_f hx, bnd_s, e00, if_true]
theorem pr_back {σ ρ : my_M} (h : Rel σ ρ) (x : Int32) : ∃ (r : Int32) (σ1 ρ1 : my_M), f_X8_back σ x = some (r, σ1) ∧ f_X9_back ρ x = some (r, ρ1) ∧ Rel σ1 ρ1 := by
  obtain ⟨⟨c, n, kd, pt, a, sw, sm, sh, b, rh, rw_, rl, rg, rv, hB, hC, hR, aB, aC, aR, dB, dC, dR, hS, hG, hT⟩, hF⟩ := id h
  have h8 := dB.1
  have ta := q_n (show b < 2 ^ 31 by omega)
  by_cases hx : iv x 0 (b : Int)
  · obtain ⟨k, hk, rfl⟩ := iv_nat hx
    refine ⟨nI (b - k), my_up σ 21 0 (nI (b - k)), my_up ρ 0 22 (nI (b - k)), ?_, ?_, ?_⟩
    · simp only [f_X8_back, f_X4_takeBackR, s_W, t_0, dC.1, ta, bI_t hx, bnd_s, e10, if_false, nI_sub hk (show b < 2 ^ 31 by omega), up_at]
    · simp only [f_X9_back, s_inI, u_0, dR.1, q_l, ta, bI_t hx, bnd_s, e10, if_false, nI_sub hk (show b < 2 ^ 31 by omega), up_at]
    · refine ⟨⟨c, n, kd, pt, a, sw, sm, sh, b - k, rh, rw_, rl, rg, rv, hB, ChC_f hB.1 hC (fun j _ _ => up_j (by omega)), ChR_f hR (up_j (by omega)) (up_j (by omega)) (up_i (by omega)) (up_i (by omega)), aB, AiC_f aC (fun j _ _ => up_j (by omega)), AiR_f aR (fun j _ _ => up_j (by omega)) (up_i (by omega)), RdB_le dB (by omega), ⟨up_at, fun s hs => ?_⟩, ⟨up_at, fun s hs => ?_⟩, ShR_f hS (fun j _ => up_j (by omega)) (fun j _ _ => up_j (by omega)), GdC_of hG (up_j (by omega)) (up_j (by omega)), ?_⟩, ?_⟩
      · rw [up_j (by omega), up_j (by omega), up_j (by omega), up_j (by omega), up_j (by omega)]; exact dC.2 s (by omega)
      · rw [up_j (by omega), up_j (by omega), up_j (by omega), up_j (by omega), up_j (by omega)]; exact dR.2 s (by omega)
      · rw [up_j (by omega), up_i (by omega)]; exact hT
      · rw [up_j (by omega), up_i (by omega)]; exact hF
  · refine ⟨-2, σ, ρ, ?_, ?_, h⟩
    · simp only [f_X8_back, f_X4_takeBackR, s_W, t_0, dC.1, ta, bI_f hx, bnd_s, e00, if_true]
    · simp only [f_X9_back, s_inI, u_0, dR.1, q_l, ta, bI_f hx, bnd_s, e00, if_true]
theorem pr_reading {σ ρ : my_M} (h : Rel σ ρ) (x y l g v : Int32) : ∃ (r : Int32) (σ1 ρ1 : my_M), f_X8_reading σ x y l g v = some (r, σ1) ∧ f_X9_reading ρ x y l g v = some (r, ρ1) ∧ Rel σ1 ρ1 := by
  obtain ⟨⟨c, n, kd, pt, a, sw, sm, sh, b, rh, rw_, rl, rg, rv, hB, hC, hR, aB, aC, aR, dB, dC, dR, hS, hG, hT⟩, hF⟩ := id h
  have h4 := hB.1
  have h8 := dB.1
  by_cases hk : iv x 0 ((c : Int) - 1)
  · obtain ⟨k, hk', rfl⟩ := cal hk
    have nk : ¬ ¬ iv (nI k) 0 ((c : Int) - 1) := fun q => q hk
    by_cases hm : iv y 0 ((c : Int) - 1)
    · obtain ⟨m, hm', rfl⟩ := cal hm
      have nm : ¬ ¬ iv (nI m) 0 ((c : Int) - 1) := fun q => q hm
      by_cases hl : iv l (-5) 5
      · by_cases hg : iv g (-5) 5
        · by_cases hv : iv v 0 20
          · by_cases hb : b = 8
            · subst hb
              refine ⟨-4, σ, ρ, ?_, ?_, h⟩
              · simp only [f_X8_reading, s_has hC.1 h4, bnd_s, bI_t hk, bI_t hm, s_isShiftC, bI_t hl, bI_t hg, e10, if_false, s_W, t_0, t_20, bI_t hv, f_X5_add, dC.1, if_neg (show ¬ nI 8 < 8 by decide), e00, if_true]
              · simp only [f_X9_reading, s_noCaller hR.1 h4, bnd_s, bI_f nk, bI_f nm, e00, e10, if_true, if_false, s_isShiftR, bI_t hl, bI_t hg, s_inI, u_0, u_20, bI_t hv, dR.1, if_pos (show nI 8 = 8 by decide)]
            · have h8' : nI b < 8 := by rw [show (8 : Int32) = nI 8 by decide, nIlt (by omega) (by omega)]; omega
              have h8n : ¬ nI b = 8 := by rw [show (8 : Int32) = nI 8 by decide, nI_inj (by omega) (by omega)]; omega
              refine ⟨nI b, my_up (my_up (my_up (my_up (my_up (my_up σ 22 b (nI k)) 23 b (nI m)) 24 b l) 25 b g) 26 b v) 21 0 (nI (b + 1)), my_up (my_up (my_up (my_up (my_up (my_up ρ 12 b (nI k)) 13 b (nI m)) 14 b l) 15 b g) 16 b v) 0 22 (nI (b + 1)), ?_, ?_, ?_⟩
              · simp only [f_X8_reading, s_has hC.1 h4, bnd_s, bI_t hk, bI_t hm, s_isShiftC, bI_t hl, bI_t hg, e10, if_false, s_W, t_0, t_20, bI_t hv, f_X5_add, dC.1, if_pos h8', lenC_22, lenC_23, lenC_24, lenC_25, lenC_26, if_pos (ixN (show b < 8 by omega) (by omega)), q_clamp (show b < 2 ^ 31 by omega), up_j (show 21 ≠ 22 by omega), up_j (show 21 ≠ 23 by omega), up_j (show 21 ≠ 24 by omega), up_j (show 21 ≠ 25 by omega), up_j (show 21 ≠ 26 by omega), nI_p1, up_at, nI_subone b (show b < 2 ^ 30 by omega)]
              · simp only [f_X9_reading, s_noCaller hR.1 h4, bnd_s, bI_f nk, bI_f nm, e00, e10, if_true, if_false, s_isShiftR, bI_t hl, bI_t hg, s_inI, u_0, u_20, bI_t hv, dR.1, if_neg h8n, lenR_12, lenR_13, lenR_14, lenR_15, lenR_16, if_pos (ixN (show b < 8 by omega) (by omega)), q_clamp (show b < 2 ^ 31 by omega), up_j (show 0 ≠ 12 by omega), up_j (show 0 ≠ 13 by omega), up_j (show 0 ≠ 14 by omega), up_j (show 0 ≠ 15 by omega), up_j (show 0 ≠ 16 by omega), nI_p1, up_at, nI_subone b (show b < 2 ^ 30 by omega)]
              · refine ⟨⟨c, n, kd, pt, a, sw, sm, sh, b + 1, nset rh b k, nset rw_ b m, nset rl b l, nset rg b g, nset rv b v, hB, ChC_f h4 hC ?_, ChR_f hR ?_ ?_ ?_ ?_, aB, AiC_f aC ?_, AiR_f aR ?_ ?_, ⟨by omega, fun s hs => ?_⟩, ⟨up_at, fun s hs => ?_⟩, ⟨up_at, fun s hs => ?_⟩, ShR_f hS ?_ ?_, GdC_of hG ?_ ?_, ?_⟩, ?_⟩
                · intro j _ _; rw [up_j (by omega), up_j (by omega), up_j (by omega), up_j (by omega), up_j (by omega), up_j (by omega)]
                · rw [up_j (by omega), up_j (by omega), up_j (by omega), up_j (by omega), up_j (by omega), up_j (by omega)]
                · rw [up_j (by omega), up_j (by omega), up_j (by omega), up_j (by omega), up_j (by omega), up_j (by omega)]
                · rw [up_i (by omega), up_j (by omega), up_j (by omega), up_j (by omega), up_j (by omega), up_j (by omega)]
                · rw [up_i (by omega), up_j (by omega), up_j (by omega), up_j (by omega), up_j (by omega), up_j (by omega)]
                · intro j _ _; rw [up_j (by omega), up_j (by omega), up_j (by omega), up_j (by omega), up_j (by omega), up_j (by omega)]
                · intro j _ _; rw [up_j (by omega), up_j (by omega), up_j (by omega), up_j (by omega), up_j (by omega), up_j (by omega)]
                · rw [up_i (by omega), up_j (by omega), up_j (by omega), up_j (by omega), up_j (by omega), up_j (by omega)]
                · by_cases q : s = b
                  · subst q; rw [nset_at, nset_at, nset_at, nset_at]; exact ⟨hk', hm', hl, hg⟩
                  · rw [nset_ne q, nset_ne q, nset_ne q, nset_ne q]; exact dB.2 s (by omega)
                · by_cases q : s = b
                  · subst q; rw [nset_at, nset_at, nset_at, nset_at, nset_at]
                    refine ⟨?_, ?_, ?_, ?_, ?_⟩
                    · rw [up_j (by omega), up_j (by omega), up_j (by omega), up_j (by omega), up_j (by omega), up_at]
                    · rw [up_j (by omega), up_j (by omega), up_j (by omega), up_j (by omega), up_at]
                    · rw [up_j (by omega), up_j (by omega), up_j (by omega), up_at]
                    · rw [up_j (by omega), up_j (by omega), up_at]
                    · rw [up_j (by omega), up_at]
                  · obtain ⟨e1, e2, e3, e4, e5⟩ := dC.2 s (by omega)
                    rw [nset_ne q, nset_ne q, nset_ne q, nset_ne q, nset_ne q]
                    refine ⟨?_, ?_, ?_, ?_, ?_⟩
                    · rw [up_j (by omega), up_j (by omega), up_j (by omega), up_j (by omega), up_j (by omega), up_i q]; exact e1
                    · rw [up_j (by omega), up_j (by omega), up_j (by omega), up_j (by omega), up_i q, up_j (by omega)]; exact e2
                    · rw [up_j (by omega), up_j (by omega), up_j (by omega), up_i q, up_j (by omega), up_j (by omega)]; exact e3
                    · rw [up_j (by omega), up_j (by omega), up_i q, up_j (by omega), up_j (by omega), up_j (by omega)]; exact e4
                    · rw [up_j (by omega), up_i q, up_j (by omega), up_j (by omega), up_j (by omega), up_j (by omega)]; exact e5
                · by_cases q : s = b
                  · subst q; rw [nset_at, nset_at, nset_at, nset_at, nset_at]
                    refine ⟨?_, ?_, ?_, ?_, ?_⟩
                    · rw [up_j (by omega), up_j (by omega), up_j (by omega), up_j (by omega), up_j (by omega), up_at]
                    · rw [up_j (by omega), up_j (by omega), up_j (by omega), up_j (by omega), up_at]
                    · rw [up_j (by omega), up_j (by omega), up_j (by omega), up_at]
                    · rw [up_j (by omega), up_j (by omega), up_at]
                    · rw [up_j (by omega), up_at]
                  · obtain ⟨e1, e2, e3, e4, e5⟩ := dR.2 s (by omega)
                    rw [nset_ne q, nset_ne q, nset_ne q, nset_ne q, nset_ne q]
                    refine ⟨?_, ?_, ?_, ?_, ?_⟩
                    · rw [up_j (by omega), up_j (by omega), up_j (by omega), up_j (by omega), up_j (by omega), up_i q]; exact e1
                    · rw [up_j (by omega), up_j (by omega), up_j (by omega), up_j (by omega), up_i q, up_j (by omega)]; exact e2
                    · rw [up_j (by omega), up_j (by omega), up_j (by omega), up_i q, up_j (by omega), up_j (by omega)]; exact e3
                    · rw [up_j (by omega), up_j (by omega), up_i q, up_j (by omega), up_j (by omega), up_j (by omega)]; exact e4
                    · rw [up_j (by omega), up_i q, up_j (by omega), up_j (by omega), up_j (by omega), up_j (by omega)]; exact e5
                · intro j _; rw [up_j (by omega), up_j (by omega), up_j (by omega), up_j (by omega), up_j (by omega), up_j (by omega)]
                · intro j _ _; rw [up_j (by omega), up_j (by omega), up_j (by omega), up_j (by omega), up_j (by omega), up_j (by omega)]
                · rw [up_j (by omega), up_j (by omega), up_j (by omega), up_j (by omega), up_j (by omega), up_j (by omega)]
                · rw [up_j (by omega), up_j (by omega), up_j (by omega), up_j (by omega), up_j (by omega), up_j (by omega)]
                · rw [up_j (by omega), up_j (by omega), up_j (by omega), up_j (by omega), up_j (by omega), up_j (by omega), up_i (by omega), up_j (by omega), up_j (by omega), up_j (by omega), up_j (by omega), up_j (by omega)]; exact hT
                · rw [up_j (by omega), up_j (by omega), up_j (by omega), up_j (by omega), up_j (by omega), up_j (by omega), up_i (by omega), up_j (by omega), up_j (by omega), up_j (by omega), up_j (by omega), up_j (by omega)]; exact hF
          · refine ⟨-2, σ, ρ, ?_, ?_, h⟩
            · simp only [f_X8_reading, s_has hC.1 h4, bnd_s, bI_t hk, bI_t hm, s_isShiftC, bI_t hl, bI_t hg, e10, if_false, s_W, t_0, t_20, bI_f hv, e00, if_true]
            · simp only [f_X9_reading, s_noCaller hR.1 h4, bnd_s, bI_f nk, bI_f nm, e00, e10, if_true, if_false, s_isShiftR, bI_t hl, bI_t hg, s_inI, u_0, u_20, bI_f hv]
        · refine ⟨-2, σ, ρ, ?_, ?_, h⟩
          · simp only [f_X8_reading, s_has hC.1 h4, bnd_s, bI_t hk, bI_t hm, s_isShiftC, bI_t hl, bI_f hg, e10, if_false, e00, if_true]
          · simp only [f_X9_reading, s_noCaller hR.1 h4, bnd_s, bI_f nk, bI_f nm, e00, e10, if_true, if_false, s_isShiftR, bI_t hl, bI_f hg]
      · refine ⟨-2, σ, ρ, ?_, ?_, h⟩
        · simp only [f_X8_reading, s_has hC.1 h4, bnd_s, bI_t hk, bI_t hm, s_isShiftC, bI_f hl, e10, if_false, e00, if_true]
        · simp only [f_X9_reading, s_noCaller hR.1 h4, bnd_s, bI_f nk, bI_f nm, e00, e10, if_true, s_isShiftR, bI_f hl]
    · refine ⟨-1, σ, ρ, ?_, ?_, h⟩
      · simp only [f_X8_reading, s_has hC.1 h4, bnd_s, bI_t hk, bI_f hm, e10, if_false, e00, if_true]
      · simp only [f_X9_reading, s_noCaller hR.1 h4, bnd_s, bI_f nk, bI_t hm, e00, e10, if_true, if_false]
  · refine ⟨-1, σ, ρ, ?_, ?_, h⟩
    · simp only [f_X8_reading, s_has hC.1 h4, bnd_s, bI_f hk, e00, if_true]
    · simp only [f_X9_reading, s_noCaller hR.1 h4, bnd_s, bI_t hk, e10, if_false]
theorem pr_as {σ ρ : my_M} (h : Rel σ ρ) (x y : Int32) : ∃ (r : Int32) (σ1 ρ1 : my_M), f_X8_as σ x y = some (r, σ1) ∧ f_X9_as ρ x y = some (r, ρ1) ∧ Rel σ1 ρ1 := by
  obtain ⟨⟨c, n, kd, pt, a, sw, sm, sh, b, rh, rw_, rl, rg, rv, hB, hC, hR, aB, aC, aR, dB, dC, dR, hS, hG, hT⟩, hF⟩ := id h
  have h4 := hB.1
  have eC : my_up σ 0 8 0 1 1 = nI c := by rw [up_j (by omega)]; exact hC.1
  by_cases hk : iv x 0 ((c : Int) - 1)
  · obtain ⟨k, hk', rfl⟩ := cal hk
    have nk : ¬ ¬ iv (nI k) 0 ((c : Int) - 1) := fun q => q hk
    have k1 : my_up σ 0 8 0 (3 + k) 0 = nI (kd k) := by rw [up_j (by omega)]; exact hC.2.2.1 k hk'
    have k2 := hR.2.2.1 k hk'
    by_cases hy : iv y 0 2
    · by_cases hq : nI (kd k) < y
      · refine ⟨-10 - 2, my_up (my_up σ 0 8 0) 0 8 2, my_up ρ 0 0 2, ?_, ?_, ?_⟩
        · simp only [f_X8_as, s_has eC h4, bnd_s, bI_t hk, e10, if_false, s_W, t_0, t_2, bI_t hy, if_pos (ixN (show k < 4 by omega) (by omega)), q_clamp (show k < 2 ^ 31 by omega), k1, if_pos hq, f_X8_faulted]
        · simp only [f_X9_as, s_noCaller hR.1 h4, bnd_s, bI_f nk, e00, e10, if_true, if_false, s_inI, u_0, u_2, bI_t hy, lenR_1, if_pos (ixN (show k < 4 by omega) (by omega)), q_clamp (show k < 2 ^ 31 by omega), k2, if_pos hq, f_X9_failed]
        · rw [up_up]; exact Rel_set h.1
      · refine ⟨1, my_up σ 0 8 0, my_up ρ 0 0 0, ?_, ?_, Rel_set h.1⟩
        · simp only [f_X8_as, s_has eC h4, bnd_s, bI_t hk, e10, if_false, s_W, t_0, t_2, bI_t hy, if_pos (ixN (show k < 4 by omega) (by omega)), q_clamp (show k < 2 ^ 31 by omega), k1, if_neg hq]
        · simp only [f_X9_as, s_noCaller hR.1 h4, bnd_s, bI_f nk, e00, e10, if_true, if_false, s_inI, u_0, u_2, bI_t hy, lenR_1, if_pos (ixN (show k < 4 by omega) (by omega)), q_clamp (show k < 2 ^ 31 by omega), k2, if_neg hq, f_X9_refused]
    · refine ⟨-2, my_up σ 0 8 0, my_up ρ 0 0 0, ?_, ?_, Rel_set h.1⟩
      · simp only [f_X8_as, s_has eC h4, bnd_s, bI_t hk, e10, if_false, s_W, t_0, t_2, bI_f hy, e00, if_true]
      · simp only [f_X9_as, s_noCaller hR.1 h4, bnd_s, bI_f nk, e00, if_true, s_inI, u_0, u_2, bI_f hy, f_X9_refused]
  · refine ⟨-1, my_up σ 0 8 0, my_up ρ 0 0 0, ?_, ?_, Rel_set h.1⟩
    · simp only [f_X8_as, s_has eC h4, bnd_s, bI_f hk, e00, if_true]
    · simp only [f_X9_as, s_noCaller hR.1 h4, bnd_s, bI_t hk, e10, if_false, f_X9_refused]
