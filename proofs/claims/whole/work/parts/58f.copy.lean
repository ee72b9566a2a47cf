theorem pr_copy {σ ρ : my_M} (h : Rel σ ρ) (x y x' y' z : Int32) : ∃ (r : Int32) (σ1 ρ1 : my_M), f_X8_copy σ x y x' y' z = some (r, σ1) ∧ f_X9_copy ρ x y x' y' z = some (r, ρ1) ∧ Rel σ1 ρ1 := by
  have hS := RelX_S h.1
  have hN := NF_big
  by_cases hx : iv x 0 3
  · obtain ⟨k, hk, rfl⟩ := sht hx
    have nx : ¬ ¬ iv (nI k) 0 3 := fun q => q hx
    by_cases hx' : iv x' 0 3
    · obtain ⟨l, hl, rfl⟩ := sht hx'
      have nx' : ¬ ¬ iv (nI l) 0 3 := fun q => q hx'
      rcases hS k hk with ⟨q1, q2⟩ | ⟨q1, L, ln, q2, q3, q4, q5, q6, q7, q8⟩
      · refine ⟨-10 - 1, my_up (my_up σ 0 8 0) 0 8 1, my_up ρ 0 0 1, ?_, ?_, ?_⟩
        · simp only [f_X8_copy, s_isSheetC, bnd_s, bI_t hx, bI_t hx', e10, if_false, if_pos (ixN hk (by omega)), if_pos (ixN hl (by omega)), q_clamp (show k < 2 ^ 31 by omega), fC_S (show 32 + k ≠ 0 by omega), q1, if_true, f_X8_faulted]
        · simp only [f_X9_copy, s_noSheetR, bnd_s, bI_f nx, bI_f nx', e00, if_true, lenR_17, if_pos (ixN hk (by omega)), q_clamp (show k < 2 ^ 31 by omega), q2, if_pos (show (-1 : Int32) < 0 by decide), f_X9_failed]
        · rw [up_up]; exact Rel_set h.1
      · have nL : ¬ nI L < 0 := by rw [← nI_0, nIlt (by omega) (by omega)]; omega
        rcases hS l hl with ⟨p1, p2⟩ | ⟨p1, M, mn, p2, p3, p4, p5, p6, p7, p8⟩
        · refine ⟨-10 - 1, my_up (my_up σ 0 8 0) 0 8 1, my_up ρ 0 0 1, ?_, ?_, ?_⟩
          · simp only [f_X8_copy, s_isSheetC, bnd_s, bI_t hx, bI_t hx', e10, if_false, if_pos (ixN hk (by omega)), if_pos (ixN hl (by omega)), q_clamp (show k < 2 ^ 31 by omega), q_clamp (show l < 2 ^ 31 by omega), fC_S (show 32 + k ≠ 0 by omega), fC_S (show 32 + l ≠ 0 by omega), q1, p1, if_true, f_X8_faulted]
          · simp only [f_X9_copy, s_noSheetR, bnd_s, bI_f nx, bI_f nx', e00, if_true, lenR_17, if_pos (ixN hk (by omega)), if_pos (ixN hl (by omega)), q_clamp (show k < 2 ^ 31 by omega), q_clamp (show l < 2 ^ 31 by omega), q7, if_neg nL, p2, if_neg (show ¬ (0 : Int32) ≤ -1 by decide), f_X9_failed]
          · rw [up_up]; exact Rel_set h.1
        · have nM : (0 : Int32) ≤ nI M := by rw [← nI_0, nIle (by omega) (by omega)]; omega
          have q6' : my_up σ 0 8 0 (32 + k) 2 = nI L := by rw [fC_S (by omega)]; exact q6
          have p6' : my_up σ 0 8 0 (32 + l) 2 = nI M := by rw [fC_S (by omega)]; exact p6
          by_cases hm : nI ln = nI mn
          · by_cases h1 : hold y z L
            · have n1 : ¬ ¬ hold y z L := fun q => q h1
              by_cases h2 : hold y' z M
              · have n2 : ¬ ¬ hold y' z M := fun q => q h2
                obtain ⟨a1, a2, a3⟩ := h1
                obtain ⟨c1, c2, c3⟩ := h2
                obtain ⟨p, hp, rfl⟩ := q_of (c := 61) a1 (by omega)
                obtain ⟨m, hm', rfl⟩ := q_of (c := 61) a2 (by omega)
                obtain ⟨q, hq, rfl⟩ := q_of (c := 61) c1 (by omega)
                have tp := q_n (show p < 2 ^ 31 by omega)
                have tm := q_n (show m < 2 ^ 31 by omega)
                have tq := q_n (show q < 2 ^ 31 by omega)
                have pm : p + m ≤ L := by rw [tp, tm] at a3; omega
                have qm : q + m ≤ M := by rw [tq, tm] at c3; omega
                have ok : my_cpok layC (36 + k) (36 + l) (nI p) (nI q) (nI m) := by
                  unfold my_cpok
                  rw [lenC_s hk, lenC_s hl, q_clamp (show p < 2 ^ 31 by omega), q_clamp (show q < 2 ^ 31 by omega), q_clamp (show m < 2 ^ 31 by omega), q_lt, q_lt, q_lt, t_0, tp, tq, tm]
                  omega
                obtain ⟨υ1, u1, u2, u3⟩ := g_take (l := l) (q := q) hk (show p + m ≤ 60 by omega) m 0 my_NF ρ (by omega) (by omega)
                obtain ⟨υ, v1, v2, v3⟩ := g_give hl (show q + m ≤ 60 by omega) m 0 (my_NF - m - 1) υ1 (by omega) (by omega)
                rw [nI_0] at u1 v1
                rw [v1] at u1
                refine ⟨nI m, my_cp (my_up σ 0 8 0) (36 + k) (36 + l) (nI p) (nI q) (nI m), my_up υ 0 0 0, ?_, ?_, ?_⟩
                · simp only [f_X8_copy, s_isSheetC, bnd_s, bI_t hx, bI_t hx', e10, if_false, if_pos (ixN hk (by omega)), if_pos (ixN hl (by omega)), q_clamp (show k < 2 ^ 31 by omega), q_clamp (show l < 2 ^ 31 by omega), fC_S (show 32 + k ≠ 0 by omega), fC_S (show 32 + l ≠ 0 by omega), q1, p1, q4, p4, if_pos hm, s_holds hk q6' q2, s_holds hl p6' p2, bI_t (show hold (nI p) (nI m) L from ⟨a1, a2, a3⟩), bI_t (show hold (nI q) (nI m) M from ⟨c1, c2, c3⟩), if_pos ok]
                · rw [← u1]
                  simp only [f_X9_copy, s_noSheetR, bnd_s, bI_f nx, bI_f nx', e00, if_true, lenR_17, lenR_18, if_pos (ixN hk (by omega)), if_pos (ixN hl (by omega)), q_clamp (show k < 2 ^ 31 by omega), q_clamp (show l < 2 ^ 31 by omega), q7, if_neg nL, p7, if_pos nM, q5, p5, if_pos hm, s_beyond q2, s_beyond p2, bI_f n1, bI_f n2]
                · refine Rel_sh0 h.1 (fun j hj => cp_j (by omega)) (fun j hj => by rw [v2 j (by omega), u2 j (by omega)]) (ShR_at (k := l) (RelX_S (RelX_fC (x := 0) h.1)) (fun j j1 j2 j3 => cp_j j3) (fun i _ => by rw [v2 17 (by omega), u2 17 (by omega)]) (fun i _ => by rw [v2 18 (by omega), u2 18 (by omega)]) (fun i hi => ?_) (Or.inr ⟨?_, M, mn, p2, p3, ?_, ?_, ?_, ?_, fun i hi => ?_⟩) hl)
                  · rw [v3 i, if_neg (by omega), u2 19 (by omega)]
                  · rw [cp_j (by omega), fC_S (by omega)]; exact p1
                  · rw [cp_j (by omega), fC_S (by omega)]; exact p4
                  · rw [v2 18 (by omega), u2 18 (by omega)]; exact p5
                  · rw [cp_j (by omega), fC_S (by omega)]; exact p6
                  · rw [v2 17 (by omega), u2 17 (by omega)]; exact p7
                  · rw [cp_at (by omega) (by omega) (by omega), v3 _, fC_S (by omega), fC_S (by omega)]
                    by_cases e : q ≤ i ∧ i < q + m
                    · rw [if_pos e, if_pos (by omega), u3 _, if_pos (by omega), q8 _ (by omega)]
                      congr 1
                      omega
                    · rw [if_neg e, if_neg (by omega), u2 19 (by omega)]
                      exact p8 i hi
              · refine ⟨-10 - 3, my_up (my_up σ 0 8 0) 0 8 3, my_up ρ 0 0 3, ?_, ?_, ?_⟩
                · simp only [f_X8_copy, s_isSheetC, bnd_s, bI_t hx, bI_t hx', e10, if_false, if_pos (ixN hk (by omega)), if_pos (ixN hl (by omega)), q_clamp (show k < 2 ^ 31 by omega), q_clamp (show l < 2 ^ 31 by omega), fC_S (show 32 + k ≠ 0 by omega), fC_S (show 32 + l ≠ 0 by omega), q1, p1, q4, p4, if_pos hm, s_holds hk q6' q2, s_holds hl p6' p2, bI_t h1, bI_f h2, e00, if_true, f_X8_faulted]
                · simp only [f_X9_copy, s_noSheetR, bnd_s, bI_f nx, bI_f nx', e00, e10, if_true, if_false, lenR_17, lenR_18, if_pos (ixN hk (by omega)), if_pos (ixN hl (by omega)), q_clamp (show k < 2 ^ 31 by omega), q_clamp (show l < 2 ^ 31 by omega), q7, if_neg nL, p7, if_pos nM, q5, p5, if_pos hm, s_beyond q2, s_beyond p2, bI_f n1, bI_t h2, f_X9_failed]
                · rw [up_up]; exact Rel_set h.1
            · refine ⟨-10 - 3, my_up (my_up σ 0 8 0) 0 8 3, my_up ρ 0 0 3, ?_, ?_, ?_⟩
              · simp only [f_X8_copy, s_isSheetC, bnd_s, bI_t hx, bI_t hx', e10, if_false, if_pos (ixN hk (by omega)), if_pos (ixN hl (by omega)), q_clamp (show k < 2 ^ 31 by omega), q_clamp (show l < 2 ^ 31 by omega), fC_S (show 32 + k ≠ 0 by omega), fC_S (show 32 + l ≠ 0 by omega), q1, p1, q4, p4, if_pos hm, s_holds hk q6' q2, bI_f h1, e00, if_true, f_X8_faulted]
              · simp only [f_X9_copy, s_noSheetR, bnd_s, bI_f nx, bI_f nx', e00, e10, if_true, if_false, lenR_17, lenR_18, if_pos (ixN hk (by omega)), if_pos (ixN hl (by omega)), q_clamp (show k < 2 ^ 31 by omega), q_clamp (show l < 2 ^ 31 by omega), q7, if_neg nL, p7, if_pos nM, q5, p5, if_pos hm, s_beyond q2, bI_t h1, f_X9_failed]
              · rw [up_up]; exact Rel_set h.1
          · refine ⟨-10 - 2, my_up (my_up σ 0 8 0) 0 8 2, my_up ρ 0 0 2, ?_, ?_, ?_⟩
            · simp only [f_X8_copy, s_isSheetC, bnd_s, bI_t hx, bI_t hx', e10, if_false, if_pos (ixN hk (by omega)), if_pos (ixN hl (by omega)), q_clamp (show k < 2 ^ 31 by omega), q_clamp (show l < 2 ^ 31 by omega), fC_S (show 32 + k ≠ 0 by omega), fC_S (show 32 + l ≠ 0 by omega), q1, p1, q4, p4, if_neg hm, f_X8_faulted]
            · simp only [f_X9_copy, s_noSheetR, bnd_s, bI_f nx, bI_f nx', e00, if_true, lenR_17, lenR_18, if_pos (ixN hk (by omega)), if_pos (ixN hl (by omega)), q_clamp (show k < 2 ^ 31 by omega), q_clamp (show l < 2 ^ 31 by omega), q7, if_neg nL, p7, if_pos nM, q5, p5, if_neg hm, f_X9_failed]
            · rw [up_up]; exact Rel_set h.1
    · refine ⟨-1, my_up σ 0 8 0, my_up ρ 0 0 0, ?_, ?_, Rel_set h.1⟩
      · simp only [f_X8_copy, s_isSheetC, bnd_s, bI_t hx, bI_f hx', e10, if_false, e00, if_true]
      · simp only [f_X9_copy, s_noSheetR, bnd_s, bI_f nx, bI_t hx', e00, e10, if_true, if_false, f_X9_refused]
  · refine ⟨-1, my_up σ 0 8 0, my_up ρ 0 0 0, ?_, ?_, Rel_set h.1⟩
    · simp only [f_X8_copy, s_isSheetC, bnd_s, bI_f hx, e00, if_true]
    · simp only [f_X9_copy, s_noSheetR, bnd_s, bI_t hx, e10, if_false, f_X9_refused]
