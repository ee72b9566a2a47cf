theorem day_R {ρ : my_M} {k m c : Nat} {y z x : Int32} (hx : iv (nI k) 0 3) (hy : iv y 0 2) (hm : iv (nI m) 0 20) (hd : dayQ x) (hc : ρ 0 1 = nI c) (c1 : ¬ nI c = 0) : f_X9_day ρ (nI k) y z (nI m) x = (my_bnd (f_X9_cellsBarred ρ (nI k) y z (2 * (Int32.toInt64 (nI m)))) fun r7 σ7 => (if 0 ≤ r7 then (g_X9_day my_NF).1 σ7 (nI m) x (((60 * nI k) + z)) 0 else some (r7, σ7))) := by
  have nx : ¬ ¬ iv (nI k) 0 3 := fun q => q hx
  by_cases h1 : iv x 0 4
  · simp only [f_X9_day, s_noSheetR, bnd_s, bI_f nx, e00, if_true, s_inI, u_0, u_2, u_20, u_4, bI_t hy, e10, if_false, bI_t hm, bI_t h1, hc, if_neg c1]
  · have h2 : iv x 10 13 := hd.resolve_left h1
    simp only [f_X9_day, s_noSheetR, bnd_s, bI_f nx, e00, if_true, s_inI, u_0, u_2, u_20, u_4, bI_t hy, e10, if_false, bI_t hm, bI_f h1, u_10, u_13, bI_t h2, hc, if_neg c1]
theorem pr_day {σ ρ : my_M} (h : Rel σ ρ) (x y z m' x' : Int32) : ∃ (r : Int32) (σ1 ρ1 : my_M), f_X8_day σ x y z m' x' = some (r, σ1) ∧ f_X9_day ρ x y z m' x' = some (r, ρ1) ∧ Rel σ1 ρ1 := by
  obtain ⟨⟨c, n, kd, pt, a, sw, sm, sh, b, rh, rw_, rl, rg, rv, hB, hC, hR, aB, aC, aR, dB, dC, dR, hS, hG, hT⟩, hF⟩ := id h
  have hN := NF_big
  have h4 := hB.1
  by_cases hx : iv x 0 3
  · obtain ⟨k, hk, rfl⟩ := sht hx
    have nx : ¬ ¬ iv (nI k) 0 3 := fun q => q hx
    by_cases hy : iv y 0 2
    · by_cases hm : iv m' 0 20
      · obtain ⟨m, hm', rfl⟩ := iv_nat (m := 20) hm
        by_cases hd : dayQ x'
        · by_cases c0 : c = 0
          · have c1 : nI c = 0 := by rw [c0]; exact nI_0
            refine ⟨-3, my_up σ 0 8 0, my_up ρ 0 0 0, ?_, ?_, Rel_set h.1⟩
            · simp only [f_X8_day, s_isSheetC, bnd_s, bI_t hx, e10, if_false, s_isLaneC, bI_t hy, s_W, t_0, t_20, bI_t hm, s_dayQ, bI_t hd, fC_S (show 1 ≠ 0 by omega), hC.1, if_pos c1]
            · by_cases h1 : iv x' 0 4
              · simp only [f_X9_day, s_noSheetR, bnd_s, bI_f nx, e00, if_true, s_inI, u_0, u_2, u_20, u_4, bI_t hy, e10, if_false, bI_t hm, bI_t h1, hR.1, if_pos c1, f_X9_refused]
              · simp only [f_X9_day, s_noSheetR, bnd_s, bI_f nx, e00, if_true, s_inI, u_0, u_2, u_20, u_4, bI_t hy, e10, if_false, bI_t hm, bI_f h1, u_10, u_13, bI_t (hd.resolve_left h1), hR.1, if_pos c1, f_X9_refused]
          · have c1 : ¬ nI c = 0 := by rw [← nI_0, nI_inj (by omega) (by omega)]; exact c0
            rw [day_R hx hy hm hd hR.1 c1]
            obtain ⟨tl, tg⟩ := two_l ⟨m, by omega⟩
            simp only at tl tg
            have i0 : 0 ≤ nI (2 * m) := by rw [← nI_0, nIle (by omega) (by omega)]; omega
            rcases hS k hk with ⟨q1, q2⟩ | ⟨q1, L, ln, q2, q3, q4, q5, q6, q7, q8⟩
            · refine ⟨-10 - 1, my_up (my_up σ 0 8 0) 0 8 1, my_up ρ 0 0 1, ?_, ?_, ?_⟩
              · simp only [f_X8_day, s_isSheetC, bnd_s, bI_t hx, e10, if_false, s_isLaneC, bI_t hy, s_W, t_0, t_20, bI_t hm, s_dayQ, bI_t hd, fC_S (show 1 ≠ 0 by omega), hC.1, if_neg c1, if_pos (ixN hk (by omega)), q_clamp (show k < 2 ^ 31 by omega), f_X6_faultAs, if_pos hk, fC_S (show 32 + k ≠ 0 by omega), q1, if_true, f_X8_faulted]
              · simp only [f_X9_cellsBarred, lenR_17, if_pos (ixN hk (by omega)), q_clamp (show k < 2 ^ 31 by omega), q2, if_pos (show (-1 : Int32) < 0 by decide), if_neg (show ¬ (0 : Int32) ≤ -1 by decide), f_X9_failed, bnd_s, if_neg (show ¬ (0 : Int32) ≤ -10 - 1 by decide)]
              · rw [up_up]; exact Rel_set h.1
            · have q6' : my_up σ 0 8 0 (32 + k) 2 = nI L := by rw [fC_S (by omega)]; exact q6
              have nL : ¬ nI L < 0 := by rw [← nI_0, nIlt (by omega) (by omega)]; omega
              have pL : 0 ≤ nI L := by rw [← nI_0, nIle (by omega) (by omega)]; omega
              by_cases hl : nI ln = y
              · by_cases hh : hold z (nI (2 * m)) L
                · obtain ⟨a1, a2, a3⟩ := id hh
                  have hh' : ¬ ¬ hold z (nI (2 * m)) L := fun q => q hh
                  have tm := q_n (show 2 * m < 2 ^ 31 by omega)
                  rw [tm] at a3
                  obtain ⟨p, hp, rfl⟩ := q_of (c := 61) a1 (by omega)
                  rw [q_n (show p < 2 ^ 31 by omega)] at a3
                  have hp2 : p + 2 * m ≤ L := by omega
                  have hw2 : ∀ i, i < 2 * m → ρ 19 (60 * k + p + i) = σ (36 + k) (p + i) := fun i hi => by rw [q8 (p + i) (by omega), Nat.add_assoc]
                  have eA := g_acts (σ := my_up σ 0 8 0) (k := k) (p := p) (m := m) (w := fun i => σ (36 + k) (p + i)) hk (by omega) (fun i hi => by rw [fC_S (by omega)]) m 0 my_NF (by omega) (by omega)
                  have eT := g_told (ρ := ρ) (q := 60 * k + p) (m := m) (w := fun i => σ (36 + k) (p + i)) (by omega) hw2 x' m 0 my_NF (by omega) (by omega)
                  rw [nI_0] at eA eT
                  have eR0 : (my_bnd (f_X9_cellsBarred ρ (nI k) y (nI p) (2 * (Int32.toInt64 (nI m)))) fun r7 σ7 => (if 0 ≤ r7 then (g_X9_day my_NF).1 σ7 (nI m) x' (((60 * nI k) + nI p)) 0 else some (r7, σ7))) = (g_X9_day my_NF).1 ρ (nI m) x' (nI (60 * k + p)) 0 := by
                    simp only [f_X9_cellsBarred, lenR_17, lenR_18, if_pos (ixN hk (by omega)), q_clamp (show k < 2 ^ 31 by omega), q7, if_neg nL, q5, if_pos hl, if_pos pL, tl, if_pos tg, s_beyond q2, bI_f hh', bnd_s, e00, if_true, if_pos (show (0 : Int32) ≤ 0 by decide), sx]
                  rw [eR0, eT]
                  by_cases hs : soB (fun i => decide (okP (fun i => σ (36 + k) (p + i)) i)) m 0 = true
                  · rw [if_pos hs]
                    have ok : ∀ i, i < m → okP (fun i => σ (36 + k) (p + i)) i := fun i hi => of_decide_eq_true (soB_all m 0 hs i (by omega) (by omega))
                    obtain ⟨τ1, l1, l2, l3⟩ := s_like (σ := my_up σ 0 8 0) aB.1 (AiC_f aC (fun j _ _ => up_j (by omega)))
                    obtain ⟨υ1, s1, s2, s3, -⟩ := g_save (m := nI m) (q := nI (60 * k + p)) x' 8 0 (my_NF - m - 1) (my_up ρ 0 15 (ρ 0 11)) (by omega) (by omega)
                    rw [nI_0] at s1
                    rw [s1]
                    have hC1 : ChC c n kd pt τ1 := ChC_f h4 hC (fun j _ _ => by rw [l3 j (by omega), up_j (by omega)])
                    have u0 : ∀ i, i ≠ 15 → υ1 0 i = ρ 0 i := fun i hi => by rw [s2 0 (by omega) (by omega) (by omega), up_i hi]
                    have uj : ∀ j, j ≠ 0 → j ≠ 9 → j ≠ 10 → j ≠ 11 → υ1 j = ρ j := fun j j0 j9 j10 j11 => by rw [s2 j j9 j10 j11, up_j j0]
                    have hR1 : ChR c n kd pt υ1 := ChR_f hR (uj 1 (by omega) (by omega) (by omega) (by omega)) (uj 2 (by omega) (by omega) (by omega) (by omega)) (u0 1 (by omega)) (u0 2 (by omega))
                    have aR1 : AiR a sw sm sh υ1 := AiR_f aR (fun j _ _ => uj j (by omega) (by omega) (by omega) (by omega)) (u0 11 (by omega))
                    obtain ⟨τ2, υ2, f1, f2, f3⟩ := g_pairs hB hC1 hR1 (k := k) (p := p) (q := 60 * k + p) (m := m) (w := fun i => σ (36 + k) (p + i)) hk (by omega) (by omega) (fun i hi => by rw [l3 _ (by omega), fC_S (by omega)]) (fun i hi => by rw [uj 19 (by omega) (by omega) (by omega) (by omega)]; exact hw2 i hi) ok x' m 0 my_NF my_NF τ1 υ1 a sw sm sh aB l2 aR1 (fun _ _ => rfl) ⟨fun _ _ _ _ _ => rfl, fun _ _ => rfl⟩ (by omega) (by omega) (by omega)
                    rw [nI_0] at f3
                    have fC2 : FC (my_up σ 0 8 0) τ2 := FC_tr l3 f1
                    -- how the reference ends, whatever the answer
                    have fin : ∀ v, ∃ υ3, (g_X9_day (my_NF - m - 1 - 8 - 1)).2.2 (my_up υ2 0 11 (υ2 0 15)) v 0 = some (v, my_up υ3 0 0 0) ∧ ∀ τ3, FC (my_up σ 0 8 0) τ3 → Rel τ3 (my_up υ3 0 0 0) := by
                      intro v
                      obtain ⟨υ3, r1, r2, r3, -⟩ := g_rest v 8 0 (my_NF - m - 1 - 8 - 1) (my_up υ2 0 11 (υ2 0 15)) (by omega) (by omega)
                      rw [nI_0] at r1
                      refine ⟨υ3, r1, fun τ3 f => Rel_day h f (fun j hj => ?_) (fun i hi => ?_) (fun t ht => ?_)⟩
                      · rw [r2 j (by omega) (by omega) (by omega), up_j (by omega), f2.1 j (by omega) (by omega) (by omega) (by omega), uj j (by omega) (by omega) (by omega) (by omega)]
                      · rw [r2 0 (by omega) (by omega) (by omega)]
                        by_cases e : i = 11
                        · subst e
                          rw [up_at, f2.2 15 (by omega), s2 0 (by omega) (by omega) (by omega), up_at]
                        · rw [up_i e, f2.2 i e, u0 i (by omega)]
                      · obtain ⟨b1, b2, b3⟩ := r3 t (by omega) ht
                        obtain ⟨d1, d2, d3⟩ := s3 t (by omega) ht
                        rw [b1, b2, b3, up_j (by omega), up_j (by omega), up_j (by omega), f2.1 9 (by omega) (by omega) (by omega) (by omega), f2.1 10 (by omega) (by omega) (by omega) (by omega), f2.1 11 (by omega) (by omega) (by omega) (by omega), d1, d2, d3, up_j (by omega), up_j (by omega), up_j (by omega)]
                        exact ⟨rfl, rfl, rfl⟩
                    have eC0 : f_X8_day σ (nI k) y (nI p) (nI m) x' = (my_bnd (f_X8_firstWrong τ1 k (nI p) (nI m)) fun r11 σ11 => (if x' = 1 then some (r11, σ11) else (if r11 = (-9) then (my_bnd (f_X8_afterDay σ11 x') fun r12 σ12 => some (r12, σ12)) else some (((-100) - r11), σ11)))) := by
                      simp only [f_X8_day, s_isSheetC, bnd_s, bI_t hx, e10, if_false, s_isLaneC, bI_t hy, s_W, t_0, t_20, bI_t hm, s_dayQ, bI_t hd, fC_S (show 1 ≠ 0 by omega), hC.1, if_neg c1, if_pos (ixN hk (by omega)), q_clamp (show k < 2 ^ 31 by omega), f_X6_faultAs, if_pos hk, fC_S (show 32 + k ≠ 0 by omega), q1, q4, if_pos hl, two_i, if_pos i0, s_holds hk q6' q2, bI_t hh, if_true, f_X8_areActs, eA, bI_t hs, l1]
                    rw [eC0]
                    have fw : f_X8_firstWrong τ1 k (nI p) (nI m) = g_X8_firstWrong my_NF τ1 k (nI p) (nI m) 0 := by
                      unfold f_X8_firstWrong
                      rw [if_pos hk]
                    have dw : f_X9_dayOf υ1 (nI (60 * k + p)) (nI m) x' = g_X9_dayOf my_NF υ1 (nI (60 * k + p)) (nI m) x' (-9) 0 := rfl
                    rw [fw, dw]
                    rcases f3 with ⟨t, ht, g1, g2⟩ | ⟨a', sw', sm', sh', aB', aC', aR', g1, g2⟩
                    · rw [g1, g2, bnd_s, bnd_s]
                      obtain ⟨υ3, r1, r2⟩ := fin (if x' = 1 then nI t else -100 - nI t)
                      refine ⟨_, τ2, my_up υ3 0 0 0, ?_, r1, r2 τ2 fC2⟩
                      have n9 : ¬ nI t = -9 := by
                        rw [q_eq, q_n (by omega), t_m9]; omega
                      by_cases e1 : x' = 1
                      · rw [if_pos e1, if_pos e1]
                      · rw [if_neg e1, if_neg n9, if_neg e1]
                    · have hC2 : ChC c n kd pt τ2 := ChC_f h4 hC1 (fun j _ _ => f1 j (by omega))
                      have hR2 : ChR c n kd pt υ2 := ChR_f hR1 (f2.1 1 (by omega) (by omega) (by omega) (by omega)) (f2.1 2 (by omega) (by omega) (by omega) (by omega)) (f2.2 1 (by omega)) (f2.2 2 (by omega))
                      rw [g1, g2, bnd_s]
                      by_cases e1 : x' = 1
                      · obtain ⟨υ3, r1, r2⟩ := fin (-9)
                        refine ⟨-9, τ2, my_up υ3 0 0 0, ?_, ?_, r2 τ2 fC2⟩
                        · rw [if_pos e1]
                        · rw [← r1]
                          simp only [b_X9_dayOf_0, if_pos (show nI m ≤ nI m from Int32.le_refl _), if_pos e1, bnd_s]
                      · obtain ⟨v, τ3, k1, k2, k3⟩ := s_fin hB aB' hC2 aC' hR2 aR' hd e1 (nI (60 * k + p)) m
                        obtain ⟨υ3, r1, r2⟩ := fin v
                        refine ⟨v, τ3, my_up υ3 0 0 0, ?_, ?_, r2 τ3 (FC_tr fC2 k2)⟩
                        · rw [if_neg e1, if_pos rfl, k1, bnd_s]
                        · rw [k3, bnd_s]
                          exact r1
                  · rw [if_neg hs]
                    refine ⟨-2, my_up σ 0 8 0, my_up ρ 0 0 0, ?_, rfl, Rel_set h.1⟩
                    simp only [f_X8_day, s_isSheetC, bnd_s, bI_t hx, e10, if_false, s_isLaneC, bI_t hy, s_W, t_0, t_20, bI_t hm, s_dayQ, bI_t hd, fC_S (show 1 ≠ 0 by omega), hC.1, if_neg c1, if_pos (ixN hk (by omega)), q_clamp (show k < 2 ^ 31 by omega), f_X6_faultAs, if_pos hk, fC_S (show 32 + k ≠ 0 by omega), q1, q4, if_pos hl, two_i, if_pos i0, s_holds hk q6' q2, bI_t hh, if_true, f_X8_areActs, eA, bI_f hs, e00]
                · refine ⟨-10 - 3, my_up (my_up σ 0 8 0) 0 8 3, my_up ρ 0 0 3, ?_, ?_, ?_⟩
                  · simp only [f_X8_day, s_isSheetC, bnd_s, bI_t hx, e10, if_false, s_isLaneC, bI_t hy, s_W, t_0, t_20, bI_t hm, s_dayQ, bI_t hd, fC_S (show 1 ≠ 0 by omega), hC.1, if_neg c1, if_pos (ixN hk (by omega)), q_clamp (show k < 2 ^ 31 by omega), f_X6_faultAs, if_pos hk, fC_S (show 32 + k ≠ 0 by omega), q1, q4, if_pos hl, two_i, if_pos i0, s_holds hk q6' q2, bI_f hh, if_true, if_neg (show ¬ (3 : Int32) = 0 by decide), f_X8_faulted]
                  · simp only [f_X9_cellsBarred, lenR_17, lenR_18, if_pos (ixN hk (by omega)), q_clamp (show k < 2 ^ 31 by omega), q7, if_neg nL, q5, if_pos hl, if_pos pL, tl, if_pos tg, s_beyond q2, bI_t hh, bnd_s, e10, if_false, f_X9_failed, if_neg (show ¬ (0 : Int32) ≤ -10 - 3 by decide)]
                  · rw [up_up]; exact Rel_set h.1
              · refine ⟨-10 - 2, my_up (my_up σ 0 8 0) 0 8 2, my_up ρ 0 0 2, ?_, ?_, ?_⟩
                · simp only [f_X8_day, s_isSheetC, bnd_s, bI_t hx, e10, if_false, s_isLaneC, bI_t hy, s_W, t_0, t_20, bI_t hm, s_dayQ, bI_t hd, fC_S (show 1 ≠ 0 by omega), hC.1, if_neg c1, if_pos (ixN hk (by omega)), q_clamp (show k < 2 ^ 31 by omega), f_X6_faultAs, if_pos hk, fC_S (show 32 + k ≠ 0 by omega), q1, q4, if_neg hl, if_neg (show ¬ (2 : Int32) = 0 by decide), f_X8_faulted]
                · simp only [f_X9_cellsBarred, lenR_17, lenR_18, if_pos (ixN hk (by omega)), q_clamp (show k < 2 ^ 31 by omega), q7, if_neg nL, q5, if_neg hl, f_X9_failed, bnd_s, if_neg (show ¬ (0 : Int32) ≤ -10 - 2 by decide)]
                · rw [up_up]; exact Rel_set h.1
        · refine ⟨-2, my_up σ 0 8 0, my_up ρ 0 0 0, ?_, ?_, Rel_set h.1⟩
          · simp only [f_X8_day, s_isSheetC, bnd_s, bI_t hx, e10, if_false, s_isLaneC, bI_t hy, s_W, t_0, t_20, bI_t hm, s_dayQ, bI_f hd, e00, if_true]
          · simp only [f_X9_day, s_noSheetR, bnd_s, bI_f nx, e00, if_true, s_inI, u_0, u_2, u_20, u_4, bI_t hy, e10, if_false, bI_t hm, bI_f (show ¬ iv x' 0 4 from fun q => hd (Or.inl q)), u_10, u_13, bI_f (show ¬ iv x' 10 13 from fun q => hd (Or.inr q)), f_X9_refused]
      · refine ⟨-2, my_up σ 0 8 0, my_up ρ 0 0 0, ?_, ?_, Rel_set h.1⟩
        · simp only [f_X8_day, s_isSheetC, bnd_s, bI_t hx, e10, if_false, s_isLaneC, bI_t hy, s_W, t_0, t_20, bI_f hm, e00, if_true]
        · simp only [f_X9_day, s_noSheetR, bnd_s, bI_f nx, e00, if_true, s_inI, u_0, u_2, u_20, bI_t hy, e10, if_false, bI_f hm, f_X9_refused]
    · refine ⟨-2, my_up σ 0 8 0, my_up ρ 0 0 0, ?_, ?_, Rel_set h.1⟩
      · simp only [f_X8_day, s_isSheetC, bnd_s, bI_t hx, e10, if_false, s_isLaneC, bI_f hy, e00, if_true]
      · simp only [f_X9_day, s_noSheetR, bnd_s, bI_f nx, e00, if_true, s_inI, u_0, u_2, bI_f hy, f_X9_refused]
  · refine ⟨-1, my_up σ 0 8 0, my_up ρ 0 0 0, ?_, ?_, Rel_set h.1⟩
    · simp only [f_X8_day, s_isSheetC, bnd_s, bI_f hx, e00, if_true]
    · simp only [f_X9_day, s_noSheetR, bnd_s, bI_t hx, e10, if_false, f_X9_refused]
