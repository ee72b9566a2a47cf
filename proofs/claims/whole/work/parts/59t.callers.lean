theorem g_cp1 {B D d : Nat} (b6 : B ≤ 6) (hd : d < 4) : ∀ (r j F : Nat) (υ : my_M), j + r = B → r < F → υ 0 2 = nI B → ∃ υ', (g_X9_callers F).2 υ (nI d) (nI j) = (g_X9_callers (F - r - 1)).1 υ' (nI (d + 1)) ∧ (∀ x, x ≠ 2 → υ' x = υ x) ∧ ∀ t, υ' 2 t = if 6 * d + j ≤ t ∧ t < 6 * d + B then υ 4 t else υ 2 t := by
  intro r
  induction r with
  | zero =>
    intro j F υ hj hF hn
    obtain rfl : j = B := by omega
    obtain ⟨F, rfl⟩ : ∃ H, F = H + 1 := ⟨F - 1, by omega⟩
    refine ⟨υ, ?_, fun _ _ => rfl, fun t => by rw [if_neg (by omega)]⟩
    simp only [gs_X9_callers_1, b_X9_callers_1, hn, if_pos (show nI j ≤ nI j from Int32.le_refl _), nI_p1, Nat.sub_zero, Nat.add_sub_cancel]
  | succ r ih =>
    intro j F υ hj hF hn
    obtain ⟨F, rfl⟩ : ∃ H, F = H + 1 := ⟨F - 1, by omega⟩
    obtain ⟨υ', q1, q2, q3⟩ := ih (j + 1) F (my_up υ 2 (6 * d + j) (υ 4 (6 * d + j))) (by omega) (by omega) (by rw [up_j (by omega)]; exact hn)
    refine ⟨υ', ?_, fun x hx => by rw [q2 x hx, up_j hx], fun t => ?_⟩
    · rw [show F + 1 - (r + 1) - 1 = F - r - 1 by omega, ← q1]
      simp only [gs_X9_callers_1, b_X9_callers_1, hn, nIle (show B < 2 ^ 31 by omega) (show j < 2 ^ 31 by omega), if_neg (show ¬ B ≤ j by omega), six, lenR_2, lenR_4, if_pos (ixN (show 6 * d + j < 24 by omega) (by omega)), q_clamp (show 6 * d + j < 2 ^ 31 by omega), nI_p1]
    · rw [q3 t, up_j (show 4 ≠ 2 by omega)]
      by_cases e : t = 6 * d + j
      · subst e; rw [up_at, if_neg (by omega), if_pos (by omega)]
      · rw [up_i e]
        by_cases e2 : 6 * d + (j + 1) ≤ t ∧ t < 6 * d + B
        · rw [if_pos e2, if_pos (by omega)]
        · rw [if_neg e2, if_neg (by omega)]
theorem g_cp0 {B D : Nat} (b6 : B ≤ 6) (hD : D ≤ 4) : ∀ (s d F : Nat) (υ : my_M), d + s = D → s * 8 < F → υ 0 1 = nI D → υ 0 2 = nI B → ∃ υ', (g_X9_callers F).1 υ (nI d) = some (nI D, my_up (my_up (my_up υ' 0 11 0) 0 22 0) 0 0 0) ∧ (∀ x, x ≠ 1 → x ≠ 2 → υ' x = υ x) ∧ (∀ d', d ≤ d' → d' < D → υ' 1 d' = υ 3 d' ∧ ∀ j, j < B → υ' 2 (6 * d' + j) = υ 4 (6 * d' + j)) ∧ ∀ d', d' < d → υ' 1 d' = υ 1 d' ∧ ∀ j, j < B → υ' 2 (6 * d' + j) = υ 2 (6 * d' + j) := by
  intro s
  induction s with
  | zero =>
    intro d F υ hd hF h1 hn
    obtain rfl : d = D := by omega
    obtain ⟨F, rfl⟩ : ∃ H, F = H + 1 := ⟨F - 1, by omega⟩
    refine ⟨υ, ?_, fun _ _ _ => rfl, fun d' h1 h2 => by omega, fun _ _ => ⟨rfl, fun _ _ => rfl⟩⟩
    have e1 : my_up (my_up υ 0 11 0) 0 22 0 0 1 = nI d := by rw [up_i (by omega), up_i (by omega)]; exact h1
    simp only [gs_X9_callers_0, b_X9_callers_0, h1, if_pos (show nI d ≤ nI d from Int32.le_refl _), f_X9_refused, bnd_s, e1]
  | succ s ih =>
    intro d F υ hd hF h1 hn
    obtain ⟨F, rfl⟩ : ∃ H, F = H + 1 := ⟨F - 1, by omega⟩
    have s0 : ¬ nI D ≤ nI d := by rw [nIle (by omega) (by omega)]; omega
    obtain ⟨υ1, q1, q2, q3⟩ := g_cp1 (D := D) b6 (show d < 4 by omega) B 0 F (my_up υ 1 d (υ 3 d)) (by omega) (by omega) (by rw [up_j (by omega)]; exact hn)
    obtain ⟨υ', p1, p2, p3, p4⟩ := ih (d + 1) (F - B - 1) υ1 (by omega) (by omega) (by rw [q2 0 (by omega), up_j (by omega)]; exact h1) (by rw [q2 0 (by omega), up_j (by omega)]; exact hn)
    refine ⟨υ', ?_, fun x x1 x2 => by rw [p2 x x1 x2, q2 x x2, up_j x1], fun d' e1 e2 => ?_, fun d' e1 => ?_⟩
    · rw [p1, nI_0] at q1
      rw [← q1]
      simp only [gs_X9_callers_0, b_X9_callers_0, h1, if_neg s0, lenR_1, lenR_3, if_pos (ixN (show d < 4 by omega) (by omega)), q_clamp (show d < 2 ^ 31 by omega)]
    · by_cases e : d' = d
      · subst e
        obtain ⟨g1, g2⟩ := p4 d' (by omega)
        refine ⟨by rw [g1, q2 1 (by omega), up_at], fun j hj => ?_⟩
        rw [g2 j hj, q3 _, if_pos (by omega), up_j (by omega)]
      · obtain ⟨g1, g2⟩ := p3 d' (by omega) e2
        refine ⟨by rw [g1, q2 3 (by omega), up_j (by omega)], fun j hj => ?_⟩
        rw [g2 j hj, q2 4 (by omega), up_j (by omega)]
    · obtain ⟨g1, g2⟩ := p4 d' (by omega)
      refine ⟨by rw [g1, q2 1 (by omega), up_i (by omega)], fun j hj => ?_⟩
      rw [g2 j hj, q3 _, if_neg (by omega), up_j (by omega)]
theorem lg0 {x : Int32} : (0 ≤ lg_cmp (Int32.toInt64 x) 0) = (0 ≤ x) := by
  refine propext ?_
  rw [q_cmp_ge, Int64.le_iff_toInt_le, q_l, u_0, q_le, t_0]
theorem Rel_ag0 {σ ρ τ υ : my_M} (h : Rel σ ρ) (g : ∀ j, j ≠ 30 → τ j = my_up σ 0 8 0 j) (f : FRR ρ υ) : Rel τ (my_up υ 0 0 0) := by
  refine ⟨RelX_fR (RelX_ag (RelX_fC (x := 0) h.1) ⟨fun j hj => g j (by omega), by rw [g 0 (by omega)]⟩ (GdC_of (RelX_G (RelX_fC (x := 0) h.1)) (g 27 (by omega)) (g 28 (by omega))) ⟨fun j hj => f.1 j (by omega) (by omega) (by omega), fun i hi => f.2 i (by omega) (by omega) (by omega)⟩), ?_⟩
  rw [g 0 (by omega), up_at, up_at]
theorem pr_callers {σ ρ : my_M} (h : Rel σ ρ) (x y z m' : Int32) : ∃ (r : Int32) (σ1 ρ1 : my_M), f_X8_callers σ x y z m' = some (r, σ1) ∧ f_X9_callers ρ x y z m' = some (r, ρ1) ∧ Rel σ1 ρ1 := by
  obtain ⟨⟨c, n, kd, pt, a, sw, sm, sh, b, rh, rw_, rl, rg, rv, hB, hC, hR, aB, aC, aR, dB, dC, dR, hS, hG, hT⟩, hF⟩ := id h
  have hN := NF_big
  by_cases hx : iv x 0 3
  · obtain ⟨k, hk, rfl⟩ := sht hx
    have nx : ¬ ¬ iv (nI k) 0 3 := fun q => q hx
    by_cases hy : iv y 0 2
    · rcases hS k hk with ⟨q1, q2⟩ | ⟨q1, L, ln, q2, q3, q4, q5, q6, q7, q8⟩
      · refine ⟨-10 - 1, my_up (my_up σ 0 8 0) 0 8 1, my_up ρ 0 0 1, ?_, ?_, ?_⟩
        · simp only [f_X8_callers, s_isSheetC, bnd_s, bI_t hx, e10, if_false, s_isLaneC, bI_t hy, if_pos (ixN hk (by omega)), q_clamp (show k < 2 ^ 31 by omega), f_X6_faultAs, if_pos hk, fC_S (show 32 + k ≠ 0 by omega), q1, if_true, f_X8_faulted]
        · simp only [f_X9_callers, s_noSheetR, bnd_s, bI_f nx, e00, if_true, s_inI, u_0, u_2, bI_t hy, e10, if_false, f_X9_cellsBarred, lenR_17, lenR_18, if_pos (ixN hk (by omega)), q_clamp (show k < 2 ^ 31 by omega), q2, if_pos (show (-1 : Int32) < 0 by decide), if_neg (show ¬ (0 : Int32) ≤ -1 by decide), f_X9_failed, if_neg (show ¬ (0 : Int32) ≤ -10 - 1 by decide)]
        · rw [up_up]; exact Rel_set h.1
      · have q6' : my_up σ 0 8 0 (32 + k) 2 = nI L := by rw [fC_S (by omega)]; exact q6
        have nL : ¬ nI L < 0 := by rw [← nI_0, nIlt (by omega) (by omega)]; omega
        have pL : 0 ≤ nI L := by rw [← nI_0, nIle (by omega) (by omega)]; omega
        by_cases hl : nI ln = y
        · by_cases i0 : 0 ≤ m'
          · by_cases hh : hold z m' L
            · obtain ⟨a1, a2, a3⟩ := id hh
              have hh' : ¬ ¬ hold z m' L := fun q => q hh
              obtain ⟨p, hp, rfl⟩ := q_of (c := 61) a1 (by omega)
              obtain ⟨m, hm, rfl⟩ := q_of (c := 61) a2 (by omega)
              rw [q_n (show p < 2 ^ 31 by omega), q_n (show m < 2 ^ 31 by omega)] at a3
              have hw2 : ∀ i, i < m → ρ 19 (60 * k + p + i) = σ (36 + k) (p + i) := fun i hi => by rw [q8 (p + i) (by omega), Nat.add_assoc]
              have eC0 : f_X8_callers σ (nI k) y (nI p) (nI m) = (my_bnd (f_X7_readUpTo (my_up σ 0 8 0) k (nI p) (nI m)) fun r6 σ6 => (if (σ6 30 3) = 0 then some (((-100) - r6), σ6) else (my_bnd (f_X2_take σ6 k (nI p) (σ6 30 1)) fun r8 σ8 => some (((my_up (my_up σ8 11 0 0) 21 0 0) 1 1), (my_up (my_up σ8 11 0 0) 21 0 0))))) := by
                simp only [f_X8_callers, s_isSheetC, bnd_s, bI_t hx, e10, if_false, s_isLaneC, bI_t hy, if_pos (ixN hk (by omega)), q_clamp (show k < 2 ^ 31 by omega), f_X6_faultAs, if_pos hk, fC_S (show 32 + k ≠ 0 by omega), q1, q4, if_pos hl, if_pos i0, s_holds hk q6' q2, bI_t hh, if_true]
              have eR0 : f_X9_callers ρ (nI k) y (nI p) (nI m) = (my_bnd (f_X9_readsCallers ρ (nI (60 * k + p)) (nI m)) fun r4 σ4 => (if r4 = 0 then (my_bnd (f_X9_refused σ4 ((-100) - (σ4 0 5))) fun r5 σ5 => some (r5, σ5)) else (g_X9_callers my_NF).1 (my_up (my_up σ4 0 1 (σ4 0 6)) 0 2 ((my_up σ4 0 1 (σ4 0 6)) 0 7)) 0)) := by
                simp only [f_X9_callers, s_noSheetR, bnd_s, bI_f nx, e00, if_true, s_inI, u_0, u_2, bI_t hy, e10, if_false, f_X9_cellsBarred, lenR_17, lenR_18, if_pos (ixN hk (by omega)), q_clamp (show k < 2 ^ 31 by omega), q7, if_neg nL, q5, if_pos hl, if_pos pL, lg0, if_pos i0, s_beyond q2, bI_f hh', if_pos (show (0 : Int32) ≤ 0 by decide), sx]
              rw [eC0, eR0]
              rcases s_read (σ := my_up σ 0 8 0) (ρ := ρ) (k := k) (p := p) (q := 60 * k + p) (m := m) (w := fun i => σ (36 + k) (p + i)) hk (by omega) (fun i hi => by rw [fC_S (by omega)]) (by omega) hw2 with ⟨e, τ', υ', b1, b2, b3, b4, b5, b6, b7⟩ | ⟨B, D, τ', υ', c1, c2, c3, c4, c5, c6, c7, c8, c9, c10, c11, c12, c13⟩
              · rw [b2, b5, bnd_s, bnd_s, if_pos b3, if_pos rfl]
                refine ⟨-100 - nI e, τ', my_up υ' 0 0 0, rfl, ?_, Rel_ag0 h b4 b7⟩
                simp only [f_X9_refused, bnd_s, b6]
              · rw [c7, c11, bnd_s, bnd_s, if_neg (show ¬ τ' 30 3 = 0 by rw [c8]; decide), if_neg (show ¬ (1 : Int32) = 0 by decide)]
                obtain ⟨r5, r6, r7, r8, r9, r10⟩ := c12
                have pl : pos B 0 + 2 + B ≤ m := by rw [← c5]; exact pos_le c3
                have p0 : pos B 0 = 2 := by unfold pos; omega
                have cell1 : τ' (36 + k) (p + 1) = nI (48 + B) := by rw [c10 _ (by omega), fC_S (by omega)]; exact c6
                have eb : nI (48 + B) - 48 = nI B := by rw [show (48 : Int32) = nI 48 by decide, nI_sub (by omega) (by omega), Nat.add_sub_cancel_left]
                obtain ⟨τ2, t1, t2, t3, -⟩ := g_tk0 (k := k) (p := p) (m := m) (B := B) (D := D) (w := fun i => σ (36 + k) (p + i)) hk (by omega) c2 c4 c5 c13 D 0 my_NF (my_up (my_up τ' 1 2 (nI B)) 1 1 (nI D)) (by omega) (by omega) up_at (by rw [up_i (by omega), up_at]) (fun i hi => by rw [up_j (by omega), up_j (by omega), c10 _ (by omega), fC_S (by omega)])
                obtain ⟨υ2, u1, u2, u3, -⟩ := g_cp0 (B := B) (D := D) c2 c4 D 0 my_NF (my_up (my_up υ' 0 1 (nI D)) 0 2 (nI B)) (by omega) (by omega) (by rw [up_i (by omega), up_at]) up_at
                rw [nI_0, p0] at t1
                rw [nI_0] at u1
                have fr : ∀ j, j ≠ 0 → j ≠ 30 → 10 < j → τ2 j = σ j := fun j j0 j30 jl => by rw [t2 j (by omega), up_j (by omega), up_j (by omega), c10 j j30, up_j j0]
                have gr : ∀ j, j ≠ 0 → j ≠ 1 → j ≠ 2 → j ≠ 3 → j ≠ 4 → υ2 j = ρ j := fun j j0 j1 j2 j3 j4 => by rw [u2 j j1 j2, up_j j0, up_j j0, r8 j j0 j3 j4]
                have g0 : ∀ t, t ≠ 1 → t ≠ 2 → t ≠ 5 → t ≠ 6 → t ≠ 7 → υ2 0 t = ρ 0 t := fun t h1 h2 h5 h6 h7 => by rw [u2 0 (by omega) (by omega), up_i h2, up_i h1, r9 t h5 h6 h7]
                refine ⟨nI D, my_up (my_up τ2 11 0 0) 21 0 0, my_up (my_up (my_up υ2 0 11 0) 0 22 0) 0 0 0, ?_, ?_, ?_⟩
                · have e1 : my_up (my_up τ2 11 0 0) 21 0 0 1 1 = nI D := by rw [up_j (by omega), up_j (by omega), t2 1 (by omega), up_at]
                  have et : f_X2_take τ' k (nI p) (nI D) = some ((), τ2) := by
                    rw [← t1]
                    simp only [f_X2_take, if_pos hk, nI_p1, lenC_s hk, if_pos (ixN (show p + 1 < 60 by omega) (by omega)), q_clamp (show p + 1 < 2 ^ 31 by omega), cell1, eb]
                    rw [show nI p + 2 = nI (p + 2) by rw [nI_lit2, nI_add]]
                  rw [c9, et, bnd_s, e1]
                · rw [← u1, r6, up_i (show 7 ≠ 1 by omega), r7]
                · refine ⟨⟨D, B, fun d => kv (σ (36 + k) (p + (pos B d + 1))), fun d j => pv (σ (36 + k) (p + (pos B d + 2 + j))), 0, fun _ => 0, fun _ => 0, fun _ => 0, 0, fun _ => 0, fun _ => 0, fun _ => 0, fun _ => 0, fun _ => 0, ⟨c4, c2, fun _ _ => kv_le _, fun d hd j hj v hv => ?_, fun _ => c1, fun z => by omega⟩, ⟨?_, ?_, fun d hd => ?_, fun d hd j hj => ?_⟩, ⟨?_, ?_, fun d hd => ?_, fun d hd j hj => ?_⟩, ⟨by omega, fun s hs => by omega⟩, ⟨?_, fun s hs => by omega⟩, ⟨?_, fun s hs => by omega⟩, ⟨by omega, fun s hs => by omega⟩, ⟨?_, fun s hs => by omega⟩, ⟨?_, fun s hs => by omega⟩, ShR_f hS (fun j hj => ?_) (fun j j1 j2 => ?_), GdC_of hG ?_ ?_, ?_⟩, ?_⟩
                  · have so := (c13 d hd).2 j hj
                    replace hv : pv (σ (36 + k) (p + (pos B d + 2 + j))) = some v := hv
                    replace so : sOK B (σ (36 + k) (p + (pos B d + 2 + j))) := so
                    unfold pv at hv
                    by_cases e45 : σ (36 + k) (p + (pos B d + 2 + j)) = 45
                    · rw [if_pos e45] at hv; cases hv
                    · rw [if_neg e45] at hv
                      cases hv
                      have w := so.resolve_left e45
                      have w1 := w.1
                      have w2 := w.2
                      omega
                  · rw [up_j (by omega), up_j (by omega), t2 1 (by omega), up_at]
                  · rw [up_j (by omega), up_j (by omega), t2 1 (by omega), up_i (by omega), up_at]
                  · rw [up_j (by omega), up_j (by omega)]; exact (t3 d (by omega) hd).1
                  · rw [up_j (by omega), up_j (by omega)]; exact (t3 d (by omega) hd).2 j hj
                  · rw [up_i (by omega), up_i (by omega), up_i (by omega), u2 0 (by omega) (by omega), up_i (by omega), up_at]
                  · rw [up_i (by omega), up_i (by omega), up_i (by omega), u2 0 (by omega) (by omega), up_at]
                  · rw [up_j (by omega), up_j (by omega), up_j (by omega), (u3 d (by omega) hd).1, up_j (by omega), up_j (by omega)]; exact (r10 d hd).1
                  · rw [up_j (by omega), up_j (by omega), up_j (by omega), (u3 d (by omega) hd).2 j hj, up_j (by omega), up_j (by omega)]; exact (r10 d hd).2 j hj
                  · show my_up (my_up τ2 11 0 0) 21 0 0 11 0 = nI 0
                    rw [up_j (by omega), up_at, nI_0]
                  · rw [up_i (by omega), up_i (by omega), up_at, nI_0]
                  · rw [up_at, nI_0]
                  · rw [up_i (by omega), up_at, nI_0]
                  · rw [up_j (by omega), up_j (by omega), fr j (by omega) (by omega) (by omega)]
                  · rw [up_j (by omega), up_j (by omega), up_j (by omega), gr j (by omega) (by omega) (by omega) (by omega) (by omega)]
                  · rw [up_j (by omega), up_j (by omega), fr 27 (by omega) (by omega) (by omega)]
                  · rw [up_j (by omega), up_j (by omega), fr 28 (by omega) (by omega) (by omega)]
                  · rw [up_j (by omega), up_j (by omega), up_i (by omega), up_i (by omega), up_i (by omega), t2 0 (by omega), up_j (by omega), up_j (by omega), c10 0 (by omega), up_i (by omega), g0 32 (by omega) (by omega) (by omega) (by omega) (by omega)]; exact hT
                  · rw [up_j (by omega), up_j (by omega), up_at, t2 0 (by omega), up_j (by omega), up_j (by omega), c10 0 (by omega), up_at]
            · refine ⟨-10 - 3, my_up (my_up σ 0 8 0) 0 8 3, my_up ρ 0 0 3, ?_, ?_, ?_⟩
              · simp only [f_X8_callers, s_isSheetC, bnd_s, bI_t hx, e10, if_false, s_isLaneC, bI_t hy, if_pos (ixN hk (by omega)), q_clamp (show k < 2 ^ 31 by omega), f_X6_faultAs, if_pos hk, fC_S (show 32 + k ≠ 0 by omega), q1, q4, if_pos hl, if_pos i0, s_holds hk q6' q2, bI_f hh, if_true, if_neg (show ¬ (3 : Int32) = 0 by decide), f_X8_faulted]
              · simp only [f_X9_callers, s_noSheetR, bnd_s, bI_f nx, e00, if_true, s_inI, u_0, u_2, bI_t hy, e10, if_false, f_X9_cellsBarred, lenR_17, lenR_18, if_pos (ixN hk (by omega)), q_clamp (show k < 2 ^ 31 by omega), q7, if_neg nL, q5, if_pos hl, if_pos pL, lg0, if_pos i0, s_beyond q2, bI_t hh, f_X9_failed, if_neg (show ¬ (0 : Int32) ≤ -10 - 3 by decide)]
              · rw [up_up]; exact Rel_set h.1
          · refine ⟨-10 - 4, my_up (my_up σ 0 8 0) 0 8 4, my_up ρ 0 0 4, ?_, ?_, ?_⟩
            · simp only [f_X8_callers, s_isSheetC, bnd_s, bI_t hx, e10, if_false, s_isLaneC, bI_t hy, if_pos (ixN hk (by omega)), q_clamp (show k < 2 ^ 31 by omega), f_X6_faultAs, if_pos hk, fC_S (show 32 + k ≠ 0 by omega), q1, q4, if_pos hl, if_neg i0, if_neg (show ¬ (4 : Int32) = 0 by decide), f_X8_faulted]
            · simp only [f_X9_callers, s_noSheetR, bnd_s, bI_f nx, e00, if_true, s_inI, u_0, u_2, bI_t hy, e10, if_false, f_X9_cellsBarred, lenR_17, lenR_18, if_pos (ixN hk (by omega)), q_clamp (show k < 2 ^ 31 by omega), q7, if_neg nL, q5, if_pos hl, if_pos pL, lg0, if_neg i0, f_X9_failed, if_neg (show ¬ (0 : Int32) ≤ -10 - 4 by decide)]
            · rw [up_up]; exact Rel_set h.1
        · refine ⟨-10 - 2, my_up (my_up σ 0 8 0) 0 8 2, my_up ρ 0 0 2, ?_, ?_, ?_⟩
          · simp only [f_X8_callers, s_isSheetC, bnd_s, bI_t hx, e10, if_false, s_isLaneC, bI_t hy, if_pos (ixN hk (by omega)), q_clamp (show k < 2 ^ 31 by omega), f_X6_faultAs, if_pos hk, fC_S (show 32 + k ≠ 0 by omega), q1, q4, if_neg hl, if_neg (show ¬ (2 : Int32) = 0 by decide), f_X8_faulted]
          · simp only [f_X9_callers, s_noSheetR, bnd_s, bI_f nx, e00, if_true, s_inI, u_0, u_2, bI_t hy, e10, if_false, f_X9_cellsBarred, lenR_17, lenR_18, if_pos (ixN hk (by omega)), q_clamp (show k < 2 ^ 31 by omega), q7, if_neg nL, q5, if_neg hl, f_X9_failed, if_neg (show ¬ (0 : Int32) ≤ -10 - 2 by decide)]
          · rw [up_up]; exact Rel_set h.1
    · refine ⟨-2, my_up σ 0 8 0, my_up ρ 0 0 0, ?_, ?_, Rel_set h.1⟩
      · simp only [f_X8_callers, s_isSheetC, bnd_s, bI_t hx, e10, if_false, s_isLaneC, bI_f hy, e00, if_true]
      · simp only [f_X9_callers, s_noSheetR, bnd_s, bI_f nx, e00, if_true, s_inI, u_0, u_2, bI_f hy, f_X9_refused]
  · refine ⟨-1, my_up σ 0 8 0, my_up ρ 0 0 0, ?_, ?_, Rel_set h.1⟩
    · simp only [f_X8_callers, s_isSheetC, bnd_s, bI_f hx, e00, if_true]
    · simp only [f_X9_callers, s_noSheetR, bnd_s, bI_t hx, e10, if_false, f_X9_refused]
