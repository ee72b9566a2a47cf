def FC (σ τ : my_M) : Prop := ∀ j, j < 16 ∨ 20 < j → τ j = σ j
def FR (ρ υ : my_M) : Prop := (∀ j, j ≠ 0 → j ≠ 6 → j ≠ 7 → j ≠ 8 → υ j = ρ j) ∧ ∀ i, i ≠ 11 → υ 0 i = ρ 0 i
theorem g_pairs {c n : Nat} {kd : Nat → Nat} {pt : Nat → Nat → Option Nat} {σ ρ : my_M} (hB : ChB c n kd pt) (hC : ChC c n kd pt σ) (hR : ChR c n kd pt ρ) {k p q m : Nat} {w : Nat → Int32} (hk : k < 4) (hp : p + 2 * m ≤ 60) (hq : q + 2 * m ≤ 240) (hw : ∀ i, i < 2 * m → σ (36 + k) (p + i) = w i) (hw2 : ∀ i, i < 2 * m → ρ 19 (q + i) = w i) (ok : ∀ i, i < m → okP w i) (x : Int32) :
    ∀ (r i F G : Nat) (τ υ : my_M) (a : Nat) (sw sm sh : Nat → Nat), AiB c a sw sm sh → AiC a sw sm sh 1 τ → AiR a sw sm sh υ → FC σ τ → FR ρ υ → i + r = m → r < F → r + 1 < G →
    ∃ τ' υ', FC σ τ' ∧ FR ρ υ' ∧ ((∃ t, t < m ∧ g_X8_firstWrong F τ k (nI p) (nI m) (nI i) = some (nI t, τ') ∧ g_X9_dayOf G υ (nI q) (nI m) x (-9) (nI i) = some (if x = 1 then nI t else -100 - nI t, υ')) ∨ (∃ a' sw' sm' sh', AiB c a' sw' sm' sh' ∧ AiC a' sw' sm' sh' 1 τ' ∧ AiR a' sw' sm' sh' υ' ∧ g_X8_firstWrong F τ k (nI p) (nI m) (nI i) = some (-9, τ') ∧ g_X9_dayOf G υ (nI q) (nI m) x (-9) (nI i) = b_X9_dayOf_0 (g_X9_dayOf 0) υ' (nI q) (nI m) x (-9) (nI m))) := by
  have h4 := hB.1
  intro r
  induction r with
  | zero =>
    intro i F G τ υ a sw sm sh aB aC aR fC fR hi hF hG
    obtain rfl : i = m := by omega
    obtain ⟨F, rfl⟩ : ∃ H, F = H + 1 := ⟨F - 1, by omega⟩
    obtain ⟨G, rfl⟩ : ∃ H, G = H + 1 := ⟨G - 1, by omega⟩
    refine ⟨τ, υ, fC, fR, Or.inr ⟨a, sw, sm, sh, aB, aC, aR, ?_, ?_⟩⟩
    · simp only [gs_X8_firstWrong, b_X8_firstWrong_0, if_pos hk, if_pos (show nI i ≤ nI i from Int32.le_refl _)]
    · simp only [gs_X9_dayOf, b_X9_dayOf_0, if_pos (show nI i ≤ nI i from Int32.le_refl _)]
  | succ r ih =>
    intro i F G τ υ a sw sm sh aB aC aR fC fR hi hF hG
    obtain ⟨F, rfl⟩ : ∃ H, F = H + 1 := ⟨F - 1, by omega⟩
    obtain ⟨G, rfl⟩ : ∃ H, G = H + 1 := ⟨G - 1, by omega⟩
    obtain ⟨G', hG'⟩ : ∃ H, G = H + 1 := ⟨G - 1, by omega⟩
    have h8 := aB.1
    have w0 : τ (36 + k) (p + 2 * i) = w (2 * i) := by rw [fC _ (by omega)]; exact hw (2 * i) (by omega)
    have w1 : τ (36 + k) (p + 2 * i + 1) = w (2 * i + 1) := by rw [fC _ (by omega)]; exact hw (2 * i + 1) (by omega)
    have v0 : υ 19 (q + 2 * i) = w (2 * i) := by rw [fR.1 19 (by omega) (by omega) (by omega) (by omega)]; exact hw2 (2 * i) (by omega)
    have v1 : υ 19 (q + 2 * i + 1) = w (2 * i + 1) := by rw [fR.1 19 (by omega) (by omega) (by omega) (by omega)]; exact hw2 (2 * i + 1) (by omega)
    have hC' : ChC c n kd pt τ := ChC_f h4 hC (fun j _ _ => fC j (by omega))
    have hR' : ChR c n kd pt υ := ChR_f hR (fR.1 1 (by omega) (by omega) (by omega) (by omega)) (fR.1 2 (by omega) (by omega) (by omega) (by omega)) (fR.2 1 (by omega)) (fR.2 2 (by omega))
    have m9 : ¬ (0 : Int32) ≤ -9 := by decide
    have aC1 : τ 16 0 = nI a := aC.1
    have ta := q_n (show a < 2 ^ 31 by omega)
    rcases ok i (by omega) with ⟨o1, o2⟩ | ⟨o1, o2, o3⟩
    · obtain ⟨d, hd, ed⟩ := iv_nat (m := 8) o2
      have td := q_n (show d < 2 ^ 31 by omega)
      by_cases hda : d ≤ a
      · have wi : iv (nI d) 0 (a : Int) := by
          show 0 ≤ (nI d).toInt ∧ (nI d).toInt ≤ (a : Int)
          rw [td]; omega
        have nl : ¬ nI a < nI d := by rw [nIlt (by omega) (by omega)]; omega
        obtain ⟨τ', υ', g1, g2, g3⟩ := ih (i + 1) F G (my_up τ 16 0 (nI (a - d))) (my_up υ 0 11 (nI (a - d))) (a - d) sw sm sh (AiB_le aB (by omega)) ⟨up_at, fun s hs => by rw [up_j (by omega), up_j (by omega), up_j (by omega)]; exact aC.2 s (by omega)⟩ ⟨up_at, fun s hs => by rw [up_j (by omega), up_j (by omega), up_j (by omega)]; exact aR.2 s (by omega)⟩ (fun j hj => by rw [up_j (by omega)]; exact fC j hj) ⟨fun j j0 j6 j7 j8 => by rw [up_j j0]; exact fR.1 j j0 j6 j7 j8, fun i hi => by rw [up_i hi]; exact fR.2 i hi⟩ (by omega) (by omega) (by omega)
        have eC : g_X8_firstWrong (F + 1) τ k (nI p) (nI m) (nI i) = g_X8_firstWrong F (my_up τ 16 0 (nI (a - d))) k (nI p) (nI m) (nI (i + 1)) := by
          simp only [gs_X8_firstWrong, b_X8_firstWrong_0, if_pos hk, nIle (show m < 2 ^ 31 by omega) (show i < 2 ^ 31 by omega), if_neg (show ¬ m ≤ i by omega), lenC_s hk, ix2, nI_p1, if_pos (ixN (show p + 2 * i < 60 by omega) (by omega)), if_pos (ixN (show p + 2 * i + 1 < 60 by omega) (by omega)), q_clamp (show p + 2 * i < 2 ^ 31 by omega), q_clamp (show p + 2 * i + 1 < 2 ^ 31 by omega), w0, w1, if_pos o1, f_X4_takeBackA, if_pos (show 1 < 2 by omega), Nat.mul_one, Nat.reduceAdd, aC1, s_W, ed, t_0, ta, bI_t wi, bnd_s, e10, if_false, nI_sub hda (show a < 2 ^ 31 by omega)]
        have eR : g_X9_dayOf (G + 1) υ (nI q) (nI m) x (-9) (nI i) = g_X9_dayOf G (my_up υ 0 11 (nI (a - d))) (nI q) (nI m) x (-9) (nI (i + 1)) := by
          simp only [gs_X9_dayOf, b_X9_dayOf_0, nIle (show m < 2 ^ 31 by omega) (show i < 2 ^ 31 by omega), if_neg (show ¬ m ≤ i by omega), if_neg m9, lenR_19, ix2, nI_p1, if_pos (ixN (show q + 2 * i < 240 by omega) (by omega)), if_pos (ixN (show q + 2 * i + 1 < 240 by omega) (by omega)), q_clamp (show q + 2 * i < 2 ^ 31 by omega), q_clamp (show q + 2 * i + 1 < 2 ^ 31 by omega), v0, v1, f_X9_doesPair, if_pos o1, aR.1, ed, if_neg nl, e10, if_false, if_pos b10, bnd_s, nI_sub hda (show a < 2 ^ 31 by omega)]
        rw [eC, eR]
        exact ⟨τ', υ', g1, g2, g3⟩
      · have wi : ¬ iv (nI d) 0 (a : Int) := by
          intro z
          have z2 := z.2
          rw [td] at z2; omega
        have nl : nI a < nI d := by rw [nIlt (by omega) (by omega)]; omega
        refine ⟨τ, my_up υ 0 11 (nI a - 0), fC, ⟨fun j j0 j6 j7 j8 => by rw [up_j j0]; exact fR.1 j j0 j6 j7 j8, fun i hi => by rw [up_i hi]; exact fR.2 i hi⟩, Or.inl ⟨i, by omega, ?_, ?_⟩⟩
        · simp only [gs_X8_firstWrong, b_X8_firstWrong_0, if_pos hk, nIle (show m < 2 ^ 31 by omega) (show i < 2 ^ 31 by omega), if_neg (show ¬ m ≤ i by omega), lenC_s hk, ix2, nI_p1, if_pos (ixN (show p + 2 * i < 60 by omega) (by omega)), if_pos (ixN (show p + 2 * i + 1 < 60 by omega) (by omega)), q_clamp (show p + 2 * i < 2 ^ 31 by omega), q_clamp (show p + 2 * i + 1 < 2 ^ 31 by omega), w0, w1, if_pos o1, f_X4_takeBackA, if_pos (show 1 < 2 by omega), Nat.mul_one, Nat.reduceAdd, aC1, s_W, ed, t_0, ta, bI_f wi, bnd_s, e00, if_true]
        · refine Eq.trans ?_ (g_wrong (υ := my_up υ 0 11 (nI a - 0)) (m := m) (show i < 2 ^ 31 by omega) (nI q) x (nI (i + 1)) G')
          rw [← hG']
          simp only [gs_X9_dayOf G, b_X9_dayOf_0, nIle (show m < 2 ^ 31 by omega) (show i < 2 ^ 31 by omega), if_neg (show ¬ m ≤ i by omega), if_neg m9, lenR_19, ix2, nI_p1, if_pos (ixN (show q + 2 * i < 240 by omega) (by omega)), if_pos (ixN (show q + 2 * i + 1 < 240 by omega) (by omega)), q_clamp (show q + 2 * i < 2 ^ 31 by omega), q_clamp (show q + 2 * i + 1 < 2 ^ 31 by omega), v0, v1, f_X9_doesPair, if_pos o1, aR.1, ed, if_pos nl, e00, if_true, if_pos b00, bnd_s]
    · obtain ⟨d, hd, ed⟩ := iv_nat (m := 20) o3
      by_cases hu : iv (w (2 * i + 1)) 0 ((c : Int) - 1)
      · obtain ⟨u, hu', eu⟩ := cal hu
        rw [eu] at hu o1
        have nu : ¬ ¬ iv (nI u) 0 ((c : Int) - 1) := fun z => z hu
        by_cases ha : a = 8
        · refine ⟨τ, υ, fC, fR, Or.inl ⟨i, by omega, ?_, ?_⟩⟩
          · simp only [gs_X8_firstWrong, b_X8_firstWrong_0, if_pos hk, nIle (show m < 2 ^ 31 by omega) (show i < 2 ^ 31 by omega), if_neg (show ¬ m ≤ i by omega), lenC_s hk, ix2, nI_p1, if_pos (ixN (show p + 2 * i < 60 by omega) (by omega)), if_pos (ixN (show p + 2 * i + 1 < 60 by omega) (by omega)), q_clamp (show p + 2 * i < 2 ^ 31 by omega), q_clamp (show p + 2 * i + 1 < 2 ^ 31 by omega), w0, w1, eu, if_neg o1, s_has hC'.1 h4, bI_t hu, bnd_s, e10, if_false, s_full_C (show 1 < 2 by omega) aC ha, if_true, e00]
          · refine Eq.trans ?_ (g_wrong (υ := υ) (m := m) (show i < 2 ^ 31 by omega) (nI q) x (nI (i + 1)) G')
            rw [← hG']
            simp only [gs_X9_dayOf G, b_X9_dayOf_0, nIle (show m < 2 ^ 31 by omega) (show i < 2 ^ 31 by omega), if_neg (show ¬ m ≤ i by omega), if_neg m9, lenR_19, ix2, nI_p1, if_pos (ixN (show q + 2 * i < 240 by omega) (by omega)), if_pos (ixN (show q + 2 * i + 1 < 240 by omega) (by omega)), q_clamp (show q + 2 * i < 2 ^ 31 by omega), q_clamp (show q + 2 * i + 1 < 2 ^ 31 by omega), v0, v1, f_X9_doesPair, eu, if_neg o1, s_noCaller hR'.1 h4, bI_f nu, bnd_s, s_fullR aR ha, e00, if_true, if_pos b00]
        · have A1 := AiC_add aC u d 0
          have A2 := AiR_add aR u d 0
          rw [nI_0] at A1 A2
          obtain ⟨τ', υ', g1, g2, g3⟩ := ih (i + 1) F G (my_up (my_up (my_up (my_up τ (12 + 5 * 1) a (nI u)) (13 + 5 * 1) a (nI d)) (14 + 5 * 1) a 0) (11 + 5 * 1) 0 (nI (a + 1))) (my_up (my_up (my_up (my_up υ 6 a (nI u)) 7 a (nI d)) 8 a 0) 0 11 (nI (a + 1))) (a + 1) (nset sw a u) (nset sm a d) (nset sh a 0) (AiB_add aB (by omega) hu' hd (by omega)) A1 A2 (fun j hj => by rw [up_j (by omega), up_j (by omega), up_j (by omega), up_j (by omega)]; exact fC j hj) ⟨fun j j0 j6 j7 j8 => by rw [up_j j0, up_j j8, up_j j7, up_j j6]; exact fR.1 j j0 j6 j7 j8, fun i hi => by rw [up_i hi, up_j (by omega), up_j (by omega), up_j (by omega)]; exact fR.2 i hi⟩ (by omega) (by omega) (by omega)
          have eC : g_X8_firstWrong (F + 1) τ k (nI p) (nI m) (nI i) = g_X8_firstWrong F (my_up (my_up (my_up (my_up τ (12 + 5 * 1) a (nI u)) (13 + 5 * 1) a (nI d)) (14 + 5 * 1) a 0) (11 + 5 * 1) 0 (nI (a + 1))) k (nI p) (nI m) (nI (i + 1)) := by
            simp only [gs_X8_firstWrong, b_X8_firstWrong_0, if_pos hk, nIle (show m < 2 ^ 31 by omega) (show i < 2 ^ 31 by omega), if_neg (show ¬ m ≤ i by omega), lenC_s hk, ix2, nI_p1, if_pos (ixN (show p + 2 * i < 60 by omega) (by omega)), if_pos (ixN (show p + 2 * i + 1 < 60 by omega) (by omega)), q_clamp (show p + 2 * i < 2 ^ 31 by omega), q_clamp (show p + 2 * i + 1 < 2 ^ 31 by omega), w0, w1, eu, ed, if_neg o1, s_has hC'.1 h4, bI_t hu, bnd_s, e10, if_false, s_add_C (show 1 < 2 by omega) aC (show a < 8 by omega)]
          have eR : g_X9_dayOf (G + 1) υ (nI q) (nI m) x (-9) (nI i) = g_X9_dayOf G (my_up (my_up (my_up (my_up υ 6 a (nI u)) 7 a (nI d)) 8 a 0) 0 11 (nI (a + 1))) (nI q) (nI m) x (-9) (nI (i + 1)) := by
            simp only [gs_X9_dayOf, b_X9_dayOf_0, nIle (show m < 2 ^ 31 by omega) (show i < 2 ^ 31 by omega), if_neg (show ¬ m ≤ i by omega), if_neg m9, lenR_19, ix2, nI_p1, if_pos (ixN (show q + 2 * i < 240 by omega) (by omega)), if_pos (ixN (show q + 2 * i + 1 < 240 by omega) (by omega)), q_clamp (show q + 2 * i < 2 ^ 31 by omega), q_clamp (show q + 2 * i + 1 < 2 ^ 31 by omega), v0, v1, f_X9_doesPair, eu, ed, if_neg o1, s_noCaller hR'.1 h4, bI_f nu, e00, if_true, bnd_s, s_sends aR (show a < 8 by omega), e10, if_false, if_pos b10]
          rw [eC, eR]
          exact ⟨τ', υ', g1, g2, g3⟩
      · refine ⟨τ, υ, fC, fR, Or.inl ⟨i, by omega, ?_, ?_⟩⟩
        · simp only [gs_X8_firstWrong, b_X8_firstWrong_0, if_pos hk, nIle (show m < 2 ^ 31 by omega) (show i < 2 ^ 31 by omega), if_neg (show ¬ m ≤ i by omega), lenC_s hk, ix2, nI_p1, if_pos (ixN (show p + 2 * i < 60 by omega) (by omega)), if_pos (ixN (show p + 2 * i + 1 < 60 by omega) (by omega)), q_clamp (show p + 2 * i < 2 ^ 31 by omega), q_clamp (show p + 2 * i + 1 < 2 ^ 31 by omega), w0, w1, if_neg o1, s_has hC'.1 h4, bI_f hu, bnd_s, e00, if_true]
        · refine Eq.trans ?_ (g_wrong (υ := υ) (m := m) (show i < 2 ^ 31 by omega) (nI q) x (nI (i + 1)) G')
          rw [← hG']
          simp only [gs_X9_dayOf G, b_X9_dayOf_0, nIle (show m < 2 ^ 31 by omega) (show i < 2 ^ 31 by omega), if_neg (show ¬ m ≤ i by omega), if_neg m9, lenR_19, ix2, nI_p1, if_pos (ixN (show q + 2 * i < 240 by omega) (by omega)), if_pos (ixN (show q + 2 * i + 1 < 240 by omega) (by omega)), q_clamp (show q + 2 * i < 2 ^ 31 by omega), q_clamp (show q + 2 * i + 1 < 2 ^ 31 by omega), v0, v1, f_X9_doesPair, if_neg o1, s_noCaller hR'.1 h4, bI_t hu, bnd_s, e10, e00, if_true, if_false]
