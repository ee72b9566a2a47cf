theorem s_read {σ ρ : my_M} {k p q m : Nat} {w : Nat → Int32} (hk : k < 4) (hp : p + m ≤ 60) (hw : ∀ i, i < m → σ (36 + k) (p + i) = w i) (hq : q + m ≤ 240) (hw2 : ∀ i, i < m → ρ 19 (q + i) = w i) :
    PF σ ρ m (f_X7_readUpTo σ k (nI p) (nI m)) (f_X9_readsCallers ρ (nI q) (nI m)) ∨ ∃ B D' τ' υ', 2 ≤ B ∧ B ≤ 6 ∧ 0 < D' ∧ D' ≤ 4 ∧ pos B D' = m ∧ w 1 = nI (48 + B) ∧ f_X7_readUpTo σ k (nI p) (nI m) = some (nI m, τ') ∧ τ' 30 3 = 1 ∧ τ' 30 1 = nI D' ∧ (∀ j, j ≠ 30 → τ' j = σ j) ∧ f_X9_readsCallers ρ (nI q) (nI m) = some (1, υ') ∧ RS ρ w m B D' υ' ∧ VAL w B D' := by
  have hNF := NF_big
  obtain ⟨F, hF⟩ : ∃ H, my_NF = H + 1 := ⟨my_NF - 1, by omega⟩
  obtain ⟨F', hF'⟩ : ∃ H, F = H + 1 := ⟨F - 1, by omega⟩
  have S0 : RdS σ 0 0 0 (my_up (my_up (my_up (my_up σ 30 0 0) 30 1 0) 30 2 0) 30 3 0) := by
    refine ⟨?_, ?_, ?_, up_at, fun x hx => by rw [up_j hx, up_j hx, up_j hx, up_j hx]⟩
    · rw [up_i (by omega), up_i (by omega), up_i (by omega), up_at, nI_0]
    · rw [up_i (by omega), up_i (by omega), up_at, nI_0]
    · rw [up_i (by omega), up_at, nI_0]
  have eC0 : f_X7_readUpTo σ k (nI p) (nI m) = g_X7_readUpTo (F + 1) (my_up (my_up (my_up (my_up σ 30 0 0) 30 1 0) 30 2 0) 30 3 0) k (nI p) (nI m) (nI 0) := by
    unfold f_X7_readUpTo
    rw [if_pos hk, hF, nI_0]
  have u19 : my_up (my_up ρ 0 5 0) 0 6 0 19 = ρ 19 := by rw [up_j (by omega), up_j (by omega)]
  have u5 : my_up (my_up ρ 0 5 0) 0 6 0 0 5 = nI 0 := by rw [up_i (by omega), up_at, nI_0]
  have ec := s_codeAt hq hw2 u19 u5 (Nat.zero_le m)
  have f0 : FRR ρ (my_up (my_up ρ 0 5 0) 0 6 0) := ⟨fun x x0 _ _ => by rw [up_j x0, up_j x0], fun t t5 t6 _ => by rw [up_i t6, up_i t5]⟩
  rw [eC0]
  generalize hτ : my_up (my_up (my_up (my_up σ 30 0 0) 30 1 0) 30 2 0) 30 3 0 = τ0 at S0 ⊢
  by_cases m0 : m = 0
  · subst m0
    rw [if_neg (by omega)] at ec
    obtain ⟨τ', t1, t2, t3, t4⟩ := rd_end (p := p) (m := 0) (F := F) hk (by omega) S0 (by omega) (by omega)
    rw [if_neg (by omega)] at t4
    refine Or.inl ⟨0, τ', _, Nat.le_refl _, t1, t4, t2, ?_, u5, f0⟩
    simp only [f_X9_readsCallers, ec, bnd_s, if_neg (show ¬ (-9 : Int32) = 99 by decide)]
  · rw [if_pos (show 0 < m by omega)] at ec
    obtain ⟨s0, s1, s2, s3, s4⟩ := id S0
    have wi : τ0 (36 + k) (p + 0) = w 0 := by rw [s4 _ (by omega)]; exact hw 0 (by omega)
    by_cases h99 : w 0 = 99
    · have eC1 : g_X7_readUpTo (F + 1) τ0 k (nI p) (nI m) (nI 0) = g_X7_readUpTo (F' + 1) τ0 k (nI p) (nI m) (nI 1) := by
        rw [← hF']
        simp only [gs_X7_readUpTo F, b_X7_readUpTo_0, if_pos hk, nIle (show m < 2 ^ 31 by omega) (show 0 < 2 ^ 31 by omega), if_neg (show ¬ m ≤ 0 by omega), nI_add, lenC_s hk, if_pos (ixN (show p + 0 < 60 by omega) (by omega)), q_clamp (show p + 0 < 2 ^ 31 by omega), wi, f_X7_goesOn, if_pos (show nI 0 = 0 by decide), if_pos h99, if_pos b10, bnd_s, e10, if_false, nI_p1, Nat.zero_add]
      rw [eC1]
      have v19 : my_up (my_up (my_up ρ 0 5 0) 0 6 0) 0 5 (nI 1) 19 = ρ 19 := by rw [up_j (by omega)]; exact u19
      have ec2 := s_codeAt hq hw2 v19 up_at (show 1 ≤ m by omega)
      have f1 : ∀ x, FRR ρ (my_up (my_up (my_up (my_up ρ 0 5 0) 0 6 0) 0 5 (nI 1)) 0 7 x) := fun x => ⟨fun x x0 _ _ => by rw [up_j x0, up_j x0, up_j x0, up_j x0], fun t t5 t6 t7 => by rw [up_i t7, up_i t5, up_i t6, up_i t5]⟩
      have g5 : ∀ x, my_up (my_up (my_up (my_up ρ 0 5 0) 0 6 0) 0 5 (nI 1)) 0 7 x 0 5 = nI 1 := fun x => by rw [up_i (by omega), up_at]
      by_cases m1 : m = 1
      · subst m1
        rw [if_neg (by omega)] at ec2
        obtain ⟨τ', t1, t2, t3, t4⟩ := rd_end (p := p) (m := 1) (F := F') hk (by omega) S0 (by omega) (by omega)
        rw [if_neg (by omega)] at t4
        refine Or.inl ⟨1, τ', _, Nat.le_refl _, t1, t4, t2, ?_, g5 (-9 - 48), f1 _⟩
        have w57 : ¬ iv (-9 - 48) 2 6 := by
          intro z
          have z1 := z.1
          rw [show (-9 - 48 : Int32).toInt = -57 by decide] at z1
          omega
        simp only [f_X9_readsCallers, ec, bnd_s, if_pos h99, u5, nI_p1, Nat.zero_add, ec2, s_inI, up_at, u_2, u_6, bI_f w57, e00, if_true]
      · rw [if_pos (show 1 < m by omega)] at ec2
        have wi1 : τ0 (36 + k) (p + 1) = w 1 := by rw [s4 _ (by omega)]; exact hw 1 (by omega)
        by_cases hb : iv (w 1) 50 54
        · have z1 := hb.1
          have z2 := hb.2
          obtain ⟨x, hx, ex⟩ := q_of (c := 55) (show 0 ≤ (w 1).toInt by omega) (by omega)
          rw [ex, q_n (by omega)] at z1 z2
          obtain ⟨B, rfl⟩ : ∃ B, x = 48 + B := ⟨x - 48, by omega⟩
          have eb : w 1 - 48 = nI B := by
            rw [ex, show (48 : Int32) = nI 48 by decide, nI_sub (by omega) (by omega), Nat.add_sub_cancel_left]
          have wb : iv (nI B) 2 6 := by
            show 2 ≤ (nI B).toInt ∧ (nI B).toInt ≤ 6
            rw [q_n (by omega)]; omega
          have S1 : RdS σ B 0 0 (my_up τ0 30 0 (nI B)) := ⟨up_at, by rw [up_i (by omega)]; exact s1, by rw [up_i (by omega)]; exact s2, by rw [up_i (by omega)]; exact s3, fun x hx => by rw [up_j hx]; exact s4 x hx⟩
          have eC2 : g_X7_readUpTo (F' + 1) τ0 k (nI p) (nI m) (nI 1) = g_X7_readUpTo F' (my_up τ0 30 0 (nI B)) k (nI p) (nI m) (nI (pos B 0)) := by
            rw [show pos B 0 = 2 by unfold pos; omega]
            simp only [gs_X7_readUpTo F', b_X7_readUpTo_0, if_pos hk, nIle (show m < 2 ^ 31 by omega) (show 1 < 2 ^ 31 by omega), if_neg (show ¬ m ≤ 1 by omega), nI_add, lenC_s hk, if_pos (ixN (show p + 1 < 60 by omega) (by omega)), q_clamp (show p + 1 < 2 ^ 31 by omega), wi1, f_X7_goesOn, if_neg (show ¬ nI 1 = 0 by decide), if_pos (show nI 1 = 1 by decide), eb, s_W, t_50, t_54, bI_t hb, if_pos b10, bnd_s, e10, if_false, nI_p1, Nat.reduceAdd]
          have R1 : RS ρ w (pos B 0) B 0 (my_up (my_up (my_up (my_up (my_up ρ 0 5 0) 0 6 0) 0 5 (nI 1)) 0 7 (nI B)) 0 5 (nI 2)) := by
            have p2 : pos B 0 = 2 := by unfold pos; omega
            refine ⟨by rw [up_at, p2], by rw [up_i (by omega), up_i (by omega), up_i (by omega), up_at, nI_0], by rw [up_i (by omega), up_at], fun x x0 _ _ => by rw [up_j x0, up_j x0, up_j x0, up_j x0, up_j x0], fun t t5 t6 t7 => by rw [up_i t5, up_i t7, up_i t5, up_i t6, up_i t5], fun d hd => by omega⟩
          have eR2 : f_X9_readsCallers ρ (nI q) (nI m) = g_X9_readsCallers my_NF (my_up (my_up (my_up (my_up (my_up ρ 0 5 0) 0 6 0) 0 5 (nI 1)) 0 7 (nI B)) 0 5 (nI 2)) (nI q) (nI m) 1 := by
            simp only [f_X9_readsCallers, ec, bnd_s, if_pos h99, u5, nI_p1, Nat.zero_add, ec2, eb, s_inI, up_at, u_2, u_6, bI_t wb, e10, if_false, g5, Nat.reduceAdd]
          rw [eC2, eR2]
          rcases g_callers hk hp hw hq hw2 (show 2 ≤ B by omega) (show B ≤ 6 by omega) 4 0 F' my_NF _ _ (by omega) (by unfold pos; omega) (by omega) (by omega) S1 R1 (fun d hd => by omega) with a | ⟨D', τ', υ', a1, a2, a3, a4, a5, a6, a7, a8, a9, a10⟩
          · exact Or.inl a
          · exact Or.inr ⟨B, D', τ', υ', by omega, by omega, a1, a2, a3, ex, a4, a5, a6, a7, a8, a9, a10⟩
        · have wb : ¬ iv (w 1 - 48) 2 6 := by
            intro z
            have z1 := z.1
            have z2 := z.2
            have xl := Int32.toInt_lt (w 1)
            have xg := Int32.le_toInt (w 1)
            by_cases big : -2 ^ 31 ≤ (w 1).toInt - 48
            · rw [q_sub (by rw [t_48]; omega) (by rw [t_48]; omega), t_48] at z1 z2
              exact hb ⟨by omega, by omega⟩
            · have e : (w 1 - 48).toInt = (w 1).toInt - 48 + 2 ^ 32 := by
                rw [Int32.toInt_sub, t_48, Int.bmod_def]
                omega
              omega
          refine Or.inl ⟨1, my_up τ0 30 0 (w 1 - 48), _, by omega, ?_, by rw [up_i (by omega)]; exact s3, fun x hx => by rw [up_j hx]; exact s4 x hx, ?_, g5 (w 1 - 48), f1 _⟩
          · simp only [gs_X7_readUpTo F', b_X7_readUpTo_0, if_pos hk, nIle (show m < 2 ^ 31 by omega) (show 1 < 2 ^ 31 by omega), if_neg (show ¬ m ≤ 1 by omega), nI_add, lenC_s hk, if_pos (ixN (show p + 1 < 60 by omega) (by omega)), q_clamp (show p + 1 < 2 ^ 31 by omega), wi1, f_X7_goesOn, if_neg (show ¬ nI 1 = 0 by decide), if_pos (show nI 1 = 1 by decide), s_W, t_50, t_54, bI_f hb, if_pos b00, bnd_s, e00, if_true]
          · simp only [f_X9_readsCallers, ec, bnd_s, if_pos h99, u5, nI_p1, Nat.zero_add, ec2, s_inI, up_at, u_2, u_6, bI_f wb, e00, if_true]
    · refine Or.inl ⟨0, τ0, _, Nat.zero_le _, ?_, s3, s4, ?_, u5, f0⟩
      · simp only [gs_X7_readUpTo F, b_X7_readUpTo_0, if_pos hk, nIle (show m < 2 ^ 31 by omega) (show 0 < 2 ^ 31 by omega), if_neg (show ¬ m ≤ 0 by omega), nI_add, lenC_s hk, if_pos (ixN (show p + 0 < 60 by omega) (by omega)), q_clamp (show p + 0 < 2 ^ 31 by omega), wi, f_X7_goesOn, if_pos (show nI 0 = 0 by decide), if_neg h99, if_pos b00, bnd_s, e00, if_true]
      · simp only [f_X9_readsCallers, ec, bnd_s, if_neg h99]
theorem pv_enc1 {B : Nat} {x : Int32} (h : sOK B x) (h45 : ¬ x = 45) : x - 48 = enc (-1) (pv x) := by
  rw [pv_enc h h45]
  unfold pv
  rw [if_neg h45]
  rfl
theorem g_tk1 {k p m B d base : Nat} {w : Nat → Int32} (hk : k < 4) (hp : p + m ≤ 60) (b6 : B ≤ 6) (hd : d < 4) (hm : base + 2 + B ≤ m) (ok : ∀ j, j < B → sOK B (w (base + 2 + j))) : ∀ (r j F : Nat) (τ : my_M), j + r = B → r < F → τ 1 2 = nI B → (∀ i, i < m → τ (36 + k) (p + i) = w i) → ∃ τ', (g_X2_take F).2 τ k (nI (p + (base + 2 + j))) (nI d) (nI j) = (g_X2_take (F - r - 1)).1 τ' k (nI (p + (base + 2 + B))) (nI (d + 1)) ∧ (∀ x, x ≠ 7 + d → τ' x = τ x) ∧ (∀ j', j ≤ j' → j' < B → τ' (7 + d) j' = enc (-1) (pv (w (base + 2 + j')))) ∧ ∀ j', j' < j → τ' (7 + d) j' = τ (7 + d) j' := by
  intro r
  induction r with
  | zero =>
    intro j F τ hj hF hn hw
    obtain rfl : j = B := by omega
    obtain ⟨F, rfl⟩ : ∃ H, F = H + 1 := ⟨F - 1, by omega⟩
    refine ⟨τ, ?_, fun _ _ => rfl, fun j' h1 h2 => by omega, fun _ _ => rfl⟩
    simp only [gs_X2_take_1, b_X2_take_1, if_pos hk, hn, if_pos (show nI j ≤ nI j from Int32.le_refl _), nI_p1, Nat.sub_zero, Nat.add_sub_cancel]
  | succ r ih =>
    intro j F τ hj hF hn hw
    obtain ⟨F, rfl⟩ : ∃ H, F = H + 1 := ⟨F - 1, by omega⟩
    have wi := hw (base + 2 + j) (by omega)
    have okj := ok j (by omega)
    obtain ⟨τ', q1, q2, q3, q4⟩ := ih (j + 1) F (my_up τ (7 + d) j (enc (-1) (pv (w (base + 2 + j))))) (by omega) (by omega) (by rw [up_j (by omega)]; exact hn) (fun i hi => by rw [up_j (by omega)]; exact hw i hi)
    refine ⟨τ', ?_, fun x hx => by rw [q2 x hx, up_j hx], fun j' h1 h2 => ?_, fun j' h1 => by rw [q4 j' (by omega), up_i (by omega)]⟩
    · rw [show F + 1 - (r + 1) - 1 = F - r - 1 by omega, ← q1, show p + (base + 2 + (j + 1)) = p + (base + 2 + j) + 1 by omega]
      by_cases h45 : w (base + 2 + j) = 45
      · have ep : enc (-1) (pv (w (base + 2 + j))) = -1 := by unfold pv; rw [if_pos h45]; rfl
        rw [ep]
        simp only [gs_X2_take_1, b_X2_take_1, if_pos hk, hn, nIle (show B < 2 ^ 31 by omega) (show j < 2 ^ 31 by omega), if_neg (show ¬ B ≤ j by omega), lenC_s hk, if_pos (ixN (show p + (base + 2 + j) < 60 by omega) (by omega)), q_clamp (show p + (base + 2 + j) < 2 ^ 31 by omega), wi, if_pos (ixN hd (by omega)), q_clamp (show d < 2 ^ 31 by omega), if_pos h45, lenC_p hd, if_pos (ixN (show j < 6 by omega) (by omega)), q_clamp (show j < 2 ^ 31 by omega), nI_p1]
      · rw [← pv_enc1 okj h45]
        simp only [gs_X2_take_1, b_X2_take_1, if_pos hk, hn, nIle (show B < 2 ^ 31 by omega) (show j < 2 ^ 31 by omega), if_neg (show ¬ B ≤ j by omega), lenC_s hk, if_pos (ixN (show p + (base + 2 + j) < 60 by omega) (by omega)), q_clamp (show p + (base + 2 + j) < 2 ^ 31 by omega), wi, if_pos (ixN hd (by omega)), q_clamp (show d < 2 ^ 31 by omega), if_neg h45, lenC_p hd, if_pos (ixN (show j < 6 by omega) (by omega)), q_clamp (show j < 2 ^ 31 by omega), nI_p1]
    · by_cases e : j' = j
      · subst e; rw [q4 j' (by omega), up_at]
      · exact q3 j' (by omega) h2
theorem pos_le {B d D : Nat} (h : d < D) : pos B d + 2 + B ≤ pos B D := by
  rw [← pos_s]
  unfold pos
  have := Nat.mul_le_mul_right (B + 2) (show d + 1 ≤ D by omega)
  omega
theorem g_tk0 {k p m B D : Nat} {w : Nat → Int32} (hk : k < 4) (hp : p + m ≤ 60) (b6 : B ≤ 6) (hD : D ≤ 4) (hm : pos B D = m) (ok : VAL w B D) : ∀ (s d F : Nat) (τ : my_M), d + s = D → s * 8 < F → τ 1 1 = nI D → τ 1 2 = nI B → (∀ i, i < m → τ (36 + k) (p + i) = w i) → ∃ τ', (g_X2_take F).1 τ k (nI (p + pos B d)) (nI d) = some ((), τ') ∧ (∀ x, x < 3 ∨ 10 < x → τ' x = τ x) ∧ (∀ d', d ≤ d' → d' < D → τ' (3 + d') 0 = nI (kv (w (pos B d' + 1))) ∧ ∀ j, j < B → τ' (7 + d') j = enc (-1) (pv (w (pos B d' + 2 + j)))) ∧ ∀ d', d' < d → τ' (3 + d') = τ (3 + d') ∧ τ' (7 + d') = τ (7 + d') := by
  intro s
  induction s with
  | zero =>
    intro d F τ hd hF h1 hn hw
    obtain rfl : d = D := by omega
    obtain ⟨F, rfl⟩ : ∃ H, F = H + 1 := ⟨F - 1, by omega⟩
    refine ⟨τ, ?_, fun _ _ => rfl, fun d' h1 h2 => by omega, fun _ _ => ⟨rfl, rfl⟩⟩
    simp only [gs_X2_take_0, b_X2_take_0, if_pos hk, h1, if_pos (show nI d ≤ nI d from Int32.le_refl _)]
  | succ s ih =>
    intro d F τ hd hF h1 hn hw
    obtain ⟨F, rfl⟩ : ∃ H, F = H + 1 := ⟨F - 1, by omega⟩
    have pl := pos_le (B := B) (show d < D by omega)
    obtain ⟨kk, ss⟩ := ok d (by omega)
    have wi := hw (pos B d + 1) (by omega)
    obtain ⟨τ1, q1, q2, q3, q4⟩ := g_tk1 (w := w) hk hp b6 (show d < 4 by omega) (show pos B d + 2 + B ≤ m by omega) ss B 0 F (my_up τ (3 + d) 0 (nI (kv (w (pos B d + 1))))) (by omega) (by omega) (by rw [up_j (by omega)]; exact hn) (fun i hi => by rw [up_j (by omega)]; exact hw i hi)
    obtain ⟨τ', p1, p2, p3, p4⟩ := ih (d + 1) (F - B - 1) τ1 (by omega) (by omega) (by rw [q2 1 (by omega), up_j (by omega)]; exact h1) (by rw [q2 1 (by omega), up_j (by omega)]; exact hn) (fun i hi => by rw [q2 _ (by omega), up_j (by omega)]; exact hw i hi)
    refine ⟨τ', ?_, fun x hx => by rw [p2 x hx, q2 x (by omega), up_j (by omega)], fun d' e1 e2 => ?_, fun d' e1 => ?_⟩
    · rw [pos_s] at p1
      rw [p1, nI_0] at q1
      rw [← q1]
      have s0 : ¬ nI D ≤ nI d := by rw [nIle (by omega) (by omega)]; omega
      simp only [gs_X2_take_0, b_X2_take_0, if_pos hk, h1, if_neg s0, if_pos (ixN (show d < 4 by omega) (by omega)), nI_p1, lenC_s hk, if_pos (ixN (show p + pos B d + 1 < 60 by omega) (by omega)), q_clamp (show p + pos B d + 1 < 2 ^ 31 by omega), show τ (36 + k) (p + pos B d + 1) = w (pos B d + 1) from wi, s_kindOf τ kk, bnd_s, q_clamp (show d < 2 ^ 31 by omega)]
      rw [show nI (p + pos B d) + 2 = nI (p + (pos B d + 2 + 0)) by rw [nI_lit2, nI_add]; rfl]
    · by_cases e : d' = d
      · subst e
        obtain ⟨g1, g2⟩ := p4 d' (by omega)
        refine ⟨by rw [g1, q2 _ (by omega), up_at], fun j hj => by rw [g2]; exact q3 j (by omega) hj⟩
      · exact p3 d' (by omega) e2
    · obtain ⟨g1, g2⟩ := p4 d' (by omega)
      exact ⟨by rw [g1, q2 _ (by omega), up_j (by omega)], by rw [g2, q2 _ (by omega), up_j (by omega)]⟩
