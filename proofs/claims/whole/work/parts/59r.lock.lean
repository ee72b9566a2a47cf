theorem pos_s (B d : Nat) : pos B (d + 1) = pos B d + 2 + B := by
  unfold pos
  rw [Nat.succ_mul]
  omega
theorem rc_tail {υ : my_M} {D G : Nat} {kc : Int32} (hk : kOK kc) (hD : D < 4) (h6 : υ 0 6 = nI D) (q m y : Int32) : g_X9_readsCaller (G + 1) υ q m kc 0 y = some (0, my_up (my_up υ 3 D (nI (kv kc))) 0 6 (nI D + 0)) := by
  have u6 : ∀ x, my_up υ 3 D x 0 6 = nI D := fun x => by rw [up_j (by omega)]; exact h6
  simp only [gs_X9_readsCaller, b_X9_readsCaller_0, h6, lenR_3, if_pos (ixN hD (by omega)), q_clamp (show D < 2 ^ 31 by omega), if_pos b00, if_true, u6]
  rcases hk with rfl | rfl | rfl
  · simp only [if_true, ite_self]; rfl
  · simp only [if_neg (show ¬ (98 : Int32) = 112 by decide), if_true, ite_self]; rfl
  · simp only [if_neg (show ¬ (107 : Int32) = 112 by decide), if_neg (show ¬ (107 : Int32) = 98 by decide), ite_self]; rfl
theorem rc_end {υ : my_M} {D B G : Nat} {kc : Int32} (hk : kOK kc) (hD : D < 4) (h6 : υ 0 6 = nI D) (h7 : υ 0 7 = nI B) (q m : Int32) : g_X9_readsCaller (G + 1) υ q m kc 1 (nI B) = some (1, my_up (my_up υ 3 D (nI (kv kc))) 0 6 (nI (D + 1))) := by
  have u6 : ∀ x, my_up υ 3 D x 0 6 = nI D := fun x => by rw [up_j (by omega)]; exact h6
  simp only [gs_X9_readsCaller, b_X9_readsCaller_0, h6, h7, if_pos (show nI B ≤ nI B from Int32.le_refl _), lenR_3, if_pos (ixN hD (by omega)), q_clamp (show D < 2 ^ 31 by omega), if_pos b10, e10, if_false, u6, nI_p1]
  rcases hk with rfl | rfl | rfl
  · simp only [if_true]; rfl
  · simp only [if_neg (show ¬ (98 : Int32) = 112 by decide), if_true]; rfl
  · simp only [if_neg (show ¬ (107 : Int32) = 112 by decide), if_neg (show ¬ (107 : Int32) = 98 by decide)]; rfl
def PF (σ ρ : my_M) (m : Nat) (a : Option (Int32 × my_M)) (b : Option (Int32 × my_M)) : Prop := ∃ e τ' υ', e ≤ m ∧ a = some (nI e, τ') ∧ τ' 30 3 = 0 ∧ (∀ j, j ≠ 30 → τ' j = σ j) ∧ b = some (0, υ') ∧ υ' 0 5 = nI e ∧ FRR ρ υ'
theorem g_signs {σ ρ : my_M} {k p q m B D base : Nat} {w : Nat → Int32} (hk : k < 4) (hp : p + m ≤ 60) (hw : ∀ i, i < m → σ (36 + k) (p + i) = w i) (hq : q + m ≤ 240) (hw2 : ∀ i, i < m → ρ 19 (q + i) = w i) (b2 : 2 ≤ B) (b6 : B ≤ 6) (hD : D < 4) (hb : pos B D = base) (kc : kOK (w (base + 1))) :
    ∀ (r j F G : Nat) (τ υ : my_M), j + r = B → base + 2 + j ≤ m → m < F + (base + 2 + j) → r + 1 < G → (if r = 0 then RdS σ B (D + 1) 0 τ else RdS σ B D (2 + j) τ) → RS ρ w (base + 2 + j) B D υ → (∀ j', j' < j → υ 4 (6 * D + j') = enc (-9) (pv (w (base + 2 + j')))) →
    PF σ ρ m (g_X7_readUpTo F τ k (nI p) (nI m) (nI (base + 2 + j))) (g_X9_readsCaller G υ (nI q) (nI m) (w (base + 1)) 1 (nI j)) ∨ ∃ F' τ' υ', g_X7_readUpTo F τ k (nI p) (nI m) (nI (base + 2 + j)) = g_X7_readUpTo F' τ' k (nI p) (nI m) (nI (pos B (D + 1))) ∧ m < F' + pos B (D + 1) ∧ pos B (D + 1) ≤ m ∧ RdS σ B (D + 1) 0 τ' ∧ g_X9_readsCaller G υ (nI q) (nI m) (w (base + 1)) 1 (nI j) = some (1, υ') ∧ RS ρ w (pos B (D + 1)) B (D + 1) υ' ∧ ∀ j', j ≤ j' → j' < B → sOK B (w (base + 2 + j')) := by
  have ps := pos_s B D
  rw [hb] at ps
  have pb : 2 ≤ base := by rw [← hb]; unfold pos; omega
  intro r
  induction r with
  | zero =>
    intro j F G τ υ hj hi hF hG hs hr hpj
    obtain rfl : j = B := by omega
    obtain ⟨G, rfl⟩ : ∃ H, G = H + 1 := ⟨G - 1, by omega⟩
    obtain ⟨r5, r6, r7, r8, r9, r10⟩ := hr
    rw [if_pos rfl] at hs
    refine Or.inr ⟨F, τ, my_up (my_up υ 3 D (nI (kv (w (base + 1))))) 0 6 (nI (D + 1)), by rw [ps], by rw [ps]; exact hF, by rw [ps]; exact hi, hs, rc_end kc hD r6 r7 _ _, ⟨?_, up_at, ?_, fun j j0 j3 j4 => by rw [up_j j0, up_j j3]; exact r8 j j0 j3 j4, fun t t5 t6 t7 => by rw [up_i t6, up_j (by omega)]; exact r9 t t5 t6 t7, fun d hd => ?_⟩, fun j' h1 h2 => by omega⟩
    · rw [up_i (by omega), up_j (by omega), ps]; exact r5
    · rw [up_i (by omega), up_j (by omega)]; exact r7
    · by_cases e : d = D
      · subst e
        refine ⟨by rw [up_j (by omega), up_at, hb], fun j' hj' => ?_⟩
        rw [up_j (by omega), up_j (by omega), hb]
        exact hpj j' hj'
      · obtain ⟨a1, a2⟩ := r10 d (by omega)
        refine ⟨by rw [up_j (by omega), up_i e]; exact a1, fun j' hj' => ?_⟩
        rw [up_j (by omega), up_j (by omega)]
        exact a2 j' hj'
  | succ r ih =>
    intro j F G τ υ hj hi hF hG hs hr hpj
    rw [if_neg (by omega)] at hs
    obtain ⟨F, rfl⟩ : ∃ H, F = H + 1 := ⟨F - 1, by omega⟩
    obtain ⟨G, rfl⟩ : ∃ H, G = H + 1 := ⟨G - 1, by omega⟩
    obtain ⟨r5, r6, r7, r8, r9, r10⟩ := hr
    have h19 : υ 19 = ρ 19 := r8 19 (by omega) (by omega) (by omega)
    have es := s_sign (j := j) hq hw2 h19 r5 r6 r7 hi b6 hD (by omega)
    have nb : ¬ nI B ≤ nI j := by rw [nIle (by omega) (by omega)]; omega
    have eR : g_X9_readsCaller (G + 1) υ (nI q) (nI m) (w (base + 1)) 1 (nI j) = (my_bnd (f_X9_readsSign υ (nI q) (nI m) (nI j)) fun r5 σ5 => g_X9_readsCaller G σ5 (nI q) (nI m) (w (base + 1)) r5 (nI (j + 1))) := by
      simp only [gs_X9_readsCaller, b_X9_readsCaller_0, r7, if_neg nb, e10, if_false, nI_p1]
    rw [eR, es]
    by_cases hm : base + 2 + j < m
    · rw [rd_2 hk hp hw b2 b6 hs (by omega) (by omega) hm]
      by_cases ok : sOK B (w (base + 2 + j))
      · rw [if_pos ok, if_pos (show base + 2 + j < m ∧ sOK B (w (base + 2 + j)) from ⟨hm, ok⟩), bnd_s]
        have hs' : if r = 0 then RdS σ B (D + 1) 0 (if j + 1 = B then my_up (my_up (my_up τ 30 2 (nI (3 + j))) 30 2 0) 30 1 (nI (D + 1)) else my_up τ 30 2 (nI (3 + j))) else RdS σ B D (2 + (j + 1)) (if j + 1 = B then my_up (my_up (my_up τ 30 2 (nI (3 + j))) 30 2 0) 30 1 (nI (D + 1)) else my_up τ 30 2 (nI (3 + j))) := by
          obtain ⟨s0, s1, s2, s3, s4⟩ := hs
          by_cases r0 : r = 0
          · rw [if_pos r0, if_pos (show j + 1 = B by omega)]
            refine ⟨?_, up_at, ?_, ?_, fun x hx => by rw [up_j hx, up_j hx, up_j hx]; exact s4 x hx⟩
            · rw [up_i (by omega), up_i (by omega), up_i (by omega)]; exact s0
            · rw [up_i (by omega), up_at, nI_0]
            · rw [up_i (by omega), up_i (by omega), up_i (by omega)]; exact s3
          · rw [if_neg r0, if_neg (show ¬ j + 1 = B by omega)]
            refine ⟨?_, ?_, ?_, ?_, fun x hx => by rw [up_j hx]; exact s4 x hx⟩
            · rw [up_i (by omega)]; exact s0
            · rw [up_i (by omega)]; exact s1
            · rw [up_at, show 2 + (j + 1) = 3 + j by omega]
            · rw [up_i (by omega)]; exact s3
        have hr' : RS ρ w (base + 2 + (j + 1)) B D (my_up (my_up υ 4 (6 * D + j) (enc (-9) (pv (w (base + 2 + j))))) 0 5 (nI (base + 2 + j + 1))) := by
          refine ⟨up_at, ?_, ?_, fun x x0 x3 x4 => by rw [up_j x0, up_j x4]; exact r8 x x0 x3 x4, fun t t5 t6 t7 => by rw [up_i t5, up_j (by omega)]; exact r9 t t5 t6 t7, fun d hd => ?_⟩
          · rw [up_i (by omega), up_j (by omega)]; exact r6
          · rw [up_i (by omega), up_j (by omega)]; exact r7
          · obtain ⟨a1, a2⟩ := r10 d hd
            refine ⟨by rw [up_j (by omega), up_j (by omega)]; exact a1, fun j' hj' => ?_⟩
            rw [up_j (by omega), up_i (by omega)]
            exact a2 j' hj'
        have hpj' : ∀ j', j' < j + 1 → my_up (my_up υ 4 (6 * D + j) (enc (-9) (pv (w (base + 2 + j))))) 0 5 (nI (base + 2 + j + 1)) 4 (6 * D + j') = enc (-9) (pv (w (base + 2 + j'))) := by
          intro j' hj'
          rw [up_j (by omega)]
          by_cases e : j' = j
          · subst e; rw [up_at]
          · rw [up_i (by omega)]; exact hpj j' (by omega)
        rcases ih (j + 1) F G _ _ (by omega) (by omega) (by omega) (by omega) hs' hr' hpj' with a | ⟨F', τ', υ', a1, a2, a3, a4, a5, a6, a7⟩
        · exact Or.inl a
        · refine Or.inr ⟨F', τ', υ', a1, a2, a3, a4, a5, a6, fun j' h1 h2 => ?_⟩
          by_cases e : j' = j
          · subst e; exact ok
          · exact a7 j' (by omega) h2
      · rw [if_neg ok, if_neg (show ¬ (base + 2 + j < m ∧ sOK B (w (base + 2 + j))) from fun z => ok z.2), bnd_s]
        obtain ⟨G', rfl⟩ : ∃ H, G = H + 1 := ⟨G - 1, by omega⟩
        rw [rc_tail kc hD r6]
        refine Or.inl ⟨base + 2 + j, τ, _, hi, rfl, hs.2.2.2.1, hs.2.2.2.2, rfl, ?_, fun x x0 x3 x4 => by rw [up_j x0, up_j x3]; exact r8 x x0 x3 x4, fun t t5 t6 t7 => by rw [up_i t6, up_j (by omega)]; exact r9 t t5 t6 t7⟩
        rw [up_i (by omega), up_j (by omega)]; exact r5
    · obtain em : base + 2 + j = m := by omega
      rw [if_neg (show ¬ (base + 2 + j < m ∧ sOK B (w (base + 2 + j))) from fun z => hm z.1), bnd_s]
      obtain ⟨G', rfl⟩ : ∃ H, G = H + 1 := ⟨G - 1, by omega⟩
      rw [rc_tail kc hD r6]
      obtain ⟨τ', t1, t2, t3, t4⟩ := rd_end (p := p) (F := F) hk (show m < 100 by omega) hs (by omega) (by omega)
      rw [if_neg (by omega)] at t4
      rw [em]
      refine Or.inl ⟨m, τ', _, Nat.le_refl _, t1, t4, t2, rfl, ?_, fun x x0 x3 x4 => by rw [up_j x0, up_j x3]; exact r8 x x0 x3 x4, fun t t5 t6 t7 => by rw [up_i t6, up_j (by omega)]; exact r9 t t5 t6 t7⟩
      rw [up_i (by omega), up_j (by omega), r5, em]
theorem s_caller {σ ρ : my_M} {k p q m B D : Nat} {w : Nat → Int32} (hk : k < 4) (hp : p + m ≤ 60) (hw : ∀ i, i < m → σ (36 + k) (p + i) = w i) (hq : q + m ≤ 240) (hw2 : ∀ i, i < m → ρ 19 (q + i) = w i) (b2 : 2 ≤ B) (b6 : B ≤ 6) (hD : D ≤ 4) {F : Nat} {τ υ : my_M} (hm : pos B D ≤ m) (hF : m < F + pos B D) (hs : RdS σ B D 0 τ) (hr : RS ρ w (pos B D) B D υ) (hn : 0 < D → pos B D < m) :
    PF σ ρ m (g_X7_readUpTo F τ k (nI p) (nI m) (nI (pos B D))) (f_X9_readsCaller υ (nI q) (nI m)) ∨ ∃ F' τ' υ', g_X7_readUpTo F τ k (nI p) (nI m) (nI (pos B D)) = g_X7_readUpTo F' τ' k (nI p) (nI m) (nI (pos B (D + 1))) ∧ m < F' + pos B (D + 1) ∧ pos B (D + 1) ≤ m ∧ D < 4 ∧ RdS σ B (D + 1) 0 τ' ∧ f_X9_readsCaller υ (nI q) (nI m) = some (1, υ') ∧ RS ρ w (pos B (D + 1)) B (D + 1) υ' ∧ kOK (w (pos B D + 1)) ∧ ∀ j', j' < B → sOK B (w (pos B D + 2 + j')) := by
  have hNF := NF_big
  have ps := pos_s B D
  have pb : 2 ≤ pos B D := by unfold pos; omega
  obtain ⟨r5, r6, r7, r8, r9, r10⟩ := id hr
  have h19 : υ 19 = ρ 19 := r8 19 (by omega) (by omega) (by omega)
  have ec := s_codeAt hq hw2 h19 r5 hm
  have n4 : (nI D = 4) = (D = 4) := by rw [show (4 : Int32) = nI 4 by decide, nI_inj (by omega) (by omega)]
  obtain ⟨F, rfl⟩ : ∃ H, F = H + 1 := ⟨F - 1, by omega⟩
  by_cases d4 : D = 4
  · have hl := hn (by omega)
    refine Or.inl ⟨pos B D, τ, υ, hm, ?_, hs.2.2.2.1, hs.2.2.2.2, ?_, r5, r8, r9⟩
    · rw [rd_0 hk hp hw b2 b6 hs hD pb hl, if_neg (fun z => by omega)]
    · simp only [f_X9_readsCaller, r6, n4, if_pos d4]
  · by_cases hl : pos B D < m
    · rw [if_pos hl] at ec
      rw [rd_0 hk hp hw b2 b6 hs hD pb hl]
      by_cases h59 : w (pos B D) = 59
      · rw [if_pos ⟨h59, by omega⟩]
        have h19' : my_up υ 0 5 (nI (pos B D + 1)) 19 = ρ 19 := by rw [up_j (by omega)]; exact h19
        have ec2 := s_codeAt (i := pos B D + 1) (υ := my_up υ 0 5 (nI (pos B D + 1))) hq hw2 h19' up_at (by omega)
        have s1 : RdS σ B D 1 (my_up τ 30 2 (nI 1)) := by
          obtain ⟨a0, a1, a2, a3, a4⟩ := hs
          refine ⟨by rw [up_i (by omega)]; exact a0, by rw [up_i (by omega)]; exact a1, up_at, by rw [up_i (by omega)]; exact a3, fun x hx => by rw [up_j hx]; exact a4 x hx⟩
        obtain ⟨F, rfl⟩ : ∃ H, F = H + 1 := ⟨F - 1, by omega⟩
        have fr1 : FRR ρ (my_up υ 0 5 (nI (pos B D + 1))) := ⟨fun x x0 x3 x4 => by rw [up_j x0]; exact r8 x x0 x3 x4, fun t t5 t6 t7 => by rw [up_i t5]; exact r9 t t5 t6 t7⟩
        by_cases hl2 : pos B D + 1 < m
        · rw [if_pos hl2] at ec2
          rw [rd_1 hk hp hw b2 b6 s1 (by omega) hl2]
          by_cases kc : kOK (w (pos B D + 1))
          · rw [if_pos kc]
            have s2 : RdS σ B D (2 + 0) (my_up (my_up τ 30 2 (nI 1)) 30 2 (nI 2)) := by
              obtain ⟨a0, a1, a2, a3, a4⟩ := s1
              refine ⟨by rw [up_i (by omega)]; exact a0, by rw [up_i (by omega)]; exact a1, up_at, by rw [up_i (by omega)]; exact a3, fun x hx => by rw [up_j hx]; exact a4 x hx⟩
            have rr : RS ρ w (pos B D + 2 + 0) B D (my_up (my_up υ 0 5 (nI (pos B D + 1))) 0 5 (nI (pos B D + 1 + 1))) := by
              rw [up_up]
              refine ⟨up_at, by rw [up_i (by omega)]; exact r6, by rw [up_i (by omega)]; exact r7, fun x x0 x3 x4 => by rw [up_j x0]; exact r8 x x0 x3 x4, fun t t5 t6 t7 => by rw [up_i t5]; exact r9 t t5 t6 t7, fun d hd => ?_⟩
              rw [up_j (by omega), up_j (by omega)]
              exact r10 d hd
            have eR : f_X9_readsCaller υ (nI q) (nI m) = g_X9_readsCaller my_NF (my_up (my_up υ 0 5 (nI (pos B D + 1))) 0 5 (nI (pos B D + 1 + 1))) (nI q) (nI m) (w (pos B D + 1)) 1 (nI 0) := by
              rw [nI_0]
              simp only [f_X9_readsCaller, r6, n4, if_neg d4, ec, bnd_s, if_pos h59, r5, nI_p1, ec2, up_at]
              rcases kc with e | e | e
              · rw [if_pos e]
              · rw [if_pos e]; exact ite_self _
              · rw [if_pos e]; simp only [ite_self]
            rw [eR]
            rcases g_signs hk hp hw hq hw2 b2 b6 (show D < 4 by omega) rfl kc B 0 F my_NF _ _ (by omega) (by omega) (by omega) (by omega) (by rw [if_neg (by omega)]; exact s2) rr (fun j' hj' => by omega) with a | ⟨F', τ', υ', a1, a2, a3, a4, a5, a6, a7⟩
            · exact Or.inl a
            · exact Or.inr ⟨F', τ', υ', a1, a2, a3, by omega, a4, a5, a6, kc, fun j' h => a7 j' (by omega) h⟩
          · rw [if_neg kc]
            refine Or.inl ⟨pos B D + 1, _, _, by omega, rfl, s1.2.2.2.1, s1.2.2.2.2, ?_, up_at, fr1⟩
            have k1 : ¬ w (pos B D + 1) = 112 := fun e => kc (Or.inl e)
            have k2 : ¬ w (pos B D + 1) = 98 := fun e => kc (Or.inr (Or.inl e))
            have k3 : ¬ w (pos B D + 1) = 107 := fun e => kc (Or.inr (Or.inr e))
            simp only [f_X9_readsCaller, r6, n4, if_neg d4, ec, bnd_s, if_pos h59, r5, nI_p1, ec2, if_neg k1, if_neg k2, if_neg k3]
        · rw [if_neg hl2] at ec2
          have em : pos B D + 1 = m := by omega
          obtain ⟨τ', t1, t2, t3, t4⟩ := rd_end (p := p) (F := F) hk (show m < 100 by omega) s1 hD (by omega)
          rw [if_neg (by omega)] at t4
          rw [em] at ec2 fr1 ⊢
          refine Or.inl ⟨m, τ', my_up υ 0 5 (nI m), Nat.le_refl _, t1, t4, t2, ?_, up_at, fr1⟩
          simp only [f_X9_readsCaller, r6, n4, if_neg d4, ec, bnd_s, if_pos h59, r5, nI_p1, em, ec2, if_neg (show ¬ (-9 : Int32) = 112 by decide), if_neg (show ¬ (-9 : Int32) = 98 by decide), if_neg (show ¬ (-9 : Int32) = 107 by decide)]
      · rw [if_neg (fun z => h59 z.1)]
        refine Or.inl ⟨pos B D, τ, υ, hm, rfl, hs.2.2.2.1, hs.2.2.2.2, ?_, r5, r8, r9⟩
        simp only [f_X9_readsCaller, r6, n4, if_neg d4, ec, bnd_s, if_neg h59]
    · rw [if_neg hl] at ec
      have em : pos B D = m := by omega
      obtain ⟨τ', t1, t2, t3, t4⟩ := rd_end (p := p) (F := F) hk (show m < 100 by omega) hs hD (by omega)
      rw [if_neg (fun z => by have := hn z.1; omega)] at t4
      rw [em]
      refine Or.inl ⟨m, τ', υ, Nat.le_refl _, t1, t4, t2, ?_, by rw [r5, em], r8, r9⟩
      simp only [f_X9_readsCaller, r6, n4, if_neg d4, ec, bnd_s, if_neg (show ¬ (-9 : Int32) = 59 by decide)]
theorem g_callers {σ ρ : my_M} {k p q m B : Nat} {w : Nat → Int32} (hk : k < 4) (hp : p + m ≤ 60) (hw : ∀ i, i < m → σ (36 + k) (p + i) = w i) (hq : q + m ≤ 240) (hw2 : ∀ i, i < m → ρ 19 (q + i) = w i) (b2 : 2 ≤ B) (b6 : B ≤ 6) : ∀ (s D F G : Nat) (τ υ : my_M), D + s = 4 → pos B D ≤ m → m < F + pos B D → s + 2 < G → RdS σ B D 0 τ → RS ρ w (pos B D) B D υ → VAL w B D →
    PF σ ρ m (g_X7_readUpTo F τ k (nI p) (nI m) (nI (pos B D))) (g_X9_readsCallers G υ (nI q) (nI m) 1) ∨ ∃ D' τ' υ', 0 < D' ∧ D' ≤ 4 ∧ pos B D' = m ∧ g_X7_readUpTo F τ k (nI p) (nI m) (nI (pos B D)) = some (nI m, τ') ∧ τ' 30 3 = 1 ∧ τ' 30 1 = nI D' ∧ (∀ j, j ≠ 30 → τ' j = σ j) ∧ g_X9_readsCallers G υ (nI q) (nI m) 1 = some (1, υ') ∧ RS ρ w m B D' υ' ∧ VAL w B D' := by
  intro s
  induction s with
  | zero =>
    intro D F G τ υ hD hm hF hG hs hr hv
    obtain rfl : D = 4 := by omega
    obtain ⟨G, rfl⟩ : ∃ H, G = H + 1 := ⟨G - 1, by omega⟩
    obtain ⟨G, rfl⟩ : ∃ H, G = H + 1 := ⟨G - 1, by omega⟩
    have r5 := hr.1
    have r6 := hr.2.1
    by_cases hl : pos B 4 < m
    · rcases s_caller hk hp hw hq hw2 b2 b6 (show 4 ≤ 4 by omega) hm hF hs hr (fun _ => hl) with ⟨e, τ', υ', a1, a2, a3, a4, a5, a6, a7⟩ | ⟨F', τ', υ', a1, a2, a3, a4, a5⟩
      · refine Or.inl ⟨e, τ', υ', a1, a2, a3, a4, ?_, a6, a7⟩
        simp only [gs_X9_readsCallers, b_X9_readsCallers_0, e10, if_false, r6, if_neg (show ¬ nI 4 < 1 by decide), r5, nIle (show m < 2 ^ 31 by omega) (show pos B 4 < 2 ^ 31 by omega), if_neg (show ¬ m ≤ pos B 4 by omega), a5, bnd_s, if_true, if_pos b00]
      · omega
    · have em : pos B 4 = m := by omega
      obtain ⟨F, rfl⟩ : ∃ H, F = H + 1 := ⟨F - 1, by omega⟩
      obtain ⟨τ', t1, t2, t3, t4⟩ := rd_end (p := p) (F := F) hk (show m < 100 by omega) hs (by omega) (by omega)
      rw [if_pos ⟨by omega, rfl⟩] at t4
      refine Or.inr ⟨4, τ', υ, by omega, by omega, em, by rw [em]; exact t1, t4, t3, t2, ?_, by rw [← em]; exact hr, hv⟩
      simp only [gs_X9_readsCallers, b_X9_readsCallers_0, e10, if_false, r6, if_neg (show ¬ nI 4 < 1 by decide), r5, nIle (show m < 2 ^ 31 by omega) (show pos B 4 < 2 ^ 31 by omega), if_pos (show m ≤ pos B 4 by omega), if_pos b10]
  | succ s ih =>
    intro D F G τ υ hD hm hF hG hs hr hv
    obtain ⟨G, rfl⟩ : ∃ H, G = H + 1 := ⟨G - 1, by omega⟩
    have r5 := hr.1
    have r6 := hr.2.1
    have d1 : (nI D < 1) = (D < 1) := by rw [nI_lit1, nIlt (by omega) (by omega)]
    by_cases hl : 0 < D ∧ pos B D = m
    · obtain ⟨F, rfl⟩ : ∃ H, F = H + 1 := ⟨F - 1, by omega⟩
      obtain ⟨τ', t1, t2, t3, t4⟩ := rd_end (p := p) (F := F) hk (show m < 100 by omega) hs (by omega) (by omega)
      rw [if_pos ⟨hl.1, rfl⟩] at t4
      refine Or.inr ⟨D, τ', υ, hl.1, by omega, hl.2, by rw [hl.2]; exact t1, t4, t3, t2, ?_, by rw [← hl.2]; exact hr, hv⟩
      simp only [gs_X9_readsCallers, b_X9_readsCallers_0, e10, if_false, r6, d1, if_neg (show ¬ D < 1 by omega), r5, nIle (show m < 2 ^ 31 by omega) (show pos B D < 2 ^ 31 by omega), if_pos (show m ≤ pos B D by omega), if_pos b10]
    · have eR : g_X9_readsCallers (G + 1) υ (nI q) (nI m) 1 = (my_bnd (f_X9_readsCaller υ (nI q) (nI m)) fun r1 σ1 => g_X9_readsCallers G σ1 (nI q) (nI m) r1) := by
        by_cases d0 : D < 1
        · simp only [gs_X9_readsCallers, b_X9_readsCallers_0, e10, if_false, r6, d1, if_pos d0]
        · simp only [gs_X9_readsCallers, b_X9_readsCallers_0, e10, if_false, r6, d1, if_neg d0, r5, nIle (show m < 2 ^ 31 by omega) (show pos B D < 2 ^ 31 by omega), if_neg (show ¬ m ≤ pos B D by omega)]
      rw [eR]
      rcases s_caller hk hp hw hq hw2 b2 b6 (show D ≤ 4 by omega) hm hF hs hr (fun z => by omega) with ⟨e, τ', υ', a1, a2, a3, a4, a5, a6, a7⟩ | ⟨F', τ', υ', a1, a2, a3, a4, a5, a6, a7, a8, a9⟩
      · rw [a5, bnd_s]
        obtain ⟨G', rfl⟩ : ∃ H, G = H + 1 := ⟨G - 1, by omega⟩
        refine Or.inl ⟨e, τ', υ', a1, a2, a3, a4, ?_, a6, a7⟩
        simp only [gs_X9_readsCallers, b_X9_readsCallers_0, if_true, if_pos b00]
      · rw [a6, bnd_s, a1]
        refine ih (D + 1) F' G τ' υ' (by omega) a3 a2 (by omega) a5 a7 (fun d hd => ?_)
        by_cases e : d = D
        · subst e; exact ⟨a8, a9⟩
        · exact hv d (by omega)
