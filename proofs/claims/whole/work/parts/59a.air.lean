/-! what sounds -/
def bitI (n : Nat) (pt : Nat → Nat → Option Nat) (sw sm sh : Nat → Nat) (i s t : Nat) : Int32 := if sm s + i ≤ t ∧ t < sm s + n then (match pt (sw s) (t - sm s) with | none => 0 | some v => 1 <<< ((nI v + nI (sh s)) &&& 31)) else 0
theorem bitI_at {n : Nat} {pt : Nat → Nat → Option Nat} {sw sm sh : Nat → Nat} {i s : Nat} : bitI n pt sw sm sh (i + 1) s (sm s + i) = 0 := if_neg (by omega)
theorem bitI_end {n : Nat} {pt : Nat → Nat → Option Nat} {sw sm sh : Nat → Nat} {s t : Nat} : bitI n pt sw sm sh n s t = 0 := if_neg (by omega)
theorem bitI_ne {n : Nat} {pt : Nat → Nat → Option Nat} {sw sm sh : Nat → Nat} {i s t : Nat} (h : t ≠ sm s + i) : bitI n pt sw sm sh (i + 1) s t = bitI n pt sw sm sh i s t := by
  unfold bitI
  by_cases e : sm s + (i + 1) ≤ t ∧ t < sm s + n
  · rw [if_pos e, if_pos (by omega)]
  · rw [if_neg e, if_neg (by omega)]
theorem bitI_none {n : Nat} {pt : Nat → Nat → Option Nat} {sw sm sh : Nat → Nat} {i s t : Nat} (h : sm s + i ≤ t ∧ t < sm s + n) (hp : pt (sw s) (t - sm s) = none) : bitI n pt sw sm sh i s t = 0 := by
  unfold bitI
  rw [if_pos h, hp]
theorem bitI_some {n : Nat} {pt : Nat → Nat → Option Nat} {sw sm sh : Nat → Nat} {i s t v : Nat} (h : sm s + i ≤ t ∧ t < sm s + n) (hp : pt (sw s) (t - sm s) = some v) : bitI n pt sw sm sh i s t = 1 <<< ((nI v + nI (sh s)) &&& 31) := by
  unfold bitI
  rw [if_pos h, hp]
def airA (n : Nat) (pt : Nat → Nat → Option Nat) (sw sm sh : Nat → Nat) : Nat → Nat → Nat → Int32 → Int32
  | 0, _, _, acc => acc
  | r + 1, s, t, acc => airA n pt sw sm sh r (s + 1) t (acc ||| bitI n pt sw sm sh 0 s t)
theorem AiC_fe {a : Nat} {sw sm sh : Nat → Nat} {e : Nat} {σ τ : my_M} (h : AiC a sw sm sh e σ) (g : ∀ j, j ≠ 15 + 5 * e → τ j = σ j) : AiC a sw sm sh e τ := by
  refine ⟨by rw [g _ (by omega)]; exact h.1, fun s hs => ?_⟩
  rw [g (12 + 5 * e) (by omega), g (13 + 5 * e) (by omega), g (14 + 5 * e) (by omega)]
  exact h.2 s hs
theorem g_snd1 {c n : Nat} {kd : Nat → Nat} {pt : Nat → Nat → Option Nat} {a : Nat} {sw sm sh : Nat → Nat} {e : Nat} (hB : ChB c n kd pt) (aB : AiB c a sw sm sh) (he : e < 2) {s : Nat} (hs : s < a) : ∀ (r i F : Nat) (σ : my_M), ChC c n kd pt σ → AiC a sw sm sh e σ → i + r = n → r < F → ∃ τ, (g_X0_sound F).2 σ e (nI s) (7 + sw s) (nI i) = (g_X0_sound (F - r - 1)).1 τ e (nI (s + 1)) ∧ (∀ j, j ≠ 15 + 5 * e → τ j = σ j) ∧ ∀ t, τ (15 + 5 * e) t = σ (15 + 5 * e) t ||| bitI n pt sw sm sh i s t := by
  have h4 := hB.1
  have h6 := hB.2.1
  have h8 := aB.1
  obtain ⟨b1, b2, b3⟩ := aB.2 s hs
  intro r
  induction r with
  | zero =>
    intro i F σ hC aC hi hF
    obtain rfl : i = n := by omega
    obtain ⟨F, rfl⟩ : ∃ G, F = G + 1 := ⟨F - 1, by omega⟩
    refine ⟨σ, ?_, fun _ _ => rfl, fun t => by rw [bitI_end, or0]⟩
    simp only [gs_X0_sound_1, b_X0_sound_1, if_pos he, hC.2.1, if_pos (show nI i ≤ nI i from Int32.le_refl _), nI_p1, Nat.sub_zero, Nat.add_sub_cancel]
  | succ r ih =>
    intro i F σ hC aC hi hF
    obtain ⟨F, rfl⟩ : ∃ G, F = G + 1 := ⟨F - 1, by omega⟩
    obtain ⟨l1, l2, l3, l4⟩ := lenC_a he
    obtain ⟨e1, e2, e3⟩ := aC.2 s hs
    have hv := hB.2.2.2.1 (sw s) b1 i (by omega)
    have hp := hC.2.2.2 (sw s) b1 i (by omega)
    rw [show F + 1 - (r + 1) - 1 = F - r - 1 by omega]
    cases hq : pt (sw s) i with
    | none =>
      obtain ⟨τ, q1, q2, q3⟩ := ih (i + 1) F σ hC aC (by omega) (by omega)
      refine ⟨τ, ?_, q2, fun t => ?_⟩
      · rw [← q1]
        simp only [gs_X0_sound_1, b_X0_sound_1, if_pos he, hC.2.1, nIle (show n < 2 ^ 31 by omega) (show i < 2 ^ 31 by omega), if_neg (show ¬ n ≤ i by omega), lenC_p (show sw s < 4 by omega), if_pos (ixN (show i < 6 by omega) (by omega)), q_clamp (show i < 2 ^ 31 by omega), hp, enc_m1 hv h6, if_pos hq, nI_p1]
      · rw [q3 t]
        by_cases et : t = sm s + i
        · subst et
          rw [bitI_at, bitI_none (by omega) (by rw [Nat.add_sub_cancel_left]; exact hq)]
        · rw [bitI_ne et]
    | some v =>
      have n0 : ¬ pt (sw s) i = none := by rw [hq]; simp
      have hp' : σ (7 + sw s) i = nI v := by rw [hp, hq]; rfl
      obtain ⟨τ, q1, q2, q3⟩ := ih (i + 1) F (my_up σ (15 + 5 * e) (sm s + i) (σ (15 + 5 * e) (sm s + i) ||| (1 <<< ((nI v + nI (sh s)) &&& 31)))) (ChC_f h4 hC (fun j _ _ => up_j (by omega))) (AiC_fe aC (fun j hj => up_j hj)) (by omega) (by omega)
      refine ⟨τ, ?_, fun j hj => by rw [q2 j hj, up_j hj], fun t => ?_⟩
      · rw [← q1]
        have n1 : ¬ nI v = -1 := by
          rw [← hp', hp, enc_m1 hv h6]
          exact n0
        simp only [gs_X0_sound_1, b_X0_sound_1, if_pos he, hC.2.1, nIle (show n < 2 ^ 31 by omega) (show i < 2 ^ 31 by omega), if_neg (show ¬ n ≤ i by omega), lenC_p (show sw s < 4 by omega), if_pos (ixN (show i < 6 by omega) (by omega)), q_clamp (show i < 2 ^ 31 by omega), hp', if_neg n1, l2, l3, l4, if_pos (ixN (show s < 8 by omega) (by omega)), q_clamp (show s < 2 ^ 31 by omega), e2, e3, nI_add, if_pos (ixN (show sm s + i < 26 by omega) (by omega)), q_clamp (show sm s + i < 2 ^ 31 by omega), nI_p1]
      · rw [q3 t]
        by_cases et : t = sm s + i
        · subst et
          rw [bitI_at, up_at, or0, bitI_some (v := v) (by omega) (by rw [Nat.add_sub_cancel_left]; exact hq)]
        · rw [bitI_ne et, up_i et]
theorem g_snd0 {c n : Nat} {kd : Nat → Nat} {pt : Nat → Nat → Option Nat} {a : Nat} {sw sm sh : Nat → Nat} {e : Nat} (hB : ChB c n kd pt) (aB : AiB c a sw sm sh) (he : e < 2) : ∀ (r s F : Nat) (σ : my_M), ChC c n kd pt σ → AiC a sw sm sh e σ → s + r = a → r * 8 < F → ∃ τ, (g_X0_sound F).1 σ e (nI s) = some ((), τ) ∧ (∀ j, j ≠ 15 + 5 * e → τ j = σ j) ∧ ∀ t, τ (15 + 5 * e) t = airA n pt sw sm sh r s t (σ (15 + 5 * e) t) := by
  have h4 := hB.1
  have h6 := hB.2.1
  have h8 := aB.1
  intro r
  induction r with
  | zero =>
    intro s F σ hC aC hi hF
    obtain rfl : s = a := by omega
    obtain ⟨F, rfl⟩ : ∃ G, F = G + 1 := ⟨F - 1, by omega⟩
    refine ⟨σ, ?_, fun _ _ => rfl, fun t => rfl⟩
    simp only [gs_X0_sound_0, b_X0_sound_0, if_pos he, aC.1, if_pos (show nI s ≤ nI s from Int32.le_refl _)]
  | succ r ih =>
    intro s F σ hC aC hi hF
    obtain ⟨F, rfl⟩ : ∃ G, F = G + 1 := ⟨F - 1, by omega⟩
    obtain ⟨l1, l2, l3, l4⟩ := lenC_a he
    obtain ⟨e1, e2, e3⟩ := aC.2 s (by omega)
    obtain ⟨b1, b2, b3⟩ := aB.2 s (by omega)
    obtain ⟨τ1, q1, q2, q3⟩ := g_snd1 hB aB he (show s < a by omega) n 0 F σ hC aC (by omega) (by omega)
    obtain ⟨τ, p1, p2, p3⟩ := ih (s + 1) (F - n - 1) τ1 (ChC_f h4 hC (fun j _ _ => q2 j (by omega))) (AiC_fe aC q2) (by omega) (by omega)
    refine ⟨τ, ?_, fun j hj => by rw [p2 j hj, q2 j hj], fun t => ?_⟩
    · rw [← p1, ← q1, nI_0]
      simp only [gs_X0_sound_0, b_X0_sound_0, if_pos he, aC.1, nIle (show a < 2 ^ 31 by omega) (show s < 2 ^ 31 by omega), if_neg (show ¬ a ≤ s by omega), l1, if_pos (ixN (show s < 8 by omega) (by omega)), q_clamp (show s < 2 ^ 31 by omega), e1, if_pos (ixN (show sw s < 4 by omega) (by omega)), q_clamp (show sw s < 2 ^ 31 by omega)]
    · rw [p3 t, q3 t]
      rfl
theorem s_sound {c n : Nat} {kd : Nat → Nat} {pt : Nat → Nat → Option Nat} {a : Nat} {sw sm sh : Nat → Nat} {e : Nat} {σ : my_M} (hB : ChB c n kd pt) (aB : AiB c a sw sm sh) (he : e < 2) (hC : ChC c n kd pt σ) (aC : AiC a sw sm sh e σ) : ∃ τ, f_X0_sound σ e = some ((), τ) ∧ (∀ j, j ≠ 15 + 5 * e → τ j = σ j) ∧ ∀ t, t < 26 → τ (15 + 5 * e) t = airA n pt sw sm sh a 0 t 0 := by
  have hN := NF_big
  have h8 := aB.1
  obtain ⟨l1, l2, l3, l4⟩ := lenC_a he
  obtain ⟨τ1, q1, q2, q3⟩ := g_fill l4 (by omega) 0 26 0 my_NF σ (by omega) (by omega)
  obtain ⟨τ, p1, p2, p3⟩ := g_snd0 hB aB he a 0 my_NF τ1 (ChC_f hB.1 hC (fun j _ _ => q2 j (by have := hB.1; omega))) (AiC_fe aC q2) (by omega) (by omega)
  rw [nI_0] at q1 p1
  refine ⟨τ, ?_, fun j hj => by rw [p2 j hj, q2 j hj], fun t ht => ?_⟩
  · simp only [f_X0_sound, if_pos he, f_J7_fill_53178, l4, if_pos (show 0 < 26 by omega), q1, bnd_s, p1]
  · rw [p3 t, q3 t, if_pos (by omega)]
theorem g_airOf {c n : Nat} {kd : Nat → Nat} {pt : Nat → Nat → Option Nat} {a : Nat} {sw sm sh : Nat → Nat} {ρ : my_M} (hB : ChB c n kd pt) (aB : AiB c a sw sm sh) (hR : ChR c n kd pt ρ) (aR : AiR a sw sm sh ρ) {t : Nat} (ht : t < 26) : ∀ (r s F : Nat) (acc : Int32), s + r = a → r < F → g_X9_airOf F ρ (nI t) acc (nI s) = some (airA n pt sw sm sh r s t acc, ρ) := by
  have h4 := hB.1
  have h6 := hB.2.1
  have h8 := aB.1
  intro r
  induction r with
  | zero =>
    intro s F acc hi hF
    obtain rfl : s = a := by omega
    obtain ⟨F, rfl⟩ : ∃ G, F = G + 1 := ⟨F - 1, by omega⟩
    simp only [gs_X9_airOf, b_X9_airOf_0, aR.1, if_pos (show nI s ≤ nI s from Int32.le_refl _), airA]
  | succ r ih =>
    intro s F acc hi hF
    obtain ⟨F, rfl⟩ : ∃ G, F = G + 1 := ⟨F - 1, by omega⟩
    obtain ⟨e1, e2, e3⟩ := aR.2 s (by omega)
    obtain ⟨b1, b2, b3⟩ := aB.2 s (by omega)
    have ih' := ih (s + 1) F (acc ||| bitI n pt sw sm sh 0 s t) (by omega) (by omega)
    refine Eq.trans ?_ ih'
    by_cases hb : sm s + 0 ≤ t ∧ t < sm s + n
    · have hv := hB.2.2.2.1 (sw s) b1 (t - sm s) (by omega)
      have w : iv (nI (t - sm s)) 0 ((n : Int) - 1) := calN (by omega) (by omega)
      simp only [gs_X9_airOf, b_X9_airOf_0, aR.1, nIle (show a < 2 ^ 31 by omega) (show s < 2 ^ 31 by omega), if_neg (show ¬ a ≤ s by omega), lenR_6, lenR_7, lenR_8, if_pos (ixN (show s < 8 by omega) (by omega)), q_clamp (show s < 2 ^ 31 by omega), e1, e2, e3, nI_sub (show sm s ≤ t by omega) (show t < 2 ^ 31 by omega), s_noBeat hR.2.1 h6, bnd_s, bI_f (fun q : ¬ _ => q w), e00, if_true, s_pitch hB hR b1 (show t - sm s < n by omega), enc_lt hv h6, nI_p1]
      cases hq : pt (sw s) (t - sm s) with
      | none => rw [if_pos rfl, bitI_none hb hq]
      | some v => rw [if_neg (by simp), bitI_some hb hq]; rfl
    · have w : ¬ iv (nI t - nI (sm s)) 0 ((n : Int) - 1) := by
        intro q
        have q1 := q.1
        have q2 := q.2
        rw [q_sub (by rw [q_n (by omega), q_n (by omega)]; omega) (by rw [q_n (by omega), q_n (by omega)]; omega), q_n (by omega), q_n (by omega)] at q1 q2
        omega
      rw [show bitI n pt sw sm sh 0 s t = 0 from if_neg hb]
      simp only [gs_X9_airOf, b_X9_airOf_0, aR.1, nIle (show a < 2 ^ 31 by omega) (show s < 2 ^ 31 by omega), if_neg (show ¬ a ≤ s by omega), lenR_7, if_pos (ixN (show s < 8 by omega) (by omega)), q_clamp (show s < 2 ^ 31 by omega), e2, s_noBeat hR.2.1 h6, bnd_s, bI_t w, e10, if_false, nI_p1]
theorem s_airOf {c n : Nat} {kd : Nat → Nat} {pt : Nat → Nat → Option Nat} {a : Nat} {sw sm sh : Nat → Nat} {ρ : my_M} (hB : ChB c n kd pt) (aB : AiB c a sw sm sh) (hR : ChR c n kd pt ρ) (aR : AiR a sw sm sh ρ) {t : Nat} (ht : t < 26) : f_X9_airOf ρ (nI t) = some (airA n pt sw sm sh a 0 t 0, ρ) := by
  have hN := NF_big
  have h8 := aB.1
  unfold f_X9_airOf
  rw [← g_airOf hB aB hR aR ht a 0 my_NF 0 (by omega) (by omega), nI_0]
theorem Rel_snd {σ ρ τ : my_M} (h : Rel σ ρ) (g : ∀ j, j ≠ 15 → τ j = σ j) : Rel τ ρ := by
  refine ⟨RelX_ag h.1 ⟨fun j hj => g j (by omega), by rw [g 0 (by omega)]⟩ (GdC_of (RelX_G h.1) (g 27 (by omega)) (g 28 (by omega))) agR_rf, ?_⟩
  rw [g 0 (by omega)]
  exact h.2
theorem pr_air {σ ρ : my_M} (h : Rel σ ρ) (x : Int32) : ∃ (r : Int32) (σ1 ρ1 : my_M), f_X8_air σ x = some (r, σ1) ∧ f_X9_air ρ x = some (r, ρ1) ∧ Rel σ1 ρ1 := by
  obtain ⟨⟨c, n, kd, pt, a, sw, sm, sh, b, rh, rw_, rl, rg, rv, hB, hC, hR, aB, aC, aR, dB, dC, dR, hS, hG, hT⟩, hF⟩ := id h
  have h4 := hB.1
  by_cases hx : iv x 0 25
  · obtain ⟨t, ht, rfl⟩ := iv_nat (m := 25) hx
    by_cases c0 : c = 0
    · subst c0
      refine ⟨-3, σ, ρ, ?_, ?_, h⟩
      · simp only [f_X8_air, s_W, t_0, t_25, bI_t hx, bnd_s, e10, if_false, hC.1, if_pos (show nI 0 = 0 from nI_0)]
      · simp only [f_X9_air, s_isMomentR, bI_t hx, bnd_s, e10, if_false, hR.1, if_pos (show nI 0 = 0 from nI_0)]
    · have c1 : ¬ nI c = 0 := by rw [← nI_0, nI_inj (by omega) (by omega)]; exact c0
      obtain ⟨τ, q1, q2, q3⟩ := s_sound hB aB (show 0 < 2 by omega) hC aC
      have q3' : τ 15 t = _ := q3 t (by omega)
      refine ⟨airA n pt sw sm sh a 0 t 0, τ, ρ, ?_, ?_, Rel_snd h q2⟩
      · simp only [f_X8_air, s_W, t_0, t_25, bI_t hx, bnd_s, e10, if_false, hC.1, if_neg c1, q1, lenC_15, if_pos (ixN (show t < 26 by omega) (by omega)), q_clamp (show t < 2 ^ 31 by omega), q3']
      · simp only [f_X9_air, s_isMomentR, bI_t hx, bnd_s, e10, if_false, hR.1, if_neg c1, s_airOf hB aB hR aR (show t < 26 by omega)]
  · refine ⟨-2, σ, ρ, ?_, ?_, h⟩
    · simp only [f_X8_air, s_W, t_0, t_25, bI_f hx, bnd_s, e00, if_true]
    · simp only [f_X9_air, s_isMomentR, bI_f hx, bnd_s, e00, if_true]
