def ptN (pt : Nat → Nat → Option Nat) (k i : Nat) : Nat := (pt k i).getD 0
theorem enc_ptN {pt : Nat → Nat → Option Nat} {k i : Nat} {f : Int32} (h : pt k i ≠ none) : enc f (pt k i) = nI (ptN pt k i) := by
  unfold ptN
  cases hq : pt k i with
  | none => exact absurd hq h
  | some v => rfl
theorem ptN_lt {c n : Nat} {kd : Nat → Nat} {pt : Nat → Nat → Option Nat} (hB : ChB c n kd pt) {k i : Nat} (hk : k < c) (hi : i < n) (h : pt k i ≠ none) : ptN pt k i < n := by
  unfold ptN
  cases hq : pt k i with
  | none => exact absurd hq h
  | some v => exact hB.2.2.2.1 k hk i hi v hq
theorem g_goodC {c n : Nat} {kd : Nat → Nat} {pt : Nat → Nat → Option Nat} {σ : my_M} (hB : ChB c n kd pt) (hC : ChC c n kd pt σ) {k : Nat} (hk : k < c) (hp : ∀ i, i < n → pt k i ≠ none) : ∀ (r j F : Nat), j + r = n → r < F → g_X3_isGood F σ (7 + k) (nI n) (nI j) = some (bI (soB (staysB (ptN pt k)) r j = true), σ) := by
  have h4 := hB.1
  have h6 := hB.2.1
  have lA := lenC_p (show k < 4 by omega)
  intro r
  induction r with
  | zero =>
    intro j F hi hF
    obtain rfl : j = n := by omega
    obtain ⟨F, rfl⟩ : ∃ G, F = G + 1 := ⟨F - 1, by omega⟩
    rw [bI_t (show soB _ 0 j = true from rfl)]
    simp only [gs_X3_isGood, b_X3_isGood_0, if_pos (show nI j ≤ nI j from Int32.le_refl _)]
  | succ r ih =>
    intro j F hi hF
    obtain ⟨F, rfl⟩ : ∃ G, F = G + 1 := ⟨F - 1, by omega⟩
    have hv := hB.2.2.2.1 k hk j (by omega)
    have hs := s_stays (σ := σ) (A := 7 + k) (j := j) (t := ptN pt k) lA (by omega) (fun i hi => by rw [hC.2.2.2 k hk i (by omega), enc_ptN (hp i (by omega))]) (fun i hi => by have := ptN_lt hB hk (show i < n by omega) (hp i (by omega)); omega)
    simp only [gs_X3_isGood, b_X3_isGood_0, nIle (show n < 2 ^ 31 by omega) (show j < 2 ^ 31 by omega), if_neg (show ¬ n ≤ j by omega), lA, if_pos (ixN (show j < 6 by omega) (by omega)), q_clamp (show j < 2 ^ 31 by omega), hC.2.2.2 k hk j (by omega), enc_m1 hv h6, if_neg (hp j (by omega)), hs, bnd_s, nI_p1]
    by_cases q : staysB (ptN pt k) j = true
    · rw [bI_t q, if_neg (by decide), ih (j + 1) F (by omega) (by omega), bI_soB q]
    · rw [bI_f q, if_pos rfl, bI_f]
      rw [soB_f (Bool.eq_false_iff.mpr q)]
      exact Bool.false_ne_true
theorem g_goodC0 {c n : Nat} {kd : Nat → Nat} {pt : Nat → Nat → Option Nat} {σ : my_M} (hB : ChB c n kd pt) (hC : ChC c n kd pt σ) {k q : Nat} (hk : k < c) (hq : q < n) (hn : pt k q = none) : ∀ (r j F : Nat), j + r = n → r < F → j ≤ q → (∀ i, i < j → pt k i ≠ none) → g_X3_isGood F σ (7 + k) (nI n) (nI j) = some (0, σ) := by
  have h4 := hB.1
  have h6 := hB.2.1
  have lA := lenC_p (show k < 4 by omega)
  intro r
  induction r with
  | zero =>
    intro j F hi hF hj _
    omega
  | succ r ih =>
    intro j F hi hF hj hp
    obtain ⟨F, rfl⟩ : ∃ G, F = G + 1 := ⟨F - 1, by omega⟩
    have hv := hB.2.2.2.1 k hk j (by omega)
    by_cases pj : pt k j = none
    · simp only [gs_X3_isGood, b_X3_isGood_0, nIle (show n < 2 ^ 31 by omega) (show j < 2 ^ 31 by omega), if_neg (show ¬ n ≤ j by omega), lA, if_pos (ixN (show j < 6 by omega) (by omega)), q_clamp (show j < 2 ^ 31 by omega), hC.2.2.2 k hk j (by omega), enc_m1 hv h6, if_pos pj]
    · have hp' : ∀ i, i ≤ j → pt k i ≠ none := fun i hi => by
        by_cases e : i = j
        · subst e; exact pj
        · exact hp i (by omega)
      have jq : j ≠ q := fun e => pj (by rw [e]; exact hn)
      have hs := s_stays (σ := σ) (A := 7 + k) (j := j) (t := ptN pt k) lA (by omega) (fun i hi => by rw [hC.2.2.2 k hk i (by omega), enc_ptN (hp' i (by omega))]) (fun i hi => by have := ptN_lt hB hk (show i < n by omega) (hp' i (by omega)); omega)
      simp only [gs_X3_isGood, b_X3_isGood_0, nIle (show n < 2 ^ 31 by omega) (show j < 2 ^ 31 by omega), if_neg (show ¬ n ≤ j by omega), lA, if_pos (ixN (show j < 6 by omega) (by omega)), q_clamp (show j < 2 ^ 31 by omega), hC.2.2.2 k hk j (by omega), enc_m1 hv h6, if_neg pj, hs, bnd_s, nI_p1]
      by_cases s : staysB (ptN pt k) j = true
      · rw [bI_t s, if_neg (by decide)]
        exact ih (j + 1) F (by omega) (by omega) (by omega) (fun i hi => hp' i (by omega))
      · rw [bI_f s, if_pos rfl]
theorem g_those {c n : Nat} {kd : Nat → Nat} {pt : Nat → Nat → Option Nat} (hB : ChB c n kd pt) {k : Nat} (hk : k < c) : ∀ (r i F : Nat) (ρ : my_M), ChR c n kd pt ρ → i + r = n → r < F → ∃ υ, g_X9_triesThoseOf F ρ (nI k) (nI i) = some ((), υ) ∧ (∀ j, j ≠ 5 → υ j = ρ j) ∧ (∀ q, i ≤ q → q < n → υ 5 q = enc (-9) (pt k q)) ∧ ∀ q, q < i → υ 5 q = ρ 5 q := by
  have h4 := hB.1
  have h6 := hB.2.1
  intro r
  induction r with
  | zero =>
    intro i F ρ hR hi hF
    obtain rfl : i = n := by omega
    obtain ⟨F, rfl⟩ : ∃ G, F = G + 1 := ⟨F - 1, by omega⟩
    refine ⟨ρ, ?_, fun _ _ => rfl, fun q h1 h2 => by omega, fun _ _ => rfl⟩
    simp only [gs_X9_triesThoseOf, b_X9_triesThoseOf_0, hR.2.1, if_pos (show nI i ≤ nI i from Int32.le_refl _)]
  | succ r ih =>
    intro i F ρ hR hi hF
    obtain ⟨F, rfl⟩ : ∃ G, F = G + 1 := ⟨F - 1, by omega⟩
    obtain ⟨υ, q1, q2, q3, q4⟩ := ih (i + 1) F (my_up ρ 5 i (enc (-9) (pt k i))) (ChR_f hR (up_j (by omega)) (up_j (by omega)) (by rw [up_j (by omega)]) (by rw [up_j (by omega)])) (by omega) (by omega)
    refine ⟨υ, ?_, fun j hj => by rw [q2 j hj, up_j hj], fun q h1 h2 => ?_, fun q h1 => by rw [q4 q (by omega), up_i (by omega)]⟩
    · rw [← q1]
      simp only [gs_X9_triesThoseOf, b_X9_triesThoseOf_0, hR.2.1, nIle (show n < 2 ^ 31 by omega) (show i < 2 ^ 31 by omega), if_neg (show ¬ n ≤ i by omega), s_pitch hB hR hk (show i < n by omega), bnd_s, lenR_5, if_pos (ixN (show i < 6 by omega) (by omega)), q_clamp (show i < 2 ^ 31 by omega), nI_p1]
    · by_cases e : q = i
      · subst e; rw [q4 q (by omega), up_at]
      · exact q3 q (by omega) h2
theorem s_those {c n : Nat} {kd : Nat → Nat} {pt : Nat → Nat → Option Nat} {ρ : my_M} (hB : ChB c n kd pt) (hR : ChR c n kd pt ρ) {k : Nat} (hk : k < c) : ∃ υ, f_X9_triesThoseOf ρ (nI k) = some ((), υ) ∧ (∀ j, j ≠ 5 → υ j = ρ j) ∧ ∀ q, q < n → υ 5 q = enc (-9) (pt k q) := by
  have hN := NF_big
  have h6 := hB.2.1
  obtain ⟨υ, q1, q2, q3, -⟩ := g_those hB hk n 0 my_NF ρ hR (by omega) (by omega)
  rw [nI_0] at q1
  exact ⟨υ, q1, q2, fun q h => q3 q (by omega) h⟩
theorem Rel_R5 {σ ρ υ : my_M} (h : Rel σ ρ) (g : ∀ j, j ≠ 5 → υ j = ρ j) : Rel σ υ := by
  refine ⟨RelX_ag h.1 agC_rf (RelX_G h.1) ⟨fun j hj => g j (by omega), fun i hi => by rw [g 0 (by omega)]⟩, ?_⟩
  rw [g 0 (by omega)]
  exact h.2
theorem fcnt_pos {p : Nat → Option Nat} {n : Nat} : fcnt p 0 n = 0 ∨ ∃ q, q < n ∧ p q = none := by
  by_cases h : fcnt p 0 n = 0
  · exact Or.inl h
  · refine Or.inr ?_
    apply Classical.byContradiction
    intro w
    exact h ((fcnt_0 p n 0).mpr (fun j _ hj e => w ⟨j, by omega, e⟩))
theorem s_told0 {c n : Nat} {kd : Nat → Nat} {pt : Nat → Nat → Option Nat} {σ : my_M} (hB : ChB c n kd pt) (hC : ChC c n kd pt σ) {k : Nat} {x : Int32} (hk : k < c) (hi : ¬ iv x 0 ((n : Int) - 1)) : f_X8_toldPitch σ k x = some (-9, σ) := by
  have h4 := hB.1
  have h6 := hB.2.1
  simp only [f_X8_toldPitch, if_pos (show k < 4 by omega), s_hasBeat hC.2.1 h6, bnd_s, bI_f hi, e00, if_true]
theorem pr_ofCaller {σ ρ : my_M} (h : Rel σ ρ) (x y : Int32) : ∃ (r : Int32) (σ1 ρ1 : my_M), f_X8_ofCaller σ x y = some (r, σ1) ∧ f_X9_ofCaller ρ x y = some (r, ρ1) ∧ Rel σ1 ρ1 := by
  obtain ⟨⟨c, n, kd, pt, a, sw, sm, sh, b, rh, rw_, rl, rg, rv, hB, hC, hR, aB, aC, aR, dB, dC, dR, hS, hG, hT⟩, hF⟩ := id h
  have hN := NF_big
  have h4 := hB.1
  have h6 := hB.2.1
  by_cases hk : iv x 0 ((c : Int) - 1)
  · obtain ⟨k, hk', rfl⟩ := cal hk
    have nk : ¬ ¬ iv (nI k) 0 ((c : Int) - 1) := fun q => q hk
    have hk4 : k < 4 := by omega
    have h2 : 2 ≤ n := hB.2.2.2.2.1 (by omega)
    by_cases hr : iv y 10 15
    · have z1 := hr.1
      have z2 := hr.2
      have y0 : ¬ y = 0 := by intro e; rw [e, t_0] at z1; omega
      have y1 : ¬ y = 1 := by intro e; rw [e, t_1] at z1; omega
      have y2 : ¬ y = 2 := by intro e; rw [e, t_2] at z1; omega
      obtain ⟨d, hd, rfl⟩ := q_of (c := 16) (show 0 ≤ y.toInt by omega) (by omega)
      rw [q_n (by omega)] at z1 z2
      have ed : nI d - 10 = nI (d - 10) := by rw [show (10 : Int32) = nI 10 by decide, nI_sub (by omega) (by omega)]
      by_cases hi : d - 10 < n
      · have hiv : iv (nI (d - 10)) 0 ((n : Int) - 1) := calN hi (by omega)
        have niv : ¬ ¬ iv (nI (d - 10)) 0 ((n : Int) - 1) := fun q => q hiv
        have hv := hB.2.2.2.1 k hk' (d - 10) hi
        refine ⟨enc (-9) (pt k (d - 10)), σ, ρ, ?_, ?_, h⟩
        · simp only [f_X8_ofCaller, s_has hC.1 h4, bnd_s, bI_t hk, e10, if_false, if_pos (ixN hk4 (by omega)), q_clamp (show k < 2 ^ 31 by omega), if_neg y0, if_neg y1, if_neg y2, s_W, t_10, t_15, bI_t hr, ed, s_told hB hC hk' hi]
        · simp only [f_X9_ofCaller, s_noCaller hR.1 h4, bnd_s, bI_f nk, e00, if_true, s_inI, u_10, u_15, bI_t hr, e10, if_false, ed, s_noBeat hR.2.1 h6, bI_f niv, s_pitch hB hR hk' hi, enc_ge hv h6]
          cases hq : pt k (d - 10) with
          | none => rw [if_neg (fun z => z rfl)]; rfl
          | some v => rw [if_pos (by simp)]
      · have hiv : ¬ iv (nI (d - 10)) 0 ((n : Int) - 1) := by
          intro q
          have q2 := q.2
          rw [q_n (by omega)] at q2
          omega
        refine ⟨-9, σ, ρ, ?_, ?_, h⟩
        · simp only [f_X8_ofCaller, s_has hC.1 h4, bnd_s, bI_t hk, e10, if_false, if_pos (ixN hk4 (by omega)), q_clamp (show k < 2 ^ 31 by omega), if_neg y0, if_neg y1, if_neg y2, s_W, t_10, t_15, bI_t hr, ed, s_told0 hB hC hk' hiv]
        · simp only [f_X9_ofCaller, s_noCaller hR.1 h4, bnd_s, bI_f nk, e00, if_true, s_inI, u_10, u_15, bI_t hr, e10, if_false, ed, s_noBeat hR.2.1 h6, bI_t hiv]
    · by_cases y0 : y = 0
      · refine ⟨nI (kd k), σ, ρ, ?_, ?_, h⟩
        · simp only [f_X8_ofCaller, s_has hC.1 h4, bnd_s, bI_t hk, e10, if_false, if_pos (ixN hk4 (by omega)), q_clamp (show k < 2 ^ 31 by omega), if_pos y0, hC.2.2.1 k hk']
        · simp only [f_X9_ofCaller, s_noCaller hR.1 h4, bnd_s, bI_f nk, e00, if_true, s_inI, u_10, u_15, bI_f hr, if_pos y0, lenR_1, if_pos (ixN hk4 (by omega)), q_clamp (show k < 2 ^ 31 by omega), hR.2.2.1 k hk']
      by_cases y1 : y = 1
      · refine ⟨nI (fcnt (pt k) 0 n), σ, ρ, ?_, ?_, h⟩
        · simp only [f_X8_ofCaller, s_has hC.1 h4, bnd_s, bI_t hk, e10, if_false, if_pos (ixN hk4 (by omega)), q_clamp (show k < 2 ^ 31 by omega), if_neg y0, if_pos y1, hC.2.1, s_free_C hB hC hk']
        · simp only [f_X9_ofCaller, s_noCaller hR.1 h4, bnd_s, bI_f nk, e00, if_true, s_inI, u_10, u_15, bI_f hr, if_neg y0, if_pos y1, s_free_R hB hR hk']
      by_cases y2 : y = 2
      · have fl := fcnt_le (pt k) n 0
        rcases fcnt_pos (p := pt k) (n := n) with f0 | ⟨q, hq, hqn⟩
        · have hp : ∀ i, i < n → pt k i ≠ none := fun i hi => (fcnt_0 (pt k) n 0).mp f0 i (by omega) (by omega)
          have eC := g_goodC hB hC hk' hp n 0 my_NF (by omega) (by omega)
          rw [nI_0] at eC
          have fC : f_X3_isGood σ (7 + k) (nI n) = _ := eC
          obtain ⟨υ, u1, u2, u3⟩ := s_those hB hR hk'
          have eR := s_goodR (ρ := υ) (n := n) (t := ptN pt k) (by omega) h6 (by rw [u2 0 (by omega)]; exact hR.2.1) (fun i hi => by rw [u3 i hi, enc_ptN (hp i hi)]) (fun i hi => by have := ptN_lt hB hk' hi (hp i hi); omega)
          refine ⟨if bI (soB (staysB (ptN pt k)) n 0 = true) = 0 then 0 else 1, σ, υ, ?_, ?_, Rel_R5 h u2⟩
          · simp only [f_X8_ofCaller, s_has hC.1 h4, bnd_s, bI_t hk, e10, if_false, if_pos (ixN hk4 (by omega)), q_clamp (show k < 2 ^ 31 by omega), if_neg y0, if_neg y1, if_pos y2, hC.2.1, fC]
          · simp only [f_X9_ofCaller, s_noCaller hR.1 h4, bnd_s, bI_f nk, e00, if_true, s_inI, u_10, u_15, bI_f hr, if_neg y0, if_neg y1, if_pos y2, f_X9_goodNow, s_free_R hB hR hk', f0, if_pos (show nI 0 ≤ 0 by decide), u1, eR]
        · have eC := g_goodC0 hB hC hk' hq hqn n 0 my_NF (by omega) (by omega) (by omega) (fun i hi => by omega)
          rw [nI_0] at eC
          have fC : f_X3_isGood σ (7 + k) (nI n) = _ := eC
          have f1 : ¬ nI (fcnt (pt k) 0 n) ≤ 0 := by
            rw [← nI_0, nIle (by omega) (by omega)]
            intro w
            exact (fcnt_0 (pt k) n 0).mp (by omega) q (by omega) (by omega) hqn
          refine ⟨0, σ, ρ, ?_, ?_, h⟩
          · simp only [f_X8_ofCaller, s_has hC.1 h4, bnd_s, bI_t hk, e10, if_false, if_pos (ixN hk4 (by omega)), q_clamp (show k < 2 ^ 31 by omega), if_neg y0, if_neg y1, if_pos y2, hC.2.1, fC, if_true]
          · simp only [f_X9_ofCaller, s_noCaller hR.1 h4, bnd_s, bI_f nk, e00, if_true, s_inI, u_10, u_15, bI_f hr, if_neg y0, if_neg y1, if_pos y2, f_X9_goodNow, s_free_R hB hR hk', if_neg f1]
      · refine ⟨-2, σ, ρ, ?_, ?_, h⟩
        · simp only [f_X8_ofCaller, s_has hC.1 h4, bnd_s, bI_t hk, e10, if_false, if_pos (ixN hk4 (by omega)), q_clamp (show k < 2 ^ 31 by omega), if_neg y0, if_neg y1, if_neg y2, s_W, t_10, t_15, bI_f hr, e00, if_true]
        · simp only [f_X9_ofCaller, s_noCaller hR.1 h4, bnd_s, bI_f nk, e00, if_true, s_inI, u_10, u_15, bI_f hr, if_neg y0, if_neg y1, if_neg y2]
  · refine ⟨-1, σ, ρ, ?_, ?_, h⟩
    · simp only [f_X8_ofCaller, s_has hC.1 h4, bnd_s, bI_f hk, e00, if_true]
    · simp only [f_X9_ofCaller, s_noCaller hR.1 h4, bnd_s, bI_t hk, e10, if_false]
