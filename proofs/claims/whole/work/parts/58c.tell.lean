def fsum (pt : Nat → Nat → Option Nat) (n : Nat) : Nat → Nat → Nat
  | _, 0 => 0
  | i, r + 1 => fcnt (pt i) 0 n + fsum pt n (i + 1) r
theorem g_all_C {c n : Nat} {kd : Nat → Nat} {pt : Nat → Nat → Option Nat} {σ : my_M} (hB : ChB c n kd pt) (hC : ChC c n kd pt σ) : ∀ (r i acc F : Nat), i + r = c → r < F → g_X2_freeBeatsOfAll F σ (nI acc) (nI i) = some (nI (acc + fsum pt n i r), σ) := by
  have h4 := hB.1
  have h6 := hB.2.1
  intro r
  induction r with
  | zero =>
    intro i acc F hi hF
    obtain ⟨F, rfl⟩ : ∃ G, F = G + 1 := ⟨F - 1, by omega⟩
    simp only [gs_X2_freeBeatsOfAll, b_X2_freeBeatsOfAll_0, hC.1, nIle (show c < 2 ^ 31 by omega) (show i < 2 ^ 31 by omega), if_pos (show c ≤ i by omega), fsum, Nat.add_zero]
  | succ r ih =>
    intro i acc F hi hF
    obtain ⟨F, rfl⟩ : ∃ G, F = G + 1 := ⟨F - 1, by omega⟩
    simp only [gs_X2_freeBeatsOfAll, b_X2_freeBeatsOfAll_0, hC.1, hC.2.1, nIle (show c < 2 ^ 31 by omega) (show i < 2 ^ 31 by omega), if_neg (show ¬ c ≤ i by omega), if_pos (ixN (show i < 4 by omega) (by omega)), q_clamp (show i < 2 ^ 31 by omega), s_free_C hB hC (show i < c by omega), bnd_s, nI_add, nI_p1, fsum]
    rw [ih (i + 1) _ F (by omega) (by omega), Nat.add_assoc]
theorem g_all_R {c n : Nat} {kd : Nat → Nat} {pt : Nat → Nat → Option Nat} {ρ : my_M} (hB : ChB c n kd pt) (hR : ChR c n kd pt ρ) (x : Int32) : ∀ (r i acc F : Nat), i + r = c → r < F → g_X9_many F ρ x (nI acc) (nI i) = (if x = 0 then some (nI c, ρ) else (if x = 1 then (if nI c = 0 then some (0, ρ) else some (nI n, ρ)) else (if x = 2 then some ((ρ 0 11), ρ) else (if x = 3 then some (nI (acc + fsum pt n i r), ρ) else (if x = 4 then some ((ρ 0 22), ρ) else some ((-2), ρ)))))) := by
  have h4 := hB.1
  have h6 := hB.2.1
  intro r
  induction r with
  | zero =>
    intro i acc F hi hF
    obtain ⟨F, rfl⟩ : ∃ G, F = G + 1 := ⟨F - 1, by omega⟩
    simp only [gs_X9_many, b_X9_many_0, hR.1, hR.2.1, nIle (show c < 2 ^ 31 by omega) (show i < 2 ^ 31 by omega), if_pos (show c ≤ i by omega), fsum, Nat.add_zero]
  | succ r ih =>
    intro i acc F hi hF
    obtain ⟨F, rfl⟩ : ∃ G, F = G + 1 := ⟨F - 1, by omega⟩
    have ih' := ih (i + 1) (acc + fcnt (pt i) 0 n) F (by omega) (by omega)
    rw [Nat.add_assoc] at ih'
    refine Eq.trans ?_ ih'
    simp only [gs_X9_many, b_X9_many_0, hR.1, nIle (show c < 2 ^ 31 by omega) (show i < 2 ^ 31 by omega), if_neg (show ¬ c ≤ i by omega), s_free_R hB hR (show i < c by omega), bnd_s, nI_add, nI_p1]
theorem pr_many {σ ρ : my_M} (h : Rel σ ρ) (x : Int32) : ∃ (r : Int32) (σ1 ρ1 : my_M), f_X8_many σ x = some (r, σ1) ∧ f_X9_many ρ x = some (r, ρ1) ∧ Rel σ1 ρ1 := by
  obtain ⟨⟨c, n, kd, pt, a, sw, sm, sh, b, rh, rw_, rl, rg, rv, hB, hC, hR, aB, aC, aR, dB, dC, dR, hS, hG, hT⟩, hF⟩ := id h
  have h4 := hB.1
  have hN := NF_big
  have aC1 : σ 11 0 = nI a := aC.1
  have eR := g_all_R hB hR x c 0 0 my_NF (by omega) (by omega)
  have eC := g_all_C hB hC c 0 0 my_NF (by omega) (by omega)
  rw [nI_0, Nat.zero_add] at eR eC
  have fR : f_X9_many ρ x = _ := eR
  have fC : f_X2_freeBeatsOfAll σ = _ := eC
  by_cases x0 : x = 0
  · refine ⟨nI c, σ, ρ, ?_, ?_, h⟩
    · simp only [f_X8_many, hC.1, if_pos x0]
    · rw [fR, if_pos x0]
  by_cases x1 : x = 1
  · refine ⟨nI n, σ, ρ, ?_, ?_, h⟩
    · simp only [f_X8_many, hC.2.1, if_neg x0, if_pos x1]
    · rw [fR, if_neg x0, if_pos x1]
      by_cases c0 : c = 0
      · rw [hB.2.2.2.2.2 c0, c0, if_pos nI_0, nI_0]
      · rw [if_neg]
        rw [← nI_0, nI_inj (by omega) (by omega)]
        exact c0
  by_cases x2 : x = 2
  · refine ⟨nI a, σ, ρ, ?_, ?_, h⟩
    · simp only [f_X8_many, aC1, if_neg x0, if_neg x1, if_pos x2]
    · rw [fR, if_neg x0, if_neg x1, if_pos x2, aR.1]
  by_cases x3 : x = 3
  · refine ⟨nI (fsum pt n 0 c), σ, ρ, ?_, ?_, h⟩
    · simp only [f_X8_many, if_neg x0, if_neg x1, if_neg x2, if_pos x3, fC, bnd_s]
    · rw [fR, if_neg x0, if_neg x1, if_neg x2, if_pos x3]
  by_cases x4 : x = 4
  · refine ⟨nI b, σ, ρ, ?_, ?_, h⟩
    · simp only [f_X8_many, dC.1, if_neg x0, if_neg x1, if_neg x2, if_neg x3, if_pos x4]
    · rw [fR, if_neg x0, if_neg x1, if_neg x2, if_neg x3, if_pos x4, dR.1]
  · refine ⟨-2, σ, ρ, ?_, ?_, h⟩
    · simp only [f_X8_many, if_neg x0, if_neg x1, if_neg x2, if_neg x3, if_neg x4]
    · rw [fR, if_neg x0, if_neg x1, if_neg x2, if_neg x3, if_neg x4]
theorem ChC_t {c n : Nat} {kd : Nat → Nat} {pt : Nat → Nat → Option Nat} {σ : my_M} (h4 : c ≤ 4) (h : ChC c n kd pt σ) {i : Nat} {x : Int32} : ChC c n kd pt (my_up σ 0 i x) := ChC_f h4 h (fun j _ _ => up_j (by omega))
theorem ChR_t {c n : Nat} {kd : Nat → Nat} {pt : Nat → Nat → Option Nat} {ρ : my_M} (h : ChR c n kd pt ρ) {x : Int32} : ChR c n kd pt (my_up ρ 0 32 x) := ChR_f h (up_j (by omega)) (up_j (by omega)) (up_i (by omega)) (up_i (by omega))
theorem twice (x : Int32) : 2 * x + 100 = x + 100 + x := by
  rw [Int32.two_mul]; ac_rfl
theorem pr_tell {σ ρ : my_M} (h : Rel σ ρ) (x : Int32) : ∃ (r : Int32) (σ1 ρ1 : my_M), f_X8_tell σ x = some (r, σ1) ∧ f_X9_tell ρ x = some (r, ρ1) ∧ Rel σ1 ρ1 := by
  obtain ⟨⟨c, n, kd, pt, a, sw, sm, sh, b, rh, rw_, rl, rg, rv, hB, hC, hR, aB, aC, aR, dB, dC, dR, hS, hG, hT⟩, hF⟩ := id h
  have h4 := hB.1
  by_cases hk : iv x 0 ((c : Int) - 1)
  · obtain ⟨k, hk', rfl⟩ := cal hk
    have nk : ¬ ¬ iv (nI k) 0 ((c : Int) - 1) := fun q => q hk
    have e1 := hC.2.2.1 k hk'
    have e2 := hR.2.2.1 k hk'
    have hd := hB.2.2.1 k hk'
    have hk4 : k < 4 := by omega
    obtain h0 | h1 | h2 : kd k = 0 ∨ kd k = 1 ∨ kd k = 2 := by omega
    · rw [h0] at e1 e2
      refine ⟨nI n - nI (fcnt (pt k) 0 n), _, _, ?_, ?_, Rel_trace h 1⟩
      · simp only [f_X8_tell, s_has hC.1 h4, bnd_s, bI_t hk, e10, if_false, if_pos (ixN hk4 (by omega)), q_clamp (show k < 2 ^ 31 by omega), e1, if_neg (show ¬ nI 0 = 2 by decide), if_neg (show ¬ nI 0 = 1 by decide), f_X8_plainTelling, if_pos hk4, s_leave, (ChC_t h4 hC).2.1, s_free_C hB (ChC_t h4 hC) hk']
      · simp only [f_X9_tell, s_noCaller hR.1 h4, bnd_s, bI_f nk, e00, if_true, lenR_1, if_pos (ixN hk4 (by omega)), q_clamp (show k < 2 ^ 31 by omega), e2, if_neg (show ¬ nI 0 = 2 by decide), if_pos (show nI 0 ≤ 0 by decide), if_pos (show nI 0 = 0 by decide), s_traced, (ChR_t hR).2.1, s_free_R hB (ChR_t hR) hk']
    · rw [h1] at e1 e2
      refine ⟨nI n - nI (fcnt (pt k) 0 n) + 100, _, _, ?_, ?_, Rel_trace (Rel_trace h 2) 1⟩
      · simp only [f_X8_tell, s_has hC.1 h4, bnd_s, bI_t hk, e10, if_false, if_pos (ixN hk4 (by omega)), q_clamp (show k < 2 ^ 31 by omega), e1, if_neg (show ¬ nI 1 = 2 by decide), if_pos (show nI 1 = 1 by decide), f_X8_broadTelling, f_X8_plainTelling, if_pos hk4, s_leave, (ChC_t h4 (ChC_t h4 hC)).2.1, s_free_C hB (ChC_t h4 (ChC_t h4 hC)) hk']
      · simp only [f_X9_tell, s_noCaller hR.1 h4, bnd_s, bI_f nk, e00, if_true, lenR_1, if_pos (ixN hk4 (by omega)), q_clamp (show k < 2 ^ 31 by omega), e2, if_neg (show ¬ nI 1 = 2 by decide), if_neg (show ¬ nI 1 ≤ 0 by decide), if_neg (show ¬ nI 1 = 0 by decide), if_pos (show nI 1 = 1 by decide), s_traced, (ChR_t (ChR_t hR)).2.1, s_free_R hB (ChR_t (ChR_t hR)) hk']
    · rw [h2] at e1 e2
      refine ⟨nI n - nI (fcnt (pt k) 0 n) + 100 + (nI n - nI (fcnt (pt k) 0 n)), _, _, ?_, ?_, Rel_trace (Rel_trace (Rel_trace (Rel_trace h 3) 2) 1) 1⟩
      · simp only [f_X8_tell, s_has hC.1 h4, bnd_s, bI_t hk, e10, if_false, if_pos (ixN hk4 (by omega)), q_clamp (show k < 2 ^ 31 by omega), e1, if_pos (show nI 2 = 2 by decide), f_X8_keenTelling, f_X8_broadTelling, f_X8_plainTelling, if_pos hk4, s_leave, (ChC_t h4 (ChC_t h4 (ChC_t h4 hC))).2.1, s_free_C hB (ChC_t h4 (ChC_t h4 (ChC_t h4 hC))) hk', (ChC_t h4 (ChC_t h4 (ChC_t h4 (ChC_t h4 hC)))).2.1, s_free_C hB (ChC_t h4 (ChC_t h4 (ChC_t h4 (ChC_t h4 hC)))) hk']
      · simp only [f_X9_tell, s_noCaller hR.1 h4, bnd_s, bI_f nk, e00, if_true, lenR_1, if_pos (ixN hk4 (by omega)), q_clamp (show k < 2 ^ 31 by omega), e2, if_pos (show nI 2 = 2 by decide), if_neg (show ¬ nI 2 ≤ 0 by decide), if_neg (show ¬ nI 2 = 0 by decide), if_neg (show ¬ nI 2 = 1 by decide), s_traced, (ChR_t (ChR_t (ChR_t (ChR_t hR)))).2.1, s_free_R hB (ChR_t (ChR_t (ChR_t (ChR_t hR)))) hk', twice]
  · refine ⟨-1, σ, ρ, ?_, ?_, h⟩
    · simp only [f_X8_tell, s_has hC.1 h4, bnd_s, bI_f hk, e00, if_true]
    · simp only [f_X9_tell, s_noCaller hR.1 h4, bnd_s, bI_t hk, e10, if_false]
theorem s_told {c n : Nat} {kd : Nat → Nat} {pt : Nat → Nat → Option Nat} {σ : my_M} (hB : ChB c n kd pt) (hC : ChC c n kd pt σ) {k i : Nat} (hk : k < c) (hi : i < n) : f_X8_toldPitch σ k (nI i) = some (enc (-9) (pt k i), σ) := by
  have h4 := hB.1
  have h6 := hB.2.1
  have hv := hB.2.2.2.1 k hk i hi
  simp only [f_X8_toldPitch, if_pos (show k < 4 by omega), s_hasBeat hC.2.1 h6, bnd_s, bI_t (calN hi (by omega)), e10, if_false, lenC_p (show k < 4 by omega), if_pos (ixN (show i < 6 by omega) (by omega)), q_clamp (show i < 2 ^ 31 by omega), hC.2.2.2 k hk i hi, enc_m1 hv h6]
  cases hp : pt k i with
  | none => rw [if_pos rfl]; rfl
  | some v => rw [if_neg (by simp)]; rfl
theorem ChB_o {c n : Nat} {kd : Nat → Nat} {pt : Nat → Nat → Option Nat} (h : ChB c n kd pt) {k i : Nat} {o : Option Nat} (ho : ∀ v, o = some v → v < n) : ChB c n kd (nset pt k (nset (pt k) i o)) := by
  refine ⟨h.1, h.2.1, h.2.2.1, fun j hj l hl v hv => ?_, h.2.2.2.2⟩
  by_cases e : j = k
  · subst e
    rw [nset_at] at hv
    by_cases e2 : l = i
    · subst e2; rw [nset_at] at hv; exact ho v hv
    · rw [nset_ne e2] at hv; exact h.2.2.2.1 j hj l hl v hv
  · rw [nset_ne e] at hv; exact h.2.2.2.1 j hj l hl v hv
theorem ChC_o {c n : Nat} {kd : Nat → Nat} {pt : Nat → Nat → Option Nat} {σ : my_M} (h4 : c ≤ 4) (h : ChC c n kd pt σ) {k i : Nat} {o : Option Nat} (hk : k < c) : ChC c n kd (nset pt k (nset (pt k) i o)) (my_up σ (7 + k) i (enc (-1) o)) := by
  refine ⟨by rw [up_j (by omega)]; exact h.1, by rw [up_j (by omega)]; exact h.2.1, fun j hj => by rw [up_j (by omega)]; exact h.2.2.1 j hj, fun j hj l hl => ?_⟩
  by_cases e : j = k
  · subst e
    rw [nset_at]
    by_cases e2 : l = i
    · subst e2; rw [up_at, nset_at]
    · rw [up_i e2, nset_ne e2]; exact h.2.2.2 j hj l hl
  · rw [up_j (by omega), nset_ne e]; exact h.2.2.2 j hj l hl
theorem ChR_o {c n : Nat} {kd : Nat → Nat} {pt : Nat → Nat → Option Nat} {ρ : my_M} (h6 : n ≤ 6) (h : ChR c n kd pt ρ) {k i : Nat} {o : Option Nat} (hi : i < n) : ChR c n kd (nset pt k (nset (pt k) i o)) (my_up ρ 2 (6 * k + i) (enc (-9) o)) := by
  refine ⟨by rw [up_j (by omega)]; exact h.1, by rw [up_j (by omega)]; exact h.2.1, fun j hj => by rw [up_j (by omega)]; exact h.2.2.1 j hj, fun j hj l hl => ?_⟩
  by_cases e : j = k
  · subst e
    rw [nset_at]
    by_cases e2 : l = i
    · subst e2; rw [up_at, nset_at]
    · rw [up_i (by omega), nset_ne e2]; exact h.2.2.2 j hj l hl
  · rw [up_i (by omega), nset_ne e]; exact h.2.2.2 j hj l hl
theorem Rel_tune {σ ρ : my_M} {c n : Nat} {kd : Nat → Nat} {pt : Nat → Nat → Option Nat} {a : Nat} {sw sm sh : Nat → Nat} {b : Nat} {rh rw_ : Nat → Nat} {rl rg rv : Nat → Int32} (hB : ChB c n kd pt) (hC : ChC c n kd pt σ) (hR : ChR c n kd pt ρ) (aB : AiB c a sw sm sh) (aC : AiC a sw sm sh 0 σ) (aR : AiR a sw sm sh ρ) (dB : RdB c b rh rw_ rl rg) (dC : RdC b rh rw_ rl rg rv σ) (dR : RdR b rh rw_ rl rg rv ρ) (hS : ShR σ ρ) (hG : GdC σ) (hT : σ 0 7 = ρ 0 32) (hF : σ 0 8 = ρ 0 0) {k i : Nat} (hk : k < c) (hi : i < n) {o : Option Nat} (ho : ∀ v, o = some v → v < n) : Rel (my_up σ (7 + k) i (enc (-1) o)) (my_up ρ 2 (6 * k + i) (enc (-9) o)) := by
  have h4 := hB.1
  refine ⟨⟨c, n, kd, nset pt k (nset (pt k) i o), a, sw, sm, sh, b, rh, rw_, rl, rg, rv, ChB_o hB ho, ChC_o h4 hC hk, ChR_o hB.2.1 hR hi, aB, AiC_f aC (fun j _ _ => up_j (by omega)), AiR_f aR (fun j _ _ => up_j (by omega)) ?_, dB, RdC_f dC (fun j _ _ => up_j (by omega)), RdR_f dR (fun j _ _ => up_j (by omega)) ?_, ShR_f hS (fun j _ => up_j (by omega)) (fun j _ _ => up_j (by omega)), GdC_of hG (up_j (by omega)) (up_j (by omega)), ?_⟩, ?_⟩
  · rw [up_j (by omega)]
  · rw [up_j (by omega)]
  · rw [up_j (by omega), up_j (by omega)]; exact hT
  · rw [up_j (by omega), up_j (by omega)]; exact hF
theorem pr_tune {σ ρ : my_M} (h : Rel σ ρ) (x y z : Int32) : ∃ (r : Int32) (σ1 ρ1 : my_M), f_X8_tune σ x y z = some (r, σ1) ∧ f_X9_tune ρ x y z = some (r, ρ1) ∧ Rel σ1 ρ1 := by
  obtain ⟨⟨c, n, kd, pt, a, sw, sm, sh, b, rh, rw_, rl, rg, rv, hB, hC, hR, aB, aC, aR, dB, dC, dR, hS, hG, hT⟩, hF⟩ := id h
  have h4 := hB.1
  have h6 := hB.2.1
  have tn : (Int32.toInt64 (nI n) - 1).toInt = (n : Int) - 1 := by rw [q_lsub1, q_n (by omega)]
  by_cases hk : iv x 0 ((c : Int) - 1)
  · obtain ⟨k, hk', rfl⟩ := cal hk
    have nk : ¬ ¬ iv (nI k) 0 ((c : Int) - 1) := fun q => q hk
    have hk4 : k < 4 := by omega
    by_cases hi : iv y 0 ((n : Int) - 1)
    · obtain ⟨i, hi', rfl⟩ := cal hi
      have ni : ¬ ¬ iv (nI i) 0 ((n : Int) - 1) := fun q => q hi
      have R := fun o ho => Rel_tune hB hC hR aB aC aR dB dC dR hS hG hT hF hk' hi' (o := o) ho
      by_cases hz : z = -1
      · subst hz
        have w : iv (-1) (-1) ((n : Int) - 1) := by show -1 ≤ (-1 : Int32).toInt ∧ (-1 : Int32).toInt ≤ (n : Int) - 1; rw [t_m1]; omega
        refine ⟨enc (-9) (pt k i), _, _, ?_, ?_, R none (fun v hv => by cases hv)⟩
        · simp only [f_X8_tune, s_has hC.1 h4, s_hasBeat hC.2.1 h6, bnd_s, bI_t hk, bI_t hi, e10, if_false, if_true, if_pos (ixN hk4 (by omega)), q_clamp (show k < 2 ^ 31 by omega), s_told hB hC hk' hi', lenC_p hk4, if_pos (ixN (show i < 6 by omega) (by omega)), q_clamp (show i < 2 ^ 31 by omega), enc]
        · simp only [f_X9_tune, s_noCaller hR.1 h4, s_noBeat hR.2.1 h6, bnd_s, bI_f nk, bI_f ni, e00, if_true, hR.2.1, s_inI, u_m1, tn, bI_t w, e10, if_false, s_pitch hB hR hk' hi', if_neg (show ¬ (0 : Int32) ≤ -1 by decide), six, lenR_2, if_pos (ixN (show 6 * k + i < 24 by omega) (by omega)), q_clamp (show 6 * k + i < 2 ^ 31 by omega), enc]
      · by_cases hv : iv z 0 ((n : Int) - 1)
        · obtain ⟨v, hv', rfl⟩ := cal hv
          have w : iv (nI v) (-1) ((n : Int) - 1) := ⟨by have := hv.1; omega, hv.2⟩
          refine ⟨enc (-9) (pt k i), _, _, ?_, ?_, R (some v) (fun u hu => by cases hu; exact hv')⟩
          · simp only [f_X8_tune, s_has hC.1 h4, s_hasBeat hC.2.1 h6, bnd_s, bI_t hk, bI_t hi, bI_t hv, e10, if_false, if_neg hz, if_pos (ixN hk4 (by omega)), q_clamp (show k < 2 ^ 31 by omega), s_told hB hC hk' hi', lenC_p hk4, if_pos (ixN (show i < 6 by omega) (by omega)), q_clamp (show i < 2 ^ 31 by omega), enc]
          · simp only [f_X9_tune, s_noCaller hR.1 h4, s_noBeat hR.2.1 h6, bnd_s, bI_f nk, bI_f ni, e00, if_true, hR.2.1, s_inI, u_m1, tn, bI_t w, e10, if_false, s_pitch hB hR hk' hi', if_pos (show (0 : Int32) ≤ nI v by rw [← nI_0, nIle (by omega) (by omega)]; omega), six, lenR_2, if_pos (ixN (show 6 * k + i < 24 by omega) (by omega)), q_clamp (show 6 * k + i < 2 ^ 31 by omega), enc]
        · have w : ¬ iv z (-1) ((n : Int) - 1) := by
            intro q
            have q1 : -1 ≤ z.toInt := q.1
            have q2 : z.toInt ≤ (n : Int) - 1 := q.2
            rw [q_eq, t_m1] at hz
            exact hv ⟨by omega, q2⟩
          refine ⟨-2, σ, ρ, ?_, ?_, h⟩
          · simp only [f_X8_tune, s_has hC.1 h4, s_hasBeat hC.2.1 h6, bnd_s, bI_t hk, bI_t hi, bI_f hv, e10, if_false, if_neg hz, e00, if_true]
          · simp only [f_X9_tune, s_noCaller hR.1 h4, s_noBeat hR.2.1 h6, bnd_s, bI_f nk, bI_f ni, e00, if_true, hR.2.1, s_inI, u_m1, tn, bI_f w]
    · refine ⟨-1, σ, ρ, ?_, ?_, h⟩
      · simp only [f_X8_tune, s_has hC.1 h4, s_hasBeat hC.2.1 h6, bnd_s, bI_t hk, bI_f hi, e10, e00, if_true, if_false]
      · simp only [f_X9_tune, s_noCaller hR.1 h4, s_noBeat hR.2.1 h6, bnd_s, bI_f nk, bI_t hi, e00, e10, if_true, if_false]
  · refine ⟨-1, σ, ρ, ?_, ?_, h⟩
    · simp only [f_X8_tune, s_has hC.1 h4, bnd_s, bI_f hk, e00, if_true]
    · simp only [f_X9_tune, s_noCaller hR.1 h4, bnd_s, bI_t hk, e10, if_false]
