theorem up_up {σ : my_M} {j i : Nat} {x y : Int32} : my_up (my_up σ j i x) j i y = my_up σ j i y := by
  funext a b
  by_cases h : a = j
  · subst h
    by_cases h2 : b = i
    · subst h2; rw [up_at, up_at]
    · rw [up_i h2, up_i h2, up_i h2]
  · rw [up_j h, up_j h, up_j h]
theorem up_self {σ : my_M} {j i : Nat} : my_up σ j i (σ j i) = σ := by
  funext a b
  by_cases h : a = j
  · subst h
    by_cases h2 : b = i
    · subst h2; rw [up_at]
    · rw [up_i h2]
  · rw [up_j h]
theorem or0 (x : Int32) : x ||| 0 = x := by
  apply Int32.toBitVec_inj.mp
  simp
/-! whether all readings are so -/
def soB (h : Nat → Bool) : Nat → Nat → Bool
  | 0, _ => true
  | r + 1, i => h i && soB h r (i + 1)
def rdh (n : Nat) (kd : Nat → Nat) (pt : Nat → Nat → Option Nat) (rh rw : Nat → Nat) (rl rg rv : Nat → Int32) (r : Nat) : Bool := decide (hrd n (kd (rh r)) (pt (rh r)) (pt (rw r)) (rl r).toInt (rg r).toInt = rv r)
theorem soB_t {h : Nat → Bool} {r i : Nat} (e : h i = true) : soB h (r + 1) i = soB h r (i + 1) := by
  rw [soB, e, Bool.true_and]
theorem soB_f {h : Nat → Bool} {r i : Nat} (e : h i = false) : soB h (r + 1) i = false := by
  rw [soB, e, Bool.false_and]
theorem bI_soB {h : Nat → Bool} {r i : Nat} (e : h i = true) : bI (soB h (r + 1) i = true) = bI (soB h r (i + 1) = true) := by
  rw [soB_t e]
theorem g_areSo_C {c n : Nat} {kd : Nat → Nat} {pt : Nat → Nat → Option Nat} {σ : my_M} {b : Nat} {rh rw_ : Nat → Nat} {rl rg rv : Nat → Int32} (hB : ChB c n kd pt) (hC : ChC c n kd pt σ) (dB : RdB c b rh rw_ rl rg) (dC : RdC b rh rw_ rl rg rv σ) : ∀ (r i F : Nat), i + r = b → r < F → g_X5_areSo F σ (nI i) = some (bI (soB (rdh n kd pt rh rw_ rl rg rv) r i = true), σ) := by
  have h4 := hB.1
  have h8 := dB.1
  intro r
  induction r with
  | zero =>
    intro i F hi hF
    obtain ⟨F, rfl⟩ : ∃ q, F = q + 1 := ⟨F - 1, by omega⟩
    simp only [gs_X5_areSo, b_X5_areSo_0, dC.1, nIle (show b < 2 ^ 31 by omega) (show i < 2 ^ 31 by omega), if_pos (show b ≤ i by omega)]
    rw [bI_t (show soB _ 0 i = true from rfl)]
  | succ r ih =>
    intro i F hi hF
    obtain ⟨F, rfl⟩ : ∃ q, F = q + 1 := ⟨F - 1, by omega⟩
    obtain ⟨e1, e2, e3, e4, e5⟩ := dC.2 i (by omega)
    obtain ⟨b1, b2, b3, b4⟩ := dB.2 i (by omega)
    simp only [gs_X5_areSo, b_X5_areSo_0, dC.1, nIle (show b < 2 ^ 31 by omega) (show i < 2 ^ 31 by omega), if_neg (show ¬ b ≤ i by omega), lenC_22, lenC_23, lenC_24, lenC_25, lenC_26, if_pos (ixN (show i < 8 by omega) (by omega)), q_clamp (show i < 2 ^ 31 by omega), e1, e2, e3, e4, e5, s_heard_C hB hC b1 b2 b3 b4, bnd_s, nI_p1]
    by_cases hq : hrd n (kd (rh i)) (pt (rh i)) (pt (rw_ i)) (rl i).toInt (rg i).toInt = rv i
    · rw [if_pos hq, ih (i + 1) F (by omega) (by omega)]
      rw [bI_soB (show rdh n kd pt rh rw_ rl rg rv i = true from decide_eq_true hq)]
    · rw [if_neg hq, bI_f]
      rw [soB_f (show rdh n kd pt rh rw_ rl rg rv i = false from decide_eq_false hq)]
      exact Bool.false_ne_true
theorem g_areSo_R0 {b : Nat} {ρ : my_M} (hb : ρ 0 22 = nI b) (h8 : b ≤ 8) : ∀ (r i F : Nat), i + r = b → r < F → g_X9_areSo F ρ 0 (nI i) = some (0, ρ) := by
  intro r
  induction r with
  | zero =>
    intro i F hi hF
    obtain ⟨F, rfl⟩ : ∃ q, F = q + 1 := ⟨F - 1, by omega⟩
    simp only [gs_X9_areSo, b_X9_areSo_0, hb, nIle (show b < 2 ^ 31 by omega) (show i < 2 ^ 31 by omega), if_pos (show b ≤ i by omega), if_pos b00]
  | succ r ih =>
    intro i F hi hF
    obtain ⟨F, rfl⟩ : ∃ q, F = q + 1 := ⟨F - 1, by omega⟩
    simp only [gs_X9_areSo, b_X9_areSo_0, hb, nIle (show b < 2 ^ 31 by omega) (show i < 2 ^ 31 by omega), if_neg (show ¬ b ≤ i by omega), e00, if_true, nI_p1]
    exact ih (i + 1) F (by omega) (by omega)
theorem g_areSo_R {c n : Nat} {kd : Nat → Nat} {pt : Nat → Nat → Option Nat} {ρ : my_M} {b : Nat} {rh rw_ : Nat → Nat} {rl rg rv : Nat → Int32} (hB : ChB c n kd pt) (hR : ChR c n kd pt ρ) (dB : RdB c b rh rw_ rl rg) (dR : RdR b rh rw_ rl rg rv ρ) : ∀ (r i F : Nat), i + r = b → r < F → g_X9_areSo F ρ 1 (nI i) = some (bI (soB (rdh n kd pt rh rw_ rl rg rv) r i = true), ρ) := by
  have h4 := hB.1
  have h8 := dB.1
  intro r
  induction r with
  | zero =>
    intro i F hi hF
    obtain ⟨F, rfl⟩ : ∃ q, F = q + 1 := ⟨F - 1, by omega⟩
    simp only [gs_X9_areSo, b_X9_areSo_0, dR.1, nIle (show b < 2 ^ 31 by omega) (show i < 2 ^ 31 by omega), if_pos (show b ≤ i by omega), if_pos b10]
    rw [bI_t (show soB _ 0 i = true from rfl)]
  | succ r ih =>
    intro i F hi hF
    obtain ⟨F, rfl⟩ : ∃ q, F = q + 1 := ⟨F - 1, by omega⟩
    obtain ⟨e1, e2, e3, e4, e5⟩ := dR.2 i (by omega)
    obtain ⟨b1, b2, b3, b4⟩ := dB.2 i (by omega)
    simp only [gs_X9_areSo, b_X9_areSo_0, dR.1, nIle (show b < 2 ^ 31 by omega) (show i < 2 ^ 31 by omega), if_neg (show ¬ b ≤ i by omega), e10, if_false, lenR_12, lenR_13, lenR_14, lenR_15, lenR_16, if_pos (ixN (show i < 8 by omega) (by omega)), q_clamp (show i < 2 ^ 31 by omega), e1, e2, e3, e4, e5, s_heard_R hB hR b1 b2 b3 b4, bnd_s, nI_p1]
    by_cases hq : hrd n (kd (rh i)) (pt (rh i)) (pt (rw_ i)) (rl i).toInt (rg i).toInt = rv i
    · rw [if_pos hq, ih (i + 1) F (by omega) (by omega)]
      rw [bI_soB (show rdh n kd pt rh rw_ rl rg rv i = true from decide_eq_true hq)]
    · rw [if_neg hq, g_areSo_R0 dR.1 h8 r (i + 1) F (by omega) (by omega), bI_f]
      rw [soB_f (show rdh n kd pt rh rw_ rl rg rv i = false from decide_eq_false hq)]
      exact Bool.false_ne_true
theorem s_areSo_C {c n : Nat} {kd : Nat → Nat} {pt : Nat → Nat → Option Nat} {σ : my_M} {b : Nat} {rh rw_ : Nat → Nat} {rl rg rv : Nat → Int32} (hB : ChB c n kd pt) (hC : ChC c n kd pt σ) (dB : RdB c b rh rw_ rl rg) (dC : RdC b rh rw_ rl rg rv σ) : f_X5_areSo σ = some (bI (soB (rdh n kd pt rh rw_ rl rg rv) b 0 = true), σ) := by
  have hN := NF_big
  have h8 := dB.1
  unfold f_X5_areSo
  rw [← nI_0]
  exact g_areSo_C hB hC dB dC b 0 my_NF (by omega) (by omega)
theorem s_areSo_R {c n : Nat} {kd : Nat → Nat} {pt : Nat → Nat → Option Nat} {ρ : my_M} {b : Nat} {rh rw_ : Nat → Nat} {rl rg rv : Nat → Int32} (hB : ChB c n kd pt) (hR : ChR c n kd pt ρ) (dB : RdB c b rh rw_ rl rg) (dR : RdR b rh rw_ rl rg rv ρ) : f_X9_areSo ρ = some (bI (soB (rdh n kd pt rh rw_ rl rg rv) b 0 = true), ρ) := by
  have hN := NF_big
  have h8 := dB.1
  unfold f_X9_areSo
  rw [← nI_0]
  exact g_areSo_R hB hR dB dR b 0 my_NF (by omega) (by omega)
/-! another kind, another pitch for a while -/
def kdU (kd : Nat → Nat) (k q : Nat) : Nat → Nat := fun j => if j = k then q else kd j
theorem ChB_kd {c n : Nat} {kd : Nat → Nat} {pt : Nat → Nat → Option Nat} (h : ChB c n kd pt) {k q : Nat} (hq : q ≤ 2) : ChB c n (kdU kd k q) pt := by
  refine ⟨h.1, h.2.1, fun j hj => ?_, h.2.2.2⟩
  unfold kdU
  split
  · exact hq
  · exact h.2.2.1 j hj
theorem ChC_kd {c n : Nat} {kd : Nat → Nat} {pt : Nat → Nat → Option Nat} {σ : my_M} (h4 : c ≤ 4) (h : ChC c n kd pt σ) {k q : Nat} (hk : k < c) : ChC c n (kdU kd k q) pt (my_up σ (3 + k) 0 (nI q)) := by
  refine ⟨by rw [up_j (by omega)]; exact h.1, by rw [up_j (by omega)]; exact h.2.1, fun j hj => ?_, fun j hj i hi => by rw [up_j (by omega)]; exact h.2.2.2 j hj i hi⟩
  unfold kdU
  by_cases e : j = k
  · subst e; rw [up_at, if_pos rfl]
  · rw [up_j (by omega), if_neg e]; exact h.2.2.1 j hj
theorem ChR_kd {c n : Nat} {kd : Nat → Nat} {pt : Nat → Nat → Option Nat} {ρ : my_M} (h : ChR c n kd pt ρ) {k q : Nat} (hk : k < c) : ChR c n (kdU kd k q) pt (my_up ρ 1 k (nI q)) := by
  refine ⟨by rw [up_j (by omega)]; exact h.1, by rw [up_j (by omega)]; exact h.2.1, fun j hj => ?_, fun j hj i hi => by rw [up_j (by omega)]; exact h.2.2.2 j hj i hi⟩
  unfold kdU
  by_cases e : j = k
  · subst e; rw [up_at, if_pos rfl]
  · rw [up_i e, if_neg e]; exact h.2.2.1 j hj
theorem RdC_up {b : Nat} {rh rw_ : Nat → Nat} {rl rg rv : Nat → Int32} {σ : my_M} (h : RdC b rh rw_ rl rg rv σ) {j i : Nat} {x : Int32} (hj : j < 21) : RdC b rh rw_ rl rg rv (my_up σ j i x) := by
  refine ⟨by rw [up_j (by omega)]; exact h.1, fun r hr => ?_⟩
  rw [up_j (by omega), up_j (by omega), up_j (by omega), up_j (by omega), up_j (by omega)]
  exact h.2 r hr
theorem RdR_up {b : Nat} {rh rw_ : Nat → Nat} {rl rg rv : Nat → Int32} {ρ : my_M} (h : RdR b rh rw_ rl rg rv ρ) {j i : Nat} {x : Int32} (hj : j = 1 ∨ j = 2) : RdR b rh rw_ rl rg rv (my_up ρ j i x) := by
  refine ⟨by rw [up_j (by omega)]; exact h.1, fun r hr => ?_⟩
  rw [up_j (by omega), up_j (by omega), up_j (by omega), up_j (by omega), up_j (by omega)]
  exact h.2 r hr
theorem g_kinds {c n : Nat} {kd : Nat → Nat} {pt : Nat → Nat → Option Nat} {σ ρ : my_M} {b : Nat} {rh rw_ : Nat → Nat} {rl rg rv : Nat → Int32} (hB : ChB c n kd pt) (hC : ChC c n kd pt σ) (hR : ChR c n kd pt ρ) (dB : RdB c b rh rw_ rl rg) (dC : RdC b rh rw_ rl rg rv σ) (dR : RdR b rh rw_ rl rg rv ρ) {k : Nat} (hk : k < c) :
    ∀ (r q : Nat) (set y y' : Int32) (F G : Nat), q + r = 3 → r < F → r < G → ∃ t, g_X8_kinds F (my_up σ (3 + k) 0 y) k (σ (3 + k) 0) set (nI q) = some (t, σ) ∧ g_X9_kinds G (my_up ρ 1 k y') (nI k) (ρ 1 k) set (nI q) = some (t, ρ) := by
  have h4 := hB.1
  intro r
  induction r with
  | zero =>
    intro q set y y' F G hq hF hG
    obtain rfl : q = 3 := by omega
    obtain ⟨F, rfl⟩ : ∃ q, F = q + 1 := ⟨F - 1, by omega⟩
    obtain ⟨G, rfl⟩ : ∃ q, G = q + 1 := ⟨G - 1, by omega⟩
    refine ⟨set, ?_, ?_⟩
    · simp only [gs_X8_kinds, b_X8_kinds_0, if_pos (show k < 4 by omega), if_pos (show (2 : Int32) < nI 3 by decide), up_up, up_self]
    · simp only [gs_X9_kinds, b_X9_kinds_0, if_pos (show (3 : Int32) ≤ nI 3 by decide), lenR_1, if_pos (ixN (show k < 4 by omega) (by omega)), q_clamp (show k < 2 ^ 31 by omega), up_up, up_self]
  | succ r ih =>
    intro q set y y' F G hq hF hG
    obtain ⟨F, rfl⟩ : ∃ q, F = q + 1 := ⟨F - 1, by omega⟩
    obtain ⟨G, rfl⟩ : ∃ q, G = q + 1 := ⟨G - 1, by omega⟩
    have n2 : ¬ (2 : Int32) < nI q := by rw [nI_lit2, nIlt (by omega) (by omega)]; omega
    have n3 : ¬ (3 : Int32) ≤ nI q := by rw [show (3 : Int32) = nI 3 by decide, nIle (by omega) (by omega)]; omega
    simp only [gs_X8_kinds, b_X8_kinds_0, gs_X9_kinds, b_X9_kinds_0, if_pos (show k < 4 by omega), if_neg n2, if_neg n3, up_up, lenR_1, if_pos (ixN (show k < 4 by omega) (by omega)), q_clamp (show k < 2 ^ 31 by omega), or0, nI_p1, s_areSo_C (ChB_kd hB (k := k) (show q ≤ 2 by omega)) (ChC_kd h4 hC hk) dB (RdC_up dC (by omega)), s_areSo_R (ChB_kd hB (k := k) (show q ≤ 2 by omega)) (ChR_kd hR hk) dB (RdR_up dR (by omega)), bnd_s, bI_0]
    by_cases hs : soB (rdh n (kdU kd k q) pt rh rw_ rl rg rv) b 0 = true
    · simp only [if_neg (show ¬ ¬ soB (rdh n (kdU kd k q) pt rh rw_ rl rg rv) b 0 = true from fun z => z hs)]
      exact ih (q + 1) _ _ _ F G (by omega) (by omega) (by omega)
    · simp only [if_pos hs]
      exact ih (q + 1) _ _ _ F G (by omega) (by omega) (by omega)
theorem pr_kinds {σ ρ : my_M} (h : Rel σ ρ) (x : Int32) : ∃ (r : Int32) (σ1 ρ1 : my_M), f_X8_kinds σ x = some (r, σ1) ∧ f_X9_kinds ρ x = some (r, ρ1) ∧ Rel σ1 ρ1 := by
  obtain ⟨⟨c, n, kd, pt, a, sw, sm, sh, b, rh, rw_, rl, rg, rv, hB, hC, hR, aB, aC, aR, dB, dC, dR, hS, hG, hT⟩, hF⟩ := id h
  have h4 := hB.1
  have hN2 : 10 < my_NF := Nat.lt_trans (by decide : 10 < 60000) NF_big
  by_cases hk : iv x 0 ((c : Int) - 1)
  · obtain ⟨k, hk', rfl⟩ := cal hk
    obtain ⟨t, a1, a2⟩ := g_kinds hB hC hR dB dC dR hk' 3 0 0 (σ (3 + k) 0) (ρ 1 k) my_NF my_NF (by omega) (by omega) (by omega)
    rw [up_self, nI_0] at a1
    rw [up_self, nI_0] at a2
    refine ⟨t, σ, ρ, Eq.trans ?_ a1, Eq.trans ?_ a2, h⟩
    · simp only [f_X8_kinds, s_has hC.1 h4, bnd_s, bI_t hk, e10, if_false, if_pos (ixN (show k < 4 by omega) (by omega)), q_clamp (show k < 2 ^ 31 by omega)]
    · simp only [f_X9_kinds, s_noCaller hR.1 h4, bnd_s, bI_0, if_pos (show ¬ ¬ iv (nI k) 0 ((c : Int) - 1) from fun q => q hk), lenR_1, if_pos (ixN (show k < 4 by omega) (by omega)), q_clamp (show k < 2 ^ 31 by omega)]
  · refine ⟨-1, σ, ρ, ?_, ?_, h⟩
    · simp only [f_X8_kinds, s_has hC.1 h4, bnd_s, bI_f hk, e00, if_true]
    · simp only [f_X9_kinds, s_noCaller hR.1 h4, bnd_s, bI_t hk, e10, if_false]
def ptU (pt : Nat → Nat → Option Nat) (k i q : Nat) : Nat → Nat → Option Nat := fun j => if j = k then (fun l => if l = i then some q else pt j l) else pt j
theorem ChB_pt {c n : Nat} {kd : Nat → Nat} {pt : Nat → Nat → Option Nat} (h : ChB c n kd pt) {k i q : Nat} (hq : q < n) : ChB c n kd (ptU pt k i q) := by
  refine ⟨h.1, h.2.1, h.2.2.1, fun j hj l hl v hv => ?_, h.2.2.2.2⟩
  unfold ptU at hv
  by_cases e : j = k
  · rw [if_pos e] at hv
    by_cases e2 : l = i
    · simp only [if_pos e2] at hv; cases hv; exact hq
    · simp only [if_neg e2] at hv; exact h.2.2.2.1 j hj l hl v hv
  · rw [if_neg e] at hv; exact h.2.2.2.1 j hj l hl v hv
theorem ChC_pt {c n : Nat} {kd : Nat → Nat} {pt : Nat → Nat → Option Nat} {σ : my_M} (h4 : c ≤ 4) (h : ChC c n kd pt σ) {k i q : Nat} (hk : k < c) : ChC c n kd (ptU pt k i q) (my_up σ (7 + k) i (nI q)) := by
  refine ⟨by rw [up_j (by omega)]; exact h.1, by rw [up_j (by omega)]; exact h.2.1, fun j hj => by rw [up_j (by omega)]; exact h.2.2.1 j hj, fun j hj l hl => ?_⟩
  unfold ptU
  by_cases e : j = k
  · subst e
    rw [if_pos rfl]
    by_cases e2 : l = i
    · subst e2; rw [up_at]; simp only [if_true]; rfl
    · rw [up_i e2]; simp only [if_neg e2]; exact h.2.2.2 j hj l hl
  · rw [up_j (by omega), if_neg e]; exact h.2.2.2 j hj l hl
theorem ChR_pt {c n : Nat} {kd : Nat → Nat} {pt : Nat → Nat → Option Nat} {ρ : my_M} (h6 : n ≤ 6) (h : ChR c n kd pt ρ) {k i q : Nat} (hk : k < c) (hi : i < n) : ChR c n kd (ptU pt k i q) (my_up ρ 2 (6 * k + i) (nI q)) := by
  refine ⟨by rw [up_j (by omega)]; exact h.1, by rw [up_j (by omega)]; exact h.2.1, fun j hj => by rw [up_j (by omega)]; exact h.2.2.1 j hj, fun j hj l hl => ?_⟩
  unfold ptU
  by_cases e : j = k
  · subst e
    rw [if_pos rfl]
    by_cases e2 : l = i
    · subst e2; rw [up_at]; simp only [if_true]; rfl
    · rw [up_i (by omega)]; simp only [if_neg e2]; exact h.2.2.2 j hj l hl
  · rw [up_i (by omega), if_neg e]; exact h.2.2.2 j hj l hl
theorem g_pitches {c n : Nat} {kd : Nat → Nat} {pt : Nat → Nat → Option Nat} {σ ρ : my_M} {b : Nat} {rh rw_ : Nat → Nat} {rl rg rv : Nat → Int32} (hB : ChB c n kd pt) (hC : ChC c n kd pt σ) (hR : ChR c n kd pt ρ) (dB : RdB c b rh rw_ rl rg) (dC : RdC b rh rw_ rl rg rv σ) (dR : RdR b rh rw_ rl rg rv ρ) {k i : Nat} (hk : k < c) (hi : i < n) :
    ∀ (r q : Nat) (set y y' : Int32) (F G : Nat), q + r = n → r < F → r < G → ∃ t, g_X8_pitches F (my_up σ (7 + k) i y) (nI i) (7 + k) (σ (7 + k) i) set (nI q) = some (t, σ) ∧ g_X9_pitches G (my_up ρ 2 (6 * k + i) y') (nI (6 * k + i)) (ρ 2 (6 * k + i)) set (nI q) = some (t, ρ) := by
  have h4 := hB.1
  have h6 := hB.2.1
  intro r
  induction r with
  | zero =>
    intro q set y y' F G hq hF hG
    obtain rfl : q = n := by omega
    obtain ⟨F, rfl⟩ : ∃ q, F = q + 1 := ⟨F - 1, by omega⟩
    obtain ⟨G, rfl⟩ : ∃ q, G = q + 1 := ⟨G - 1, by omega⟩
    refine ⟨set, ?_, ?_⟩
    · simp only [gs_X8_pitches, b_X8_pitches_0, up_j (show 1 ≠ 7 + k by omega), hC.2.1, if_pos (show nI q ≤ nI q from Int32.le_refl _), lenC_p (show k < 4 by omega), if_pos (ixN (show i < 6 by omega) (by omega)), q_clamp (show i < 2 ^ 31 by omega), up_up, up_self]
    · simp only [gs_X9_pitches, b_X9_pitches_0, up_j (show 0 ≠ 2 by omega), hR.2.1, if_pos (show nI q ≤ nI q from Int32.le_refl _), lenR_2, if_pos (ixN (show 6 * k + i < 24 by omega) (by omega)), q_clamp (show 6 * k + i < 2 ^ 31 by omega), up_up, up_self]
  | succ r ih =>
    intro q set y y' F G hq hF hG
    obtain ⟨F, rfl⟩ : ∃ q, F = q + 1 := ⟨F - 1, by omega⟩
    obtain ⟨G, rfl⟩ : ∃ q, G = q + 1 := ⟨G - 1, by omega⟩
    have n2 : ¬ nI n ≤ nI q := by rw [nIle (by omega) (by omega)]; omega
    simp only [gs_X8_pitches, b_X8_pitches_0, gs_X9_pitches, b_X9_pitches_0, up_j (show 1 ≠ 7 + k by omega), up_j (show 0 ≠ 2 by omega), hC.2.1, hR.2.1, if_neg n2, up_up, lenC_p (show k < 4 by omega), if_pos (ixN (show i < 6 by omega) (by omega)), q_clamp (show i < 2 ^ 31 by omega), lenR_2, if_pos (ixN (show 6 * k + i < 24 by omega) (by omega)), q_clamp (show 6 * k + i < 2 ^ 31 by omega), or0, nI_p1, s_areSo_C (ChB_pt hB (k := k) (i := i) (show q < n by omega)) (ChC_pt h4 hC hk) dB (RdC_up dC (by omega)), s_areSo_R (ChB_pt hB (k := k) (i := i) (show q < n by omega)) (ChR_pt h6 hR hk hi) dB (RdR_up dR (by omega)), bnd_s, bI_0]
    by_cases hs : soB (rdh n kd (ptU pt k i q) rh rw_ rl rg rv) b 0 = true
    · simp only [if_neg (show ¬ ¬ soB (rdh n kd (ptU pt k i q) rh rw_ rl rg rv) b 0 = true from fun z => z hs)]
      exact ih (q + 1) _ _ _ F G (by omega) (by omega) (by omega)
    · simp only [if_pos hs]
      exact ih (q + 1) _ _ _ F G (by omega) (by omega) (by omega)
theorem six {k i : Nat} : (6 : Int32) * nI k + nI i = nI (6 * k + i) := by
  rw [show (6 : Int32) = nI 6 by decide, pk_mul, nI_add]
theorem pr_pitches {σ ρ : my_M} (h : Rel σ ρ) (x y : Int32) : ∃ (r : Int32) (σ1 ρ1 : my_M), f_X8_pitches σ x y = some (r, σ1) ∧ f_X9_pitches ρ x y = some (r, ρ1) ∧ Rel σ1 ρ1 := by
  obtain ⟨⟨c, n, kd, pt, a, sw, sm, sh, b, rh, rw_, rl, rg, rv, hB, hC, hR, aB, aC, aR, dB, dC, dR, hS, hG, hT⟩, hF⟩ := id h
  have h4 := hB.1
  have h6 := hB.2.1
  have hN2 : 10 < my_NF := Nat.lt_trans (by decide : 10 < 60000) NF_big
  by_cases hk : iv x 0 ((c : Int) - 1)
  · obtain ⟨k, hk', rfl⟩ := cal hk
    by_cases hi : iv y 0 ((n : Int) - 1)
    · obtain ⟨i, hi', rfl⟩ := cal hi
      obtain ⟨t, a1, a2⟩ := g_pitches hB hC hR dB dC dR hk' hi' n 0 0 (σ (7 + k) i) (ρ 2 (6 * k + i)) my_NF my_NF (by omega) (by omega) (by omega)
      rw [up_self, nI_0] at a1
      rw [up_self, nI_0] at a2
      refine ⟨t, σ, ρ, Eq.trans ?_ a1, Eq.trans ?_ a2, h⟩
      · simp only [f_X8_pitches, s_has hC.1 h4, s_hasBeat hC.2.1 h6, bnd_s, bI_t hk, bI_t hi, e10, if_false, if_pos (ixN (show k < 4 by omega) (by omega)), q_clamp (show k < 2 ^ 31 by omega), lenC_p (show k < 4 by omega), if_pos (ixN (show i < 6 by omega) (by omega)), q_clamp (show i < 2 ^ 31 by omega)]
      · simp only [f_X9_pitches, s_noCaller hR.1 h4, s_noBeat hR.2.1 h6, bnd_s, bI_0, if_pos (show ¬ ¬ iv (nI k) 0 ((c : Int) - 1) from fun q => q hk), if_pos (show ¬ ¬ iv (nI i) 0 ((n : Int) - 1) from fun q => q hi), six, lenR_2, if_pos (ixN (show 6 * k + i < 24 by omega) (by omega)), q_clamp (show 6 * k + i < 2 ^ 31 by omega)]
    · refine ⟨-1, σ, ρ, ?_, ?_, h⟩
      · simp only [f_X8_pitches, s_has hC.1 h4, s_hasBeat hC.2.1 h6, bnd_s, bI_t hk, bI_f hi, e10, e00, if_true, if_false]
      · simp only [f_X9_pitches, s_noCaller hR.1 h4, s_noBeat hR.2.1 h6, bnd_s, bI_0, if_pos (show ¬ ¬ iv (nI k) 0 ((c : Int) - 1) from fun q => q hk), if_neg (show ¬ ¬ ¬ iv y 0 ((n : Int) - 1) from fun q => q hi)]
  · refine ⟨-1, σ, ρ, ?_, ?_, h⟩
    · simp only [f_X8_pitches, s_has hC.1 h4, bnd_s, bI_f hk, e00, if_true]
    · simp only [f_X9_pitches, s_noCaller hR.1 h4, bnd_s, bI_t hk, e10, if_false]
