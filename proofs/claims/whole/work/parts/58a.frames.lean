/-! frames, part by part -/
theorem ChC_f {c n : Nat} {kd : Nat → Nat} {pt : Nat → Nat → Option Nat} {σ τ : my_M} (h4 : c ≤ 4) (h : ChC c n kd pt σ) (g : ∀ j, 1 ≤ j → j ≤ 10 → τ j = σ j) : ChC c n kd pt τ := by
  obtain ⟨h1, h2, h3, h5⟩ := h
  refine ⟨by rw [g 1 (by omega) (by omega)]; exact h1, by rw [g 1 (by omega) (by omega)]; exact h2, fun k hk => by rw [g (3 + k) (by omega) (by omega)]; exact h3 k hk, fun k hk i hi => by rw [g (7 + k) (by omega) (by omega)]; exact h5 k hk i hi⟩
theorem ChR_f {c n : Nat} {kd : Nat → Nat} {pt : Nat → Nat → Option Nat} {ρ τ : my_M} (h : ChR c n kd pt ρ) (g1 : τ 1 = ρ 1) (g2 : τ 2 = ρ 2) (g3 : τ 0 1 = ρ 0 1) (g4 : τ 0 2 = ρ 0 2) : ChR c n kd pt τ := by
  obtain ⟨h1, h2, h3, h5⟩ := h
  exact ⟨by rw [g3]; exact h1, by rw [g4]; exact h2, fun k hk => by rw [g1]; exact h3 k hk, fun k hk i hi => by rw [g2]; exact h5 k hk i hi⟩
theorem AiC_f {a : Nat} {sw sm sh : Nat → Nat} {σ τ : my_M} (h : AiC a sw sm sh 0 σ) (g : ∀ j, 11 ≤ j → j ≤ 14 → τ j = σ j) : AiC a sw sm sh 0 τ := by
  refine ⟨by rw [g _ (by omega) (by omega)]; exact h.1, fun s hs => ?_⟩
  rw [g (12 + 5 * 0) (by omega) (by omega), g (13 + 5 * 0) (by omega) (by omega), g (14 + 5 * 0) (by omega) (by omega)]
  exact h.2 s hs
theorem AiR_f {a : Nat} {sw sm sh : Nat → Nat} {ρ τ : my_M} (h : AiR a sw sm sh ρ) (g : ∀ j, 6 ≤ j → j ≤ 8 → τ j = ρ j) (g0 : τ 0 11 = ρ 0 11) : AiR a sw sm sh τ := by
  refine ⟨by rw [g0]; exact h.1, fun s hs => ?_⟩
  rw [g 6 (by omega) (by omega), g 7 (by omega) (by omega), g 8 (by omega) (by omega)]
  exact h.2 s hs
theorem RdC_f {b : Nat} {rh rw_ : Nat → Nat} {rl rg rv : Nat → Int32} {σ τ : my_M} (h : RdC b rh rw_ rl rg rv σ) (g : ∀ j, 21 ≤ j → j ≤ 26 → τ j = σ j) : RdC b rh rw_ rl rg rv τ := by
  refine ⟨by rw [g _ (by omega) (by omega)]; exact h.1, fun s hs => ?_⟩
  rw [g 22 (by omega) (by omega), g 23 (by omega) (by omega), g 24 (by omega) (by omega), g 25 (by omega) (by omega), g 26 (by omega) (by omega)]
  exact h.2 s hs
theorem RdR_f {b : Nat} {rh rw_ : Nat → Nat} {rl rg rv : Nat → Int32} {ρ τ : my_M} (h : RdR b rh rw_ rl rg rv ρ) (g : ∀ j, 12 ≤ j → j ≤ 16 → τ j = ρ j) (g0 : τ 0 22 = ρ 0 22) : RdR b rh rw_ rl rg rv τ := by
  refine ⟨by rw [g0]; exact h.1, fun s hs => ?_⟩
  rw [g 12 (by omega) (by omega), g 13 (by omega) (by omega), g 14 (by omega) (by omega), g 15 (by omega) (by omega), g 16 (by omega) (by omega)]
  exact h.2 s hs
theorem ShR_f {σ τ ρ υ : my_M} (h : ShR σ ρ) (g : ∀ j, 31 ≤ j → τ j = σ j) (g2 : ∀ j, 17 ≤ j → j ≤ 19 → υ j = ρ j) : ShR τ υ := by
  intro k hk
  have h1 := h k hk
  unfold ShR1 at h1 ⊢
  rw [g (32 + k) (by omega), g (36 + k) (by omega), g2 17 (by omega) (by omega), g2 18 (by omega) (by omega), g2 19 (by omega) (by omega)]
  exact h1
def nset {α : Type} (f : Nat → α) (a : Nat) (v : α) : Nat → α := fun s => if s = a then v else f s
theorem nset_at {α : Type} {f : Nat → α} {a : Nat} {v : α} : nset f a v a = v := if_pos rfl
theorem nset_ne {α : Type} {f : Nat → α} {a s : Nat} {v : α} (h : s ≠ a) : nset f a v s = f s := if_neg h
theorem nI_sub {a k : Nat} (h : k ≤ a) (ha : a < 2 ^ 31) : nI a - nI k = nI (a - k) := by
  rw [q_eq, q_sub (by rw [q_n ha, q_n (by omega)]; omega) (by rw [q_n ha, q_n (by omega)]; omega), q_n ha, q_n (by omega), q_n (by omega)]
  omega
theorem nI_subone (a : Nat) (ha : a < 2 ^ 30) : nI (a + 1) - 1 = nI a := by
  rw [nI_lit1, nI_sub (by omega) (by omega), Nat.add_sub_cancel]
/-! one more sending -/
theorem s_add_C {a : Nat} {sw sm sh : Nat → Nat} {e : Nat} {σ : my_M} (he : e < 2) (h : AiC a sw sm sh e σ) (ha : a < 8) (x y z : Int32) : f_X0_add σ e x y z = some (1, my_up (my_up (my_up (my_up σ (12 + 5 * e) a x) (13 + 5 * e) a y) (14 + 5 * e) a z) (11 + 5 * e) 0 (nI (a + 1))) := by
  have h8 : nI a < 8 := by rw [show (8 : Int32) = nI 8 by decide, nIlt (by omega) (by omega)]; exact ha
  obtain ⟨l1, l2, l3, -⟩ := lenC_a he
  simp only [f_X0_add, if_pos he, h.1, if_pos h8, l1, l2, l3, if_pos (ixN (show a < 8 by omega) (by omega)), q_clamp (show a < 2 ^ 31 by omega), up_j (show 11 + 5 * e ≠ 12 + 5 * e by omega), up_j (show 11 + 5 * e ≠ 13 + 5 * e by omega), up_j (show 11 + 5 * e ≠ 14 + 5 * e by omega), nI_p1]
theorem s_full_C {a : Nat} {sw sm sh : Nat → Nat} {e : Nat} {σ : my_M} (he : e < 2) (h : AiC a sw sm sh e σ) (ha : a = 8) (x y z : Int32) : f_X0_add σ e x y z = some (0, σ) := by
  subst ha
  simp only [f_X0_add, if_pos he, h.1, if_neg (show ¬ nI 8 < 8 by decide)]
theorem AiC_add {a : Nat} {sw sm sh : Nat → Nat} {e : Nat} {σ : my_M} (h : AiC a sw sm sh e σ) (k m g : Nat) : AiC (a + 1) (nset sw a k) (nset sm a m) (nset sh a g) e (my_up (my_up (my_up (my_up σ (12 + 5 * e) a (nI k)) (13 + 5 * e) a (nI m)) (14 + 5 * e) a (nI g)) (11 + 5 * e) 0 (nI (a + 1))) := by
  refine ⟨up_at, fun s hs => ?_⟩
  by_cases q : s = a
  · subst q
    rw [nset_at, nset_at, nset_at]
    refine ⟨?_, ?_, ?_⟩
    · rw [up_j (by omega), up_j (by omega), up_j (by omega), up_at]
    · rw [up_j (by omega), up_j (by omega), up_at]
    · rw [up_j (by omega), up_at]
  · obtain ⟨e1, e2, e3⟩ := h.2 s (by omega)
    rw [nset_ne q, nset_ne q, nset_ne q]
    refine ⟨?_, ?_, ?_⟩
    · rw [up_j (by omega), up_j (by omega), up_j (by omega), up_i q]; exact e1
    · rw [up_j (by omega), up_j (by omega), up_i q, up_j (by omega)]; exact e2
    · rw [up_j (by omega), up_i q, up_j (by omega), up_j (by omega)]; exact e3
theorem s_sends {a : Nat} {sw sm sh : Nat → Nat} {ρ : my_M} (h : AiR a sw sm sh ρ) (ha : a < 8) (x y z : Int32) : f_X9_sends ρ x y z = some (1, my_up (my_up (my_up (my_up ρ 6 a x) 7 a y) 8 a z) 0 11 (nI (a + 1))) := by
  have h8 : ¬ nI a = 8 := by rw [show (8 : Int32) = nI 8 by decide, nI_inj (by omega) (by omega)]; omega
  simp only [f_X9_sends, h.1, if_neg h8, lenR_6, lenR_7, lenR_8, if_pos (ixN (show a < 8 by omega) (by omega)), q_clamp (show a < 2 ^ 31 by omega), up_j (show 0 ≠ 6 by omega), up_j (show 0 ≠ 7 by omega), up_j (show 0 ≠ 8 by omega), nI_p1]
theorem s_fullR {a : Nat} {sw sm sh : Nat → Nat} {ρ : my_M} (h : AiR a sw sm sh ρ) (ha : a = 8) (x y z : Int32) : f_X9_sends ρ x y z = some (0, ρ) := by
  subst ha
  simp only [f_X9_sends, h.1, if_pos (show nI 8 = 8 by decide)]
theorem AiR_add {a : Nat} {sw sm sh : Nat → Nat} {ρ : my_M} (h : AiR a sw sm sh ρ) (k m g : Nat) : AiR (a + 1) (nset sw a k) (nset sm a m) (nset sh a g) (my_up (my_up (my_up (my_up ρ 6 a (nI k)) 7 a (nI m)) 8 a (nI g)) 0 11 (nI (a + 1))) := by
  refine ⟨up_at, fun s hs => ?_⟩
  by_cases q : s = a
  · subst q
    rw [nset_at, nset_at, nset_at]
    refine ⟨?_, ?_, ?_⟩
    · rw [up_j (by omega), up_j (by omega), up_j (by omega), up_at]
    · rw [up_j (by omega), up_j (by omega), up_at]
    · rw [up_j (by omega), up_at]
  · obtain ⟨e1, e2, e3⟩ := h.2 s (by omega)
    rw [nset_ne q, nset_ne q, nset_ne q]
    refine ⟨?_, ?_, ?_⟩
    · rw [up_j (by omega), up_j (by omega), up_j (by omega), up_i q]; exact e1
    · rw [up_j (by omega), up_j (by omega), up_i q, up_j (by omega)]; exact e2
    · rw [up_j (by omega), up_i q, up_j (by omega), up_j (by omega)]; exact e3
theorem AiB_add {c a : Nat} {sw sm sh : Nat → Nat} (h : AiB c a sw sm sh) {k m g : Nat} (ha : a < 8) (hk : k < c) (hm : m ≤ 20) (hg : g ≤ 5) : AiB c (a + 1) (nset sw a k) (nset sm a m) (nset sh a g) := by
  refine ⟨by omega, fun s hs => ?_⟩
  by_cases q : s = a
  · subst q
    rw [nset_at, nset_at, nset_at]
    exact ⟨hk, hm, hg⟩
  · rw [nset_ne q, nset_ne q, nset_ne q]
    exact h.2 s (by omega)
theorem iv_nat {x : Int32} {m : Nat} (h : iv x 0 (m : Int)) : ∃ k, k ≤ m ∧ x = nI k := by
  obtain ⟨k, hk, e⟩ := q_of (c := m + 1) h.1 (by have := h.2; omega)
  exact ⟨k, by omega, e⟩
theorem pr_send {σ ρ : my_M} (h : Rel σ ρ) (x y z : Int32) : ∃ (r : Int32) (σ1 ρ1 : my_M), f_X8_send σ x y z = some (r, σ1) ∧ f_X9_send ρ x y z = some (r, ρ1) ∧ Rel σ1 ρ1 := by
  obtain ⟨⟨c, n, kd, pt, a, sw, sm, sh, b, rh, rw_, rl, rg, rv, hB, hC, hR, aB, aC, aR, dB, dC, dR, hS, hG, hT⟩, hF⟩ := id h
  have h4 := hB.1
  have h8 := aB.1
  by_cases hk : iv x 0 ((c : Int) - 1)
  · obtain ⟨k, hk', rfl⟩ := cal hk
    by_cases hm : iv y 0 20
    · obtain ⟨m, hm', rfl⟩ := iv_nat (m := 20) hm
      by_cases hg : iv z 0 5
      · obtain ⟨g, hg', rfl⟩ := iv_nat (m := 5) hg
        by_cases ha : a = 8
        · refine ⟨-4, σ, ρ, ?_, ?_, h⟩
          · simp only [f_X8_send, s_has hC.1 h4, bnd_s, bI_t hk, e10, if_false, s_W, t_0, t_20, t_5, bI_t hm, bI_t hg, s_full_C (show 0 < 2 by omega) aC ha, e00, if_true]
          · simp only [f_X9_send, s_noCaller hR.1 h4, bnd_s, bI_f (show ¬ ¬ iv (nI k) 0 ((c : Int) - 1) from fun q => q hk), e00, e10, if_true, if_false, s_inI, u_0, u_20, u_5, bI_t hm, bI_t hg, s_fullR aR ha]
        · refine ⟨nI a, my_up (my_up (my_up (my_up σ (12 + 5 * 0) a (nI k)) (13 + 5 * 0) a (nI m)) (14 + 5 * 0) a (nI g)) (11 + 5 * 0) 0 (nI (a + 1)), my_up (my_up (my_up (my_up ρ 6 a (nI k)) 7 a (nI m)) 8 a (nI g)) 0 11 (nI (a + 1)), ?_, ?_, ?_⟩
          · simp only [f_X8_send, s_has hC.1 h4, bnd_s, bI_t hk, e10, if_false, s_W, t_0, t_20, t_5, bI_t hm, bI_t hg, s_add_C (show 0 < 2 by omega) aC (show a < 8 by omega)]
            rw [show my_up (my_up (my_up (my_up σ (12 + 5 * 0) a (nI k)) (13 + 5 * 0) a (nI m)) (14 + 5 * 0) a (nI g)) (11 + 5 * 0) 0 (nI (a + 1)) 11 0 = nI (a + 1) from up_at, nI_subone a (by omega)]
          · simp only [f_X9_send, s_noCaller hR.1 h4, bnd_s, bI_f (show ¬ ¬ iv (nI k) 0 ((c : Int) - 1) from fun q => q hk), e00, e10, if_true, if_false, s_inI, u_0, u_20, u_5, bI_t hm, bI_t hg, s_sends aR (show a < 8 by omega), up_at, nI_subone a (show a < 2 ^ 30 by omega)]
          · refine ⟨⟨c, n, kd, pt, a + 1, nset sw a k, nset sm a m, nset sh a g, b, rh, rw_, rl, rg, rv, hB, ChC_f h4 hC ?_, ChR_f hR ?_ ?_ ?_ ?_, AiB_add aB (by omega) hk' hm' hg', AiC_add aC k m g, AiR_add aR k m g, dB, RdC_f dC ?_, RdR_f dR ?_ ?_, ShR_f hS ?_ ?_, GdC_of hG ?_ ?_, ?_⟩, ?_⟩
            · intro j _ _; rw [up_j (by omega), up_j (by omega), up_j (by omega), up_j (by omega)]
            · rw [up_j (by omega), up_j (by omega), up_j (by omega), up_j (by omega)]
            · rw [up_j (by omega), up_j (by omega), up_j (by omega), up_j (by omega)]
            · rw [up_i (by omega), up_j (by omega), up_j (by omega), up_j (by omega)]
            · rw [up_i (by omega), up_j (by omega), up_j (by omega), up_j (by omega)]
            · intro j _ _; rw [up_j (by omega), up_j (by omega), up_j (by omega), up_j (by omega)]
            · intro j _ _; rw [up_j (by omega), up_j (by omega), up_j (by omega), up_j (by omega)]
            · rw [up_i (by omega), up_j (by omega), up_j (by omega), up_j (by omega)]
            · intro j _; rw [up_j (by omega), up_j (by omega), up_j (by omega), up_j (by omega)]
            · intro j _ _; rw [up_j (by omega), up_j (by omega), up_j (by omega), up_j (by omega)]
            · rw [up_j (by omega), up_j (by omega), up_j (by omega), up_j (by omega)]
            · rw [up_j (by omega), up_j (by omega), up_j (by omega), up_j (by omega)]
            · rw [up_j (by omega), up_j (by omega), up_j (by omega), up_j (by omega), up_i (by omega), up_j (by omega), up_j (by omega), up_j (by omega)]; exact hT
            · rw [up_j (by omega), up_j (by omega), up_j (by omega), up_j (by omega), up_i (by omega), up_j (by omega), up_j (by omega), up_j (by omega)]; exact hF
      · refine ⟨-2, σ, ρ, ?_, ?_, h⟩
        · simp only [f_X8_send, s_has hC.1 h4, bnd_s, bI_t hk, e10, if_false, s_W, t_0, t_20, t_5, bI_t hm, bI_f hg, e00, if_true]
        · simp only [f_X9_send, s_noCaller hR.1 h4, bnd_s, bI_f (show ¬ ¬ iv (nI k) 0 ((c : Int) - 1) from fun q => q hk), e00, e10, if_true, if_false, s_inI, u_0, u_20, u_5, bI_t hm, bI_f hg]
    · refine ⟨-2, σ, ρ, ?_, ?_, h⟩
      · simp only [f_X8_send, s_has hC.1 h4, bnd_s, bI_t hk, e10, if_false, s_W, t_0, t_20, t_5, bI_f hm, e00, if_true]
      · simp only [f_X9_send, s_noCaller hR.1 h4, bnd_s, bI_f (show ¬ ¬ iv (nI k) 0 ((c : Int) - 1) from fun q => q hk), e00, e10, if_true, if_false, s_inI, u_0, u_20, u_5, bI_f hm]
  · refine ⟨-1, σ, ρ, ?_, ?_, h⟩
    · simp only [f_X8_send, s_has hC.1 h4, bnd_s, bI_f hk, e00, if_true]
    · simp only [f_X9_send, s_noCaller hR.1 h4, bnd_s, bI_t hk, e10, if_false]
