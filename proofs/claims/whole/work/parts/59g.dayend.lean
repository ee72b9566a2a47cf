abbrev dayQ (x : Int32) : Prop := iv x 0 4 ∨ iv x 10 13
theorem s_dayQ (σ : my_M) (x : Int32) : f_X8_isDayQuestion σ x = some (bI (dayQ x), σ) := by
  simp only [f_X8_isDayQuestion, s_W, t_0, t_4, t_10, t_13, bnd_s]
  by_cases h1 : iv x 0 4
  · rw [bI_t h1, if_neg (by decide), bI_t (Or.inl h1)]
  · by_cases h2 : iv x 10 13
    · rw [bI_f h1, if_pos rfl, bI_t h2, bI_t (Or.inr h2)]; rfl
    · rw [bI_f h1, if_pos rfl, bI_f h2, bI_f (fun z => z.elim h1 h2)]; rfl
theorem FC_tr {σ τ υ : my_M} (h : FC σ τ) (g : FC τ υ) : FC σ υ := fun j hj => (g j hj).trans (h j hj)
theorem s_fin {c n : Nat} {kd : Nat → Nat} {pt : Nat → Nat → Option Nat} {a : Nat} {sw sm sh : Nat → Nat} {τ υ : my_M} (hB : ChB c n kd pt) (aB : AiB c a sw sm sh) (hC : ChC c n kd pt τ) (aC : AiC a sw sm sh 1 τ) (hR : ChR c n kd pt υ) (aR : AiR a sw sm sh υ) {x : Int32} (hx : dayQ x) (x1 : x ≠ 1) (q : Int32) (m : Nat) : ∃ v τ', f_X8_afterDay τ x = some (v, τ') ∧ FC τ τ' ∧ b_X9_dayOf_0 (g_X9_dayOf 0) υ q (nI m) x (-9) (nI m) = some (v, υ) := by
  have hN := NF_big
  have h4 := hB.1
  obtain ⟨τ', q1, q2, q3⟩ := s_sound hB aB (show 1 < 2 by omega) hC aC
  have fC : FC τ τ' := fun j hj => q2 j (by omega)
  have hC' : ChC c n kd pt τ' := ChC_f h4 hC (fun j _ _ => q2 j (by omega))
  have a16 : τ' 16 0 = nI a := by rw [q2 16 (by omega)]; exact aC.1
  have l20 : my_len layC 20 = 26 := rfl
  have q3' : ∀ u, u < 26 → τ' 20 u = airA n pt sw sm sh a 0 u 0 := q3
  have m0 : (-9 : Int32) < 0 := by decide
  have le : nI m ≤ nI m := Int32.le_refl _
  rcases hx with hx | hx
  · obtain ⟨d, hd, rfl⟩ := iv_nat (m := 4) hx
    obtain rfl | rfl | rfl | rfl | rfl : d = 0 ∨ d = 1 ∨ d = 2 ∨ d = 3 ∨ d = 4 := by omega
    · refine ⟨nI a, τ', ?_, fC, ?_⟩
      · simp only [f_X8_afterDay, q1, bnd_s, if_pos (show nI 0 = 0 by decide), a16]
      · simp only [b_X9_dayOf_0, if_pos le, if_neg (show ¬ nI 0 = 1 by decide), if_pos m0, if_pos (show nI 0 < 10 by decide), if_pos (show nI 0 = 0 by decide), aR.1]
    · exact absurd (by decide) x1
    · have e1 := g_mny_C (σ := τ') (A := 15 + 5 * 1) l20 (av := fun u => airA n pt sw sm sh a 0 u 0) q3 26 0 0 my_NF (by omega) (by omega)
      have e2 := g_mny_R hB aB hR aR 26 0 0 my_NF (by omega) (by omega)
      rw [nI_0] at e1 e2
      have f1 : f_X0_soundingMoments τ' 1 = _ := e1
      have f2 : f_X9_manyThatSound υ = _ := e2
      refine ⟨nI (mny (fun u => airA n pt sw sm sh a 0 u 0) 26 0 0), τ', ?_, fC, ?_⟩
      · simp only [f_X8_afterDay, q1, bnd_s, if_neg (show ¬ nI 2 = 0 by decide), if_neg (show ¬ nI 2 = 1 by decide), if_pos (show nI 2 = 2 by decide), f1]
      · simp only [b_X9_dayOf_0, if_pos le, if_neg (show ¬ nI 2 = 1 by decide), if_pos m0, if_pos (show nI 2 < 10 by decide), if_neg (show ¬ nI 2 = 0 by decide), if_pos (show nI 2 = 2 by decide), f2, bnd_s]
    · have e1 := g_dn_C (σ := τ') (show 1 < 2 by omega) (av := fun u => airA n pt sw sm sh a 0 u 0) q3 26 my_NF (by omega) (by omega)
      have e2 := g_dn_R hB aB hR aR 26 0 my_NF (by omega) (by omega)
      rw [nI_0] at e2
      rw [show nI 26 + -1 = 25 by decide] at e1
      have f1 : f_X0_lastSounding τ' 1 = _ := e1
      have f2 : f_X9_lastThatSounds υ = _ := e2
      refine ⟨dn (fun u => airA n pt sw sm sh a 0 u 0) 26, τ', ?_, fC, ?_⟩
      · simp only [f_X8_afterDay, q1, bnd_s, if_neg (show ¬ nI 3 = 0 by decide), if_neg (show ¬ nI 3 = 1 by decide), if_neg (show ¬ nI 3 = 2 by decide), if_pos (show nI 3 = 3 by decide), f1]
      · simp only [b_X9_dayOf_0, if_pos le, if_neg (show ¬ nI 3 = 1 by decide), if_pos m0, if_pos (show nI 3 < 10 by decide), if_neg (show ¬ nI 3 = 0 by decide), if_neg (show ¬ nI 3 = 2 by decide), if_pos (show nI 3 = 3 by decide), f2, bnd_s]
    · have e1 := g_uf_C (σ := τ') (show 1 < 2 by omega) (av := fun u => airA n pt sw sm sh a 0 u 0) q3 (fun u _ => air_sml hB aB a 0 0 (by omega) ⟨0, by omega, nI_0.symm⟩) 26 0 my_NF (by omega) (by omega)
      have e2 := g_uf_R hB aB hR aR 26 0 my_NF (by omega) (by omega)
      rw [nI_0] at e1
      rw [show nI 26 + -1 = 25 by decide] at e2
      have f1 : f_X0_firstOfTwo τ' 1 = _ := e1
      have f2 : f_X9_firstOfTwo υ = _ := e2
      refine ⟨uf (fun u => airA n pt sw sm sh a 0 u 0) 26 0, τ', ?_, fC, ?_⟩
      · simp only [f_X8_afterDay, q1, bnd_s, if_neg (show ¬ nI 4 = 0 by decide), if_neg (show ¬ nI 4 = 1 by decide), if_neg (show ¬ nI 4 = 2 by decide), if_neg (show ¬ nI 4 = 3 by decide), if_pos (show nI 4 = 4 by decide), f1]
      · simp only [b_X9_dayOf_0, if_pos le, if_neg (show ¬ nI 4 = 1 by decide), if_pos m0, if_pos (show nI 4 < 10 by decide), if_neg (show ¬ nI 4 = 0 by decide), if_neg (show ¬ nI 4 = 2 by decide), if_neg (show ¬ nI 4 = 3 by decide), f2, bnd_s]
  · have z1 := hx.1
    have z2 := hx.2
    obtain ⟨d, hd, rfl⟩ := q_of (c := 14) (show 0 ≤ x.toInt by omega) (by omega)
    rw [q_n (by omega)] at z1 z2
    have ed : nI d - 10 = nI (d - 10) := by rw [show (10 : Int32) = nI 10 by decide, nI_sub (by omega) (by omega)]
    have n0 : ¬ nI d = 0 := by rw [← nI_0, nI_inj (by omega) (by omega)]; omega
    have n2 : ¬ nI d = 2 := by rw [nI_lit2, nI_inj (by omega) (by omega)]; omega
    have n3 : ¬ nI d = 3 := by rw [show (3 : Int32) = nI 3 by decide, nI_inj (by omega) (by omega)]; omega
    have n4 : ¬ nI d = 4 := by rw [show (4 : Int32) = nI 4 by decide, nI_inj (by omega) (by omega)]; omega
    have n10 : ¬ nI d < 10 := by rw [show (10 : Int32) = nI 10 by decide, nIlt (by omega) (by omega)]; omega
    by_cases hk : iv (nI (d - 10)) 0 ((c : Int) - 1)
    · have nk : ¬ ¬ iv (nI (d - 10)) 0 ((c : Int) - 1) := fun z => z hk
      obtain ⟨k, hk', ek⟩ := cal hk
      rw [nI_inj (by omega) (by omega)] at ek
      rw [ek] at ed hk nk
      have hd : ldm (lst n (kd k) (pt k) (fun u => airA n pt sw sm sh a 0 u 0)) 25 1 0 < 26 := ldm_lt _ _ _ (by omega) (by omega)
      refine ⟨nI (lst n (kd k) (pt k) (fun u => airA n pt sw sm sh a 0 u 0) (ldm (lst n (kd k) (pt k) (fun u => airA n pt sw sm sh a 0 u 0)) 25 1 0)), τ', ?_, fC, ?_⟩
      · simp only [f_X8_afterDay, q1, bnd_s, if_neg n0, if_neg x1, if_neg n2, if_neg n3, if_neg n4, ed, f_X8_mostListened, s_has hC'.1 h4, bI_t hk, e10, if_false, s_ldm_C hB hC' (A := 20) l20 (av := fun u => airA n pt sw sm sh a 0 u 0) q3' hk', s_lsn_C hB hC' (A := 20) l20 (av := fun u => airA n pt sw sm sh a 0 u 0) q3' hk' hd]
      · simp only [b_X9_dayOf_0, if_pos le, if_neg x1, if_pos m0, if_neg n10, ed, s_noCaller hR.1 h4, bnd_s, bI_f nk, e00, if_true, s_ldm_R hB aB hR aR hk', s_lsn_R hB aB hR aR hk' hd]
    · refine ⟨-9, τ', ?_, fC, ?_⟩
      · simp only [f_X8_afterDay, q1, bnd_s, if_neg n0, if_neg x1, if_neg n2, if_neg n3, if_neg n4, ed, f_X8_mostListened, s_has hC'.1 h4, bI_f hk, e00, if_true]
      · simp only [b_X9_dayOf_0, if_pos le, if_neg x1, if_pos m0, if_neg n10, ed, s_noCaller hR.1 h4, bnd_s, bI_t hk, e10, if_false]
theorem cp_at0 {σ : my_M} {a b : Nat} {m t : Nat} (hm : m < 2 ^ 31) : my_cp σ a b 0 0 (nI m) b t = if t < m then σ a t else σ b t := by
  have e := cp_at (σ := σ) (a := a) (b := b) (p := 0) (q := 0) (m := m) (t := t) (by omega) (by omega) hm
  rw [nI_0] at e
  rw [e]
  simp only [Nat.zero_le, true_and, Nat.zero_add, Nat.sub_zero]
theorem cpok0 {i j m : Nat} (hi : my_len layC i = 8) (hj : my_len layC j = 8) (hm : m ≤ 8) : my_cpok layC i j 0 0 (nI m) := by
  unfold my_cpok
  rw [hi, hj, q_clamp (show m < 2 ^ 31 by omega)]
  refine ⟨by decide, by decide, ?_, ?_, ?_, by omega, by omega⟩
  · rw [← nI_0, nIlt (by omega) (by omega)]; omega
  · show 0 + m ≤ 8; omega
  · show 0 + m ≤ 8; omega
theorem s_like {a : Nat} {sw sm sh : Nat → Nat} {σ : my_M} (h8 : a ≤ 8) (aC : AiC a sw sm sh 0 σ) : ∃ τ, f_X0_becomeLike σ 1 0 = some ((), τ) ∧ AiC a sw sm sh 1 τ ∧ FC σ τ := by
  have aC1 : σ 11 0 = nI a := aC.1
  refine ⟨my_cp (my_cp (my_cp (my_up σ 16 0 (nI a)) 12 17 0 0 (nI a)) 13 18 0 0 (nI a)) 14 19 0 0 (nI a), ?_, ⟨?_, fun s hs => ?_⟩, fun j hj => ?_⟩
  · simp only [f_X0_becomeLike, if_pos (show 1 < 2 by omega), if_pos (show 0 < 2 by omega), Nat.mul_one, Nat.mul_zero, Nat.add_zero, Nat.reduceAdd, aC1, up_at, cp_j (show 16 ≠ 17 by omega), cp_j (show 16 ≠ 18 by omega), if_pos (cpok0 (i := 12) (j := 17) rfl rfl h8), if_pos (cpok0 (i := 13) (j := 18) rfl rfl h8), if_pos (cpok0 (i := 14) (j := 19) rfl rfl h8)]
  · show my_cp _ 14 19 _ _ _ 16 0 = nI a
    rw [cp_j (by omega), cp_j (by omega), cp_j (by omega), up_at]
  · obtain ⟨e1, e2, e3⟩ := aC.2 s hs
    refine ⟨?_, ?_, ?_⟩
    · show my_cp _ 14 19 _ _ _ 17 s = _
      rw [cp_j (by omega), cp_j (by omega), cp_at0 (by omega), if_pos hs, up_j (by omega)]
      exact e1
    · show my_cp _ 14 19 _ _ _ 18 s = _
      rw [cp_j (by omega), cp_at0 (by omega), if_pos hs, cp_j (by omega), up_j (by omega)]
      exact e2
    · show my_cp _ 14 19 _ _ _ 19 s = _
      rw [cp_at0 (by omega), if_pos hs, cp_j (by omega), cp_j (by omega), up_j (by omega)]
      exact e3
  · rw [cp_j (by omega), cp_j (by omega), cp_j (by omega), up_j (by omega)]
theorem soB_all {h : Nat → Bool} : ∀ r i, soB h r i = true → ∀ j, i ≤ j → j < i + r → h j = true := by
  intro r
  induction r with
  | zero => intro i _ j h1 h2; omega
  | succ r ih =>
    intro i hs j h1 h2
    rw [soB, Bool.and_eq_true] at hs
    by_cases e : j = i
    · subst e; exact hs.1
    · exact ih (i + 1) hs.2 j (by omega) (by omega)
theorem Rel_day {σ ρ τ υ : my_M} (h : Rel σ ρ) (f : FC (my_up σ 0 8 0) τ) (g : ∀ j, j = 1 ∨ j = 2 ∨ (12 ≤ j ∧ j ≤ 19) → υ j = ρ j) (g0 : ∀ i, i = 1 ∨ i = 2 ∨ i = 11 ∨ i = 22 ∨ i = 32 → υ 0 i = ρ 0 i) (g6 : ∀ t, t < 8 → υ 6 t = ρ 6 t ∧ υ 7 t = ρ 7 t ∧ υ 8 t = ρ 8 t) : Rel τ (my_up υ 0 0 0) := by
  obtain ⟨⟨c, n, kd, pt, a, sw, sm, sh, b, rh, rw_, rl, rg, rv, hB, hC, hR, aB, aC, aR, dB, dC, dR, hS, hG, hT⟩, hF⟩ := id h
  have h8 := aB.1
  have e : ∀ j, 0 < j → j < 16 ∨ 20 < j → τ j = σ j := fun j h0 hj => by rw [f j hj, up_j (by omega)]
  refine ⟨⟨c, n, kd, pt, a, sw, sm, sh, b, rh, rw_, rl, rg, rv, hB, ChC_f hB.1 hC (fun j _ _ => e j (by omega) (by omega)), ChR_f hR ?_ ?_ ?_ ?_, aB, AiC_f aC (fun j _ _ => e j (by omega) (by omega)), ⟨?_, fun s hs => ?_⟩, dB, RdC_f dC (fun j _ _ => e j (by omega) (by omega)), RdR_f dR (fun j _ _ => ?_) ?_, ShR_f hS (fun j _ => e j (by omega) (by omega)) (fun j _ _ => ?_), GdC_of hG (e 27 (by omega) (by omega)) (e 28 (by omega) (by omega)), ?_⟩, ?_⟩
  · rw [up_j (by omega)]; exact g 1 (by omega)
  · rw [up_j (by omega)]; exact g 2 (by omega)
  · rw [up_i (by omega)]; exact g0 1 (by omega)
  · rw [up_i (by omega)]; exact g0 2 (by omega)
  · rw [up_i (by omega), g0 11 (by omega)]; exact aR.1
  · obtain ⟨a1, a2, a3⟩ := g6 s (by omega)
    rw [up_j (by omega), up_j (by omega), up_j (by omega), a1, a2, a3]
    exact aR.2 s hs
  · rw [up_j (by omega)]; exact g j (by omega)
  · rw [up_i (by omega)]; exact g0 22 (by omega)
  · rw [up_j (by omega)]; exact g j (by omega)
  · rw [f 0 (by omega), up_i (by omega), up_i (by omega), g0 32 (by omega)]; exact hT
  · rw [f 0 (by omega), up_at, up_at]
theorem two_l : ∀ m : Fin 21, (2 : Int64) * Int32.toInt64 (nI m.1) = Int32.toInt64 (nI (2 * m.1)) ∧ 0 ≤ lg_cmp (Int32.toInt64 (nI (2 * m.1))) 0 := by decide +kernel
theorem two_i (m : Nat) : (2 : Int32) * nI m = nI (2 * m) := by rw [nI_lit2, pk_mul]
