theorem NF2 : ∃ N, my_NF = N + 2 ∧ 50000 < N := ⟨my_NF - 2, by have := NF_big; omega, by have := NF_big; omega⟩
theorem s_peak {c n : Nat} {kd : Nat → Nat} {pt : Nat → Nat → Option Nat} {σ ρ : my_M} (hB : ChB c n kd pt) (hC : ChC c n kd pt σ) (hR : ChR c n kd pt ρ) {k : Nat} (hk : k < c) (x2 : Int32) : ∃ ρ1, agR ρ ρ1 ∧ ρ1 0 0 = ρ 0 0 ∧ (g_X8_peak my_NF).1 σ (nI k) x2 (-1) 0 0 (-5) = some (if x2 = 0 then ρ1 0 19 else if x2 = 1 then ρ1 0 20 else ρ1 0 21, σ) ∧ f_X9_peaks ρ (nI k) = some ((), ρ1) := by
  obtain ⟨N, hN, hN2⟩ := NF2
  have ag1 : agR ρ (my_up ρ 0 19 (-1)) := ⟨fun j hj => up_j (by omega), fun i hi => up_i (by omega)⟩
  have hR1 := ChR_ag hR ag1
  have hb := hrd_b (n := n) (kd := kd k) (own := pt k) (call := pt k) (late := (-5 : Int32).toInt) (high := (-5 : Int32).toInt) hB.2.1
  have v5 : iv (-5 : Int32) (-5) 5 := by decide
  unfold f_X9_peaks
  rw [hN, gs_X8_peak_0, gs_X9_peaks_0]
  unfold b_X8_peak_0 b_X9_peaks_0
  rw [if_neg (by decide), if_neg (by decide), gs_X8_peak_1, gs_X9_peaks_1]
  unfold b_X8_peak_1 b_X9_peaks_1
  rw [if_neg (by decide), if_neg (by decide), if_neg (by decide), if_neg (by decide), s_heard_C hB hC hk hk v5 v5, s_heard_R hB hR1 hk hk v5 v5, bnd_s, bnd_s, up_at]
  generalize hrd n (kd k) (pt k) (pt k) (-5 : Int32).toInt (-5 : Int32).toInt = v at hb
  have hv : ¬ v ≤ -1 := by rw [q_le, t_m1]; omega
  rw [if_neg hv, if_neg hv]
  obtain ⟨-, ρ1, a1, a2, a3, a4⟩ := (g_peak hB hC hk x2 211 (pk3 (my_up ρ 0 19 (-1)) v (-5) (-5)) (ChR_ag hR1 pk3_ag)).1 (-5) (-5 + 1) (-5) (-4) N N (by rw [pk3_19]; exact hb.1) t_m5 (by decide) (by decide) (by decide) (by decide) (by decide) (by decide) (by omega) (by omega)
  rw [pk3_19, pk3_20, pk3_21] at a3
  exact ⟨ρ1, agR_tr ag1 (agR_tr pk3_ag a1), a2.trans (pk3_f.trans (up_i (by omega))), a3, a4⟩
theorem pr_peak {σ ρ : my_M} (h : Rel σ ρ) (x y : Int32) : ∃ (r : Int32) (σ1 ρ1 : my_M), f_X8_peak σ x y = some (r, σ1) ∧ f_X9_peak ρ x y = some (r, ρ1) ∧ Rel σ1 ρ1 := by
  obtain ⟨⟨c, n, kd, pt, a, sw, sm, sh, b, rh, rw_, rl, rg, rv, hB, hC, hR, aB, aC, aR, dB, dC, dR, hS, hG, hT⟩, hF⟩ := id h
  have h4 := hB.1
  by_cases hk : iv x 0 ((c : Int) - 1)
  · obtain ⟨k, hk', rfl⟩ := cal hk
    by_cases hw : iv y 0 2
    · obtain ⟨ρ1, a1, a2, a3, a4⟩ := s_peak hB hC hR hk' y
      refine ⟨if y = 0 then ρ1 0 19 else if y = 1 then ρ1 0 20 else ρ1 0 21, σ, ρ1, Eq.trans ?_ a3, ?_, RelX_ag h.1 agC_rf hG a1, by rw [a2]; exact h.2⟩
      · simp only [f_X8_peak, s_has hC.1 h4, bnd_s, bI_t hk, s_W, t_0, t_2, bI_t hw, e10, if_false]
      · simp only [f_X9_peak, s_noCaller hR.1 h4, bnd_s, bI_0, if_pos (show ¬ ¬ iv (nI k) 0 ((c : Int) - 1) from fun q => q hk), s_inI, u_0, u_2, if_neg (show ¬ ¬ iv y 0 2 from fun q => q hw), a4]
        by_cases y0 : y = 0
        · simp only [if_pos y0]
        · by_cases y1 : y = 1
          · simp only [if_neg y0, if_pos y1]
          · simp only [if_neg y0, if_neg y1]
    · refine ⟨-2, σ, ρ, ?_, ?_, h⟩
      · simp only [f_X8_peak, s_has hC.1 h4, bnd_s, bI_t hk, s_W, t_0, t_2, bI_f hw, e10, e00, if_true, if_false]
      · simp only [f_X9_peak, s_noCaller hR.1 h4, bnd_s, bI_0, if_pos (show ¬ ¬ iv (nI k) 0 ((c : Int) - 1) from fun q => q hk), s_inI, u_0, u_2, if_pos hw]
  · refine ⟨-1, σ, ρ, ?_, ?_, h⟩
    · simp only [f_X8_peak, s_has hC.1 h4, bnd_s, bI_f hk, e00, if_true]
    · simp only [f_X9_peak, s_noCaller hR.1 h4, bnd_s, bI_t hk, e10, if_false]
/-! odds: the largest number that divides both -/
theorem gcd_from {m d : Nat} (hd : 1 ≤ d) (h : ∀ e, d < e → e ≤ 120 → ¬ (m % e = 0 ∧ 120 % e = 0)) : Nat.gcd m 120 ≤ d := by
  by_cases q : Nat.gcd m 120 ≤ d
  · exact q
  · exact absurd ⟨Nat.mod_eq_zero_of_dvd (Nat.gcd_dvd_left m 120), Nat.mod_eq_zero_of_dvd (Nat.gcd_dvd_right m 120)⟩ (h _ (by omega) (Nat.le_of_dvd (by omega) (Nat.gcd_dvd_right m 120)))
theorem g_div {σ : my_M} {m p : Nat} (hm : m ≤ 1000) (hp : p ≤ 1000) : ∀ (d F : Nat), 1 ≤ d → d ≤ 120 → d < F → (∀ e, d < e → e ≤ 120 → ¬ (m % e = 0 ∧ 120 % e = 0)) → g_X8_inLeastTerms F σ (nI p) (nI m) (nI d) = some (nI (p / Nat.gcd m 120), σ) := by
  intro d
  induction d with
  | zero => intro F h; omega
  | succ d ih =>
    intro F h1 h2 hF h
    obtain ⟨F, rfl⟩ : ∃ q, F = q + 1 := ⟨F - 1, by omega⟩
    have hz : ¬ nI (d + 1) = 0 := by rw [← nI_0, nI_inj (by omega) (by omega)]; omega
    have hg := gcd_from h1 h
    rw [gs_X8_inLeastTerms]
    unfold b_X8_inLeastTerms_0
    have hle : (nI (d + 1) ≤ 1) ↔ d + 1 ≤ 1 := by rw [nI_lit1, nIle (by omega) (by omega)]
    by_cases hd : d + 1 ≤ 1
    · rw [if_pos (hle.mpr hd)]
      have : 0 < Nat.gcd m 120 := Nat.gcd_pos_of_pos_right m (by omega)
      rw [show Nat.gcd m 120 = 1 by omega, Nat.div_one]
    · rw [if_neg (fun q => hd (hle.mp q)), if_pos hz, if_pos hz, if_pos hz, pk_rem (by omega) (by omega) (by omega), show (120 : Int32) = nI 120 by decide, pk_rem (by omega) (by omega) (by omega), pk_m1]
      have z1 : (nI (m % (d + 1)) = 0) ↔ (m % (d + 1) = 0) := by
        have := Nat.mod_lt m (show d + 1 > 0 by omega)
        rw [← nI_0, nI_inj (by omega) (by omega)]
      have z2 : (nI (120 % (d + 1)) = 0) ↔ (120 % (d + 1) = 0) := by
        have := Nat.mod_lt 120 (show d + 1 > 0 by omega)
        rw [← nI_0, nI_inj (by omega) (by omega)]
      have next : ¬ (m % (d + 1) = 0 ∧ 120 % (d + 1) = 0) → g_X8_inLeastTerms F σ (nI p) (nI m) (nI d) = some (nI (p / Nat.gcd m 120), σ) := by
        intro q
        refine ih F (by omega) (by omega) (by omega) (fun e he1 he2 => ?_)
        by_cases e1 : e = d + 1
        · rw [e1]; exact q
        · exact h e (by omega) he2
      by_cases q1 : m % (d + 1) = 0
      · rw [if_pos (z1.mpr q1)]
        by_cases q2 : 120 % (d + 1) = 0
        · rw [if_pos (z2.mpr q2)]
          have h3 : d + 1 ∣ Nat.gcd m 120 := Nat.dvd_gcd (Nat.dvd_of_mod_eq_zero q1) (Nat.dvd_of_mod_eq_zero q2)
          have h4 := Nat.le_of_dvd (Nat.gcd_pos_of_pos_right m (by omega)) h3
          rw [pk_div (by omega) (by omega) (by omega), show Nat.gcd m 120 = d + 1 by omega]
        · rw [if_neg (fun q => q2 (z2.mp q))]
          exact next (fun q => q2 q.2)
      · rw [if_neg (fun q => q1 (z1.mp q))]
        exact next (fun q => q1 q.1)
theorem s_div {σ : my_M} {m p : Nat} (hm : m ≤ 1000) (hp : p ≤ 1000) : f_X8_inLeastTerms σ (nI p) (nI m) = some (nI (p / Nat.gcd m 120), σ) := by
  have hN := NF_big
  unfold f_X8_inLeastTerms
  rw [show (120 : Int32) = nI 120 by decide, g_div hm hp 120 my_NF (by omega) (by omega) (by omega) (fun e h1 h2 => absurd h1 (by omega))]
theorem g_share {ρ : my_M} {x4 : Int32} {u v : Int64} : ∀ (y x F : Nat), x ≤ 10000 → y ≤ 10000 → 0 < x + y → y + 1 < F → g_X9_share F ρ u v x4 (lN x) (lN y) = some ((if x4 = 0 then u / lN (Nat.gcd x y) else v / lN (Nat.gcd x y)), ρ) := by
  intro y
  induction y using Nat.strongRecOn with
  | ind y ih =>
    intro x F hx hy hxy hF
    obtain ⟨F, rfl⟩ : ∃ q, F = q + 1 := ⟨F - 1, by omega⟩
    have hz : (lN y = 0) = (y = 0) := by
      rw [show (0 : Int64) = lN 0 by decide]
      exact propext (lN_eq (by omega) (by omega))
    rw [gs_X9_share]
    unfold b_X9_share_0
    have hc : (lg_cmp (lN y) 0 = 0) ↔ (y = 0) := by rw [propext (lg_cmp_eq (lN y) 0), hz]
    by_cases y0 : y = 0
    · have hx0 : ¬ lN x = 0 := by
        rw [show (0 : Int64) = lN 0 by decide, propext (lN_eq (a := x) (b := 0) (by omega) (by omega))]; omega
      rw [if_pos (hc.mpr y0), if_pos hx0, if_pos hx0, y0, Nat.gcd_zero_right]
      split <;> rfl
    · rw [if_neg (fun q => y0 (hc.mp q)), if_pos (show ¬ lN y = 0 by rw [hz]; exact y0), pk_lRem (by omega) (by omega) (by omega)]
      have hlt := Nat.mod_lt x (show y > 0 by omega)
      rw [ih (x % y) hlt y F hy (by omega) (by omega) (by omega), Nat.gcd_comm y (x % y), ← Nat.gcd_rec y x, Nat.gcd_comm y x]
theorem lend {m : Nat} (hm : m ≤ 1000) (x3 : Int32) (σ ρ : my_M) : ∃ t : Int64, (if x3 = 0 then (my_bnd (f_X8_inLeastTerms σ (nI m) (nI m)) fun r2 σ2 => some ((Int32.toInt64 r2), σ2)) else (my_bnd (f_X8_inLeastTerms σ 120 (nI m)) fun r1 σ1 => some ((Int32.toInt64 r1), σ1))) = some (t, σ) ∧ (my_bnd (f_X9_share ρ (Int32.toInt64 (nI m)) 120 x3) fun r1 σ1 => some (r1, σ1)) = some (t, ρ) := by
  have hN := NF_big
  have hg0 : 0 < Nat.gcd m 120 := Nat.gcd_pos_of_pos_right m (by omega)
  have hg1 : Nat.gcd m 120 ≤ 120 := Nat.le_of_dvd (by omega) (Nat.gcd_dvd_right m 120)
  refine ⟨if x3 = 0 then lN (m / Nat.gcd m 120) else lN (120 / Nat.gcd m 120), ?_, ?_⟩
  · rw [s_div hm hm, show (120 : Int32) = nI 120 by decide, s_div hm (by omega), bnd_s, bnd_s]
    have d1 : m / Nat.gcd m 120 ≤ m := Nat.div_le_self _ _
    have d2 : 120 / Nat.gcd m 120 ≤ 120 := Nat.div_le_self _ _
    rw [nI_l (by omega), nI_l (by omega)]
    split <;> rfl
  · unfold f_X9_share
    rw [nI_l (by omega), show (120 : Int64) = lN 120 by decide, g_share 120 m my_NF (by omega) (by omega) (by omega) (by omega), bnd_s, pk_lDiv (by omega) hg0 (by omega), pk_lDiv (by omega) hg0 (by omega)]

theorem g_odds {c n : Nat} {kd : Nat → Nat} {pt : Nat → Nat → Option Nat} {σ ρ : my_M} (hB : ChB c n kd pt) (hC : ChC c n kd pt σ) (hR : ChR c n kd pt ρ) {k : Nat} (hk : k < c) (x2 x3 : Int32) :
    ∀ (r : Nat), (∀ (m : Nat) (late high : Int32) (zl zh : Int) (F G : Nat), m + r ≤ 1000 → late.toInt = zl → high.toInt = zh → -5 ≤ zl → zl ≤ 5 → -5 ≤ zh → zh ≤ 6 → (5 - zl).toNat * 20 + (6 - zh).toNat + 1 = r → r < F → r < G → ∃ t, (g_X8_odds F).2 σ (nI k) x2 x3 (nI m) late high = some (t, σ) ∧ (g_X9_odds G).2 ρ (nI k) x2 x3 (nI m) late high = some (t, ρ)) ∧
      (∀ (m : Nat) (late : Int32) (zl : Int) (F G : Nat), m + r ≤ 1000 → late.toInt = zl → -5 ≤ zl → zl ≤ 6 → (6 - zl).toNat * 20 = r → r < F → r < G → ∃ t, (g_X8_odds F).1 σ (nI k) x2 x3 (nI m) late = some (t, σ) ∧ (g_X9_odds G).1 ρ (nI k) x2 x3 (nI m) late = some (t, ρ)) := by
  intro r
  induction r using Nat.strongRecOn with
  | ind r ih =>
    refine ⟨?_, ?_⟩
    · intro m late high zl zh F G hm el eh l1 l2 g1 g2 hr hF hG
      obtain ⟨F, rfl⟩ : ∃ q, F = q + 1 := ⟨F - 1, by omega⟩
      obtain ⟨G, rfl⟩ : ∃ q, G = q + 1 := ⟨G - 1, by omega⟩
      simp only [gs_X8_odds_1, gs_X9_odds_1, b_X8_odds_1, b_X9_odds_1, i_5 eh, i_0 el, i_0 eh, add0]
      by_cases h5 : 5 < zh
      · simp only [if_pos h5]
        exact (ih ((5 - zl).toNat * 20) (by omega)).2 m (late + 1) (zl + 1) F G (by omega) (i_p1 el (by omega) (by omega)) (by omega) (by omega) (by omega) (by omega) (by omega)
      · simp only [if_neg h5]
        have key := fun m' (hm' : m' ≤ m + 1) => (ih ((5 - zl).toNat * 20 + (5 - zh).toNat + 1) (by omega)).1 m' late (high + 1) zl (zh + 1) F G
        by_cases hz : zl = 0 ∧ zh = 0
        · simp only [if_pos hz.1, if_pos hz.2, e00, if_true]
          exact key m (by omega) (by omega) el (i_p1 eh (by omega) (by omega)) (by omega) (by omega) (by omega) (by omega) (by omega) (by omega) (by omega)
        · have hz1 : ∀ {α : Type} (A B : α), (if zl = 0 then (if (if zh = 0 then (0 : Int32) else 1) = 0 then A else B) else B) = B := by
            intro α A B
            by_cases q1 : zl = 0
            · rw [if_pos q1, if_neg (fun q2 => hz ⟨q1, q2⟩)]
              simp only [e10, if_false]
            · rw [if_neg q1]
          simp only [ite2 hz, hz1, s_heard_C hB hC hk hk (ivz el _ _ (by omega) (by omega)) (ivz eh _ _ (by omega) (by omega)), s_heard_R hB hR hk hk (ivz el _ _ (by omega) (by omega)) (ivz eh _ _ (by omega) (by omega)), bnd_s]
          generalize hrd n (kd k) (pt k) (pt k) late.toInt high.toInt = v
          by_cases hv : v < x2
          · simp only [if_pos hv, add0]
            exact key m (by omega) (by omega) el (i_p1 eh (by omega) (by omega)) (by omega) (by omega) (by omega) (by omega) (by omega) (by omega) (by omega)
          · simp only [if_neg hv, nI_p1]
            exact key (m + 1) (by omega) (by omega) el (i_p1 eh (by omega) (by omega)) (by omega) (by omega) (by omega) (by omega) (by omega) (by omega) (by omega)
    · intro m late zl F G hm el l1 l2 hr hF hG
      obtain ⟨F, rfl⟩ : ∃ q, F = q + 1 := ⟨F - 1, by omega⟩
      obtain ⟨G, rfl⟩ : ∃ q, G = q + 1 := ⟨G - 1, by omega⟩
      simp only [gs_X8_odds_0, gs_X9_odds_0, b_X8_odds_0, b_X9_odds_0, i_5 el]
      by_cases h5 : 5 < zl
      · simp only [if_pos h5]
        exact lend (by omega) x3 σ ρ
      · simp only [if_neg h5]
        exact (ih ((5 - zl).toNat * 20 + 12) (by omega)).1 m late (-5) zl (-5) F G (by omega) el t_m5 (by omega) (by omega) (by omega) (by omega) (by omega) (by omega) (by omega)
theorem pr_odds {σ ρ : my_M} (h : Rel σ ρ) (x y z : Int32) : ∃ (r : Int64) (σ1 ρ1 : my_M), f_X8_odds σ x y z = some (r, σ1) ∧ f_X9_odds ρ x y z = some (r, ρ1) ∧ Rel σ1 ρ1 := by
  obtain ⟨⟨c, n, kd, pt, a, sw, sm, sh, b, rh, rw_, rl, rg, rv, hB, hC, hR, aB, aC, aR, dB, dC, dR, hS, hG, hT⟩, hF⟩ := id h
  have h4 := hB.1
  have hN2 : 220 < my_NF := Nat.lt_trans (by decide : 220 < 60000) NF_big
  by_cases hk : iv x 0 ((c : Int) - 1)
  · obtain ⟨k, hk', rfl⟩ := cal hk
    by_cases hw : iv y 0 20
    · by_cases hz : iv z 0 1
      · obtain ⟨t, a1, a2⟩ := (g_odds hB hC hR hk' y z 220).2 0 (-5) (-5) my_NF my_NF (by decide) t_m5 (by decide) (by decide) (by decide) hN2 hN2
        rw [nI_0] at a1 a2
        refine ⟨t, σ, ρ, Eq.trans ?_ a1, Eq.trans ?_ a2, h⟩
        · simp only [f_X8_odds, s_has hC.1 h4, bnd_s, bI_t hk, s_W, t_0, t_1, t_20, bI_t hw, bI_t hz, e10, if_false]
        · simp only [f_X9_odds, s_noCaller hR.1 h4, bnd_s, bI_0, if_pos (show ¬ ¬ iv (nI k) 0 ((c : Int) - 1) from fun q => q hk), s_inI, u_0, u_1, u_20, if_neg (show ¬ ¬ iv y 0 20 from fun q => q hw), if_neg (show ¬ ¬ iv z 0 1 from fun q => q hz)]
      · refine ⟨-9223372036854775808, σ, ρ, ?_, ?_, h⟩
        · simp only [f_X8_odds, s_has hC.1 h4, bnd_s, bI_t hk, s_W, t_0, t_1, t_20, bI_t hw, bI_f hz, e10, e00, if_true, if_false]
        · simp only [f_X9_odds, s_noCaller hR.1 h4, bnd_s, bI_0, if_pos (show ¬ ¬ iv (nI k) 0 ((c : Int) - 1) from fun q => q hk), s_inI, u_0, u_1, u_20, if_neg (show ¬ ¬ iv y 0 20 from fun q => q hw), if_pos hz, f_X9_lost]
    · refine ⟨-9223372036854775808, σ, ρ, ?_, ?_, h⟩
      · simp only [f_X8_odds, s_has hC.1 h4, bnd_s, bI_t hk, s_W, t_0, t_1, t_20, bI_f hw, e10, e00, if_true, if_false]
      · simp only [f_X9_odds, s_noCaller hR.1 h4, bnd_s, bI_0, if_pos (show ¬ ¬ iv (nI k) 0 ((c : Int) - 1) from fun q => q hk), s_inI, u_0, u_1, u_20, if_pos hw, f_X9_lost]
  · refine ⟨-9223372036854775808, σ, ρ, ?_, ?_, h⟩
    · simp only [f_X8_odds, s_has hC.1 h4, bnd_s, bI_f hk, e00, if_true]
    · simp only [f_X9_odds, s_noCaller hR.1 h4, bnd_s, bI_t hk, e10, if_false, f_X9_lost]
