/-! clash, peak, odds: over all shifts, step by step on both sides -/
theorem ivz {x : Int32} {z : Int} (h : x.toInt = z) (l u : Int) (h1 : l ≤ z) (h2 : z ≤ u) : iv x l u := by
  show l ≤ x.toInt ∧ x.toInt ≤ u
  omega
theorem i_p1 {x : Int32} {z : Int} (h : x.toInt = z) (h1 : -100 ≤ z) (h2 : z ≤ 100) : (x + 1).toInt = z + 1 := by
  rw [q_add (by rw [h, t_1]; omega) (by rw [h, t_1]; omega), h, t_1]
theorem i_5 {x : Int32} {z : Int} (h : x.toInt = z) : (5 < x) = (5 < z) := propext (by rw [q_lt, h, t_5])
theorem g_clash {c n : Nat} {kd : Nat → Nat} {pt : Nat → Nat → Option Nat} {σ ρ : my_M} (hB : ChB c n kd pt) (hC : ChC c n kd pt σ) (hR : ChR c n kd pt ρ) {k w : Nat} (hk : k < c) (hw : w < c) :
    ∀ (r : Nat), (∀ (s late high : Int32) (zl zh : Int) (F G : Nat), late.toInt = zl → high.toInt = zh → -5 ≤ zl → zl ≤ 5 → -5 ≤ zh → zh ≤ 6 → (5 - zl).toNat * 20 + (6 - zh).toNat + 1 = r → r < F → r < G → ∃ t, (g_X8_clash F).2 σ (nI k) (nI w) s late high = some (t, σ) ∧ (g_X9_clash G).2 ρ (nI k) (nI w) s late high = some (t, ρ)) ∧
      (∀ (s late : Int32) (zl : Int) (F G : Nat), late.toInt = zl → -5 ≤ zl → zl ≤ 6 → (6 - zl).toNat * 20 = r → r < F → r < G → ∃ t, (g_X8_clash F).1 σ (nI k) (nI w) s late = some (t, σ) ∧ (g_X9_clash G).1 ρ (nI k) (nI w) s late = some (t, ρ)) := by
  intro r
  induction r using Nat.strongRecOn with
  | ind r ih =>
    refine ⟨?_, ?_⟩
    · intro s late high zl zh F G el eh l1 l2 g1 g2 hr hF hG
      obtain ⟨F, rfl⟩ : ∃ q, F = q + 1 := ⟨F - 1, by omega⟩
      obtain ⟨G, rfl⟩ : ∃ q, G = q + 1 := ⟨G - 1, by omega⟩
      simp only [gs_X8_clash_1, gs_X9_clash_1, b_X8_clash_1, b_X9_clash_1, i_5 eh]
      by_cases h5 : 5 < zh
      · simp only [if_pos h5]
        exact (ih ((5 - zl).toNat * 20) (by omega)).2 s (late + 1) (zl + 1) F G (i_p1 el (by omega) (by omega)) (by omega) (by omega) (by omega) (by omega) (by omega)
      · simp only [if_neg h5, s_heard_C hB hC hk hw (ivz el _ _ (by omega) (by omega)) (ivz eh _ _ (by omega) (by omega)), s_heard_R hB hR hk hw (ivz el _ _ (by omega) (by omega)) (ivz eh _ _ (by omega) (by omega)), bnd_s]
        have key := fun s' => (ih ((5 - zl).toNat * 20 + (5 - zh).toNat + 1) (by omega)).1 s' late (high + 1) zl (zh + 1) F G el (i_p1 eh (by omega) (by omega)) (by omega) (by omega) (by omega) (by omega) (by omega) (by omega) (by omega)
        generalize hrd n (kd k) (pt k) (pt w) late.toInt high.toInt = v
        by_cases hv : s < v
        · have hv2 : ¬ v ≤ s := by rw [q_le]; rw [q_lt] at hv; omega
          simp only [if_pos hv, if_neg hv2]
          exact key v
        · have hv2 : v ≤ s := by rw [q_le]; rw [q_lt] at hv; omega
          simp only [if_neg hv, if_pos hv2]
          exact key s
    · intro s late zl F G el l1 l2 hr hF hG
      obtain ⟨F, rfl⟩ : ∃ q, F = q + 1 := ⟨F - 1, by omega⟩
      obtain ⟨G, rfl⟩ : ∃ q, G = q + 1 := ⟨G - 1, by omega⟩
      simp only [gs_X8_clash_0, gs_X9_clash_0, b_X8_clash_0, b_X9_clash_0, i_5 el]
      by_cases h5 : 5 < zl
      · simp only [if_pos h5]
        exact ⟨s, rfl, rfl⟩
      · simp only [if_neg h5]
        exact (ih ((5 - zl).toNat * 20 + 12) (by omega)).1 s late (-5) zl (-5) F G el t_m5 (by omega) (by omega) (by omega) (by omega) (by omega) (by omega) (by omega)

theorem pr_clash {σ ρ : my_M} (h : Rel σ ρ) (x y : Int32) : ∃ (r : Int32) (σ1 ρ1 : my_M), f_X8_clash σ x y = some (r, σ1) ∧ f_X9_clash ρ x y = some (r, ρ1) ∧ Rel σ1 ρ1 := by
  obtain ⟨⟨c, n, kd, pt, a, sw, sm, sh, b, rh, rw_, rl, rg, rv, hB, hC, hR, aB, aC, aR, dB, dC, dR, hS, hG, hT⟩, hF⟩ := id h
  have h4 := hB.1
  have hN := NF_big
  by_cases hk : iv x 0 ((c : Int) - 1)
  · obtain ⟨k, hk', rfl⟩ := cal hk
    by_cases hw : iv y 0 ((c : Int) - 1)
    · obtain ⟨w, hw', rfl⟩ := cal hw
      have hN2 : 220 < my_NF := Nat.lt_trans (by decide : 220 < 60000) NF_big
      obtain ⟨t, e1, e2⟩ := (g_clash hB hC hR hk' hw' 220).2 0 (-5) (-5) my_NF my_NF t_m5 (by decide) (by decide) (by decide) hN2 hN2
      refine ⟨t, σ, ρ, Eq.trans ?_ e1, Eq.trans ?_ e2, h⟩
      · simp only [f_X8_clash, s_has hC.1 h4, bnd_s, bI_t hk, bI_t hw, e10, if_false]
      · simp only [f_X9_clash, s_noCaller hR.1 h4, bnd_s, bI_0, if_pos (show ¬ ¬ iv (nI k) 0 ((c : Int) - 1) from fun q => q hk), if_pos (show ¬ ¬ iv (nI w) 0 ((c : Int) - 1) from fun q => q hw)]
    · refine ⟨-1, σ, ρ, ?_, ?_, h⟩
      · simp only [f_X8_clash, s_has hC.1 h4, bnd_s, bI_t hk, bI_f hw, e10, e00, if_true, if_false]
      · simp only [f_X9_clash, s_noCaller hR.1 h4, bnd_s, bI_0, if_pos (show ¬ ¬ iv (nI k) 0 ((c : Int) - 1) from fun q => q hk), if_neg (show ¬ ¬ ¬ iv y 0 ((c : Int) - 1) from fun q => q hw)]
  · refine ⟨-1, σ, ρ, ?_, ?_, h⟩
    · simp only [f_X8_clash, s_has hC.1 h4, bnd_s, bI_f hk, e00, if_true]
    · simp only [f_X9_clash, s_noCaller hR.1 h4, bnd_s, bI_t hk, e10, if_false]
/-! what is heard is never below 0 -/
theorem cntd_b (kd : Nat) (d : Int) : iv (cntd kd d) 0 2 := by
  unfold cntd bI
  repeat' split
  all_goals decide
theorem hterm_b (n kd : Nat) (own call : Nat → Option Nat) (late high : Int) (i : Nat) : iv (hterm n kd own call late high i) 0 2 := by
  unfold hterm
  split
  · split
    · exact cntd_b _ _
    · decide
  · decide
theorem hsum_b {t : Nat → Int32} (ht : ∀ i, iv (t i) 0 2) : ∀ (r i : Nat) (s : Int32) (m : Nat), iv s 0 m → m + 2 * r ≤ 100 → iv (hsum t r i s) 0 (m + 2 * r)
  | 0, i, s, m, hs, _ => by simpa [hsum] using hs
  | r + 1, i, s, m, hs, hm => by
    have h1 := ht i
    have e : (s + t i).toInt = s.toInt + (t i).toInt := q_add (by omega) (by omega)
    have := hsum_b ht r (i + 1) (s + t i) (m + 2) (by show 0 ≤ (s + t i).toInt ∧ (s + t i).toInt ≤ _; rw [e]; omega) (by omega)
    show 0 ≤ (hsum t r (i + 1) (s + t i)).toInt ∧ (hsum t r (i + 1) (s + t i)).toInt ≤ _
    omega
theorem hrd_b {n kd : Nat} {own call : Nat → Option Nat} {late high : Int} (hn : n ≤ 6) : iv (hrd n kd own call late high) 0 12 := by
  have := hsum_b (hterm_b n kd own call late high) n 0 0 0 (by decide) (by omega)
  show 0 ≤ (hrd n kd own call late high).toInt ∧ (hrd n kd own call late high).toInt ≤ 12
  unfold hrd
  omega
theorem ite2 {α : Type} {p q : Prop} [Decidable p] [Decidable q] (h : ¬ (p ∧ q)) (A B : α) : (if p then (if q then A else B) else B) = B := by
  by_cases q1 : p
  · rw [if_pos q1, if_neg (fun q2 => h ⟨q1, q2⟩)]
  · rw [if_neg q1]
/-! peak -/
def pk3 (ρ : my_M) (a b c : Int32) : my_M := my_up (my_up (my_up ρ 0 19 a) 0 20 b) 0 21 c
theorem pk3_19 {ρ : my_M} {a b c : Int32} : pk3 ρ a b c 0 19 = a := by unfold pk3; rw [up_i (by omega), up_i (by omega), up_at]
theorem pk3_20 {ρ : my_M} {a b c : Int32} : pk3 ρ a b c 0 20 = b := by unfold pk3; rw [up_i (by omega), up_at]
theorem pk3_21 {ρ : my_M} {a b c : Int32} : pk3 ρ a b c 0 21 = c := by unfold pk3; rw [up_at]
theorem pk3_ag {ρ : my_M} {a b c : Int32} : agR ρ (pk3 ρ a b c) := by
  unfold pk3
  refine ⟨fun j hj => by rw [up_j (by omega), up_j (by omega), up_j (by omega)], fun i hi => by rw [up_i (by omega), up_i (by omega), up_i (by omega)]⟩
theorem pk3_f {ρ : my_M} {a b c : Int32} : pk3 ρ a b c 0 0 = ρ 0 0 := by unfold pk3; rw [up_i (by omega), up_i (by omega), up_i (by omega)]
theorem i_0 {x : Int32} {z : Int} (h : x.toInt = z) : (x = 0) = (z = 0) := propext (by rw [q_eq, h, t_0])
theorem g_peak {c n : Nat} {kd : Nat → Nat} {pt : Nat → Nat → Option Nat} {σ : my_M} (hB : ChB c n kd pt) (hC : ChC c n kd pt σ) {k : Nat} (hk : k < c) (x2 : Int32) :
    ∀ (r : Nat) (ρ : my_M), ChR c n kd pt ρ → (∀ (late high : Int32) (zl zh : Int) (F G : Nat), 0 ≤ (ρ 0 19).toInt → late.toInt = zl → high.toInt = zh → -5 ≤ zl → zl ≤ 5 → -5 ≤ zh → zh ≤ 6 → (5 - zl).toNat * 20 + (6 - zh).toNat + 1 = r → r < F → r < G → ∃ (t ρ1 : my_M), agR ρ ρ1 ∧ ρ1 0 0 = ρ 0 0 ∧ (g_X8_peak F).2 σ (nI k) x2 (ρ 0 19) (ρ 0 20) (ρ 0 21) late high = some (if x2 = 0 then ρ1 0 19 else if x2 = 1 then ρ1 0 20 else ρ1 0 21, σ) ∧ (g_X9_peaks G).2 ρ (nI k) late high = some ((), ρ1)) ∧
      (∀ (late : Int32) (zl : Int) (F G : Nat), 0 ≤ (ρ 0 19).toInt → late.toInt = zl → -5 ≤ zl → zl ≤ 6 → (6 - zl).toNat * 20 = r → r < F → r < G → ∃ (t ρ1 : my_M), agR ρ ρ1 ∧ ρ1 0 0 = ρ 0 0 ∧ (g_X8_peak F).1 σ (nI k) x2 (ρ 0 19) (ρ 0 20) (ρ 0 21) late = some (if x2 = 0 then ρ1 0 19 else if x2 = 1 then ρ1 0 20 else ρ1 0 21, σ) ∧ (g_X9_peaks G).1 ρ (nI k) late = some ((), ρ1)) := by
  intro r
  induction r using Nat.strongRecOn with
  | ind r ih =>
    intro ρ hR
    refine ⟨?_, ?_⟩
    · intro late high zl zh F G h0 el eh l1 l2 g1 g2 hr hF hG
      obtain ⟨F, rfl⟩ : ∃ q, F = q + 1 := ⟨F - 1, by omega⟩
      obtain ⟨G, rfl⟩ : ∃ q, G = q + 1 := ⟨G - 1, by omega⟩
      simp only [gs_X8_peak_1, gs_X9_peaks_1, b_X8_peak_1, b_X9_peaks_1, i_5 eh, i_0 el, i_0 eh]
      by_cases h5 : 5 < zh
      · simp only [if_pos h5]
        exact (ih ((5 - zl).toNat * 20) (by omega) ρ hR).2 (late + 1) (zl + 1) F G h0 (i_p1 el (by omega) (by omega)) (by omega) (by omega) (by omega) (by omega) (by omega)
      · have key := fun ρ' hR' h0' => (ih ((5 - zl).toNat * 20 + (5 - zh).toNat + 1) (by omega) ρ' hR').1 late (high + 1) zl (zh + 1) F G h0' el (i_p1 eh (by omega) (by omega)) (by omega) (by omega) (by omega) (by omega) (by omega) (by omega) (by omega)
        have hm : (-1 : Int32) ≤ ρ 0 19 := by rw [q_le, t_m1]; omega
        simp only [if_neg h5, if_pos hm]
        by_cases hz : zl = 0 ∧ zh = 0
        · simp only [if_pos hz.1, if_pos hz.2]
          exact key ρ hR h0
        · simp only [ite2 hz, s_heard_C hB hC hk hk (ivz el _ _ (by omega) (by omega)) (ivz eh _ _ (by omega) (by omega)), s_heard_R hB hR hk hk (ivz el _ _ (by omega) (by omega)) (ivz eh _ _ (by omega) (by omega)), bnd_s]
          have hb := hrd_b (n := n) (kd := kd k) (own := pt k) (call := pt k) (late := late.toInt) (high := high.toInt) hB.2.1
          generalize hrd n (kd k) (pt k) (pt k) late.toInt high.toInt = v at hb
          by_cases hv : v ≤ ρ 0 19
          · simp only [if_pos hv]
            exact key ρ hR h0
          · simp only [if_neg hv]
            obtain ⟨t, ρ1, a1, a2, a3, a4⟩ := key (pk3 ρ v late high) (ChR_ag hR pk3_ag) (by rw [pk3_19]; exact hb.1)
            rw [pk3_19, pk3_20, pk3_21] at a3
            exact ⟨t, ρ1, agR_tr pk3_ag a1, a2.trans pk3_f, a3, a4⟩
    · intro late zl F G h0 el l1 l2 hr hF hG
      obtain ⟨F, rfl⟩ : ∃ q, F = q + 1 := ⟨F - 1, by omega⟩
      obtain ⟨G, rfl⟩ : ∃ q, G = q + 1 := ⟨G - 1, by omega⟩
      simp only [gs_X8_peak_0, gs_X9_peaks_0, b_X8_peak_0, b_X9_peaks_0, i_5 el]
      by_cases h5 : 5 < zl
      · simp only [if_pos h5]
        refine ⟨ρ, ρ, agR_rf, rfl, ?_, rfl⟩
        split
        · rfl
        · split <;> rfl
      · simp only [if_neg h5]
        exact (ih ((5 - zl).toNat * 20 + 12) (by omega) ρ hR).1 late (-5) zl (-5) F G h0 el t_m5 (by omega) (by omega) (by omega) (by omega) (by omega) (by omega) (by omega)
