/-! clash, peak, odds: over all shifts, step by step on both sides -/
theorem ivz {x : Int32} {z : Int} (h : x.toInt = z) (l u : Int) (h1 : l ≤ z) (h2 : z ≤ u) : iv x l u := by
  show l ≤ x.toInt ∧ x.toInt ≤ u
  omega
theorem i_p1 {x : Int32} {z : Int} (h : x.toInt = z) (h1 : -100 ≤ z) (h2 : z ≤ 100) : (x + 1).toInt = z + 1 := by
  rw [q_add (by rw [h, t_1]; omega) (by rw [h, t_1]; omega), h, t_1]
theorem i_5 {x : Int32} {z : Int} (h : x.toInt = z) : (5 < x) = (5 < z) := propext (by rw [q_lt, h, t_5])
theorem g_clash {c n : Nat} {kd : Nat → Nat} {pt : Nat → Nat → Option Nat} {σ ρ : my_M} (hB : ChB c n kd pt) (hC : ChC c n kd pt σ) (hR : ChR c n kd pt ρ) {k w : Nat} (hk : k < c) (hw : w < c) :
    ∀ (r : Nat), (∀ (s late high : Int32) (zl zh : Int) (F G : Nat), late.toInt = zl → high.toInt = zh → -5 ≤ zl → zl ≤ 5 → -5 ≤ zh → zh ≤ 6 → (5 - zl).toNat * 20 + (6 - zh).toNat = r → r < F → r < G → ∃ t, (g_X8_clash F).2 σ (nI k) (nI w) s late high = some (t, σ) ∧ (g_X9_clash G).2 ρ (nI k) (nI w) s late high = some (t, ρ)) ∧
      (∀ (s late : Int32) (zl : Int) (F G : Nat), late.toInt = zl → -5 ≤ zl → zl ≤ 6 → (6 - zl).toNat * 20 = r → r < F → r < G → ∃ t, (g_X8_clash F).1 σ (nI k) (nI w) s late = some (t, σ) ∧ (g_X9_clash G).1 ρ (nI k) (nI w) s late = some (t, ρ)) := by
  intro r
  induction r using Nat.strongRecOn with
  | ind r ih =>
    refine ⟨?_, ?_⟩
    · intro s late high zl zh F G el eh l1 l2 g1 g2 hr hF hG
      obtain ⟨F, rfl⟩ : ∃ q, F = q + 1 := ⟨F - 1, by omega⟩
      obtain ⟨G, rfl⟩ : ∃ q, G = q + 1 := ⟨G - 1, by omega⟩
      show ∃ t, b_X8_clash_1 _ _ _ _ _ _ _ _ = _ ∧ b_X9_clash_1 _ _ _ _ _ _ _ _ = _
      simp only [b_X8_clash_1, b_X9_clash_1, i_5 eh]
      by_cases h5 : 5 < zh
      · simp only [if_pos h5]
        exact (ih ((5 - zl).toNat * 20) (by omega)).2 s (late + 1) (zl + 1) F G (i_p1 el (by omega) (by omega)) (by omega) (by omega) (by omega) (by omega) (by omega)
      · simp only [if_neg h5, s_heard_C hB hC hk hw (ivz el _ _ (by omega) (by omega)) (ivz eh _ _ (by omega) (by omega)), s_heard_R hB hR hk hw (ivz el _ _ (by omega) (by omega)) (ivz eh _ _ (by omega) (by omega)), my_bnd_some]
        have key := fun s' => (ih ((5 - zl).toNat * 20 + (5 - zh).toNat) (by omega)).1 s' late (high + 1) zl (zh + 1) F G el (i_p1 eh (by omega) (by omega)) (by omega) (by omega) (by omega) (by omega) (by omega) (by omega) (by omega)
        generalize hrd n (kd k) (pt k) (pt w) late.toInt high.toInt = v
        by_cases hv : s < v
        · have hv2 : ¬ v ≤ s := by rw [q_le]; rw [q_lt] at hv; omega
          simp only [if_pos hv, if_neg hv2]
          exact key v
        · have hv2 : v ≤ s := by rw [q_le]; rw [q_lt] at hv; omega
          simp only [if_neg hv, if_pos hv2]
          exact key s
    · intro s late zl F G el l1 l2 hr hF hG
      obtain ⟨F, rfl⟩ : ∃ q, F = q + 1 := ⟨F - 1, by omega⟩
      obtain ⟨G, rfl⟩ : ∃ q, G = q + 1 := ⟨G - 1, by omega⟩
      show ∃ t, b_X8_clash_0 _ _ _ _ _ _ _ = _ ∧ b_X9_clash_0 _ _ _ _ _ _ _ = _
      simp only [b_X8_clash_0, b_X9_clash_0, i_5 el]
      by_cases h5 : 5 < zl
      · simp only [if_pos h5]
        exact ⟨s, rfl, rfl⟩
      · simp only [if_neg h5]
        exact (ih ((5 - zl).toNat * 20 + 11) (by omega)).1 s late (-5) zl (-5) F G el t_m5 (by omega) (by omega) (by omega) (by omega) (by omega) (by omega) (by omega)
