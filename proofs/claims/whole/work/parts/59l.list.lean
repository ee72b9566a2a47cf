/-! the list of good rows is what is left of all rows -/
def Al (n : Nat) : Nat → Nat → List Nat
  | 0, P => [P]
  | r + 1, P => lstf (fun v => Al n r (P * n + v)) n 0
theorem lstf_range (B W : Nat) : ∀ m v, lstf (fun v => List.range' ((B + v) * W) W) m v = List.range' ((B + v) * W) (m * W) := by
  intro m
  induction m with
  | zero => intro v; rw [Nat.zero_mul]; rfl
  | succ m ih =>
    intro v
    rw [lstf, ih (v + 1), show (B + (v + 1)) * W = (B + v) * W + W by rw [← Nat.add_assoc, Nat.succ_mul], List.range'_append_1, Nat.succ_mul, Nat.add_comm W (m * W)]
theorem Al_range (n : Nat) : ∀ r P, Al n r P = List.range' (P * n ^ r) (n ^ r) := by
  intro r
  induction r with
  | zero => intro P; rw [Nat.pow_zero, Nat.mul_one]; rfl
  | succ r ih =>
    intro P
    rw [Al, show (fun v => Al n r (P * n + v)) = (fun v => List.range' ((P * n + v) * n ^ r) (n ^ r)) from funext (fun v => ih _), lstf_range, Nat.add_zero, Nat.pow_succ, Nat.mul_assoc, Nat.mul_comm n (n ^ r)]
theorem lstf_mem {f : Nat → List Nat} {N : Nat} : ∀ m v, N ∈ lstf f m v → ∃ u, v ≤ u ∧ u < v + m ∧ N ∈ f u := by
  intro m
  induction m with
  | zero => intro v h; cases h
  | succ m ih =>
    intro v h
    rw [lstf, List.mem_append] at h
    rcases h with h | h
    · exact ⟨v, by omega, by omega, h⟩
    · obtain ⟨u, h1, h2, h3⟩ := ih (v + 1) h
      exact ⟨u, by omega, by omega, h3⟩
theorem lstf_filter {f : Nat → List Nat} {p : Nat → Bool} : ∀ m v, (lstf f m v).filter p = lstf (fun u => (f u).filter p) m v := by
  intro m
  induction m with
  | zero => intro v; rfl
  | succ m ih => intro v; rw [lstf, List.filter_append, ih (v + 1)]; rfl
theorem lstf_congr {f g : Nat → List Nat} : ∀ m v, (∀ u, v ≤ u → u < v + m → f u = g u) → lstf f m v = lstf g m v := by
  intro m
  induction m with
  | zero => intro v _; rfl
  | succ m ih => intro v h; rw [lstf, lstf, h v (by omega) (by omega), ih (v + 1) (fun u h1 h2 => h u (by omega) (by omega))]
theorem app_div {P n v : Nat} (hv : v < n) : (P * n + v) / n = P := by
  rw [Nat.mul_comm, Nat.mul_add_div (by omega), Nat.div_eq_of_lt hv, Nat.add_zero]
theorem app_mod {P n v : Nat} (hv : v < n) : (P * n + v) % n = v := by
  rw [Nat.mul_comm, Nat.mul_add_mod, Nat.mod_eq_of_lt hv]
theorem pdr_app {n d P v i : Nat} (hv : v < n) (hi : i < d) : pdr n (d + 1) (P * n + v) i = pdr n d P i := by
  rw [pdr, if_neg (by omega), app_div hv]
theorem pdr_last {n d P v : Nat} (hv : v < n) : pdr n (d + 1) (P * n + v) d = v := by
  rw [pdr, if_pos rfl, app_mod hv]
theorem Al_dig {n : Nat} : ∀ (r P d N : Nat), N ∈ Al n r P → ∀ i, i < d → pdr n (d + r) N i = pdr n d P i := by
  intro r
  induction r with
  | zero =>
    intro P d N h i hi
    rw [Al, List.mem_singleton] at h
    rw [h]
    rfl
  | succ r ih =>
    intro P d N h i hi
    obtain ⟨v, h1, h2, h3⟩ := lstf_mem _ _ h
    have e := ih (P * n + v) (d + 1) N h3 i (by omega)
    rw [show d + (r + 1) = d + 1 + r by omega, e, pdr_app (by omega) hi]
theorem Dl_filter {n : Nat} : ∀ (r P d : Nat), Dl n r P d = (Al n r P).filter (fun N => soB (staysB (pdr n (d + r) N)) r d) := by
  intro r
  induction r with
  | zero => intro P d; rfl
  | succ r ih =>
    intro P d
    rw [Dl, Al, lstf_filter]
    refine lstf_congr _ _ (fun v h1 h2 => ?_)
    have key : ∀ N ∈ Al n r (P * n + v), staysB (pdr n (d + (r + 1)) N) d = staysB (pdr n (d + 1) (P * n + v)) d := by
      intro N hN
      refine staysB_congr (fun i hi => ?_)
      rw [show d + (r + 1) = d + 1 + r by omega]
      exact Al_dig r (P * n + v) (d + 1) N hN i (by omega)
    by_cases s : staysB (pdr n (d + 1) (P * n + v)) d = true
    · rw [if_pos s, ih (P * n + v) (d + 1)]
      refine List.filter_congr (fun N hN => ?_)
      rw [soB_t (by rw [key N hN]; exact s), show d + 1 + r = d + (r + 1) by omega]
    · rw [if_neg s]
      refine (List.filter_eq_nil_iff.mpr (fun N hN => ?_)).symm
      rw [soB_f (by rw [key N hN]; exact Bool.eq_false_iff.mpr s)]
      exact Bool.false_ne_true
def goodN (n N : Nat) : Bool := soB (staysB (pdr n n N)) n 0
theorem gl_is (n : Nat) : gl n = (List.range' 0 (n ^ n)).filter (goodN n) := by
  unfold gl
  rw [Dl_filter, Al_range, Nat.zero_mul, Nat.zero_add]
  rfl
theorem pdr_lt {n : Nat} (hn : 0 < n) : ∀ (d P i : Nat), pdr n d P i < n := by
  intro d
  induction d with
  | zero => intro P i; exact hn
  | succ d ih =>
    intro P i
    rw [pdr]
    split
    · exact Nat.mod_lt _ hn
    · exact ih _ _
theorem pdr_0 {n : Nat} : ∀ (d i : Nat), pdr n d 0 i = 0 := by
  intro d
  induction d with
  | zero => intro i; rfl
  | succ d ih =>
    intro i
    rw [pdr, Nat.zero_mod, Nat.zero_div, ih]
    split <;> rfl
/-! the next row to try -/
theorem carry {n Q : Nat} (h2 : 2 ≤ n) (h6 : n ≤ 6) : (Q % n = n - 1 → (Q + 1) / n = Q / n + 1 ∧ (Q + 1) % n = 0) ∧ (Q % n ≠ n - 1 → (Q + 1) / n = Q / n ∧ (Q + 1) % n = Q % n + 1) := by
  obtain rfl | rfl | rfl | rfl | rfl : n = 2 ∨ n = 3 ∨ n = 4 ∨ n = 5 ∨ n = 6 := by omega
  all_goals omega
theorem g_tn {n : Nat} (h2 : 2 ≤ n) (h6 : n ≤ 6) : ∀ (d F : Nat) (σ : my_M) (Q : Nat), σ 0 2 = nI n → (∀ i, i < d → σ 5 i = nI (pdr n d Q i)) → Q < n ^ d → d ≤ 6 → d < F → ∃ υ b, g_X9_triesNext F σ (nI d + -1) = some (b, υ) ∧ (∀ j, j ≠ 5 → υ j = σ j) ∧ (∀ i, d ≤ i → υ 5 i = σ 5 i) ∧ ((Q + 1 < n ^ d ∧ b = 1 ∧ ∀ i, i < d → υ 5 i = nI (pdr n d (Q + 1) i)) ∨ (Q + 1 = n ^ d ∧ b = 0)) := by
  intro d
  induction d with
  | zero =>
    intro F σ Q hn hs hQ hd hF
    obtain ⟨F, rfl⟩ : ∃ G, F = G + 1 := ⟨F - 1, by omega⟩
    refine ⟨σ, 0, ?_, fun _ _ => rfl, fun _ _ => rfl, Or.inr ⟨by rw [Nat.pow_zero] at hQ ⊢; omega, rfl⟩⟩
    simp only [gs_X9_triesNext, b_X9_triesNext_0, if_pos (show nI 0 + -1 < 0 by decide), if_neg (show ¬ (0 : Int32) ≤ nI 0 + -1 by decide)]
  | succ d ih =>
    intro F σ Q hn hs hQ hd hF
    obtain ⟨F, rfl⟩ : ∃ G, F = G + 1 := ⟨F - 1, by omega⟩
    have ml := Nat.mod_lt Q (show 0 < n by omega)
    have e5 : σ 5 d = nI (Q % n) := by rw [hs d (by omega), pdr, if_pos rfl]
    have n0 : ¬ nI d < 0 := by rw [← nI_0, nIlt (by omega) (by omega)]; omega
    have p0 : 0 ≤ nI d := by rw [← nI_0, nIle (by omega) (by omega)]; omega
    have en : nI n - 1 = nI (n - 1) := by rw [nI_lit1, nI_sub (by omega) (by omega)]
    obtain ⟨k1, k2⟩ := carry (Q := Q) h2 h6
    have pw : n ^ (d + 1) = n ^ d * n := Nat.pow_succ n d
    have hQd : Q / n < n ^ d := by rw [Nat.div_lt_iff_lt_mul (by omega), ← pw]; exact hQ
    by_cases hc : Q % n = n - 1
    · obtain ⟨c1, c2⟩ := k1 hc
      obtain ⟨υ, b, q1, q2, q3, q4⟩ := ih F (my_up σ 5 d 0) (Q / n) (by rw [up_j (by omega)]; exact hn) (fun i hi => by rw [up_i (by omega), hs i (by omega), pdr, if_neg (by omega)]) hQd (by omega) (by omega)
      refine ⟨υ, b, ?_, fun j hj => by rw [q2 j hj, up_j hj], fun i hi => by rw [q3 i (by omega), up_i (by omega)], ?_⟩
      · rw [← q1]
        simp only [gs_X9_triesNext, b_X9_triesNext_0, nI_m1 d (show d < 2 ^ 30 by omega), if_neg n0, lenR_5, if_pos (ixN (show d < 6 by omega) (by omega)), q_clamp (show d < 2 ^ 31 by omega), e5, hn, en, nI_inj (show Q % n < 2 ^ 31 by omega) (show n - 1 < 2 ^ 31 by omega), if_pos hc]
      · rcases q4 with ⟨r1, r2, r3⟩ | ⟨r1, r2⟩
        · refine Or.inl ⟨?_, r2, fun i hi => ?_⟩
          · rw [pw, ← Nat.div_lt_iff_lt_mul (by omega), c1]; exact r1
          · rw [pdr, c1, c2]
            by_cases e : i = d
            · subst e; rw [if_pos rfl, q3 i (by omega), up_at, nI_0]
            · rw [if_neg e]; exact r3 i (by omega)
        · refine Or.inr ⟨?_, r2⟩
          have := Nat.div_add_mod (Q + 1) n
          rw [c1, c2, r1, Nat.add_zero, Nat.mul_comm] at this
          rw [pw, this]
    · obtain ⟨c1, c2⟩ := k2 hc
      refine ⟨my_up σ 5 d (nI (Q % n + 1)), 1, ?_, fun j hj => up_j hj, fun i hi => up_i (by omega), Or.inl ⟨?_, rfl, fun i hi => ?_⟩⟩
      · simp only [gs_X9_triesNext, b_X9_triesNext_0, nI_m1 d (show d < 2 ^ 30 by omega), if_neg n0, lenR_5, if_pos (ixN (show d < 6 by omega) (by omega)), q_clamp (show d < 2 ^ 31 by omega), e5, hn, en, nI_inj (show Q % n < 2 ^ 31 by omega) (show n - 1 < 2 ^ 31 by omega), if_neg hc, if_pos p0, nI_p1]
      · rw [pw, ← Nat.div_lt_iff_lt_mul (by omega), c1]; exact hQd
      · rw [pdr, c1, c2]
        by_cases e : i = d
        · subst e; rw [if_pos rfl, up_at]
        · rw [if_neg e, up_i e, hs i (by omega), pdr, if_neg e]
def St (n N : Nat) (ρ υ : my_M) : Prop := (∀ j, j ≠ 5 → υ j = ρ j) ∧ ∀ i, i < n → υ 5 i = nI (pdr n n N i)
theorem s_tn {n N : Nat} {ρ υ : my_M} (h2 : 2 ≤ n) (h6 : n ≤ 6) (hn : ρ 0 2 = nI n) (hs : St n N ρ υ) (hN : N < n ^ n) : ∃ υ' b, f_X9_triesNext υ = some (b, υ') ∧ (∀ j, j ≠ 5 → υ' j = ρ j) ∧ ((N + 1 < n ^ n ∧ b = 1 ∧ St n (N + 1) ρ υ') ∨ (N + 1 = n ^ n ∧ b = 0)) := by
  have hNF := NF_big
  have hn' : υ 0 2 = nI n := by rw [hs.1 0 (by omega)]; exact hn
  obtain ⟨υ', b, q1, q2, -, q4⟩ := g_tn h2 h6 n my_NF υ N hn' hs.2 hN h6 (by omega)
  have fr : ∀ j, j ≠ 5 → υ' j = ρ j := fun j hj => by rw [q2 j hj, hs.1 j hj]
  refine ⟨υ', b, ?_, fr, ?_⟩
  · rw [← q1]
    unfold f_X9_triesNext
    rw [hn', Int32.sub_eq_add_neg]
  · rcases q4 with ⟨a1, a2, a3⟩ | ⟨a1, a2⟩
    · exact Or.inl ⟨a1, a2, fr, a3⟩
    · exact Or.inr ⟨a1, a2⟩
theorem g_tf : ∀ (r i F : Nat) (ρ : my_M), i + r = 6 → r < F → ∃ υ, g_X9_triesFirst F ρ (nI i) = some ((), υ) ∧ (∀ j, j ≠ 5 → υ j = ρ j) ∧ (∀ q, i ≤ q → q < 6 → υ 5 q = 0) ∧ ∀ q, q < i → υ 5 q = ρ 5 q := by
  intro r
  induction r with
  | zero =>
    intro i F ρ hi hF
    obtain rfl : i = 6 := by omega
    obtain ⟨F, rfl⟩ : ∃ G, F = G + 1 := ⟨F - 1, by omega⟩
    refine ⟨ρ, ?_, fun _ _ => rfl, fun q h1 h2 => by omega, fun _ _ => rfl⟩
    simp only [gs_X9_triesFirst, b_X9_triesFirst_0, if_pos (show (6 : Int32) ≤ nI 6 by decide)]
  | succ r ih =>
    intro i F ρ hi hF
    obtain ⟨F, rfl⟩ : ∃ G, F = G + 1 := ⟨F - 1, by omega⟩
    have n6 : ¬ (6 : Int32) ≤ nI i := by rw [show (6 : Int32) = nI 6 by decide, nIle (by omega) (by omega)]; omega
    obtain ⟨υ, q1, q2, q3, q4⟩ := ih (i + 1) F (my_up ρ 5 i 0) (by omega) (by omega)
    refine ⟨υ, ?_, fun j hj => by rw [q2 j hj, up_j hj], fun q h1 h2 => ?_, fun q h1 => by rw [q4 q (by omega), up_i (by omega)]⟩
    · rw [← q1]
      simp only [gs_X9_triesFirst, b_X9_triesFirst_0, if_neg n6, lenR_5, if_pos (ixN (show i < 6 by omega) (by omega)), q_clamp (show i < 2 ^ 31 by omega), nI_p1]
    · by_cases e : q = i
      · subst e; rw [q4 q (by omega), up_at]
      · exact q3 q (by omega) h2
theorem s_tf {n : Nat} (h6 : n ≤ 6) (ρ : my_M) : ∃ υ, f_X9_triesFirst ρ = some ((), υ) ∧ St n 0 ρ υ := by
  have hNF := NF_big
  obtain ⟨υ, q1, q2, q3, -⟩ := g_tf 6 0 my_NF ρ (by omega) (by omega)
  rw [nI_0] at q1
  exact ⟨υ, q1, q2, fun i hi => by rw [q3 i (by omega) (by omega), pdr_0, nI_0]⟩
theorem s_goodSt {n N : Nat} {ρ υ : my_M} (h2 : 2 ≤ n) (h6 : n ≤ 6) (hn : ρ 0 2 = nI n) (hs : St n N ρ υ) : f_X9_isGood υ = some (bI (goodN n N = true), υ) :=
  s_goodR (by omega) h6 (by rw [hs.1 0 (by omega)]; exact hn) hs.2 (fun i _ => by have := pdr_lt (show 0 < n by omega) n N i; omega)
