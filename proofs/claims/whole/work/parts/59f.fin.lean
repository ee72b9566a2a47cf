/-! how many bits -/
def popc : Nat → Nat → Nat
  | 0, _ => 0
  | r + 1, A => A % 2 + popc r (A / 2)
theorem popc_0 : ∀ r, popc r 0 = 0
  | 0 => rfl
  | r + 1 => by rw [popc, Nat.zero_div, popc_0 r]
theorem popc_le : ∀ r A, popc r A ≤ r
  | 0, _ => Nat.le_refl 0
  | r + 1, A => by
    have := popc_le r (A / 2)
    rw [popc]; omega
theorem halves : ∀ A : Fin 2048, (nI A.1 &&& 1 = nI (A.1 % 2)) ∧ (nI A.1 >>> (1 &&& 31) = nI (A.1 / 2)) := by decide +kernel
theorem bc_is : ∀ A : Fin 2048, (f_J6_bitCount_0f7a4 my_s0 (nI A.1)).map Prod.fst = some (nI (popc 11 A.1)) := by decide +kernel
theorem bc_free (σ τ : my_M) (x : Int32) : (f_J6_bitCount_0f7a4 σ x).map Prod.fst = (f_J6_bitCount_0f7a4 τ x).map Prod.fst ∧ ∃ v, f_J6_bitCount_0f7a4 σ x = some (v, σ) := by
  unfold f_J6_bitCount_0f7a4
  exact ⟨rfl, _, rfl⟩
def pcv (x : Int32) : Nat := popc 11 (Int32.toNatClampNeg x)
def sml (x : Int32) : Prop := ∃ A, A < 2048 ∧ x = nI A
theorem pcv_le (x : Int32) : pcv x ≤ 11 := popc_le 11 _
theorem s_bc (σ : my_M) {x : Int32} (h : sml x) : f_J6_bitCount_0f7a4 σ x = some (nI (pcv x), σ) := by
  obtain ⟨A, hA, rfl⟩ := h
  obtain ⟨e1, v, e2⟩ := bc_free σ my_s0 (nI A)
  have e3 := bc_is ⟨A, hA⟩
  rw [← e1, e2] at e3
  rw [e2]
  unfold pcv
  rw [q_clamp (by omega)]
  have e4 : some v = some (nI (popc 11 A)) := e3
  cases e4
  rfl
theorem g_bits (ρ : my_M) : ∀ (r A acc F : Nat), A < 2 ^ r → r ≤ 11 → r < F → g_X9_bits F ρ (nI acc) (nI A) = some (nI (acc + popc r A), ρ) := by
  intro r
  induction r with
  | zero =>
    intro A acc F hA hr hF
    obtain rfl : A = 0 := by omega
    obtain ⟨F, rfl⟩ : ∃ G, F = G + 1 := ⟨F - 1, by omega⟩
    simp only [gs_X9_bits, b_X9_bits_0, if_pos (show nI 0 ≤ 0 by decide), popc, Nat.add_zero]
  | succ r ih =>
    intro A acc F hA hr hF
    obtain ⟨F, rfl⟩ : ∃ G, F = G + 1 := ⟨F - 1, by omega⟩
    by_cases a0 : A = 0
    · subst a0
      simp only [gs_X9_bits, b_X9_bits_0, if_pos (show nI 0 ≤ 0 by decide), popc_0, Nat.add_zero]
    · have hb : A < 2 ^ 11 := Nat.lt_of_lt_of_le hA (Nat.pow_le_pow_right (by omega) hr)
      have n0 : ¬ nI A ≤ 0 := by rw [← nI_0, nIle (by omega) (by omega)]; omega
      obtain ⟨e1, e2⟩ := halves ⟨A, hb⟩
      have ih' := ih (A / 2) (acc + A % 2) F (by rw [Nat.pow_succ] at hA; omega) (by omega) (by omega)
      rw [popc, ← Nat.add_assoc]
      refine Eq.trans ?_ ih'
      simp only [gs_X9_bits, b_X9_bits_0, if_neg n0, e1, e2, nI_add]
theorem s_bits (ρ : my_M) {x : Int32} (h : sml x) : f_X9_bits ρ x = some (nI (pcv x), ρ) := by
  have hN := NF_big
  obtain ⟨A, hA, rfl⟩ := h
  unfold f_X9_bits pcv
  rw [q_clamp (by omega), ← nI_0, g_bits ρ 11 A 0 my_NF hA (by omega) (by omega), Nat.zero_add]
theorem nI_or (a b : Nat) : nI a ||| nI b = nI (a ||| b) := by
  apply Int32.toBitVec_inj.mp
  show BitVec.ofNat 32 a ||| BitVec.ofNat 32 b = BitVec.ofNat 32 (a ||| b)
  exact (BitVec.ofNat_or (x := a) (y := b)).symm
theorem one_sh : ∀ (v s : Fin 6), (1 : Int32) <<< ((nI v.1 + nI s.1) &&& 31) = nI (2 ^ (v.1 + s.1)) := by decide +kernel
theorem bit_sml {c n : Nat} {kd : Nat → Nat} {pt : Nat → Nat → Option Nat} {a : Nat} {sw sm sh : Nat → Nat} (hB : ChB c n kd pt) (aB : AiB c a sw sm sh) {i s t : Nat} (hs : s < a) : sml (bitI n pt sw sm sh i s t) := by
  have h6 := hB.2.1
  obtain ⟨b1, b2, b3⟩ := aB.2 s hs
  by_cases e : sm s + i ≤ t ∧ t < sm s + n
  · cases hq : pt (sw s) (t - sm s) with
    | none => rw [bitI_none e hq]; exact ⟨0, by omega, nI_0.symm⟩
    | some v =>
      have hv := hB.2.2.2.1 (sw s) b1 (t - sm s) (by omega) v hq
      rw [bitI_some e hq]
      refine ⟨2 ^ (v + sh s), ?_, one_sh ⟨v, by omega⟩ ⟨sh s, by omega⟩⟩
      exact Nat.lt_of_lt_of_le (Nat.pow_lt_pow_right (by omega) (show v + sh s < 11 by omega)) (by decide)
  · rw [show bitI n pt sw sm sh i s t = 0 from if_neg e]
    exact ⟨0, by omega, nI_0.symm⟩
theorem air_sml {c n : Nat} {kd : Nat → Nat} {pt : Nat → Nat → Option Nat} {a : Nat} {sw sm sh : Nat → Nat} (hB : ChB c n kd pt) (aB : AiB c a sw sm sh) {t : Nat} : ∀ (r s : Nat) (acc : Int32), s + r = a → sml acc → sml (airA n pt sw sm sh r s t acc) := by
  intro r
  induction r with
  | zero => intro s acc _ h; exact h
  | succ r ih =>
    intro s acc hs h
    rw [airA]
    refine ih (s + 1) _ (by omega) ?_
    obtain ⟨A, hA, rfl⟩ := h
    obtain ⟨B, hB', e⟩ := bit_sml hB aB (i := 0) (t := t) (show s < a by omega)
    rw [e, nI_or]
    exact ⟨A ||| B, Nat.or_lt_two_pow (n := 11) hA hB', rfl⟩
/-! moments that sound -/
def mny (av : Nat → Int32) : Nat → Nat → Nat → Nat
  | 0, _, acc => acc
  | r + 1, t, acc => mny av r (t + 1) (acc + if av t = 0 then 0 else 1)
theorem g_mny_C {σ : my_M} {A : Nat} (lA : my_len layC A = 26) {av : Nat → Int32} (hA : ∀ u, u < 26 → σ A u = av u) : ∀ (r t acc F : Nat), t + r = 26 → r < F → g_X0_soundingMoments F σ (nI acc) A (nI 26) (nI t) = some (nI (mny av r t acc), σ) := by
  intro r
  induction r with
  | zero =>
    intro t acc F ht hF
    obtain rfl : t = 26 := by omega
    obtain ⟨F, rfl⟩ : ∃ G, F = G + 1 := ⟨F - 1, by omega⟩
    simp only [gs_X0_soundingMoments, b_X0_soundingMoments_0, if_pos (show nI 26 ≤ nI 26 by decide), mny]
  | succ r ih =>
    intro t acc F ht hF
    obtain ⟨F, rfl⟩ : ∃ G, F = G + 1 := ⟨F - 1, by omega⟩
    have ih' := ih (t + 1) (acc + if av t = 0 then 0 else 1) F (by omega) (by omega)
    refine Eq.trans ?_ ih'
    simp only [gs_X0_soundingMoments, b_X0_soundingMoments_0, nIle (show 26 < 2 ^ 31 by omega) (show t < 2 ^ 31 by omega), if_neg (show ¬ 26 ≤ t by omega), lA, if_pos (ixN (show t < 26 by omega) (by omega)), q_clamp (show t < 2 ^ 31 by omega), hA t (show t < 26 by omega), nI_p1]
    by_cases e : av t = 0
    · simp only [if_pos e, Nat.add_zero]
    · simp only [if_neg e]
theorem g_mny_R {c n : Nat} {kd : Nat → Nat} {pt : Nat → Nat → Option Nat} {a : Nat} {sw sm sh : Nat → Nat} {ρ : my_M} (hB : ChB c n kd pt) (aB : AiB c a sw sm sh) (hR : ChR c n kd pt ρ) (aR : AiR a sw sm sh ρ) : ∀ (r t acc F : Nat), t + r = 26 → r < F → g_X9_manyThatSound F ρ (nI acc) (nI t) = some (nI (mny (fun u => airA n pt sw sm sh a 0 u 0) r t acc), ρ) := by
  intro r
  induction r with
  | zero =>
    intro t acc F ht hF
    obtain rfl : t = 26 := by omega
    obtain ⟨F, rfl⟩ : ∃ G, F = G + 1 := ⟨F - 1, by omega⟩
    simp only [gs_X9_manyThatSound, b_X9_manyThatSound_0, if_pos (show (26 : Int32) ≤ nI 26 by decide), mny]
  | succ r ih =>
    intro t acc F ht hF
    obtain ⟨F, rfl⟩ : ∃ G, F = G + 1 := ⟨F - 1, by omega⟩
    have n26 : ¬ (26 : Int32) ≤ nI t := by rw [show (26 : Int32) = nI 26 by decide, nIle (by omega) (by omega)]; omega
    have ih' := ih (t + 1) (acc + if airA n pt sw sm sh a 0 t 0 = 0 then 0 else 1) F (by omega) (by omega)
    refine Eq.trans ?_ ih'
    simp only [gs_X9_manyThatSound, b_X9_manyThatSound_0, if_neg n26, s_airOf hB aB hR aR (show t < 26 by omega), bnd_s, nI_p1]
    by_cases e : airA n pt sw sm sh a 0 t 0 = 0
    · simp only [if_pos e, Nat.add_zero]
      rw [show nI acc + 0 = nI acc by rw [← nI_0, nI_add, Nat.add_zero]]
    · simp only [if_neg e, nI_p1]
def dn (av : Nat → Int32) : Nat → Int32
  | 0 => -9
  | t + 1 => if av t = 0 then dn av t else nI t
theorem nI_m1 (u : Nat) (hu : u < 2 ^ 30) : nI (u + 1) + -1 = nI u := by
  rw [q_eq, q_add (by rw [q_n (by omega), t_m1]; omega) (by rw [q_n (by omega), t_m1]; omega), q_n (by omega), q_n (by omega), t_m1]
  omega
theorem g_dn_C {σ : my_M} {e : Nat} (he : e < 2) {av : Nat → Int32} (hA : ∀ u, u < 26 → σ (15 + 5 * e) u = av u) : ∀ (t F : Nat), t ≤ 26 → t < F → g_X0_lastSounding F σ e (nI t + -1) = some (dn av t, σ) := by
  have lA := (lenC_a he).2.2.2
  intro t
  induction t with
  | zero =>
    intro F ht hF
    obtain ⟨F, rfl⟩ : ∃ G, F = G + 1 := ⟨F - 1, by omega⟩
    simp only [gs_X0_lastSounding, b_X0_lastSounding_0, if_pos he, if_pos (show nI 0 + -1 < 0 by decide), dn]
  | succ t ih =>
    intro F ht hF
    obtain ⟨F, rfl⟩ : ∃ G, F = G + 1 := ⟨F - 1, by omega⟩
    have n0 : ¬ nI t < 0 := by rw [← nI_0, nIlt (by omega) (by omega)]; omega
    simp only [gs_X0_lastSounding, b_X0_lastSounding_0, if_pos he, nI_m1 t (show t < 2 ^ 30 by omega), if_neg n0, lA, if_pos (ixN (show t < 26 by omega) (by omega)), q_clamp (show t < 2 ^ 31 by omega), hA t (show t < 26 by omega), dn]
    by_cases q : av t = 0
    · rw [if_pos q, if_pos q]
      exact ih F (by omega) (by omega)
    · rw [if_neg q, if_neg q]
theorem g_dn_R {c n : Nat} {kd : Nat → Nat} {pt : Nat → Nat → Option Nat} {a : Nat} {sw sm sh : Nat → Nat} {ρ : my_M} (hB : ChB c n kd pt) (aB : AiB c a sw sm sh) (hR : ChR c n kd pt ρ) (aR : AiR a sw sm sh ρ) : ∀ (r t F : Nat), t + r = 26 → r < F → g_X9_lastThatSounds F ρ (dn (fun u => airA n pt sw sm sh a 0 u 0) t) (nI t) = some (dn (fun u => airA n pt sw sm sh a 0 u 0) 26, ρ) := by
  intro r
  induction r with
  | zero =>
    intro t F ht hF
    obtain rfl : t = 26 := by omega
    obtain ⟨F, rfl⟩ : ∃ G, F = G + 1 := ⟨F - 1, by omega⟩
    simp only [gs_X9_lastThatSounds, b_X9_lastThatSounds_0, if_pos (show (26 : Int32) ≤ nI 26 by decide)]
  | succ r ih =>
    intro t F ht hF
    obtain ⟨F, rfl⟩ : ∃ G, F = G + 1 := ⟨F - 1, by omega⟩
    have n26 : ¬ (26 : Int32) ≤ nI t := by rw [show (26 : Int32) = nI 26 by decide, nIle (by omega) (by omega)]; omega
    have ih' := ih (t + 1) F (by omega) (by omega)
    refine Eq.trans ?_ ih'
    rw [gs_X9_lastThatSounds]
    unfold b_X9_lastThatSounds_0
    rw [if_neg n26, s_airOf hB aB hR aR (show t < 26 by omega), bnd_s, nI_p1, dn]
    by_cases e : airA n pt sw sm sh a 0 t 0 = 0
    · rw [if_pos e, if_pos e]
    · rw [if_neg e, if_neg e]
def uf (av : Nat → Int32) : Nat → Nat → Int32
  | 0, _ => -9
  | r + 1, t => if pcv (av t) < 2 then uf av r (t + 1) else nI t
theorem g_uf_C {σ : my_M} {e : Nat} (he : e < 2) {av : Nat → Int32} (hA : ∀ u, u < 26 → σ (15 + 5 * e) u = av u) (hs : ∀ u, u < 26 → sml (av u)) : ∀ (r t F : Nat), t + r = 26 → r < F → g_X0_firstOfTwo F σ e (nI t) = some (uf av r t, σ) := by
  have lA := (lenC_a he).2.2.2
  intro r
  induction r with
  | zero =>
    intro t F ht hF
    obtain rfl : t = 26 := by omega
    obtain ⟨F, rfl⟩ : ∃ G, F = G + 1 := ⟨F - 1, by omega⟩
    simp only [gs_X0_firstOfTwo, b_X0_firstOfTwo_0, if_pos he, if_pos (show (25 : Int32) < nI 26 by decide), uf]
  | succ r ih =>
    intro t F ht hF
    obtain ⟨F, rfl⟩ : ∃ G, F = G + 1 := ⟨F - 1, by omega⟩
    have n25 : ¬ (25 : Int32) < nI t := by rw [show (25 : Int32) = nI 25 by decide, nIlt (by omega) (by omega)]; omega
    have pl := pcv_le (av t)
    have n2 : (nI (pcv (av t)) < 2) = (pcv (av t) < 2) := by rw [nI_lit2, nIlt (by omega) (by omega)]
    simp only [gs_X0_firstOfTwo, b_X0_firstOfTwo_0, if_pos he, if_neg n25, lA, if_pos (ixN (show t < 26 by omega) (by omega)), q_clamp (show t < 2 ^ 31 by omega), hA t (show t < 26 by omega), s_bc σ (hs t (by omega)), bnd_s, n2, nI_p1, uf]
    by_cases q : pcv (av t) < 2
    · rw [if_pos q, if_pos q]
      exact ih (t + 1) F (by omega) (by omega)
    · rw [if_neg q, if_neg q]
theorem g_uf_R {c n : Nat} {kd : Nat → Nat} {pt : Nat → Nat → Option Nat} {a : Nat} {sw sm sh : Nat → Nat} {ρ : my_M} (hB : ChB c n kd pt) (aB : AiB c a sw sm sh) (hR : ChR c n kd pt ρ) (aR : AiR a sw sm sh ρ) : ∀ (t r F : Nat), t + r = 26 → t < F → g_X9_firstOfTwo F ρ (uf (fun u => airA n pt sw sm sh a 0 u 0) r t) (nI t + -1) = some (uf (fun u => airA n pt sw sm sh a 0 u 0) 26 0, ρ) := by
  intro t
  induction t with
  | zero =>
    intro r F ht hF
    obtain rfl : r = 26 := by omega
    obtain ⟨F, rfl⟩ : ∃ G, F = G + 1 := ⟨F - 1, by omega⟩
    simp only [gs_X9_firstOfTwo, b_X9_firstOfTwo_0, if_pos (show nI 0 + -1 < 0 by decide)]
  | succ t ih =>
    intro r F ht hF
    obtain ⟨F, rfl⟩ : ∃ G, F = G + 1 := ⟨F - 1, by omega⟩
    have n0 : ¬ nI t < 0 := by rw [← nI_0, nIlt (by omega) (by omega)]; omega
    have ih' := ih (r + 1) F (by omega) (by omega)
    have pl := pcv_le (airA n pt sw sm sh a 0 t 0)
    have n1 : (nI (pcv (airA n pt sw sm sh a 0 t 0)) ≤ 1) = (pcv (airA n pt sw sm sh a 0 t 0) ≤ 1) := by rw [nI_lit1, nIle (by omega) (by omega)]
    refine Eq.trans ?_ ih'
    rw [gs_X9_firstOfTwo]
    unfold b_X9_firstOfTwo_0
    rw [nI_m1 t (by omega), if_neg n0, s_airOf hB aB hR aR (show t < 26 by omega), bnd_s, s_bits ρ (air_sml hB aB a 0 0 (by omega) ⟨0, by omega, nI_0.symm⟩), bnd_s, uf]
    by_cases q : pcv (airA n pt sw sm sh a 0 t 0) < 2
    · rw [if_pos q, if_pos (by rw [n1]; omega)]
    · rw [if_neg q, if_neg (by rw [n1]; omega)]
