def hterm (n kd : Nat) (own call : Nat → Option Nat) (late high : Int) (i : Nat) : Int32 :=
  if 0 ≤ (i : Int) + late ∧ (i : Int) + late ≤ (n : Int) - 1 then
    match call i, own ((i : Int) + late).toNat with
    | some v, some u => cntd kd ((u : Int) - ((v : Int) + high))
    | _, _ => 0
  else 0
def hsum (t : Nat → Int32) : Nat → Nat → Int32 → Int32
  | 0, _, s => s
  | r + 1, i, s => hsum t r (i + 1) (s + t i)
theorem add0 (x : Int32) : x + 0 = x := by rw [q_eq, Int32.toInt_add, t_0]; have := Int32.toInt_lt x; have := Int32.le_toInt x; rw [Int.add_zero, q_bm32 (by omega) (by omega)]
theorem g_heard_C {c n : Nat} {kd : Nat → Nat} {pt : Nat → Nat → Option Nat} {σ : my_M} (hB : ChB c n kd pt) (hC : ChC c n kd pt σ) {k w : Nat} (hk : k < c) (hw : w < c) {late high : Int32} (hl : iv late (-5) 5) (hh : iv high (-5) 5) : ∀ (r i : Nat) (s : Int32) (F : Nat), i + r = n → r < F → g_X2_heard F σ late high k (7 + w) s (nI i) = some (hsum (hterm n (kd k) (pt k) (pt w) late.toInt high.toInt) r i s, σ) := by
  have h4 := hB.1
  have h6 := hB.2.1
  intro r
  induction r with
  | zero =>
    intro i s F hi hF
    obtain ⟨F, rfl⟩ : ∃ G, F = G + 1 := ⟨F - 1, by omega⟩
    show b_X2_heard_0 _ _ _ _ _ _ _ _ = _
    simp only [b_X2_heard_0, if_pos (show k < 4 by omega), hC.2.1, nIle (show n < 2 ^ 31 by omega) (show i < 2 ^ 31 by omega), if_pos (show n ≤ i by omega), hsum]
  | succ r ih =>
    intro i s F hi hF
    obtain ⟨F, rfl⟩ : ∃ G, F = G + 1 := ⟨F - 1, by omega⟩
    have hvw := hB.2.2.2.1 w hw i (by omega)
    have et : (nI i + late).toInt = (i : Int) + late.toInt := by
      rw [q_add (by rw [q_n (by omega)]; omega) (by rw [q_n (by omega)]; omega), q_n (by omega)]
    have ivt : iv (nI i + late) 0 ((n : Int) - 1) = (0 ≤ (i : Int) + late.toInt ∧ (i : Int) + late.toInt ≤ (n : Int) - 1) := by
      show (0 ≤ (nI i + late).toInt ∧ (nI i + late).toInt ≤ (n : Int) - 1) = _
      rw [et]
    show b_X2_heard_0 _ _ _ _ _ _ _ _ = _
    simp only [b_X2_heard_0, if_pos (show k < 4 by omega), hC.2.1, nIle (show n < 2 ^ 31 by omega) (show i < 2 ^ 31 by omega), if_neg (show ¬ n ≤ i by omega), s_hasBeat hC.2.1 h6, bnd_s, bI_0, nI_p1, lenC_p (show k < 4 by omega), lenC_p (show w < 4 by omega), if_pos (ixN (show i < 6 by omega) (by omega)), q_clamp (show i < 2 ^ 31 by omega), hC.2.2.2 w hw i (by omega), enc_m1 hvw h6, hsum]
    by_cases hb : iv (nI i + late) 0 ((n : Int) - 1)
    · have hb' := hb
      rw [ivt] at hb'
      obtain ⟨j, hj, ej⟩ := cal hb
      have ejt : (i : Int) + late.toInt = j := by rw [← et, ej, q_n (by omega)]
      have hvk := hB.2.2.2.1 k hk j hj
      rw [if_neg (fun q => q hb)]
      simp only [ej, if_pos (ixN (show j < 6 by omega) (by omega)), q_clamp (show j < 2 ^ 31 by omega), hC.2.2.2 k hk j hj, enc_m1 hvk h6]
      have eh : hterm n (kd k) (pt k) (pt w) late.toInt high.toInt i = match pt w i, pt k j with
          | some v, some u => cntd (kd k) ((u : Int) - ((v : Int) + high.toInt))
          | _, _ => 0 := by
        unfold hterm
        rw [if_pos hb', ejt]
        rfl
      cases ew : pt w i with
      | none =>
        rw [if_pos rfl, ih (i + 1) s F (by omega) (by omega), eh]
        simp only [ew, add0]
      | some v =>
        rw [if_neg (by simp)]
        cases ek : pt k j with
        | none =>
          rw [if_pos rfl, ih (i + 1) s F (by omega) (by omega), eh]
          simp only [ew, ek, add0]
        | some u =>
          have hu := hvk u ek
          have hv := hvw v ew
          rw [if_neg (by simp)]
          have ea : (enc (-1) (some u) - (enc (-1) (some v) + high)).toInt = (u : Int) - ((v : Int) + high.toInt) := by
            show (nI u - (nI v + high)).toInt = _
            have e1 : (nI v + high).toInt = (v : Int) + high.toInt := by
              rw [q_add (by rw [q_n (by omega)]; omega) (by rw [q_n (by omega)]; omega), q_n (by omega)]
            rw [q_sub (by rw [q_n (by omega), e1]; omega) (by rw [q_n (by omega), e1]; omega), q_n (by omega), e1]
          have c0 : (enc (-1) (some u) - (enc (-1) (some v) + high) = 0) = ((u : Int) - ((v : Int) + high.toInt) = 0) := propext (by rw [q_eq, ea, t_0])
          have c1 : (enc (-1) (some u) - (enc (-1) (some v) + high) = 1) = ((u : Int) - ((v : Int) + high.toInt) = 1) := propext (by rw [q_eq, ea, t_1])
          have cm : (enc (-1) (some u) - (enc (-1) (some v) + high) = -1) = ((u : Int) - ((v : Int) + high.toInt) = -1) := propext (by rw [q_eq, ea, t_m1])
          simp only [c0, c1, cm]
          have hcn := s_counted (σ := σ) (show k < 4 by omega) (hC.2.2.1 k hk) (hB.2.2.1 k hk) ((u : Int) - ((v : Int) + high.toInt))
          have ehh : hterm n (kd k) (pt k) (pt w) late.toInt high.toInt i = cntd (kd k) ((u : Int) - ((v : Int) + high.toInt)) := by
            rw [eh, ew, ek]
          generalize (u : Int) - ((v : Int) + high.toInt) = d at hcn ehh ⊢
          by_cases d1 : d = 1
          · rw [if_pos d1]
            have e2 : bI (d = 1 ∨ d = -1) = 1 := bI_t (Or.inl d1)
            rw [e2] at hcn
            have e3 : (if d = 0 then (1 : Int32) else 0) = bI (d = 0) := rfl
            rw [e3, hcn, bnd_s, ih (i + 1) _ F (by omega) (by omega), ehh]
          · rw [if_neg d1]
            have e2 : bI (d = 1 ∨ d = -1) = (if d = -1 then (1 : Int32) else 0) := by
              unfold bI
              by_cases d2 : d = -1
              · rw [if_pos (Or.inr d2), if_pos d2]
              · rw [if_neg (by omega), if_neg d2]
            rw [e2] at hcn
            have e3 : (if d = 0 then (1 : Int32) else 0) = bI (d = 0) := rfl
            rw [e3, hcn, bnd_s, ih (i + 1) _ F (by omega) (by omega), ehh]
    · have hb' := hb
      rw [ivt] at hb'
      rw [if_pos hb, ih (i + 1) s F (by omega) (by omega)]
      have eh : hterm n (kd k) (pt k) (pt w) late.toInt high.toInt i = 0 := by
        unfold hterm
        rw [if_neg hb']
      rw [eh, add0]
theorem g_heard_R {c n : Nat} {kd : Nat → Nat} {pt : Nat → Nat → Option Nat} {ρ : my_M} (hB : ChB c n kd pt) (hR : ChR c n kd pt ρ) {k w : Nat} (hk : k < c) (hw : w < c) {late high : Int32} (hl : iv late (-5) 5) (hh : iv high (-5) 5) : ∀ (r i : Nat) (s : Int32) (F : Nat), i + r = n → r < F → g_X9_heardBy F ρ (nI k) (nI w) late high s (nI i) = some (hsum (hterm n (kd k) (pt k) (pt w) late.toInt high.toInt) r i s, ρ) := by
  have h4 := hB.1
  have h6 := hB.2.1
  intro r
  induction r with
  | zero =>
    intro i s F hi hF
    obtain ⟨F, rfl⟩ : ∃ G, F = G + 1 := ⟨F - 1, by omega⟩
    show b_X9_heardBy_0 _ _ _ _ _ _ _ _ = _
    simp only [b_X9_heardBy_0, hR.2.1, nIle (show n < 2 ^ 31 by omega) (show i < 2 ^ 31 by omega), if_pos (show n ≤ i by omega), hsum]
  | succ r ih =>
    intro i s F hi hF
    obtain ⟨F, rfl⟩ : ∃ G, F = G + 1 := ⟨F - 1, by omega⟩
    have hvw := hB.2.2.2.1 w hw i (by omega)
    have et : (nI i + late).toInt = (i : Int) + late.toInt := by
      rw [q_add (by rw [q_n (by omega)]; omega) (by rw [q_n (by omega)]; omega), q_n (by omega)]
    have ivt : iv (nI i + late) 0 ((n : Int) - 1) = (0 ≤ (i : Int) + late.toInt ∧ (i : Int) + late.toInt ≤ (n : Int) - 1) := by
      show (0 ≤ (nI i + late).toInt ∧ (nI i + late).toInt ≤ (n : Int) - 1) = _
      rw [et]
    show b_X9_heardBy_0 _ _ _ _ _ _ _ _ = _
    simp only [b_X9_heardBy_0, hR.2.1, nIle (show n < 2 ^ 31 by omega) (show i < 2 ^ 31 by omega), if_neg (show ¬ n ≤ i by omega), s_noBeat hR.2.1 h6, bnd_s, bI_0, nI_p1, hsum, add0, s_pitch hB hR hw (show i < n by omega), enc_lt hvw h6]
    by_cases hb : iv (nI i + late) 0 ((n : Int) - 1)
    · have hb' := hb
      rw [ivt] at hb'
      obtain ⟨j, hj, ej⟩ := cal hb
      have ejt : (i : Int) + late.toInt = j := by rw [← et, ej, q_n (by omega)]
      have hvk := hB.2.2.2.1 k hk j hj
      rw [if_pos (fun q => q hb)]
      simp only [ej, s_pitch hB hR hk hj, bnd_s, enc_lt hvk h6]
      have eh : hterm n (kd k) (pt k) (pt w) late.toInt high.toInt i = match pt w i, pt k j with
          | some v, some u => cntd (kd k) ((u : Int) - ((v : Int) + high.toInt))
          | _, _ => 0 := by
        unfold hterm
        rw [if_pos hb', ejt]
        rfl
      cases ew : pt w i with
      | none =>
        rw [if_pos rfl, ih (i + 1) s F (by omega) (by omega), eh]
        simp only [ew, add0]
      | some v =>
        rw [if_neg (by simp)]
        cases ek : pt k j with
        | none =>
          simp only [if_true, e00]
          rw [ih (i + 1) s F (by omega) (by omega), eh]
          simp only [ew, ek, add0]
        | some u =>
          have hu := hvk u ek
          have hv := hvw v ew
          simp only [reduceCtorEq, if_false, e10]
          have e1 : (nI v + high).toInt = (v : Int) + high.toInt := by
            rw [q_add (by rw [q_n (by omega)]; omega) (by rw [q_n (by omega)]; omega), q_n (by omega)]
          have hcn := s_counts (ρ := ρ) (show k < 4 by omega) (hR.2.2.1 k hk) (hB.2.2.1 k hk) (enc (-9) (some u)) (enc (-9) (some v) + high) (by show -1000 ≤ (nI u).toInt ∧ (nI u).toInt ≤ 1000; rw [q_n (by omega)]; omega) (by show -1000 ≤ (nI v + high).toInt ∧ (nI v + high).toInt ≤ 1000; rw [e1]; omega)
          have ed : (enc (-9) (some u)).toInt - (enc (-9) (some v) + high).toInt = (u : Int) - ((v : Int) + high.toInt) := by
            show (nI u).toInt - (nI v + high).toInt = _
            rw [q_n (by omega), e1]
          rw [ed] at hcn
          rw [s_pitch hB hR hw (show i < n by omega), bnd_s, ew, hcn, bnd_s, ih (i + 1) _ F (by omega) (by omega), eh, ew, ek]
    · have hb' := hb
      rw [ivt] at hb'
      rw [if_neg (fun q => q hb), ih (i + 1) s F (by omega) (by omega)]
      have eh : hterm n (kd k) (pt k) (pt w) late.toInt high.toInt i = 0 := by
        unfold hterm
        rw [if_neg hb']
      rw [eh, add0]
def hrd (n kd : Nat) (own call : Nat → Option Nat) (late high : Int) : Int32 := hsum (hterm n kd own call late high) n 0 0
theorem s_heard_C {c n : Nat} {kd : Nat → Nat} {pt : Nat → Nat → Option Nat} {σ : my_M} (hB : ChB c n kd pt) (hC : ChC c n kd pt σ) {k w : Nat} (hk : k < c) (hw : w < c) {late high : Int32} (hl : iv late (-5) 5) (hh : iv high (-5) 5) : f_X2_heard σ (nI k) (nI w) late high = some (hrd n (kd k) (pt k) (pt w) late.toInt high.toInt, σ) := by
  have h4 := hB.1
  have h6 := hB.2.1
  have hN := NF_big
  unfold f_X2_heard
  simp only [if_pos (ixN (show k < 4 by omega) (by omega)), if_pos (ixN (show w < 4 by omega) (by omega)), q_clamp (show k < 2 ^ 31 by omega), q_clamp (show w < 2 ^ 31 by omega)]
  rw [show g_X2_heard my_NF σ late high k (7 + w) 0 0 = g_X2_heard my_NF σ late high k (7 + w) 0 (nI 0) by rw [nI_0], g_heard_C hB hC hk hw hl hh n 0 0 my_NF (by omega) (by omega)]
  rfl
theorem s_heard_R {c n : Nat} {kd : Nat → Nat} {pt : Nat → Nat → Option Nat} {ρ : my_M} (hB : ChB c n kd pt) (hR : ChR c n kd pt ρ) {k w : Nat} (hk : k < c) (hw : w < c) {late high : Int32} (hl : iv late (-5) 5) (hh : iv high (-5) 5) : f_X9_heardBy ρ (nI k) (nI w) late high = some (hrd n (kd k) (pt k) (pt w) late.toInt high.toInt, ρ) := by
  have h6 := hB.2.1
  have hN := NF_big
  unfold f_X9_heardBy
  rw [show g_X9_heardBy my_NF ρ (nI k) (nI w) late high 0 0 = g_X9_heardBy my_NF ρ (nI k) (nI w) late high 0 (nI 0) by rw [nI_0], g_heard_R hB hR hk hw hl hh n 0 0 my_NF (by omega) (by omega)]
  rfl
theorem pr_hears {σ ρ : my_M} (h : Rel σ ρ) (x y l g : Int32) : ∃ (r : Int32) (σ1 ρ1 : my_M), f_X8_hears σ x y l g = some (r, σ1) ∧ f_X9_hears ρ x y l g = some (r, ρ1) ∧ Rel σ1 ρ1 := by
  obtain ⟨⟨c, n, kd, pt, a, sw, sm, sh, b, rh, rw_, rl, rg, rv, hB, hC, hR, aB, aC, aR, dB, dC, dR, hS, hG, hT⟩, hF⟩ := id h
  have h4 := hB.1
  by_cases hk : iv x 0 ((c : Int) - 1)
  · obtain ⟨k, hk', rfl⟩ := cal hk
    by_cases hw : iv y 0 ((c : Int) - 1)
    · obtain ⟨w, hw', rfl⟩ := cal hw
      by_cases hl : iv l (-5) 5
      · by_cases hg : iv g (-5) 5
        · refine ⟨hrd n (kd k) (pt k) (pt w) l.toInt g.toInt, σ, ρ, ?_, ?_, h⟩
          · simp only [f_X8_hears, s_has hC.1 h4, bnd_s, bI_t hk, bI_t hw, e10, if_false, s_isShiftC, bI_t hl, bI_t hg, s_heard_C hB hC hk' hw' hl hg]
          · simp only [f_X9_hears, s_noCaller hR.1 h4, bnd_s, bI_0, if_pos (show ¬ ¬ iv (nI k) 0 ((c : Int) - 1) from fun q => q hk), if_pos (show ¬ ¬ iv (nI w) 0 ((c : Int) - 1) from fun q => q hw), s_isShiftR, if_neg (show ¬ ¬ iv l (-5) 5 from fun q => q hl), if_neg (show ¬ ¬ iv g (-5) 5 from fun q => q hg), s_heard_R hB hR hk' hw' hl hg]
        · refine ⟨-2, σ, ρ, ?_, ?_, h⟩
          · simp only [f_X8_hears, s_has hC.1 h4, bnd_s, bI_t hk, bI_t hw, e10, e00, if_true, if_false, s_isShiftC, bI_t hl, bI_f hg]
          · simp only [f_X9_hears, s_noCaller hR.1 h4, bnd_s, bI_0, if_pos (show ¬ ¬ iv (nI k) 0 ((c : Int) - 1) from fun q => q hk), if_pos (show ¬ ¬ iv (nI w) 0 ((c : Int) - 1) from fun q => q hw), s_isShiftR, if_neg (show ¬ ¬ iv l (-5) 5 from fun q => q hl), if_pos hg]
      · refine ⟨-2, σ, ρ, ?_, ?_, h⟩
        · simp only [f_X8_hears, s_has hC.1 h4, bnd_s, bI_t hk, bI_t hw, e10, e00, if_true, if_false, s_isShiftC, bI_f hl]
        · simp only [f_X9_hears, s_noCaller hR.1 h4, bnd_s, bI_0, if_pos (show ¬ ¬ iv (nI k) 0 ((c : Int) - 1) from fun q => q hk), if_pos (show ¬ ¬ iv (nI w) 0 ((c : Int) - 1) from fun q => q hw), s_isShiftR, if_pos hl]
    · refine ⟨-1, σ, ρ, ?_, ?_, h⟩
      · simp only [f_X8_hears, s_has hC.1 h4, bnd_s, bI_t hk, bI_f hw, e10, e00, if_true, if_false]
      · simp only [f_X9_hears, s_noCaller hR.1 h4, bnd_s, bI_0, if_pos (show ¬ ¬ iv (nI k) 0 ((c : Int) - 1) from fun q => q hk), if_neg (show ¬ ¬ ¬ iv y 0 ((c : Int) - 1) from fun q => q hw)]
  · refine ⟨-1, σ, ρ, ?_, ?_, h⟩
    · simp only [f_X8_hears, s_has hC.1 h4, bnd_s, bI_f hk, e00, if_true]
    · simp only [f_X9_hears, s_noCaller hR.1 h4, bnd_s, bI_t hk, e10, if_false]
