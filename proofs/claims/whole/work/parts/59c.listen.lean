/-! what is listened to -/
def ltm (kd : Nat) (p : Nat → Option Nat) (av : Nat → Int32) (t i : Nat) : Nat := match p i with
  | none => 0
  | some v => if t + i ≤ 25 then cF kd (bt (av (t + i)) v) ((decide (1 ≤ v) && bt (av (t + i)) (v - 1)) || bt (av (t + i)) (v + 1)) else 0
def lsn (kd : Nat) (p : Nat → Option Nat) (av : Nat → Int32) (t : Nat) : Nat → Nat → Nat → Nat
  | 0, _, acc => acc
  | r + 1, i, acc => lsn kd p av t r (i + 1) (acc + ltm kd p av t i)
theorem cF_le {kd : Nat} {h nr : Bool} : cF kd h nr ≤ 2 := by
  unfold cF
  cases h <;> cases nr <;> (split <;> try split) <;> decide
theorem ltm_le {kd : Nat} {p : Nat → Option Nat} {av : Nat → Int32} {t i : Nat} : ltm kd p av t i ≤ 2 := by
  unfold ltm
  split
  · omega
  · split
    · exact cF_le
    · omega
theorem lsn_le {kd : Nat} {p : Nat → Option Nat} {av : Nat → Int32} {t : Nat} : ∀ r i acc, lsn kd p av t r i acc ≤ acc + 2 * r := by
  intro r
  induction r with
  | zero => intro i acc; exact Nat.le_refl _
  | succ r ih =>
    intro i acc
    have h1 := ih (i + 1) (acc + ltm kd p av t i)
    have h2 := ltm_le (kd := kd) (p := p) (av := av) (t := t) (i := i)
    rw [lsn]
    omega
theorem lsn_out {kd : Nat} {p : Nat → Option Nat} {av : Nat → Int32} {t : Nat} : ∀ r i acc, 25 < t + i → lsn kd p av t r i acc = acc := by
  intro r
  induction r with
  | zero => intro i acc _; rfl
  | succ r ih =>
    intro i acc h
    have e : ltm kd p av t i = 0 := by
      unfold ltm
      split
      · rfl
      · rw [if_neg (by omega)]
    rw [lsn, e, Nat.add_zero]
    exact ih (i + 1) acc (by omega)
theorem ltm_none {kd : Nat} {p : Nat → Option Nat} {av : Nat → Int32} {t i : Nat} (h : p i = none) : ltm kd p av t i = 0 := by
  unfold ltm
  rw [h]
theorem ltm_some {kd : Nat} {p : Nat → Option Nat} {av : Nat → Int32} {t i v : Nat} (h : p i = some v) (ht : t + i ≤ 25) : ltm kd p av t i = cF kd (bt (av (t + i)) v) ((decide (1 ≤ v) && bt (av (t + i)) (v - 1)) || bt (av (t + i)) (v + 1)) := by
  unfold ltm
  rw [h]
  exact if_pos ht
theorem ltm_far {kd : Nat} {p : Nat → Option Nat} {av : Nat → Int32} {t i : Nat} (ht : ¬ t + i ≤ 25) : ltm kd p av t i = 0 := by
  unfold ltm
  split
  · rfl
  · exact if_neg ht
theorem g_lsn_C {c n : Nat} {kd : Nat → Nat} {pt : Nat → Nat → Option Nat} {σ : my_M} (hB : ChB c n kd pt) (hC : ChC c n kd pt σ) {A : Nat} (lA : my_len layC A = 26) {av : Nat → Int32} (hA : ∀ u, u < 26 → σ A u = av u) {k t : Nat} (hk : k < c) (ht : t < 26) : ∀ (r i acc F : Nat), i + r = n → r < F → g_X2_listened F σ A (nI t) k (nI acc) (nI i) = some (nI (lsn (kd k) (pt k) av t r i acc), σ) := by
  have h4 := hB.1
  have h6 := hB.2.1
  intro r
  induction r with
  | zero =>
    intro i acc F hi hF
    obtain rfl : i = n := by omega
    obtain ⟨F, rfl⟩ : ∃ G, F = G + 1 := ⟨F - 1, by omega⟩
    simp only [gs_X2_listened, b_X2_listened_0, if_pos (show k < 4 by omega), hC.2.1, if_pos (show nI i ≤ nI i from Int32.le_refl _), lsn]
  | succ r ih =>
    intro i acc F hi hF
    obtain ⟨F, rfl⟩ : ∃ G, F = G + 1 := ⟨F - 1, by omega⟩
    have hv := hB.2.2.2.1 k hk i (by omega)
    have hp := hC.2.2.2 k hk i (by omega)
    have n25 : ((25 : Int32) < nI (t + i)) = (25 < t + i) := by rw [show (25 : Int32) = nI 25 by decide, nIlt (by omega) (by omega)]
    by_cases hf : 25 < t + i
    · rw [lsn_out _ _ _ hf]
      simp only [gs_X2_listened, b_X2_listened_0, if_pos (show k < 4 by omega), hC.2.1, nIle (show n < 2 ^ 31 by omega) (show i < 2 ^ 31 by omega), if_neg (show ¬ n ≤ i by omega), nI_add, n25, if_pos hf]
    · have ih' := ih (i + 1) (acc + ltm (kd k) (pt k) av t i) F (by omega) (by omega)
      refine Eq.trans ?_ ih'
      cases hq : pt k i with
      | none =>
        rw [ltm_none hq]
        simp only [Nat.add_zero, gs_X2_listened, b_X2_listened_0, if_pos (show k < 4 by omega), hC.2.1, nIle (show n < 2 ^ 31 by omega) (show i < 2 ^ 31 by omega), if_neg (show ¬ n ≤ i by omega), nI_add, n25, if_neg hf, lenC_p (show k < 4 by omega), if_pos (ixN (show i < 6 by omega) (by omega)), q_clamp (show i < 2 ^ 31 by omega), hp, enc_m1 hv h6, if_pos hq, nI_p1]
      | some v =>
        have hv' := hv v hq
        have hp' : σ (7 + k) i = nI v := by rw [hp, hq]; rfl
        have n1 : ¬ nI v = -1 := by
          rw [← hp', hp, enc_m1 hv h6, hq]
          simp
        have hc := s_cnt (σ := σ) (show k < 4 by omega) (hC.2.2.1 k hk) (hB.2.2.1 k hk) (bt_iff (av (t + i)) (show v < 12 by omega)) (bt_near (av (t + i)) (show v < 6 by omega))
        rw [ltm_some hq (by omega)]
        simp only [gs_X2_listened, b_X2_listened_0, if_pos (show k < 4 by omega), hC.2.1, nIle (show n < 2 ^ 31 by omega) (show i < 2 ^ 31 by omega), if_neg (show ¬ n ≤ i by omega), nI_add, n25, if_neg hf, lenC_p (show k < 4 by omega), if_pos (ixN (show i < 6 by omega) (by omega)), q_clamp (show i < 2 ^ 31 by omega), hp', if_neg n1, lA, if_pos (ixN (show t + i < 26 by omega) (by omega)), q_clamp (show t + i < 2 ^ 31 by omega), hA (t + i) (show t + i < 26 by omega), hc, bnd_s, nI_p1]
def lst (n kd : Nat) (p : Nat → Option Nat) (av : Nat → Int32) (t : Nat) : Nat := lsn kd p av t n 0 0
theorem lst_le {n kd : Nat} {p : Nat → Option Nat} {av : Nat → Int32} {t : Nat} : lst n kd p av t ≤ 2 * n := by
  have := lsn_le (kd := kd) (p := p) (av := av) (t := t) n 0 0
  unfold lst
  omega
theorem s_lsn_C {c n : Nat} {kd : Nat → Nat} {pt : Nat → Nat → Option Nat} {σ : my_M} (hB : ChB c n kd pt) (hC : ChC c n kd pt σ) {A : Nat} (lA : my_len layC A = 26) {av : Nat → Int32} (hA : ∀ u, u < 26 → σ A u = av u) {k t : Nat} (hk : k < c) (ht : t < 26) : f_X2_listened σ (nI k) A (nI t) = some (nI (lst n (kd k) (pt k) av t), σ) := by
  have hN := NF_big
  have h4 := hB.1
  have h6 := hB.2.1
  unfold f_X2_listened
  rw [if_pos (ixN (show k < 4 by omega) (by omega)), q_clamp (show k < 2 ^ 31 by omega), ← nI_0]
  exact g_lsn_C hB hC lA hA hk ht n 0 0 my_NF (by omega) (by omega)
theorem g_lsn_R {c n : Nat} {kd : Nat → Nat} {pt : Nat → Nat → Option Nat} {a : Nat} {sw sm sh : Nat → Nat} {ρ : my_M} (hB : ChB c n kd pt) (aB : AiB c a sw sm sh) (hR : ChR c n kd pt ρ) (aR : AiR a sw sm sh ρ) {k t : Nat} (hk : k < c) (ht : t < 26) : ∀ (r i acc F : Nat), i + r = n → r < F → g_X9_listensTo F ρ (nI k) (nI t) (nI acc) (nI i) = some (nI (lsn (kd k) (pt k) (fun u => airA n pt sw sm sh a 0 u 0) t r i acc), ρ) := by
  have h4 := hB.1
  have h6 := hB.2.1
  intro r
  induction r with
  | zero =>
    intro i acc F hi hF
    obtain rfl : i = n := by omega
    obtain ⟨F, rfl⟩ : ∃ G, F = G + 1 := ⟨F - 1, by omega⟩
    simp only [gs_X9_listensTo, b_X9_listensTo_0, hR.2.1, if_pos (show nI i ≤ nI i from Int32.le_refl _), lsn]
  | succ r ih =>
    intro i acc F hi hF
    obtain ⟨F, rfl⟩ : ∃ G, F = G + 1 := ⟨F - 1, by omega⟩
    have hv := hB.2.2.2.1 k hk i (by omega)
    have ih' := ih (i + 1) (acc + ltm (kd k) (pt k) (fun u => airA n pt sw sm sh a 0 u 0) t i) F (by omega) (by omega)
    refine Eq.trans ?_ ih'
    have a0 : nI acc + 0 = nI acc := by rw [← nI_0, nI_add, Nat.add_zero]
    cases hq : pt k i with
    | none =>
      rw [ltm_none hq]
      simp only [Nat.add_zero, gs_X9_listensTo, b_X9_listensTo_0, hR.2.1, nIle (show n < 2 ^ 31 by omega) (show i < 2 ^ 31 by omega), if_neg (show ¬ n ≤ i by omega), s_pitch hB hR hk (show i < n by omega), bnd_s, enc_lt hv h6, if_pos hq, a0, nI_p1]
    | some v =>
      have hv' := hv v hq
      have n1 : ¬ pt k i = none := by rw [hq]; simp
      by_cases hf : t + i ≤ 25
      · have w : iv (nI (t + i)) 0 25 := by
          show 0 ≤ (nI (t + i)).toInt ∧ (nI (t + i)).toInt ≤ 25
          rw [q_n (by omega)]; omega
        rw [ltm_some hq hf]
        simp only [gs_X9_listensTo, b_X9_listensTo_0, hR.2.1, nIle (show n < 2 ^ 31 by omega) (show i < 2 ^ 31 by omega), if_neg (show ¬ n ≤ i by omega), s_pitch hB hR hk (show i < n by omega), bnd_s, enc_lt hv h6, if_neg n1, nI_add, s_isMomentR, bI_t w, e10, if_false, s_airOf hB aB hR aR (show t + i < 26 by omega)]
        simp only [hq, enc, s_cAll hB hR hk (show v < 6 by omega), bnd_s, nI_add, nI_p1]
      · have w : ¬ iv (nI (t + i)) 0 25 := by
          intro q
          have q2 := q.2
          rw [q_n (by omega)] at q2
          omega
        rw [ltm_far hf]
        simp only [Nat.add_zero, gs_X9_listensTo, b_X9_listensTo_0, hR.2.1, nIle (show n < 2 ^ 31 by omega) (show i < 2 ^ 31 by omega), if_neg (show ¬ n ≤ i by omega), s_pitch hB hR hk (show i < n by omega), bnd_s, enc_lt hv h6, if_neg n1, nI_add, s_isMomentR, bI_f w, e00, if_true, a0, nI_p1]
theorem s_lsn_R {c n : Nat} {kd : Nat → Nat} {pt : Nat → Nat → Option Nat} {a : Nat} {sw sm sh : Nat → Nat} {ρ : my_M} (hB : ChB c n kd pt) (aB : AiB c a sw sm sh) (hR : ChR c n kd pt ρ) (aR : AiR a sw sm sh ρ) {k t : Nat} (hk : k < c) (ht : t < 26) : f_X9_listensTo ρ (nI k) (nI t) = some (nI (lst n (kd k) (pt k) (fun u => airA n pt sw sm sh a 0 u 0) t), ρ) := by
  have hN := NF_big
  have h4 := hB.1
  have h6 := hB.2.1
  unfold f_X9_listensTo
  rw [← nI_0]
  exact g_lsn_R hB aB hR aR hk ht n 0 0 my_NF (by omega) (by omega)
def ldm (L : Nat → Nat) : Nat → Nat → Nat → Nat
  | 0, _, best => best
  | r + 1, m, best => ldm L r (m + 1) (if L m ≤ L best then best else m)
theorem ldm_lt {L : Nat → Nat} : ∀ r m best, m + r = 26 → best < 26 → ldm L r m best < 26 := by
  intro r
  induction r with
  | zero => intro m best _ h; exact h
  | succ r ih =>
    intro m best hm h
    rw [ldm]
    refine ih (m + 1) _ (by omega) ?_
    split <;> omega
theorem g_ldm_C {c n : Nat} {kd : Nat → Nat} {pt : Nat → Nat → Option Nat} {σ : my_M} (hB : ChB c n kd pt) (hC : ChC c n kd pt σ) {A : Nat} (lA : my_len layC A = 26) {av : Nat → Int32} (hA : ∀ u, u < 26 → σ A u = av u) {k : Nat} (hk : k < c) : ∀ (r m best F : Nat), m + r = 26 → best < 26 → r < F → g_X2_loudestMoment F σ (nI k) A (nI (lst n (kd k) (pt k) av best)) (nI best) (nI m) = some (nI (ldm (lst n (kd k) (pt k) av) r m best), σ) := by
  have h6 := hB.2.1
  intro r
  induction r with
  | zero =>
    intro m best F hm hb hF
    obtain rfl : m = 26 := by omega
    obtain ⟨F, rfl⟩ : ∃ G, F = G + 1 := ⟨F - 1, by omega⟩
    simp only [gs_X2_loudestMoment, b_X2_loudestMoment_0, if_pos (show (25 : Int32) < nI 26 by decide), ldm]
  | succ r ih =>
    intro m best F hm hb hF
    obtain ⟨F, rfl⟩ : ∃ G, F = G + 1 := ⟨F - 1, by omega⟩
    have n25 : ¬ (25 : Int32) < nI m := by rw [show (25 : Int32) = nI 25 by decide, nIlt (by omega) (by omega)]; omega
    have b1 := lst_le (n := n) (kd := kd k) (p := pt k) (av := av) (t := m)
    have b2 := lst_le (n := n) (kd := kd k) (p := pt k) (av := av) (t := best)
    simp only [gs_X2_loudestMoment, b_X2_loudestMoment_0, if_neg n25, s_lsn_C hB hC lA hA hk (show m < 26 by omega), bnd_s, nIle (show lst n (kd k) (pt k) av m < 2 ^ 31 by omega) (show lst n (kd k) (pt k) av best < 2 ^ 31 by omega), nI_p1, ldm]
    by_cases q : lst n (kd k) (pt k) av m ≤ lst n (kd k) (pt k) av best
    · rw [if_pos q, if_pos q]
      exact ih (m + 1) best F (by omega) hb (by omega)
    · rw [if_neg q, if_neg q]
      exact ih (m + 1) m F (by omega) (by omega) (by omega)
theorem s_ldm_C {c n : Nat} {kd : Nat → Nat} {pt : Nat → Nat → Option Nat} {σ : my_M} (hB : ChB c n kd pt) (hC : ChC c n kd pt σ) {A : Nat} (lA : my_len layC A = 26) {av : Nat → Int32} (hA : ∀ u, u < 26 → σ A u = av u) {k : Nat} (hk : k < c) : f_X2_loudestMoment σ (nI k) A = some (nI (ldm (lst n (kd k) (pt k) av) 25 1 0), σ) := by
  have hN := NF_big
  have h6 := hB.2.1
  obtain ⟨F, hF⟩ : ∃ F, my_NF = F + 1 := ⟨my_NF - 1, by omega⟩
  have b1 := lst_le (n := n) (kd := kd k) (p := pt k) (av := av) (t := 0)
  have q : ¬ nI (lst n (kd k) (pt k) av 0) ≤ -1 := by
    rw [q_le, t_m1, q_n (by omega)]; omega
  refine Eq.trans ?_ (g_ldm_C hB hC lA hA hk 25 1 0 F (by omega) (by omega) (by omega))
  unfold f_X2_loudestMoment
  rw [hF, ← nI_0]
  simp only [gs_X2_loudestMoment, b_X2_loudestMoment_0, if_neg (show ¬ (25 : Int32) < nI 0 by decide), s_lsn_C hB hC lA hA hk (show 0 < 26 by omega), bnd_s, if_neg q, nI_p1]
theorem g_ldm_R {c n : Nat} {kd : Nat → Nat} {pt : Nat → Nat → Option Nat} {a : Nat} {sw sm sh : Nat → Nat} {ρ : my_M} (hB : ChB c n kd pt) (aB : AiB c a sw sm sh) (hR : ChR c n kd pt ρ) (aR : AiR a sw sm sh ρ) {k : Nat} (hk : k < c) : ∀ (r m best F : Nat), m + r = 26 → best < 26 → r < F → g_X9_loudestOf F ρ (nI k) (nI best) (nI m) = some (nI (ldm (lst n (kd k) (pt k) (fun u => airA n pt sw sm sh a 0 u 0)) r m best), ρ) := by
  have h6 := hB.2.1
  intro r
  induction r with
  | zero =>
    intro m best F hm hb hF
    obtain rfl : m = 26 := by omega
    obtain ⟨F, rfl⟩ : ∃ G, F = G + 1 := ⟨F - 1, by omega⟩
    simp only [gs_X9_loudestOf, b_X9_loudestOf_0, if_pos (show (26 : Int32) ≤ nI 26 by decide), ldm]
  | succ r ih =>
    intro m best F hm hb hF
    obtain ⟨F, rfl⟩ : ∃ G, F = G + 1 := ⟨F - 1, by omega⟩
    have n26 : ¬ (26 : Int32) ≤ nI m := by rw [show (26 : Int32) = nI 26 by decide, nIle (by omega) (by omega)]; omega
    have b1 := lst_le (n := n) (kd := kd k) (p := pt k) (av := fun u => airA n pt sw sm sh a 0 u 0) (t := m)
    have b2 := lst_le (n := n) (kd := kd k) (p := pt k) (av := fun u => airA n pt sw sm sh a 0 u 0) (t := best)
    simp only [gs_X9_loudestOf, b_X9_loudestOf_0, if_neg n26, s_lsn_R hB aB hR aR hk (show m < 26 by omega), s_lsn_R hB aB hR aR hk hb, bnd_s, nIle (Nat.lt_of_le_of_lt b1 (show 2 * n < 2 ^ 31 by omega)) (Nat.lt_of_le_of_lt b2 (show 2 * n < 2 ^ 31 by omega)), nI_p1, ldm]
    by_cases q : lst n (kd k) (pt k) (fun u => airA n pt sw sm sh a 0 u 0) m ≤ lst n (kd k) (pt k) (fun u => airA n pt sw sm sh a 0 u 0) best
    · rw [if_pos q, if_pos q]
      exact ih (m + 1) best F (by omega) hb (by omega)
    · rw [if_neg q, if_neg q]
      exact ih (m + 1) m F (by omega) (by omega) (by omega)
theorem s_ldm_R {c n : Nat} {kd : Nat → Nat} {pt : Nat → Nat → Option Nat} {a : Nat} {sw sm sh : Nat → Nat} {ρ : my_M} (hB : ChB c n kd pt) (aB : AiB c a sw sm sh) (hR : ChR c n kd pt ρ) (aR : AiR a sw sm sh ρ) {k : Nat} (hk : k < c) : f_X9_loudestOf ρ (nI k) = some (nI (ldm (lst n (kd k) (pt k) (fun u => airA n pt sw sm sh a 0 u 0)) 25 1 0), ρ) := by
  have hN := NF_big
  unfold f_X9_loudestOf
  rw [← nI_0, nI_lit1]
  exact g_ldm_R hB aB hR aR hk 25 1 0 my_NF (by omega) (by omega) (by omega)
theorem pr_listen {σ ρ : my_M} (h : Rel σ ρ) (x y : Int32) : ∃ (r : Int32) (σ1 ρ1 : my_M), f_X8_listen σ x y = some (r, σ1) ∧ f_X9_listen ρ x y = some (r, ρ1) ∧ Rel σ1 ρ1 := by
  obtain ⟨⟨c, n, kd, pt, a, sw, sm, sh, b, rh, rw_, rl, rg, rv, hB, hC, hR, aB, aC, aR, dB, dC, dR, hS, hG, hT⟩, hF⟩ := id h
  have h4 := hB.1
  by_cases hk : iv x 0 ((c : Int) - 1)
  · obtain ⟨k, hk', rfl⟩ := cal hk
    have nk : ¬ ¬ iv (nI k) 0 ((c : Int) - 1) := fun q => q hk
    by_cases hx : iv y 0 25
    · obtain ⟨t, ht, rfl⟩ := iv_nat (m := 25) hx
      obtain ⟨τ, q1, q2, q3⟩ := s_sound hB aB (show 0 < 2 by omega) hC aC
      have hC' : ChC c n kd pt τ := ChC_f h4 hC (fun j _ _ => q2 j (by omega))
      refine ⟨nI (lst n (kd k) (pt k) (fun u => airA n pt sw sm sh a 0 u 0) t), τ, ρ, ?_, ?_, Rel_snd h q2⟩
      · simp only [f_X8_listen, s_has hC.1 h4, bnd_s, bI_t hk, e10, if_false, s_W, t_0, t_25, bI_t hx, q1, s_lsn_C hB hC' (A := 15) lenC_15 (av := fun u => airA n pt sw sm sh a 0 u 0) q3 hk' (show t < 26 by omega)]
      · simp only [f_X9_listen, s_noCaller hR.1 h4, bnd_s, bI_f nk, e00, if_true, s_isMomentR, bI_t hx, e10, if_false, s_lsn_R hB aB hR aR hk' (show t < 26 by omega)]
    · refine ⟨-2, σ, ρ, ?_, ?_, h⟩
      · simp only [f_X8_listen, s_has hC.1 h4, bnd_s, bI_t hk, e10, if_false, s_W, t_0, t_25, bI_f hx, e00, if_true]
      · simp only [f_X9_listen, s_noCaller hR.1 h4, bnd_s, bI_f nk, e00, if_true, s_isMomentR, bI_f hx]
  · refine ⟨-1, σ, ρ, ?_, ?_, h⟩
    · simp only [f_X8_listen, s_has hC.1 h4, bnd_s, bI_f hk, e00, if_true]
    · simp only [f_X9_listen, s_noCaller hR.1 h4, bnd_s, bI_t hk, e10, if_false]
theorem pr_loudest {σ ρ : my_M} (h : Rel σ ρ) (x y : Int32) : ∃ (r : Int32) (σ1 ρ1 : my_M), f_X8_loudest σ x y = some (r, σ1) ∧ f_X9_loudest ρ x y = some (r, ρ1) ∧ Rel σ1 ρ1 := by
  obtain ⟨⟨c, n, kd, pt, a, sw, sm, sh, b, rh, rw_, rl, rg, rv, hB, hC, hR, aB, aC, aR, dB, dC, dR, hS, hG, hT⟩, hF⟩ := id h
  have h4 := hB.1
  by_cases hk : iv x 0 ((c : Int) - 1)
  · obtain ⟨k, hk', rfl⟩ := cal hk
    have nk : ¬ ¬ iv (nI k) 0 ((c : Int) - 1) := fun q => q hk
    by_cases hx : iv y 0 1
    · obtain ⟨τ, q1, q2, q3⟩ := s_sound hB aB (show 0 < 2 by omega) hC aC
      have hC' : ChC c n kd pt τ := ChC_f h4 hC (fun j _ _ => q2 j (by omega))
      have hd : ldm (lst n (kd k) (pt k) (fun u => airA n pt sw sm sh a 0 u 0)) 25 1 0 < 26 := ldm_lt _ _ _ (by omega) (by omega)
      by_cases y0 : y = 0
      · refine ⟨nI (ldm (lst n (kd k) (pt k) (fun u => airA n pt sw sm sh a 0 u 0)) 25 1 0), τ, ρ, ?_, ?_, Rel_snd h q2⟩
        · simp only [f_X8_loudest, s_has hC.1 h4, bnd_s, bI_t hk, e10, if_false, s_W, t_0, t_1, bI_t hx, q1, s_ldm_C hB hC' (A := 15) lenC_15 (av := fun u => airA n pt sw sm sh a 0 u 0) q3 hk', if_pos y0]
        · simp only [f_X9_loudest, s_noCaller hR.1 h4, bnd_s, bI_f nk, e00, if_true, s_inI, u_0, u_1, bI_t hx, e10, if_false, s_ldm_R hB aB hR aR hk', if_pos y0]
      · refine ⟨nI (lst n (kd k) (pt k) (fun u => airA n pt sw sm sh a 0 u 0) (ldm (lst n (kd k) (pt k) (fun u => airA n pt sw sm sh a 0 u 0)) 25 1 0)), τ, ρ, ?_, ?_, Rel_snd h q2⟩
        · simp only [f_X8_loudest, s_has hC.1 h4, bnd_s, bI_t hk, e10, if_false, s_W, t_0, t_1, bI_t hx, q1, s_ldm_C hB hC' (A := 15) lenC_15 (av := fun u => airA n pt sw sm sh a 0 u 0) q3 hk', if_neg y0, s_lsn_C hB hC' (A := 15) lenC_15 (av := fun u => airA n pt sw sm sh a 0 u 0) q3 hk' hd]
        · simp only [f_X9_loudest, s_noCaller hR.1 h4, bnd_s, bI_f nk, e00, if_true, s_inI, u_0, u_1, bI_t hx, e10, if_false, s_ldm_R hB aB hR aR hk', if_neg y0, s_lsn_R hB aB hR aR hk' hd]
    · refine ⟨-2, σ, ρ, ?_, ?_, h⟩
      · simp only [f_X8_loudest, s_has hC.1 h4, bnd_s, bI_t hk, e10, if_false, s_W, t_0, t_1, bI_f hx, e00, if_true]
      · simp only [f_X9_loudest, s_noCaller hR.1 h4, bnd_s, bI_f nk, e00, if_true, s_inI, u_0, u_1, bI_f hx]
  · refine ⟨-1, σ, ρ, ?_, ?_, h⟩
    · simp only [f_X8_loudest, s_has hC.1 h4, bnd_s, bI_f hk, e00, if_true]
    · simp only [f_X9_loudest, s_noCaller hR.1 h4, bnd_s, bI_t hk, e10, if_false]
