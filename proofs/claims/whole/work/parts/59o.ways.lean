theorem g_has {c n : Nat} {kd : Nat → Nat} {pt : Nat → Nat → Option Nat} {ρ υ : my_M} (hB : ChB c n kd pt) (hR : ChR c n kd pt ρ) (h2 : 2 ≤ n) {k N : Nat} (hk : k < c) (hs : St n N ρ υ) : ∀ (r i F : Nat) (b : Bool), i + r = n → r < F → g_X9_hasThoseOf F υ (nI k) (bI (b = true)) (nI i) = some (bI ((b && soB (likB pt k n N) r i) = true), υ) := by
  have h4 := hB.1
  have h6 := hB.2.1
  have hR' : ChR c n kd pt υ := ChR_f hR (hs.1 1 (by omega)) (hs.1 2 (by omega)) (by rw [hs.1 0 (by omega)]) (by rw [hs.1 0 (by omega)])
  intro r
  induction r with
  | zero =>
    intro i F b hi hF
    obtain rfl : i = n := by omega
    obtain ⟨F, rfl⟩ : ∃ G, F = G + 1 := ⟨F - 1, by omega⟩
    simp only [gs_X9_hasThoseOf, b_X9_hasThoseOf_0, hR'.2.1, if_pos (show nI i ≤ nI i from Int32.le_refl _), if_pos bI_b, soB, Bool.and_true]
  | succ r ih =>
    intro i F b hi hF
    obtain ⟨F, rfl⟩ : ∃ G, F = G + 1 := ⟨F - 1, by omega⟩
    have hv := hB.2.2.2.1 k hk i (by omega)
    have pl := pdr_lt (show 0 < n by omega) n N i
    have ih' := ih (i + 1) F (b && likB pt k n N i) (by omega) (by omega)
    rw [soB, ← Bool.and_assoc]
    refine Eq.trans ?_ ih'
    cases b with
    | false =>
      rw [show bI (false = true) = 0 from bI_f Bool.false_ne_true, show bI ((false && likB pt k n N i) = true) = 0 from bI_f (by rw [Bool.false_and]; exact Bool.false_ne_true)]
      simp only [gs_X9_hasThoseOf, b_X9_hasThoseOf_0, hR'.2.1, nIle (show n < 2 ^ 31 by omega) (show i < 2 ^ 31 by omega), if_neg (show ¬ n ≤ i by omega), if_true, nI_p1]
    | true =>
      rw [Bool.true_and, show bI (true = true) = 1 from bI_t rfl]
      cases hq : pt k i with
      | none =>
        rw [bI_t (show likB pt k n N i = true from decide_eq_true (Or.inl hq))]
        simp only [gs_X9_hasThoseOf, b_X9_hasThoseOf_0, hR'.2.1, nIle (show n < 2 ^ 31 by omega) (show i < 2 ^ 31 by omega), if_neg (show ¬ n ≤ i by omega), e10, if_false, s_pitch hB hR' hk (show i < n by omega), bnd_s, enc_lt hv h6, if_pos hq, nI_p1]
      | some v =>
        have hv' := hv v hq
        have n1 : ¬ pt k i = none := by rw [hq]; simp
        have ev : enc (-9) (pt k i) = nI v := by rw [hq]; rfl
        have el : bI (likB pt k n N i = true) = if v = pdr n n N i then 1 else 0 := by
          by_cases e : v = pdr n n N i
          · rw [if_pos e, bI_t (show likB pt k n N i = true from decide_eq_true (Or.inr (by rw [hq, e])))]
          · rw [if_neg e, bI_f]
            rw [show likB pt k n N i = false from decide_eq_false (fun z => by
              rcases z with z | z
              · rw [hq] at z; cases z
              · rw [hq] at z; cases z; exact e rfl)]
            exact Bool.false_ne_true
        rw [el]
        have nl : ¬ nI v < 0 := by rw [← nI_0, nIlt (by omega) (by omega)]; omega
        simp only [gs_X9_hasThoseOf, b_X9_hasThoseOf_0, hR'.2.1, nIle (show n < 2 ^ 31 by omega) (show i < 2 ^ 31 by omega), if_neg (show ¬ n ≤ i by omega), e10, if_false, s_pitch hB hR' hk (show i < n by omega), bnd_s, ev, if_neg nl, lenR_5, if_pos (ixN (show i < 6 by omega) (by omega)), q_clamp (show i < 2 ^ 31 by omega), hs.2 i (by omega), nI_inj (show v < 2 ^ 31 by omega) (show pdr n n N i < 2 ^ 31 by omega), nI_p1]
theorem s_hasR {c n : Nat} {kd : Nat → Nat} {pt : Nat → Nat → Option Nat} {ρ υ : my_M} (hB : ChB c n kd pt) (hR : ChR c n kd pt ρ) (h2 : 2 ≤ n) {k N : Nat} (hk : k < c) (hs : St n N ρ υ) : f_X9_hasThoseOf υ (nI k) = some (bI (likeB pt k n N = true), υ) := by
  have hN := NF_big
  have h6 := hB.2.1
  have e := g_has hB hR h2 hk hs n 0 my_NF true (by omega) (by omega)
  rw [nI_0, show bI (true = true) = 1 from bI_t rfl, Bool.true_and] at e
  exact e
/-- the pitch that is told of a row -/
def dgt (n : Nat) (x : Int32) (o : Int32) (N : Nat) : Int32 := if iv x 0 ((n : Int) - 1) then nI (pdr n n N (Int32.toNatClampNeg x)) else o
def fnx (n : Nat) (x : Int32) (acc : Nat) (x4 : Int32) (o : Option Nat) : Int32 := if acc = 0 then (match o with | none => x4 | some N => dgt n x x4 N) else x4
theorem fnx_s {n : Nat} {x : Int32} {acc : Nat} {x4 : Int32} {o : Option Nat} : fnx n x (acc + 1) x4 o = x4 := if_neg (by omega)
def gdlk (pt : Nat → Nat → Option Nat) (k n N : Nat) : Bool := likeB pt k n N && goodN n N
theorem ways_step {c n : Nat} {kd : Nat → Nat} {pt : Nat → Nat → Option Nat} {ρ υ : my_M} (hB : ChB c n kd pt) (hR : ChR c n kd pt ρ) (h2 : 2 ≤ n) {k N : Nat} (hk : k < c) (hs : St n N ρ υ) (x x4 : Int32) (acc F : Nat) (ha : acc < 100000) : g_X9_ways (F + 1) υ (nI k) x (nI acc) x4 1 = (my_bnd (f_X9_triesNext υ) fun r2 σ2 => g_X9_ways F σ2 (nI k) x (nI (acc + if gdlk pt k n N = true then 1 else 0)) (if gdlk pt k n N = true then fnx n x acc x4 (some N) else x4) r2) := by
  have h6 := hB.2.1
  have hR' : ChR c n kd pt υ := ChR_f hR (hs.1 1 (by omega)) (hs.1 2 (by omega)) (by rw [hs.1 0 (by omega)]) (by rw [hs.1 0 (by omega)])
  have a0 : nI acc + 0 = nI acc := by rw [← nI_0, nI_add, Nat.add_zero]
  rw [gs_X9_ways]
  unfold b_X9_ways_0
  rw [if_neg (show ¬ (1 : Int32) = 0 by decide), s_hasR hB hR h2 hk hs, bnd_s]
  by_cases l : likeB pt k n N = true
  · rw [bI_t l, if_neg (by decide), s_goodSt h2 h6 hR.2.1 hs, bnd_s]
    by_cases g : goodN n N = true
    · have gl : gdlk pt k n N = true := by unfold gdlk; rw [l, g]; rfl
      simp only [bI_t g, e10, if_false, if_pos gl, nI_p1]
      by_cases z : acc = 0
      · subst z
        rw [if_pos nI_0, show fnx n x 0 x4 (some N) = dgt n x x4 N from if_pos rfl]
        by_cases xn : x < 0
        · have w : ¬ iv x 0 ((n : Int) - 1) := by
            intro q
            have q1 := q.1
            rw [q_lt, t_0] at xn
            omega
          rw [if_pos xn, show dgt n x x4 N = x4 from if_neg w]
        · rw [if_neg xn, s_noBeat hR'.2.1 h6, bnd_s]
          by_cases w : iv x 0 ((n : Int) - 1)
          · obtain ⟨b, hb, rfl⟩ := cal w
            rw [bI_f (fun q => q w), if_pos rfl, show dgt n (nI b) x4 N = _ from if_pos w, lenR_5, if_pos (ixN (show b < 6 by omega) (by omega)), q_clamp (show b < 2 ^ 31 by omega), hs.2 b hb]
          · rw [bI_t w, if_neg (by decide), show dgt n x x4 N = x4 from if_neg w]
      · have z' : ¬ nI acc = 0 := by rw [← nI_0, nI_inj (by omega) (by omega)]; exact z
        rw [if_neg z']
        unfold fnx
        rw [if_neg z]
    · have gl : ¬ gdlk pt k n N = true := by unfold gdlk; rw [l, Bool.eq_false_iff.mpr g]; exact Bool.false_ne_true
      simp only [bI_f g, e00, if_true, if_neg gl, a0, Nat.add_zero]
  · have gl : ¬ gdlk pt k n N = true := by unfold gdlk; rw [Bool.eq_false_iff.mpr l, Bool.false_and]; exact Bool.false_ne_true
    simp only [bI_f l, e00, if_true, if_neg gl, a0, Nat.add_zero]
theorem g_ways {c n : Nat} {kd : Nat → Nat} {pt : Nat → Nat → Option Nat} {ρ : my_M} (hB : ChB c n kd pt) (hR : ChR c n kd pt ρ) (h2 : 2 ≤ n) {k : Nat} (hk : k < c) (x : Int32) : ∀ (m N F acc : Nat) (x4 : Int32) (υ : my_M), St n N ρ υ → N + m + 1 = n ^ n → m + 2 ≤ F → acc + m < 90000 → ∃ υ', g_X9_ways F υ (nI k) x (nI acc) x4 1 = some (if 0 ≤ x then fnx n x acc x4 ((List.range' N (m + 1)).find? (gdlk pt k n)) else nI (acc + ((List.range' N (m + 1)).filter (gdlk pt k n)).length), υ') ∧ ∀ j, j ≠ 5 → υ' j = ρ j := by
  have h6 := hB.2.1
  intro m
  induction m with
  | zero =>
    intro N F acc x4 υ hs hN hF ha
    obtain ⟨F, rfl⟩ : ∃ G, F = G + 1 := ⟨F - 1, by omega⟩
    obtain ⟨F, rfl⟩ : ∃ G, F = G + 1 := ⟨F - 1, by omega⟩
    obtain ⟨υ', b, q1, q2, q3⟩ := s_tn h2 h6 hR.2.1 hs (by omega)
    rcases q3 with ⟨a1, -, -⟩ | ⟨a1, a2⟩
    · omega
    · subst a2
      refine ⟨υ', ?_, q2⟩
      rw [ways_step hB hR h2 hk hs x x4 acc (F + 1) (by omega), q1, bnd_s, gs_X9_ways]
      unfold b_X9_ways_0
      rw [if_pos rfl, filt_len, List.range'_succ, List.range'_zero, List.filter_nil, List.length_nil]
      by_cases g : gdlk pt k n N = true
      · rw [if_pos g, if_pos g, List.find?_cons_of_pos g]
        split <;> rfl
      · rw [if_neg g, if_neg g, List.find?_cons_of_neg g, List.find?_nil]
        have e : fnx n x acc x4 none = x4 := by unfold fnx; split <;> rfl
        rw [e]
        split <;> rfl
  | succ m ih =>
    intro N F acc x4 υ hs hN hF ha
    obtain ⟨F, rfl⟩ : ∃ G, F = G + 1 := ⟨F - 1, by omega⟩
    obtain ⟨υ', b, q1, q2, q3⟩ := s_tn h2 h6 hR.2.1 hs (by omega)
    rcases q3 with ⟨a1, a2, a3⟩ | ⟨a1, a2⟩
    · subst a2
      rw [ways_step hB hR h2 hk hs x x4 acc F (by omega), q1, bnd_s]
      rw [filt_len, List.range'_succ (n := m + 1)]
      by_cases g : gdlk pt k n N = true
      · obtain ⟨υ2, p1, p2⟩ := ih (N + 1) F (acc + 1) (fnx n x acc x4 (some N)) υ' a3 (by omega) (by omega) (by omega)
        refine ⟨υ2, ?_, p2⟩
        rw [if_pos g, if_pos g, p1, List.find?_cons_of_pos g, fnx_s, show acc + 1 + ((List.range' (N + 1) (m + 1)).filter (gdlk pt k n)).length = acc + (1 + ((List.range' (N + 1) (m + 1)).filter (gdlk pt k n)).length) by omega]
      · obtain ⟨υ2, p1, p2⟩ := ih (N + 1) F acc x4 υ' a3 (by omega) (by omega) (by omega)
        refine ⟨υ2, ?_, p2⟩
        rw [if_neg g, if_neg g, List.find?_cons_of_neg g, Nat.zero_add]
        exact p1
    · omega
theorem gl_like {pt : Nat → Nat → Option Nat} {k n : Nat} : (gl n).filter (likeB pt k n) = (List.range' 0 (n ^ n)).filter (gdlk pt k n) := by
  rw [gl_is, List.filter_filter]
  rfl
theorem gl_find {pt : Nat → Nat → Option Nat} {k n : Nat} : (gl n).find? (likeB pt k n) = (List.range' 0 (n ^ n)).find? (gdlk pt k n) := by
  rw [gl_is, List.find?_filter]
  congr 1
  funext N
  unfold gdlk
  rw [Bool.and_comm]
  cases goodN n N <;> cases likeB pt k n N <;> rfl
theorem pr_ways {σ ρ : my_M} (h : Rel σ ρ) (x y : Int32) : ∃ (r : Int32) (σ1 ρ1 : my_M), f_X8_ways σ x y = some (r, σ1) ∧ f_X9_ways ρ x y = some (r, ρ1) ∧ Rel σ1 ρ1 := by
  obtain ⟨⟨c, n, kd, pt, a, sw, sm, sh, b, rh, rw_, rl, rg, rv, hB, hC, hR, aB, aC, aR, dB, dC, dR, hS, hG, hT⟩, hF⟩ := id h
  have hN := NF_big
  have h4 := hB.1
  have h6 := hB.2.1
  by_cases hk : iv x 0 ((c : Int) - 1)
  · obtain ⟨k, hk', rfl⟩ := cal hk
    have nk : ¬ ¬ iv (nI k) 0 ((c : Int) - 1) := fun q => q hk
    have hk4 : k < 4 := by omega
    have h2 : 2 ≤ n := hB.2.2.2.2.1 (by omega)
    by_cases hy : iv y (-1) 5
    · have pb := pow_b h6
      have pp : 0 < n ^ n := Nat.pow_pos (by omega)
      have l := gl_len ⟨n, by omega⟩
      simp only at l
      obtain ⟨τ, m1, m2, m3, m4⟩ := s_make hG h2 h6
      have hC' : ChC c n kd pt τ := ChC_f h4 hC (fun j _ _ => m2 j (by omega))
      obtain ⟨υ, f1, f2⟩ := s_tf h6 ρ
      obtain ⟨υ', r1, r2⟩ := g_ways hB hR h2 hk' y (n ^ n - 1) 0 my_NF 0 (-9) υ f2 (by omega) (by omega) (by omega)
      rw [nI_0, Nat.zero_add, show n ^ n - 1 + 1 = n ^ n by omega, ← gl_like, ← gl_find] at r1
      have eR : f_X9_ways ρ (nI k) y = some (if 0 ≤ y then fnx n y 0 (-9) ((gl n).find? (likeB pt k n)) else nI ((gl n).filter (likeB pt k n)).length, υ') := by
        rw [← r1]
        simp only [f_X9_ways, s_noCaller hR.1 h4, bnd_s, bI_f nk, e00, if_true, s_inI, u_m1, u_5, bI_t hy, e10, if_false, f1]
      have R := Rel_R5 (Rel_make h h2 h6 m2 m3 m4) r2
      refine ⟨_, τ, υ', ?_, eR, R⟩
      by_cases y1 : y = -1
      · have eL := g_cntL hB hC' h2 m3 m4 hk' (gl n).length 0 my_NF 0 (by omega) (by omega)
        rw [nI_0, Nat.zero_add, List.drop_zero] at eL
        have fL : f_X3_countLike τ (7 + k) = _ := eL
        have n0 : ¬ (0 : Int32) ≤ y := by rw [y1]; decide
        rw [if_neg n0]
        simp only [f_X8_ways, s_has hC.1 h4, bnd_s, bI_t hk, e10, if_false, s_W, t_m1, t_5, bI_t hy, hC.2.1, m1, if_pos (ixN hk4 (by omega)), q_clamp (show k < 2 ^ 31 by omega), if_pos y1, fL]
      · have y0 : 0 ≤ y := by
          have z1 := hy.1
          rw [q_eq, t_m1] at y1
          rw [q_le, t_0]
          omega
        have z1 := y0
        rw [q_le, t_0] at z1
        obtain ⟨b, hb, rfl⟩ := q_of (c := 6) z1 (by have := hy.2; omega)
        have eL := g_fstL hB hC' h2 m3 m4 hk' (gl n).length 0 my_NF (by omega) (by omega)
        rw [nI_0, List.drop_zero] at eL
        have fL : f_X3_firstLike τ (7 + k) = _ := eL
        rw [if_pos y0]
        simp only [f_X8_ways, s_has hC.1 h4, bnd_s, bI_t hk, e10, if_false, s_W, t_m1, t_5, bI_t hy, hC.2.1, m1, if_pos (ixN hk4 (by omega)), q_clamp (show k < 2 ^ 31 by omega), if_neg y1, fL]
        cases (gl n).find? (likeB pt k n) with
        | none =>
          rw [show fnx n (nI b) 0 (-9) none = -9 from if_pos rfl]
          simp only [fnd, s_pitchOf9, bnd_s]
        | some N =>
          rw [show fnx n (nI b) 0 (-9) (some N) = dgt n (nI b) (-9) N from if_pos rfl]
          by_cases bn : b < n
          · rw [show dgt n (nI b) (-9) N = _ from if_pos (calN bn (by omega)), q_clamp (by omega)]
            simp only [fnd, s_pitchOf (show 0 < n by omega) h6 m3 bn, bnd_s]
          · have w : ¬ iv (nI b) 0 ((n : Int) - 1) := by
              intro q
              have q2 := q.2
              rw [q_n (by omega)] at q2
              omega
            rw [show dgt n (nI b) (-9) N = -9 from if_neg w]
            simp only [fnd, s_pitchOfN (show 0 < n by omega) h6 m3 bn (show b < 100 by omega), bnd_s]
    · refine ⟨-2, σ, ρ, ?_, ?_, h⟩
      · simp only [f_X8_ways, s_has hC.1 h4, bnd_s, bI_t hk, e10, if_false, s_W, t_m1, t_5, bI_f hy, e00, if_true]
      · simp only [f_X9_ways, s_noCaller hR.1 h4, bnd_s, bI_f nk, e00, if_true, s_inI, u_m1, u_5, bI_f hy]
  · refine ⟨-1, σ, ρ, ?_, ?_, h⟩
    · simp only [f_X8_ways, s_has hC.1 h4, bnd_s, bI_f hk, e00, if_true]
    · simp only [f_X9_ways, s_noCaller hR.1 h4, bnd_s, bI_t hk, e10, if_false]
