def numN (n : Nat) (t : Nat → Nat) : Nat → Nat
  | 0 => 0
  | d + 1 => numN n t d * n + t d
theorem num_lt {n : Nat} {t : Nat → Nat} : ∀ d, (∀ i, i < d → t i < n) → numN n t d < n ^ d
  | 0, _ => Nat.one_pos
  | d + 1, h => by
    have h1 := num_lt d (fun i hi => h i (by omega))
    have h2 := h d (by omega)
    rw [numN, Nat.pow_succ]
    have h3 : (numN n t d + 1) * n ≤ n ^ d * n := Nat.mul_le_mul_right n h1
    rw [Nat.succ_mul] at h3
    omega
theorem num_dig {n : Nat} {t : Nat → Nat} : ∀ d, (∀ i, i < d → t i < n) → ∀ i, i < d → pdr n d (numN n t d) i = t i
  | 0, _, i, hi => by omega
  | d + 1, h, i, hi => by
    rw [numN]
    by_cases e : i = d
    · subst e; rw [pdr_last (h i (by omega))]
    · rw [pdr_app (h d (by omega)) (by omega)]
      exact num_dig d (fun i hi => h i (by omega)) i (by omega)
theorem cdn_mono {n : Nat} (h2 : 0 < n) (h6 : n ≤ 6) : ∀ (d N M : Nat), M < n ^ d → N < M → cdn n d N < cdn n d M := by
  intro d
  induction d with
  | zero => intro N M hM hN; rw [Nat.pow_zero] at hM; omega
  | succ d ih =>
    intro N M hM hN
    have m1 := Nat.mod_lt N h2
    have m2 := Nat.mod_lt M h2
    have d1 := Nat.div_add_mod N n
    have d2 := Nat.div_add_mod M n
    have hd : N / n ≤ M / n := Nat.div_le_div_right (by omega)
    rw [cdn, cdn]
    by_cases e : N / n = M / n
    · rw [e] at d1 ⊢
      omega
    · have := ih (N / n) (M / n) (by rw [Nat.div_lt_iff_lt_mul h2, ← Nat.pow_succ]; exact hM) (by omega)
      omega
def dgo (n : Nat) (x : Int32) (o : Option Nat) : Int32 := match o with
  | none => -9
  | some N => dgt n x (-9) N
theorem next_end {n N : Nat} {ρ υ : my_M} (h6 : n ≤ 6) (hn : ρ 0 2 = nI n) (hs : St n N ρ υ) (x : Int32) : (my_bnd (f_X9_noBeat υ x) fun r4 σ4 => (if r4 = 0 then (if my_ix x (my_len layR 5) then some ((σ4 5 (Int32.toNatClampNeg x)), σ4) else none) else some ((-9), σ4))) = some (dgt n x (-9) N, υ) := by
  rw [s_noBeat (show υ 0 2 = nI n by rw [hs.1 0 (by omega)]; exact hn) h6, bnd_s]
  by_cases w : iv x 0 ((n : Int) - 1)
  · obtain ⟨b, hb, rfl⟩ := cal w
    rw [bI_f (fun q => q w), if_pos rfl, show dgt n (nI b) (-9) N = _ from if_pos w, lenR_5, if_pos (ixN (show b < 6 by omega) (by omega)), q_clamp (show b < 2 ^ 31 by omega), hs.2 b hb]
  · rw [bI_t w, if_neg (by decide), show dgt n x (-9) N = -9 from if_neg w]
theorem g_next {n : Nat} {ρ : my_M} (h2 : 2 ≤ n) (h6 : n ≤ 6) (hn : ρ 0 2 = nI n) (x : Int32) : ∀ (m N F : Nat) (υ : my_M), St n N ρ υ → N + m + 1 = n ^ n → m + 2 ≤ F → ∃ υ', g_X9_next F υ x 1 = some (dgo n x ((List.range' N (m + 1)).find? (goodN n)), υ') ∧ ∀ j, j ≠ 5 → υ' j = ρ j := by
  intro m
  induction m with
  | zero =>
    intro N F υ hs hN hF
    obtain ⟨F, rfl⟩ : ∃ G, F = G + 1 := ⟨F - 1, by omega⟩
    obtain ⟨F, rfl⟩ : ∃ G, F = G + 1 := ⟨F - 1, by omega⟩
    rw [List.range'_succ, List.range'_zero]
    by_cases g : goodN n N = true
    · refine ⟨υ, ?_, hs.1⟩
      rw [List.find?_cons_of_pos g, show dgo n x (some N) = dgt n x (-9) N from rfl, ← next_end h6 hn hs x]
      simp only [gs_X9_next, b_X9_next_0, e10, if_false, s_goodSt h2 h6 hn hs, bnd_s, bI_t g]
    · obtain ⟨υ', b, q1, q2, q3⟩ := s_tn h2 h6 hn hs (by omega)
      rcases q3 with ⟨a1, -, -⟩ | ⟨a1, a2⟩
      · omega
      · subst a2
        refine ⟨υ', ?_, q2⟩
        rw [List.find?_cons_of_neg g, List.find?_nil]
        simp only [gs_X9_next, b_X9_next_0, e10, if_false, s_goodSt h2 h6 hn hs, bnd_s, bI_f g, e00, if_true, q1, dgo]
  | succ m ih =>
    intro N F υ hs hN hF
    obtain ⟨F, rfl⟩ : ∃ G, F = G + 1 := ⟨F - 1, by omega⟩
    rw [List.range'_succ]
    by_cases g : goodN n N = true
    · refine ⟨υ, ?_, hs.1⟩
      rw [List.find?_cons_of_pos g, show dgo n x (some N) = dgt n x (-9) N from rfl, ← next_end h6 hn hs x]
      simp only [gs_X9_next, b_X9_next_0, e10, if_false, s_goodSt h2 h6 hn hs, bnd_s, bI_t g]
    · obtain ⟨υ', b, q1, q2, q3⟩ := s_tn h2 h6 hn hs (by omega)
      rcases q3 with ⟨a1, a2, a3⟩ | ⟨a1, a2⟩
      · subst a2
        obtain ⟨υ2, p1, p2⟩ := ih (N + 1) F υ' a3 (by omega) (by omega)
        refine ⟨υ2, ?_, p2⟩
        rw [List.find?_cons_of_neg g, ← p1]
        simp only [gs_X9_next, b_X9_next_0, e10, if_false, s_goodSt h2 h6 hn hs, bnd_s, bI_f g, e00, if_true, q1]
      · omega
theorem gl_beh {n N0 : Nat} (h2 : 0 < n) (h6 : n ≤ 6) (h0 : N0 < n ^ n) : (gl n).find? (behB n (cdn n n N0)) = (List.range' (N0 + 1) (n ^ n - (N0 + 1))).find? (goodN n) := by
  rw [gl_is, List.find?_filter, show n ^ n = (N0 + 1) + (n ^ n - (N0 + 1)) by omega, ← List.range'_append_1, List.find?_append]
  have e1 : (List.range' 0 (N0 + 1)).find? (fun a => goodN n a && behB n (cdn n n N0) a) = none := by
    rw [List.find?_eq_none]
    intro N hN
    rw [List.mem_range'_1] at hN
    have hb : behB n (cdn n n N0) N = false := by
      refine decide_eq_false (fun z => ?_)
      by_cases e : N = N0
      · rw [e] at z; omega
      · have := cdn_mono h2 h6 n N N0 h0 (by omega)
        omega
    rw [hb, Bool.and_false]
    exact Bool.false_ne_true
  have key : ∀ l : List Nat, (∀ N ∈ l, N0 < N ∧ N < n ^ n) → l.find? (fun a => goodN n a && behB n (cdn n n N0) a) = l.find? (goodN n) := by
    intro l
    induction l with
    | nil => intro _; rfl
    | cons N l ih =>
      intro h
      have hN := h N (List.mem_cons_self ..)
      have hb : behB n (cdn n n N0) N = true := decide_eq_true (cdn_mono h2 h6 n N0 N hN.2 hN.1)
      have ih' := ih (fun M hM => h M (List.mem_cons_of_mem _ hM))
      rw [List.find?_cons, List.find?_cons, hb, Bool.and_true, ih']
  have e2 := key (List.range' (0 + (N0 + 1)) (n ^ n - (N0 + 1))) (fun N hN => by
    rw [List.mem_range'_1] at hN
    omega)
  have e1' : (List.range' 0 (N0 + 1)).find? (fun a => decide (goodN n a = true ∧ behB n (cdn n n N0) a = true)) = none := by
    rw [← e1]
    congr 1
    funext a
    cases goodN n a <;> cases behB n (cdn n n N0) a <;> rfl
  have e2' : (List.range' (0 + (N0 + 1)) (n ^ n - (N0 + 1))).find? (fun a => decide (goodN n a = true ∧ behB n (cdn n n N0) a = true)) = (List.range' (0 + (N0 + 1)) (n ^ n - (N0 + 1))).find? (goodN n) := by
    rw [← e2]
    congr 1
    funext a
    cases goodN n a <;> cases behB n (cdn n n N0) a <;> rfl
  first
    | rw [e1, e2, Option.none_or, Nat.zero_add]
    | rw [e1', e2', Option.none_or, Nat.zero_add]
  rw [Nat.add_sub_cancel_left]
theorem pr_next {σ ρ : my_M} (h : Rel σ ρ) (x y : Int32) : ∃ (r : Int32) (σ1 ρ1 : my_M), f_X8_next σ x y = some (r, σ1) ∧ f_X9_next ρ x y = some (r, ρ1) ∧ Rel σ1 ρ1 := by
  obtain ⟨⟨c, n, kd, pt, a, sw, sm, sh, b, rh, rw_, rl, rg, rv, hB, hC, hR, aB, aC, aR, dB, dC, dR, hS, hG, hT⟩, hF⟩ := id h
  have hN := NF_big
  have h4 := hB.1
  have h6 := hB.2.1
  by_cases hk : iv x 0 ((c : Int) - 1)
  · obtain ⟨k, hk', rfl⟩ := cal hk
    have nk : ¬ ¬ iv (nI k) 0 ((c : Int) - 1) := fun q => q hk
    have hk4 : k < 4 := by omega
    have h2 : 2 ≤ n := hB.2.2.2.2.1 (by omega)
    by_cases hy : iv y 0 5
    · obtain ⟨b, hb, rfl⟩ := iv_nat (m := 5) hy
      have fl := fcnt_le (pt k) n 0
      by_cases f0 : fcnt (pt k) 0 n = 0
      · have hp : ∀ i, i < n → pt k i ≠ none := fun i hi => (fcnt_0 (pt k) n 0).mp f0 i (by omega) (by omega)
        have pb := pow_b h6
        have ht : ∀ i, i < n → ptN pt k i < n := fun i hi => ptN_lt hB hk' hi (hp i hi)
        have nl := num_lt (n := n) n ht
        have nd := num_dig (n := n) n ht
        have l := gl_len ⟨n, by omega⟩
        simp only at l
        obtain ⟨τ, m1, m2, m3, m4⟩ := s_make hG h2 h6
        have hC' : ChC c n kd pt τ := ChC_f h4 hC (fun j _ _ => m2 j (by omega))
        have ec := s_code (σ := τ) (A := 7 + k) (n := n) (t := ptN pt k) (lenC_p hk4) h6 m3 (fun i hi => by rw [hC'.2.2.2 k hk' i hi, enc_ptN (hp i hi)]) (fun i hi => by have := ht i hi; omega)
        rw [cdu_congr n (u := pdr n n (numN n (ptN pt k) n)) (fun j hj => (nd j hj).symm), cdu_cdn] at ec
        have eb := g_beh (n := n) (σ := τ) (by omega) h6 m4 (cdn_b (show 0 < n by omega) h6 (numN n (ptN pt k) n)) (gl n).length 0 my_NF (by omega) (by omega)
        rw [nI_0, List.drop_zero, gl_beh (by omega) h6 nl] at eb
        have fb : f_X3_firstBehind τ (7 + k) = some (fnd n ((List.range' (numN n (ptN pt k) n + 1) (n ^ n - (numN n (ptN pt k) n + 1))).find? (goodN n)), τ) := by
          unfold f_X3_firstBehind
          rw [ec, bnd_s]
          exact eb
        obtain ⟨υ, u1, u2, u3⟩ := s_those hB hR hk'
        have st : St n (numN n (ptN pt k) n) ρ υ := ⟨u2, fun i hi => by rw [u3 i hi, enc_ptN (hp i hi), nd i hi]⟩
        obtain ⟨υ1, bb, q1, q2, q3⟩ := s_tn h2 h6 hR.2.1 st nl
        have R1 := Rel_make h h2 h6 m2 m3 m4
        have eC : f_X8_next σ (nI k) (nI b) = some (dgo n (nI b) ((List.range' (numN n (ptN pt k) n + 1) (n ^ n - (numN n (ptN pt k) n + 1))).find? (goodN n)), τ) := by
          simp only [f_X8_next, s_has hC.1 h4, bnd_s, bI_t hk, e10, if_false, s_W, t_0, t_5, bI_t hy, if_pos (ixN hk4 (by omega)), q_clamp (show k < 2 ^ 31 by omega), hC.2.1, s_free_C hB hC hk', f0, if_pos (show nI 0 ≤ 0 by decide), m1, fb]
          cases (List.range' (numN n (ptN pt k) n + 1) (n ^ n - (numN n (ptN pt k) n + 1))).find? (goodN n) with
          | none => simp only [fnd, s_pitchOf9, bnd_s, dgo]
          | some M =>
            rw [show dgo n (nI b) (some M) = dgt n (nI b) (-9) M from rfl]
            by_cases bn : b < n
            · rw [show dgt n (nI b) (-9) M = _ from if_pos (calN bn (by omega)), q_clamp (by omega)]
              simp only [fnd, s_pitchOf (show 0 < n by omega) h6 m3 bn, bnd_s]
            · have w : ¬ iv (nI b) 0 ((n : Int) - 1) := by
                intro q
                have q2 := q.2
                rw [q_n (by omega)] at q2
                omega
              rw [show dgt n (nI b) (-9) M = -9 from if_neg w]
              simp only [fnd, s_pitchOfN (show 0 < n by omega) h6 m3 bn (show b < 100 by omega), bnd_s]
        have eR0 : f_X9_next ρ (nI k) (nI b) = g_X9_next my_NF υ1 (nI b) bb := by
          simp only [f_X9_next, s_noCaller hR.1 h4, bnd_s, bI_f nk, e00, if_true, s_inI, u_0, u_5, bI_t hy, e10, if_false, s_free_R hB hR hk', f0, if_pos (show nI 0 ≤ 0 by decide), u1, q1]
        rw [eC, eR0]
        rcases q3 with ⟨a1, a2, a3⟩ | ⟨a1, a2⟩
        · subst a2
          obtain ⟨υ2, p1, p2⟩ := g_next h2 h6 hR.2.1 (nI b) (n ^ n - (numN n (ptN pt k) n + 1) - 1) (numN n (ptN pt k) n + 1) my_NF υ1 a3 (by omega) (by omega)
          rw [show n ^ n - (numN n (ptN pt k) n + 1) - 1 + 1 = n ^ n - (numN n (ptN pt k) n + 1) by omega] at p1
          exact ⟨_, τ, υ2, rfl, p1, Rel_R5 R1 p2⟩
        · subst a2
          rw [show n ^ n - (numN n (ptN pt k) n + 1) = 0 by omega, List.range'_zero, List.find?_nil]
          refine ⟨-9, τ, υ1, rfl, ?_, Rel_R5 R1 q2⟩
          obtain ⟨F, hF⟩ : ∃ G, my_NF = G + 1 := ⟨my_NF - 1, by omega⟩
          rw [hF]
          simp only [gs_X9_next, b_X9_next_0, if_true]
      · have f1 : ¬ nI (fcnt (pt k) 0 n) ≤ 0 := by
          rw [← nI_0, nIle (by omega) (by omega)]
          omega
        refine ⟨-3, σ, ρ, ?_, ?_, h⟩
        · simp only [f_X8_next, s_has hC.1 h4, bnd_s, bI_t hk, e10, if_false, s_W, t_0, t_5, bI_t hy, if_pos (ixN hk4 (by omega)), q_clamp (show k < 2 ^ 31 by omega), hC.2.1, s_free_C hB hC hk', if_neg f1]
        · simp only [f_X9_next, s_noCaller hR.1 h4, bnd_s, bI_f nk, e00, if_true, s_inI, u_0, u_5, bI_t hy, e10, if_false, s_free_R hB hR hk', if_neg f1]
    · refine ⟨-2, σ, ρ, ?_, ?_, h⟩
      · simp only [f_X8_next, s_has hC.1 h4, bnd_s, bI_t hk, e10, if_false, s_W, t_0, t_5, bI_f hy, e00, if_true]
      · simp only [f_X9_next, s_noCaller hR.1 h4, bnd_s, bI_f nk, e00, if_true, s_inI, u_0, u_5, bI_f hy]
  · refine ⟨-1, σ, ρ, ?_, ?_, h⟩
    · simp only [f_X8_next, s_has hC.1 h4, bnd_s, bI_f hk, e00, if_true]
    · simp only [f_X9_next, s_noCaller hR.1 h4, bnd_s, bI_t hk, e10, if_false]
