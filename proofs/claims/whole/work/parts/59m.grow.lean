/-! the class grows its rows -/
def cdu (t : Nat → Nat) : Nat → Nat
  | 0 => 0
  | i + 1 => cdu t i * 8 + t i
theorem cdu_lt {t : Nat → Nat} : ∀ i, (∀ j, j < i → t j < 8) → cdu t i < 8 ^ i
  | 0, _ => by rw [cdu]; decide
  | i + 1, h => by
    have h1 := cdu_lt i (fun j hj => h j (by omega))
    have h2 := h i (by omega)
    rw [cdu, Nat.pow_succ]
    omega
theorem cdu_congr {t u : Nat → Nat} : ∀ i, (∀ j, j < i → t j = u j) → cdu t i = cdu u i
  | 0, _ => rfl
  | i + 1, h => by rw [cdu, cdu, h i (by omega), cdu_congr i (fun j hj => h j (by omega))]
theorem cdu_cdn {n : Nat} : ∀ d P, cdu (pdr n d P) d = cdn n d P
  | 0, _ => rfl
  | d + 1, P => by
    rw [cdu, cdn, ← cdu_cdn d (P / n), cdu_congr d (u := pdr n d (P / n)) (fun j hj => by rw [pdr, if_neg (by omega)]), pdr, if_pos rfl]
theorem pow8 {i : Nat} (hi : i ≤ 5) : 8 ^ i ≤ 32768 := by
  have h : ∀ i : Fin 6, 8 ^ i.1 ≤ 32768 := by decide
  exact h ⟨i, by omega⟩
theorem shl3 {C v : Nat} (hC : C < 32768) (hv : v < 8) : (nI C <<< (3 &&& 31)) ||| nI v = nI (C * 8 + v) := by
  have e : nI C <<< (3 &&& 31) = nI (C * 8) := by
    apply Int32.toBitVec_inj.mp
    rw [Int32.toBitVec_shiftLeft]
    have a1 : (3 &&& 31 : Int32).toBitVec.smod 32 = 3#32 := by decide
    rw [a1]
    show BitVec.ofNat 32 C <<< 3#32 = BitVec.ofNat 32 (C * 8)
    apply BitVec.eq_of_toNat_eq
    rw [BitVec.shiftLeft_eq', BitVec.toNat_shiftLeft, BitVec.toNat_ofNat, BitVec.toNat_ofNat, BitVec.toNat_ofNat, show 3 % 2 ^ 32 = 3 by decide, Nat.shiftLeft_eq]
    omega
  rw [e, nI_or]
  congr 1
  have := Nat.shiftLeft_add_eq_or_of_lt (i := 3) (b := v) (by omega) C
  rw [Nat.shiftLeft_eq, show (2 : Nat) ^ 3 = 8 by decide] at this
  omega
theorem g_code {σ : my_M} {A n : Nat} {t : Nat → Nat} (lA : my_len layC A = 6) (h6 : n ≤ 6) (hn : σ 27 0 = nI n) (hA : ∀ i, i < n → σ A i = nI (t i)) (ht : ∀ i, i < n → t i < 8) : ∀ (r i F : Nat), i + r = n → r < F → g_X3_codeOf F σ A (nI (cdu t i)) (nI i) = some (nI (cdu t n), σ) := by
  intro r
  induction r with
  | zero =>
    intro i F hi hF
    obtain rfl : i = n := by omega
    obtain ⟨F, rfl⟩ : ∃ G, F = G + 1 := ⟨F - 1, by omega⟩
    simp only [gs_X3_codeOf, b_X3_codeOf_0, hn, if_pos (show nI i ≤ nI i from Int32.le_refl _)]
  | succ r ih =>
    intro i F hi hF
    obtain ⟨F, rfl⟩ : ∃ G, F = G + 1 := ⟨F - 1, by omega⟩
    have c1 := cdu_lt (t := t) i (fun j hj => ht j (by omega))
    have c2 := pow8 (show i ≤ 5 by omega)
    have ih' := ih (i + 1) F (by omega) (by omega)
    refine Eq.trans ?_ ih'
    simp only [gs_X3_codeOf, b_X3_codeOf_0, hn, nIle (show n < 2 ^ 31 by omega) (show i < 2 ^ 31 by omega), if_neg (show ¬ n ≤ i by omega), lA, if_pos (ixN (show i < 6 by omega) (by omega)), q_clamp (show i < 2 ^ 31 by omega), hA i (by omega), shl3 (show cdu t i < 32768 by omega) (ht i (by omega)), nI_p1, cdu]
theorem s_code {σ : my_M} {A n : Nat} {t : Nat → Nat} (lA : my_len layC A = 6) (h6 : n ≤ 6) (hn : σ 27 0 = nI n) (hA : ∀ i, i < n → σ A i = nI (t i)) (ht : ∀ i, i < n → t i < 8) : f_X3_codeOf σ A = some (nI (cdu t n), σ) := by
  have hN := NF_big
  unfold f_X3_codeOf
  rw [← g_code lA h6 hn hA ht n 0 my_NF (by omega) (by omega), nI_0]
  rfl
def Cod (n : Nat) (L : List Nat) (σ : my_M) : Prop := σ 27 1 = nI L.length ∧ ∀ i, i < L.length → σ 28 i = nI (cdn n n (L.getD i 0))
def F3 (σ τ : my_M) : Prop := ∀ j, j < 27 ∨ 30 ≤ j → τ j = σ j
theorem s_keep {σ : my_M} {n P : Nat} {L : List Nat} (h2 : 2 ≤ n) (h6 : n ≤ 6) (hn : σ 27 0 = nI n) (hA : ∀ i, i < n → σ 29 i = nI (pdr n n P i)) (hL : Cod n L σ) (hl : L.length < 116) : ∃ τ, f_X3_keep σ = some ((), τ) ∧ F3 σ τ ∧ τ 27 0 = nI n ∧ (∀ i, τ 29 i = σ 29 i) ∧ Cod n (L ++ [P]) τ := by
  have hc := s_code (σ := σ) (A := 29) (n := n) (t := pdr n n P) lenC_29 h6 hn hA (fun i _ => by have := pdr_lt (show 0 < n by omega) n P i; omega)
  rw [cdu_cdn] at hc
  have n116 : ¬ (116 : Int32) ≤ nI L.length := by rw [show (116 : Int32) = nI 116 by decide, nIle (by omega) (by omega)]; omega
  refine ⟨my_up (my_up σ 28 L.length (nI (cdn n n P))) 27 1 (nI (L.length + 1)), ?_, fun j hj => by rw [up_j (by omega), up_j (by omega)], ?_, fun i => by rw [up_j (by omega), up_j (by omega)], ?_, fun i hi => ?_⟩
  · simp only [f_X3_keep, hL.1, if_neg n116, hc, bnd_s, lenC_28, if_pos (ixN hl (by omega)), q_clamp (show L.length < 2 ^ 31 by omega), up_j (show 27 ≠ 28 by omega), nI_p1]
  · rw [up_i (by omega), up_j (by omega)]; exact hn
  · rw [up_at, List.length_append]; rfl
  · rw [List.length_append] at hi
    have hi' : i < L.length + 1 := hi
    rw [up_j (by omega)]
    by_cases e : i = L.length
    · subst e
      rw [up_at, List.getD_eq_getElem?_getD, List.getElem?_append_right (by omega), Nat.sub_self]
      rfl
    · rw [up_i e, hL.2 i (by omega), List.getD_eq_getElem?_getD, List.getD_eq_getElem?_getD, List.getElem?_append_left (by omega)]
theorem g_grow {n : Nat} (h2 : 2 ≤ n) (h6 : n ≤ 6) : ∀ (r d P G : Nat) (L : List Nat) (σ : my_M), d + r = n → r < G → σ 27 0 = nI n → (∀ i, i < d → σ 29 i = nI (pdr n d P i)) → Cod n L σ → (L ++ Dl n r P d).length ≤ 116 → ∃ τ, f_X3_grow G σ (nI d) = some ((), τ) ∧ F3 σ τ ∧ τ 27 0 = nI n ∧ (∀ i, i < d → τ 29 i = σ 29 i) ∧ Cod n (L ++ Dl n r P d) τ := by
  have hN := NF_big
  intro r
  induction r with
  | zero =>
    intro d P G L σ hd hG hn hA hL hl
    obtain rfl : d = n := by omega
    obtain ⟨G, rfl⟩ : ∃ H, G = H + 1 := ⟨G - 1, by omega⟩
    rw [List.length_append] at hl
    have hl' : L.length + 1 ≤ 116 := hl
    obtain ⟨τ, q1, q2, q3, q4, q5⟩ := s_keep (P := P) h2 h6 hn hA hL (by omega)
    refine ⟨τ, ?_, q2, q3, fun i _ => q4 i, q5⟩
    show b_X3_grow_m (f_X3_grow G) σ (nI d) = _
    simp only [b_X3_grow_m, hn, if_neg (show ¬ nI d < nI d from Int32.lt_irrefl), q1, bnd_s]
  | succ r ih =>
    intro d P G L σ hd hG hn hA hL hl
    obtain ⟨G, rfl⟩ : ∃ H, G = H + 1 := ⟨G - 1, by omega⟩
    have loop : ∀ (m v F : Nat) (L : List Nat) (σ : my_M), v + m = n → m < F → σ 27 0 = nI n → (∀ i, i < d → σ 29 i = nI (pdr n d P i)) → Cod n L σ → (L ++ lstf (fun v => if staysB (pdr n (d + 1) (P * n + v)) d = true then Dl n r (P * n + v) (d + 1) else []) m v).length ≤ 116 → ∃ τ, g_X3_grow (f_X3_grow G) F σ (nI d) (nI v) = some ((), τ) ∧ F3 σ τ ∧ τ 27 0 = nI n ∧ (∀ i, i < d → τ 29 i = σ 29 i) ∧ Cod n (L ++ lstf (fun v => if staysB (pdr n (d + 1) (P * n + v)) d = true then Dl n r (P * n + v) (d + 1) else []) m v) τ := by
      intro m
      induction m with
      | zero =>
        intro v F L σ hv hF hn hA hL hl
        obtain rfl : v = n := by omega
        obtain ⟨F, rfl⟩ : ∃ H, F = H + 1 := ⟨F - 1, by omega⟩
        refine ⟨σ, ?_, fun _ _ => rfl, hn, fun _ _ => rfl, by rw [lstf, List.append_nil]; exact hL⟩
        simp only [gs_X3_grow, b_X3_grow_0, hn, if_pos (show nI v ≤ nI v from Int32.le_refl _)]
      | succ m ihm =>
        intro v F L σ hv hF hn hA hL hl
        obtain ⟨F, rfl⟩ : ∃ H, F = H + 1 := ⟨F - 1, by omega⟩
        have hvn : v < n := by omega
        have hA1 : ∀ i, i ≤ d → my_up σ 29 d (nI v) 29 i = nI (pdr n (d + 1) (P * n + v) i) := by
          intro i hi
          by_cases e : i = d
          · subst e; rw [up_at, pdr_last hvn]
          · rw [up_i e, hA i (by omega), pdr_app hvn (by omega)]
        have hs := s_stays (σ := my_up σ 29 d (nI v)) (A := 29) (j := d) (t := pdr n (d + 1) (P * n + v)) lenC_29 (by omega) hA1 (fun i _ => by have := pdr_lt (show 0 < n by omega) (d + 1) (P * n + v) i; omega)
        have hn1 : my_up σ 29 d (nI v) 27 0 = nI n := by rw [up_j (by omega)]; exact hn
        have hL1 : Cod n L (my_up σ 29 d (nI v)) := ⟨by rw [up_j (by omega)]; exact hL.1, fun i hi => by rw [up_j (by omega)]; exact hL.2 i hi⟩
        have f1 : F3 σ (my_up σ 29 d (nI v)) := fun j hj => up_j (by omega)
        have k1 : ∀ i, i < d → my_up σ 29 d (nI v) 29 i = σ 29 i := fun i hi => up_i (by omega)
        have st : g_X3_grow (f_X3_grow G) (F + 1) σ (nI d) (nI v) = (my_bnd (some (bI (staysB (pdr n (d + 1) (P * n + v)) d = true), my_up σ 29 d (nI v))) fun r2 σ2 => (if r2 = 0 then g_X3_grow (f_X3_grow G) F σ2 (nI d) (nI (v + 1)) else (my_bnd (f_X3_grow G σ2 (nI (d + 1))) fun r3 σ3 => g_X3_grow (f_X3_grow G) F σ3 (nI d) (nI (v + 1))))) := by
          simp only [gs_X3_grow, b_X3_grow_0, hn, nIle (show n < 2 ^ 31 by omega) (show v < 2 ^ 31 by omega), if_neg (show ¬ n ≤ v by omega), lenC_29, if_pos (ixN (show d < 6 by omega) (by omega)), q_clamp (show d < 2 ^ 31 by omega), hs, nI_p1]
        rw [st, bnd_s]
        rw [lstf] at hl ⊢
        by_cases s : staysB (pdr n (d + 1) (P * n + v)) d = true
        · rw [if_pos s] at hl ⊢
          rw [← List.append_assoc] at hl ⊢
          have hl1 : (L ++ Dl n r (P * n + v) (d + 1)).length ≤ 116 := by
            rw [List.length_append] at hl
            omega
          obtain ⟨τ1, a1, a2, a3, a4, a5⟩ := ih (d + 1) (P * n + v) G L (my_up σ 29 d (nI v)) (by omega) (by omega) hn1 (fun i hi => hA1 i (by omega)) hL1 hl1
          obtain ⟨τ, b1, b2, b3, b4, b5⟩ := ihm (v + 1) F (L ++ Dl n r (P * n + v) (d + 1)) τ1 (by omega) (by omega) a3 (fun i hi => by rw [a4 i (by omega), k1 i hi]; exact hA i hi) a5 hl
          refine ⟨τ, ?_, fun j hj => by rw [b2 j hj, a2 j hj, f1 j hj], b3, fun i hi => by rw [b4 i hi, a4 i (by omega), k1 i hi], b5⟩
          rw [bI_t s, if_neg (by decide), a1, bnd_s, b1]
        · rw [if_neg s] at hl ⊢
          rw [List.nil_append] at hl ⊢
          obtain ⟨τ, b1, b2, b3, b4, b5⟩ := ihm (v + 1) F L (my_up σ 29 d (nI v)) (by omega) (by omega) hn1 (fun i hi => by rw [k1 i hi]; exact hA i hi) hL1 hl
          refine ⟨τ, ?_, fun j hj => by rw [b2 j hj, f1 j hj], b3, fun i hi => by rw [b4 i hi, k1 i hi], b5⟩
          rw [bI_f s, if_pos rfl, b1]
    obtain ⟨τ, q1, q2, q3, q4, q5⟩ := loop n 0 my_NF L σ (by omega) (by omega) hn hA hL hl
    refine ⟨τ, ?_, q2, q3, q4, q5⟩
    rw [← q1]
    show b_X3_grow_m (f_X3_grow G) σ (nI d) = _
    rw [nI_0]
    simp only [b_X3_grow_m, hn, nIlt (show d < 2 ^ 31 by omega) (show n < 2 ^ 31 by omega), if_pos (show d < n by omega)]
theorem gl_len : ∀ n : Fin 7, (gl n.1).length ≤ 116 := by decide +kernel
theorem s_make {σ : my_M} {n : Nat} (hG : GdC σ) (h2 : 2 ≤ n) (h6 : n ≤ 6) : ∃ τ, f_X3_makeFor σ (nI n) = some ((), τ) ∧ F3 σ τ ∧ τ 27 0 = nI n ∧ Cod n (gl n) τ := by
  by_cases e : σ 27 0 = nI n
  · refine ⟨σ, ?_, fun _ _ => rfl, e, ?_⟩
    · simp only [f_X3_makeFor, if_pos e]
    · rcases hG with g0 | ⟨g, g2, g6, ge, gc, gd⟩
      · rw [g0, ← nI_0, nI_inj (by omega) (by omega)] at e
        omega
      · rw [ge, nI_inj (by omega) (by omega)] at e
        subst e
        exact ⟨gc, gd⟩
  · have l := gl_len ⟨n, by omega⟩
    obtain ⟨τ, q1, q2, q3, q4, q5⟩ := g_grow h2 h6 n 0 0 8 [] (my_up (my_up σ 27 0 (nI n)) 27 1 0) (by omega) (by omega) (by rw [up_i (by omega), up_at]) (fun i hi => by omega) ⟨by rw [up_at]; exact nI_0.symm, fun i hi => absurd hi (by simp)⟩ (by rw [List.nil_append]; exact l)
    refine ⟨τ, ?_, fun j hj => by rw [q2 j hj, up_j (by omega), up_j (by omega)], q3, by rw [List.nil_append] at q5; exact q5⟩
    rw [nI_0] at q1
    simp only [f_X3_makeFor, if_neg e, if_neg (show ¬ (6 : Int32) < nI n by rw [show (6 : Int32) = nI 6 by decide, nIlt (by omega) (by omega)]; omega), q1, bnd_s]
theorem Rel_make {σ ρ τ : my_M} {n : Nat} (h : Rel σ ρ) (h2 : 2 ≤ n) (h6 : n ≤ 6) (f : F3 σ τ) (e : τ 27 0 = nI n) (c : Cod n (gl n) τ) : Rel τ ρ := by
  refine ⟨RelX_ag h.1 ⟨fun j hj => f j (by omega), by rw [f 0 (by omega)]⟩ (Or.inr ⟨n, h2, h6, e, c.1, c.2⟩) agR_rf, ?_⟩
  rw [f 0 (by omega)]
  exact h.2
