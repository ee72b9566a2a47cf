/-! a good row, on the reference's side -/
def msk (t : Nat → Nat) : Nat → Nat
  | 0 => 0
  | i + 1 => msk t i ||| 2 ^ t i
theorem popc_or : ∀ (M : Fin 64) (p : Fin 6), (M.1 ||| 2 ^ p.1) < 64 ∧ popc 11 (M.1 ||| 2 ^ p.1) = popc 11 M.1 + (if M.1.testBit p.1 = true then 0 else 1) := by decide +kernel
theorem msk_lt {t : Nat → Nat} : ∀ i, (∀ j, j < i → t j < 6) → msk t i < 64
  | 0, _ => by rw [msk]; omega
  | i + 1, h => (popc_or ⟨msk t i, msk_lt i (fun j hj => h j (by omega))⟩ ⟨t i, h i (by omega)⟩).1
theorem msk_bit {t : Nat → Nat} : ∀ i q, (msk t i).testBit q = true ↔ ∃ j, j < i ∧ t j = q
  | 0, q => by
    rw [msk, Nat.zero_testBit]
    exact ⟨fun h => absurd h Bool.false_ne_true, fun ⟨j, h, _⟩ => absurd h (by omega)⟩
  | i + 1, q => by
    rw [msk, Nat.testBit_or, Bool.or_eq_true, msk_bit i q, Nat.testBit_two_pow, decide_eq_true_iff]
    constructor
    · rintro (⟨j, h, e⟩ | e)
      · exact ⟨j, by omega, e⟩
      · exact ⟨i, by omega, e⟩
    · rintro ⟨j, h, e⟩
      by_cases k : j = i
      · subst k; exact Or.inr e
      · exact Or.inl ⟨j, by omega, e⟩
theorem msk_pop {t : Nat → Nat} : ∀ i, (∀ j, j < i → t j < 6) → popc 11 (msk t i) ≤ i ∧ (popc 11 (msk t i) = i ↔ ∀ a b, a < b → b < i → t a ≠ t b)
  | 0, _ => ⟨by rw [msk, popc_0]; omega, by rw [msk, popc_0]; exact ⟨fun _ a b h1 h2 => by omega, fun _ => rfl⟩⟩
  | i + 1, h => by
    obtain ⟨a1, a2⟩ := msk_pop (t := t) i (fun j hj => h j (by omega))
    have e := (popc_or ⟨msk t i, msk_lt i (fun j hj => h j (by omega))⟩ ⟨t i, h i (by omega)⟩).2
    simp only at e
    rw [msk, e]
    by_cases q : (msk t i).testBit (t i) = true
    · rw [if_pos q]
      refine ⟨by omega, ⟨fun z => by omega, fun z => ?_⟩⟩
      obtain ⟨j, hj, ej⟩ := (msk_bit i (t i)).mp q
      exact absurd ej (z j i hj (by omega))
    · rw [if_neg q]
      refine ⟨by omega, ⟨fun z a b h1 h2 => ?_, fun z => ?_⟩⟩
      · by_cases eb : b = i
        · subst eb
          intro w
          exact q ((msk_bit b (t b)).mpr ⟨a, h1, w⟩)
        · exact a2.mp (by omega) a b h1 (by omega)
      · have := a2.mpr (fun a b h1 h2 => z a b h1 (by omega))
        omega
theorem nI_and (a b : Nat) : nI a &&& nI b = nI (a &&& b) := by
  apply Int32.toBitVec_inj.mp
  show BitVec.ofNat 32 a &&& BitVec.ofNat 32 b = BitVec.ofNat 32 (a &&& b)
  exact (BitVec.ofNat_and (x := a) (y := b)).symm
theorem one_shk {k : Nat} (hk : k < 12) : (1 : Int32) <<< (nI k &&& 31) = nI (2 ^ k) := by
  have h : ∀ k : Fin 12, (1 : Int32) <<< (nI k.1 &&& 31) = nI (2 ^ k.1) := by decide +kernel
  exact h ⟨k, hk⟩
theorem g_unl {ρ : my_M} {n : Nat} {t : Nat → Nat} (h6 : n ≤ 6) (hn : ρ 0 2 = nI n) (hA : ∀ i, i < n → ρ 5 i = nI (t i)) (ht : ∀ i, i < n → t i < 6) : ∀ (r i F : Nat), i + r = n → r < F → g_X9_areUnlike F ρ (nI (msk t i)) (nI i) = some (bI (popc 11 (msk t n) = n), ρ) := by
  intro r
  induction r with
  | zero =>
    intro i F hi hF
    obtain rfl : i = n := by omega
    obtain ⟨F, rfl⟩ : ∃ G, F = G + 1 := ⟨F - 1, by omega⟩
    have hm := msk_lt i ht
    have pl := popc_le 11 (msk t i)
    have ec : pcv (nI (msk t i)) = popc 11 (msk t i) := by
      unfold pcv
      rw [q_clamp (by omega)]
    simp only [gs_X9_areUnlike, b_X9_areUnlike_0, hn, if_pos (show nI i ≤ nI i from Int32.le_refl _), s_bits ρ (show sml (nI (msk t i)) from ⟨_, by omega, rfl⟩), bnd_s, ec, nI_inj (show popc 11 (msk t i) < 2 ^ 31 by omega) (show i < 2 ^ 31 by omega)]
    rw [if_pos my_b_if]
    rfl
  | succ r ih =>
    intro i F hi hF
    obtain ⟨F, rfl⟩ : ∃ G, F = G + 1 := ⟨F - 1, by omega⟩
    have ih' := ih (i + 1) F (by omega) (by omega)
    refine Eq.trans ?_ ih'
    simp only [gs_X9_areUnlike, b_X9_areUnlike_0, hn, nIle (show n < 2 ^ 31 by omega) (show i < 2 ^ 31 by omega), if_neg (show ¬ n ≤ i by omega), lenR_5, if_pos (ixN (show i < 6 by omega) (by omega)), q_clamp (show i < 2 ^ 31 by omega), hA i (by omega), one_shk (show t i < 12 by have := ht i (by omega); omega), nI_or, nI_p1, msk]
def dm (t : Nat → Nat) (l : Nat) : Nat → Nat
  | 0 => 0
  | i + 1 => dm t l i ||| 2 ^ (t (i + l) + 6 - t i)
theorem dm_lt {t : Nat → Nat} {l : Nat} : ∀ i, (∀ j, j < i + l → t j < 6) → dm t l i < 2 ^ 12
  | 0, _ => by rw [dm]; decide
  | i + 1, h => by
    rw [dm]
    have h1 := h (i + l) (by omega)
    exact Nat.or_lt_two_pow (dm_lt i (fun j hj => h j (by omega))) (Nat.pow_lt_pow_right (by omega) (by omega))
theorem dm_bit {t : Nat → Nat} {l : Nat} : ∀ i q, (dm t l i).testBit q = true ↔ ∃ j, j < i ∧ t (j + l) + 6 - t j = q
  | 0, q => by
    rw [dm, Nat.zero_testBit]
    exact ⟨fun h => absurd h Bool.false_ne_true, fun ⟨j, h, _⟩ => absurd h (by omega)⟩
  | i + 1, q => by
    rw [dm, Nat.testBit_or, Bool.or_eq_true, dm_bit i q, Nat.testBit_two_pow, decide_eq_true_iff]
    constructor
    · rintro (⟨j, h, e⟩ | e)
      · exact ⟨j, by omega, e⟩
      · exact ⟨i, by omega, e⟩
    · rintro ⟨j, h, e⟩
      by_cases k : j = i
      · subst k; exact Or.inr e
      · exact Or.inl ⟨j, by omega, e⟩
def inB (t : Nat → Nat) (l : Nat) : Nat → Nat → Bool
  | 0, _ => true
  | r + 1, i => !((dm t l i).testBit (t (i + l) + 6 - t i)) && inB t l r (i + 1)
def outB (t : Nat → Nat) (n : Nat) : Nat → Nat → Bool
  | 0, _ => true
  | r + 1, l => inB t l (n - l) 0 && outB t n r (l + 1)
theorem dif6 {a b : Nat} (ha : a < 6) (hb : b < 6) : nI a - nI b + 6 = nI (a + 6 - b) := by
  have e1 := q_n (show a < 2 ^ 31 by omega)
  have e2 := q_n (show b < 2 ^ 31 by omega)
  have e3 : (nI a - nI b).toInt = (a : Int) - b := by rw [q_sub (by rw [e1, e2]; omega) (by rw [e1, e2]; omega), e1, e2]
  rw [q_eq, q_add (by rw [e3, t_6]; omega) (by rw [e3, t_6]; omega), e3, t_6, q_n (by omega)]
  omega
theorem and0 {M k : Nat} (hM : M < 2 ^ 12) (hk : k < 12) : (nI M &&& nI (2 ^ k) = 0) = ¬ (M.testBit k = true) := by
  refine propext ?_
  have h1 : M &&& 2 ^ k < 2 ^ 12 := Nat.lt_of_le_of_lt Nat.and_le_left hM
  rw [nI_and, ← nI_0, nI_inj (by omega) (by omega)]
  constructor
  · intro h w
    have h2 := congrArg (fun z => z.testBit k) h
    simp only [Nat.testBit_and, Nat.zero_testBit, Nat.testBit_two_pow, w, Bool.true_and, decide_true] at h2
    exact absurd h2 (by decide)
  · intro h
    apply Nat.eq_of_testBit_eq
    intro i
    rw [Nat.testBit_and, Nat.zero_testBit, Nat.testBit_two_pow]
    by_cases e : k = i
    · subst e
      rw [Bool.eq_false_iff.mpr h, Bool.false_and]
    · rw [decide_eq_false e, Bool.and_false]
theorem g_in {ρ : my_M} {n : Nat} {t : Nat → Nat} (h6 : n ≤ 6) (hn : ρ 0 2 = nI n) (hA : ∀ i, i < n → ρ 5 i = nI (t i)) (ht : ∀ i, i < n → t i < 6) {l : Nat} (hl : l ≤ n) : ∀ (r i F : Nat) (b : Bool), i + r + l = n → r < F → (g_X9_isGood F).2 ρ (bI (b = true)) (nI l) (nI (dm t l i)) (nI i) = (g_X9_isGood (F - r - 1)).1 ρ (bI ((b && inB t l r i) = true)) (nI (l + 1)) := by
  intro r
  induction r with
  | zero =>
    intro i F b hi hF
    obtain ⟨F, rfl⟩ : ∃ G, F = G + 1 := ⟨F - 1, by omega⟩
    simp only [gs_X9_isGood_1, b_X9_isGood_1, hn, nI_add, nIle (show n < 2 ^ 31 by omega) (show i + l < 2 ^ 31 by omega), if_pos (show n ≤ i + l by omega), nI_p1, Nat.sub_zero, Nat.add_sub_cancel, inB, Bool.and_true]
  | succ r ih =>
    intro i F b hi hF
    obtain ⟨F, rfl⟩ : ∃ G, F = G + 1 := ⟨F - 1, by omega⟩
    rw [show F + 1 - (r + 1) - 1 = F - r - 1 by omega]
    have h1 := ht i (by omega)
    have h2 := ht (i + l) (by omega)
    have hm := dm_lt (t := t) (l := l) i (fun j hj => ht j (by omega))
    have ih' := ih (i + 1) F (b && !((dm t l i).testBit (t (i + l) + 6 - t i))) (by omega) (by omega)
    rw [inB, ← Bool.and_assoc]
    refine Eq.trans ?_ ih'
    simp only [gs_X9_isGood_1, b_X9_isGood_1, hn, nI_add, nIle (show n < 2 ^ 31 by omega) (show i + l < 2 ^ 31 by omega), if_neg (show ¬ n ≤ i + l by omega), lenR_5, if_pos (ixN (show i < 6 by omega) (by omega)), if_pos (ixN (show i + l < 6 by omega) (by omega)), q_clamp (show i < 2 ^ 31 by omega), q_clamp (show i + l < 2 ^ 31 by omega), hA i (by omega), hA (i + l) (by omega), dif6 h2 h1, one_shk (show t (i + l) + 6 - t i < 12 by omega), and0 hm (show t (i + l) + 6 - t i < 12 by omega), nI_or, nI_p1, dm]
    cases b with
    | false =>
      rw [bI_f Bool.false_ne_true, if_pos rfl, bI_f]
      rw [Bool.false_and]
      exact Bool.false_ne_true
    | true =>
      rw [bI_t rfl, if_neg (by decide)]
      by_cases q : (dm t l i).testBit (t (i + l) + 6 - t i) = true
      · rw [if_neg (fun z => z q), bI_f]
        rw [q]
        exact Bool.false_ne_true
      · rw [if_pos q, bI_t]
        rw [Bool.eq_false_iff.mpr q]
        rfl
theorem g_out {ρ : my_M} {n : Nat} {t : Nat → Nat} (h6 : n ≤ 6) (hn : ρ 0 2 = nI n) (hA : ∀ i, i < n → ρ 5 i = nI (t i)) (ht : ∀ i, i < n → t i < 6) : ∀ (r l F : Nat) (b : Bool), l + r = n → r * 8 < F → (g_X9_isGood F).1 ρ (bI (b = true)) (nI l) = some (bI ((b && outB t n r l) = true), ρ) := by
  intro r
  induction r with
  | zero =>
    intro l F b hi hF
    obtain rfl : l = n := by omega
    obtain ⟨F, rfl⟩ : ∃ G, F = G + 1 := ⟨F - 1, by omega⟩
    simp only [gs_X9_isGood_0, b_X9_isGood_0, hn, if_pos (show nI l ≤ nI l from Int32.le_refl _), if_pos bI_b, outB, Bool.and_true]
  | succ r ih =>
    intro l F b hi hF
    obtain ⟨F, rfl⟩ : ∃ G, F = G + 1 := ⟨F - 1, by omega⟩
    cases b with
    | false =>
      simp only [gs_X9_isGood_0, b_X9_isGood_0, hn, nIle (show n < 2 ^ 31 by omega) (show l < 2 ^ 31 by omega), if_neg (show ¬ n ≤ l by omega), bI_f Bool.false_ne_true, e00, if_true, if_pos b00, Bool.false_and]
    | true =>
      have hin := g_in h6 hn hA ht (show l ≤ n by omega) (n - l) 0 F true (by omega) (by omega)
      have hout := ih (l + 1) (F - (n - l) - 1) (true && inB t l (n - l) 0) (by omega) (by omega)
      rw [hout, Bool.and_assoc] at hin
      rw [outB]
      rw [show bI (true = true) = 1 from bI_t rfl] at hin ⊢
      refine Eq.trans ?_ hin
      simp only [gs_X9_isGood_0, b_X9_isGood_0, hn, nIle (show n < 2 ^ 31 by omega) (show l < 2 ^ 31 by omega), if_neg (show ¬ n ≤ l by omega), e10, if_false, dm, nI_0]
theorem inB_iff {t : Nat → Nat} {l : Nat} : ∀ r i, inB t l r i = true ↔ ∀ q, i ≤ q → q < i + r → ∀ j, j < q → t (j + l) + 6 - t j ≠ t (q + l) + 6 - t q := by
  intro r
  induction r with
  | zero => intro i; exact ⟨fun _ q h1 h2 => by omega, fun _ => rfl⟩
  | succ r ih =>
    intro i
    rw [inB, Bool.and_eq_true, ih (i + 1)]
    constructor
    · intro h q h1 h2 j hj e
      by_cases eq : q = i
      · subst eq
        have := (dm_bit (t := t) (l := l) q _).mpr ⟨j, hj, e⟩
        rw [this] at h
        exact Bool.false_ne_true h.1
      · exact h.2 q (by omega) (by omega) j hj e
    · intro h
      refine ⟨?_, fun q h1 h2 => h q (by omega) (by omega)⟩
      rw [Bool.not_eq_true']
      rw [Bool.eq_false_iff]
      intro w
      obtain ⟨j, hj, e⟩ := (dm_bit i _).mp w
      exact h i (by omega) (by omega) j hj e
theorem outB_iff {t : Nat → Nat} {n : Nat} : ∀ r l, l + r = n → (outB t n r l = true ↔ ∀ q, l ≤ q → q < n → ∀ i, i + q < n → ∀ j, j < i → t (j + q) + 6 - t j ≠ t (i + q) + 6 - t i) := by
  intro r
  induction r with
  | zero => intro l hl; exact ⟨fun _ q h1 h2 => by omega, fun _ => rfl⟩
  | succ r ih =>
    intro l hl
    rw [outB, Bool.and_eq_true, ih (l + 1) (by omega), inB_iff]
    constructor
    · intro h q h1 h2 i hi j hj
      by_cases e : q = l
      · subst e; exact h.1 i (by omega) (by omega) j hj
      · exact h.2 q (by omega) h2 i hi j hj
    · intro h
      exact ⟨fun i _ hi j hj => h l (by omega) (by omega) i (by omega) j hj, fun q h1 h2 => h q (by omega) h2⟩
theorem soB_mk {h : Nat → Bool} : ∀ r i, (∀ j, i ≤ j → j < i + r → h j = true) → soB h r i = true := by
  intro r
  induction r with
  | zero => intro i _; rfl
  | succ r ih =>
    intro i hh
    rw [soB, hh i (by omega) (by omega), ih (i + 1) (fun j h1 h2 => hh j (by omega) (by omega))]
    rfl
theorem good_iff {t : Nat → Nat} {n : Nat} (ht : ∀ i, i < n → t i < 6) : ((∀ a b, a < b → b < n → t a ≠ t b) ∧ ∀ q, 1 ≤ q → q < n → ∀ i, i + q < n → ∀ j, j < i → t (j + q) + 6 - t j ≠ t (i + q) + 6 - t i) ↔ soB (staysB t) n 0 = true := by
  constructor
  · rintro ⟨h1, h2⟩
    refine soB_mk n 0 (fun j _ hj => staysB_iff.mpr (fun q q1 q2 => ⟨fun e => h1 (j - q) j (by omega) (by omega) e.symm, fun i i1 i2 e => ?_⟩))
    have w := h2 q q1 (by omega) (j - q) (by omega) (i - q) (by omega)
    rw [show i - q + q = i by omega, show j - q + q = j by omega] at w
    have a1 := ht i (by omega)
    have a2 := ht j (by omega)
    have a3 := ht (i - q) (by omega)
    have a4 := ht (j - q) (by omega)
    omega
  · intro h
    have hs := fun j (hj : j < n) => staysB_iff.mp (soB_all n 0 h j (by omega) (by omega))
    refine ⟨fun a b h1 h2 e => ?_, fun q q1 q2 i hi j hj e => ?_⟩
    · have w := (hs b h2 (b - a) (by omega) (by omega)).1
      rw [show b - (b - a) = a by omega] at w
      exact w e.symm
    · have w := (hs (i + q) hi q q1 (by omega)).2 (j + q) (by omega) (by omega)
      rw [show i + q - q = i by omega, show j + q - q = j by omega] at w
      have a1 := ht i (by omega)
      have a2 := ht j (by omega)
      have a3 := ht (i + q) (by omega)
      have a4 := ht (j + q) (by omega)
      omega
theorem s_goodR {ρ : my_M} {n : Nat} {t : Nat → Nat} (h1 : 1 ≤ n) (h6 : n ≤ 6) (hn : ρ 0 2 = nI n) (hA : ∀ i, i < n → ρ 5 i = nI (t i)) (ht : ∀ i, i < n → t i < 6) : f_X9_isGood ρ = some (bI (soB (staysB t) n 0 = true), ρ) := by
  have hN := NF_big
  have eu := g_unl h6 hn hA ht n 0 my_NF (by omega) (by omega)
  have eu' : f_X9_areUnlike ρ = some (bI (popc 11 (msk t n) = n), ρ) := by
    unfold f_X9_areUnlike
    rw [← eu, nI_0]
    rfl
  have hb : ∀ b : Bool, _ := fun b => g_out h6 hn hA ht (n - 1) 1 my_NF b (by omega) (by omega)
  have hp := (msk_pop n ht).2
  have ho := outB_iff (t := t) (n := n) (n - 1) 1 (by omega)
  have hg := good_iff (n := n) ht
  unfold f_X9_isGood
  rw [eu', bnd_s]
  by_cases p : popc 11 (msk t n) = n
  · have e := hb true
    rw [bI_t rfl, Bool.true_and] at e
    rw [bI_t p, nI_lit1]
    rw [nI_lit1] at e
    rw [e]
    by_cases o : outB t n (n - 1) 1 = true
    · rw [bI_t o, bI_t (hg.mp ⟨hp.mp p, ho.mp o⟩)]
    · rw [bI_f o, bI_f (fun z => o (ho.mpr (hg.mpr z).2))]
  · have e := hb false
    rw [bI_f Bool.false_ne_true] at e
    rw [bI_f p, nI_lit1, e, bI_f, bI_f (fun z => p (hp.mpr (hg.mpr z).1))]
    rw [Bool.false_and]
    exact Bool.false_ne_true
