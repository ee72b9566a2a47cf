theorem pow_b {n : Nat} (h6 : n ≤ 6) : n ^ n ≤ 46656 := by
  have h : ∀ n : Fin 7, n.1 ^ n.1 ≤ 46656 := by decide
  exact h ⟨n, by omega⟩
theorem filt_len {p : Nat → Bool} {N m : Nat} : ((List.range' N (m + 1)).filter p).length = (if p N = true then 1 else 0) + ((List.range' (N + 1) m).filter p).length := by
  rw [List.range'_succ, List.filter_cons]
  split
  · rw [List.length_cons, Nat.add_comm]
  · rw [Nat.zero_add]
theorem acc_if (acc : Nat) (b : Bool) : nI acc + (if bI (b = true) = 0 then 0 else 1) = nI (acc + if b = true then 1 else 0) := by
  cases b with
  | true => rw [bI_t rfl, if_neg (by decide), if_pos rfl, nI_p1]
  | false => rw [bI_f Bool.false_ne_true, if_pos rfl, if_neg Bool.false_ne_true, ← nI_0, nI_add]
theorem g_rows {n : Nat} {ρ : my_M} (h2 : 2 ≤ n) (h6 : n ≤ 6) (hn : ρ 0 2 = nI n) : ∀ (m N F acc : Nat) (υ : my_M), St n N ρ υ → N + m + 1 = n ^ n → m + 2 ≤ F → ∃ υ', g_X9_rows F υ (nI acc) 1 = some (nI (acc + ((List.range' N (m + 1)).filter (goodN n)).length), υ') ∧ ∀ j, j ≠ 5 → υ' j = ρ j := by
  intro m
  induction m with
  | zero =>
    intro N F acc υ hs hN hF
    obtain ⟨F, rfl⟩ : ∃ G, F = G + 1 := ⟨F - 1, by omega⟩
    obtain ⟨F, rfl⟩ : ∃ G, F = G + 1 := ⟨F - 1, by omega⟩
    obtain ⟨υ', b, q1, q2, q3⟩ := s_tn h2 h6 hn hs (by omega)
    rcases q3 with ⟨a1, -, -⟩ | ⟨a1, a2⟩
    · omega
    · subst a2
      refine ⟨υ', ?_, q2⟩
      rw [filt_len, List.range'_zero, List.filter_nil, List.length_nil]
      simp only [Nat.add_zero, gs_X9_rows, b_X9_rows_0, e10, if_false, s_goodSt h2 h6 hn hs, bnd_s, q1, acc_if, if_true]
  | succ m ih =>
    intro N F acc υ hs hN hF
    obtain ⟨F, rfl⟩ : ∃ G, F = G + 1 := ⟨F - 1, by omega⟩
    obtain ⟨υ', b, q1, q2, q3⟩ := s_tn h2 h6 hn hs (by omega)
    rcases q3 with ⟨a1, a2, a3⟩ | ⟨a1, a2⟩
    · subst a2
      obtain ⟨υ2, p1, p2⟩ := ih (N + 1) F (acc + if goodN n N = true then 1 else 0) υ' a3 (by omega) (by omega)
      refine ⟨υ2, ?_, p2⟩
      rw [filt_len, ← Nat.add_assoc, ← p1]
      simp only [gs_X9_rows, b_X9_rows_0, e10, if_false, s_goodSt h2 h6 hn hs, bnd_s, q1, acc_if]
    · omega
theorem pr_rows {σ ρ : my_M} (h : Rel σ ρ) : ∃ (r : Int32) (σ1 ρ1 : my_M), f_X8_rows σ = some (r, σ1) ∧ f_X9_rows ρ = some (r, ρ1) ∧ Rel σ1 ρ1 := by
  obtain ⟨⟨c, n, kd, pt, a, sw, sm, sh, b, rh, rw_, rl, rg, rv, hB, hC, hR, aB, aC, aR, dB, dC, dR, hS, hG, hT⟩, hF⟩ := id h
  have hN := NF_big
  have h4 := hB.1
  have h6 := hB.2.1
  by_cases c0 : c = 0
  · have c1 : nI c = 0 := by rw [c0]; exact nI_0
    refine ⟨-3, σ, ρ, ?_, ?_, h⟩
    · simp only [f_X8_rows, hC.1, if_pos c1]
    · simp only [f_X9_rows, hR.1, if_pos c1]
  · have c1 : ¬ nI c = 0 := by rw [← nI_0, nI_inj (by omega) (by omega)]; exact c0
    have h2 : 2 ≤ n := hB.2.2.2.2.1 (by omega)
    have pb := pow_b h6
    have pp : 0 < n ^ n := Nat.pow_pos (by omega)
    obtain ⟨τ, m1, m2, m3, m4⟩ := s_make hG h2 h6
    obtain ⟨υ, f1, f2⟩ := s_tf h6 ρ
    obtain ⟨υ', r1, r2⟩ := g_rows h2 h6 hR.2.1 (n ^ n - 1) 0 my_NF 0 υ f2 (by omega) (by omega)
    rw [nI_0, Nat.zero_add, show n ^ n - 1 + 1 = n ^ n by omega, ← gl_is] at r1
    refine ⟨nI (gl n).length, τ, υ', ?_, ?_, Rel_R5 (Rel_make h h2 h6 m2 m3 m4) r2⟩
    · simp only [f_X8_rows, hC.1, if_neg c1, hC.2.1, m1, bnd_s, m4.1]
    · simp only [f_X9_rows, hR.1, if_neg c1, f1, bnd_s, r1]
/-! a code's pitches -/
theorem cdn_dig {n : Nat} (h2 : 0 < n) (h6 : n ≤ 6) : ∀ (d P i : Nat), i < d → cdn n d P / 8 ^ (d - 1 - i) % 8 = pdr n d P i := by
  intro d
  induction d with
  | zero => intro P i hi; omega
  | succ d ih =>
    intro P i hi
    have ml := Nat.mod_lt P h2
    rw [cdn, pdr]
    by_cases e : i = d
    · subst e
      rw [if_pos rfl, show i + 1 - 1 - i = 0 by omega, Nat.pow_zero, Nat.div_one]
      omega
    · rw [if_neg e, ← ih (P / n) i (by omega), show d + 1 - 1 - i = d - 1 - i + 1 by omega, Nat.pow_succ, Nat.mul_comm (8 ^ (d - 1 - i)) 8, ← Nat.div_div_eq_div_mul, show (cdn n d (P / n) * 8 + P % n) / 8 = cdn n d (P / n) by omega]
theorem cdn_lt8 {n : Nat} (h2 : 0 < n) (h6 : n ≤ 6) : ∀ (d P : Nat), cdn n d P < 8 ^ d := by
  intro d
  induction d with
  | zero => intro P; exact Nat.one_pos
  | succ d ih =>
    intro P
    have ml := Nat.mod_lt P h2
    have := ih (P / n)
    rw [cdn, Nat.pow_succ]
    omega
theorem cdn_b {n : Nat} (h2 : 0 < n) (h6 : n ≤ 6) (P : Nat) : cdn n n P < 262144 := by
  have a := cdn_lt8 h2 h6 n P
  have h : ∀ n : Fin 7, 8 ^ n.1 ≤ 262144 := by decide
  have b := h ⟨n, by omega⟩
  simp only at b
  omega
theorem sh_amt16 {j : Nat} (hj : j < 16) : (nI j &&& 31).toBitVec.smod 32 = BitVec.ofNat 32 j := by
  have h : ∀ j : Fin 16, (nI j.1 &&& 31).toBitVec.smod 32 = BitVec.ofNat 32 j.1 := by decide +kernel
  exact h ⟨j, hj⟩
theorem shr_n {C s : Nat} (hC : C < 262144) (hs : s < 16) : nI C >>> (nI s &&& 31) = nI (C / 2 ^ s) := by
  apply Int32.toBitVec_inj.mp
  rw [Int32.toBitVec_shiftRight, sh_amt16 hs]
  have e : (BitVec.ofNat 32 s).toNat = s := by rw [BitVec.toNat_ofNat]; exact Nat.mod_eq_of_lt (by omega)
  have eC : (nI C).toBitVec = BitVec.ofNat 32 C := rfl
  have tC : (BitVec.ofNat 32 C).toNat = C := by rw [BitVec.toNat_ofNat]; exact Nat.mod_eq_of_lt (by omega)
  rw [BitVec.sshiftRight', e, eC, BitVec.sshiftRight_eq_of_msb_false (by rw [BitVec.msb_eq_false_iff_two_mul_lt, tC]; omega)]
  show _ = BitVec.ofNat 32 (C / 2 ^ s)
  apply BitVec.eq_of_toNat_eq
  have dl := Nat.div_le_self C (2 ^ s)
  rw [BitVec.toNat_ushiftRight, tC, BitVec.toNat_ofNat, Nat.shiftRight_eq_div_pow, Nat.mod_eq_of_lt (by omega)]
theorem and7 {C : Nat} : nI C &&& 7 = nI (C % 8) := by
  rw [show (7 : Int32) = nI 7 by decide, nI_and]
  congr 1
  exact Nat.and_two_pow_sub_one_eq_mod C 3
theorem s_pitchOf {σ : my_M} {n N b : Nat} (h2 : 0 < n) (h6 : n ≤ 6) (hn : σ 27 0 = nI n) (hb : b < n) : f_X3_pitchOf σ (nI (cdn n n N)) (nI b) = some (nI (pdr n n N b), σ) := by
  have cb := cdn_b h2 h6 N
  have n9 : ¬ nI (cdn n n N) = -9 := by rw [q_eq, q_n (by omega), t_m9]; omega
  have e1 : (3 : Int32) * (nI n - 1 - nI b) = nI (3 * (n - 1 - b)) := by
    rw [nI_lit1, nI_sub (by omega) (by omega), nI_sub (by omega) (by omega), show (3 : Int32) = nI 3 by decide, pk_mul]
  have dg := cdn_dig h2 h6 n N b hb
  have e2 : 2 ^ (3 * (n - 1 - b)) = 8 ^ (n - 1 - b) := by rw [Nat.pow_mul]
  simp only [f_X3_pitchOf, if_neg n9, hn, nIlt (show b < 2 ^ 31 by omega) (show n < 2 ^ 31 by omega), if_pos hb, e1, shr_n cb (show 3 * (n - 1 - b) < 16 by omega), and7, e2, dg]
theorem s_pitchOf9 {σ : my_M} (b : Int32) : f_X3_pitchOf σ (-9) b = some (-9, σ) := by
  simp only [f_X3_pitchOf, if_true]
theorem s_pitchOfN {σ : my_M} {n N b : Nat} (h2 : 0 < n) (h6 : n ≤ 6) (hn : σ 27 0 = nI n) (hb : ¬ b < n) (hb6 : b < 100) : f_X3_pitchOf σ (nI (cdn n n N)) (nI b) = some (-9, σ) := by
  have cb := cdn_b h2 h6 N
  have n9 : ¬ nI (cdn n n N) = -9 := by rw [q_eq, q_n (by omega), t_m9]; omega
  simp only [f_X3_pitchOf, if_neg n9, hn, nIlt (show b < 2 ^ 31 by omega) (show n < 2 ^ 31 by omega), if_neg hb]
/-! rows like the caller's -/
def likB (pt : Nat → Nat → Option Nat) (k n N : Nat) (i : Nat) : Bool := decide (pt k i = none ∨ pt k i = some (pdr n n N i))
def likeB (pt : Nat → Nat → Option Nat) (k n N : Nat) : Bool := soB (likB pt k n N) n 0
theorem g_like {c n : Nat} {kd : Nat → Nat} {pt : Nat → Nat → Option Nat} {σ : my_M} (hB : ChB c n kd pt) (hC : ChC c n kd pt σ) (h2 : 2 ≤ n) (hn : σ 27 0 = nI n) {k N : Nat} (hk : k < c) : ∀ (r i F : Nat), i + r = n → r < F → g_X3_isLike F σ (nI (cdn n n N)) (7 + k) (nI i) = some (bI (soB (likB pt k n N) r i = true), σ) := by
  have h4 := hB.1
  have h6 := hB.2.1
  have lA := lenC_p (show k < 4 by omega)
  intro r
  induction r with
  | zero =>
    intro i F hi hF
    obtain rfl : i = n := by omega
    obtain ⟨F, rfl⟩ : ∃ G, F = G + 1 := ⟨F - 1, by omega⟩
    rw [bI_t (show soB _ 0 i = true from rfl)]
    simp only [gs_X3_isLike, b_X3_isLike_0, hn, if_pos (show nI i ≤ nI i from Int32.le_refl _)]
  | succ r ih =>
    intro i F hi hF
    obtain ⟨F, rfl⟩ : ∃ G, F = G + 1 := ⟨F - 1, by omega⟩
    have hv := hB.2.2.2.1 k hk i (by omega)
    have hp := hC.2.2.2 k hk i (by omega)
    have pl := pdr_lt (show 0 < n by omega) n N i
    have ih' := ih (i + 1) F (by omega) (by omega)
    cases hq : pt k i with
    | none =>
      rw [bI_soB (show likB pt k n N i = true from decide_eq_true (Or.inl hq)), ← ih']
      simp only [gs_X3_isLike, b_X3_isLike_0, hn, nIle (show n < 2 ^ 31 by omega) (show i < 2 ^ 31 by omega), if_neg (show ¬ n ≤ i by omega), lA, if_pos (ixN (show i < 6 by omega) (by omega)), q_clamp (show i < 2 ^ 31 by omega), hp, enc_m1 hv h6, if_pos hq, nI_p1]
    | some v =>
      have hv' := hv v hq
      have hp' : σ (7 + k) i = nI v := by rw [hp, hq]; rfl
      have n1 : ¬ nI v = -1 := by
        rw [← hp', hp, enc_m1 hv h6, hq]
        simp
      simp only [gs_X3_isLike, b_X3_isLike_0, hn, nIle (show n < 2 ^ 31 by omega) (show i < 2 ^ 31 by omega), if_neg (show ¬ n ≤ i by omega), lA, if_pos (ixN (show i < 6 by omega) (by omega)), q_clamp (show i < 2 ^ 31 by omega), hp', if_neg n1, s_pitchOf (show 0 < n by omega) h6 hn (show i < n by omega), bnd_s, nI_inj (show v < 2 ^ 31 by omega) (show pdr n n N i < 2 ^ 31 by omega), nI_p1]
      by_cases e : v = pdr n n N i
      · rw [if_pos e, ih', bI_soB (show likB pt k n N i = true from decide_eq_true (Or.inr (by rw [hq, e])))]
      · rw [if_neg e, bI_f]
        rw [soB_f (show likB pt k n N i = false from decide_eq_false (fun z => by
          rcases z with z | z
          · rw [hq] at z; cases z
          · rw [hq] at z; cases z; exact e rfl))]
        exact Bool.false_ne_true
theorem s_like2 {c n : Nat} {kd : Nat → Nat} {pt : Nat → Nat → Option Nat} {σ : my_M} (hB : ChB c n kd pt) (hC : ChC c n kd pt σ) (h2 : 2 ≤ n) (hn : σ 27 0 = nI n) {k : Nat} (hk : k < c) (N : Nat) : f_X3_isLike σ (nI (cdn n n N)) (7 + k) = some (bI (likeB pt k n N = true), σ) := by
  have hN := NF_big
  have h6 := hB.2.1
  have e := g_like hB hC h2 hn (N := N) hk n 0 my_NF (by omega) (by omega)
  rw [nI_0] at e
  exact e
theorem drop_c {L : List Nat} {r : Nat} (h : r < L.length) : L.drop r = L.getD r 0 :: L.drop (r + 1) := by
  rw [List.drop_eq_getElem_cons h, List.getD_eq_getElem?_getD, List.getElem?_eq_getElem h]
  rfl
theorem g_cntL {c n : Nat} {kd : Nat → Nat} {pt : Nat → Nat → Option Nat} {σ : my_M} (hB : ChB c n kd pt) (hC : ChC c n kd pt σ) (h2 : 2 ≤ n) (hn : σ 27 0 = nI n) (hL : Cod n (gl n) σ) {k : Nat} (hk : k < c) : ∀ (m r F acc : Nat), r + m = (gl n).length → m < F → g_X3_countLike F σ (7 + k) (nI acc) (nI r) = some (nI (acc + (((gl n).drop r).filter (likeB pt k n)).length), σ) := by
  have h6 := hB.2.1
  have l := gl_len ⟨n, by omega⟩
  simp only at l
  intro m
  induction m with
  | zero =>
    intro r F acc hr hF
    obtain ⟨F, rfl⟩ : ∃ G, F = G + 1 := ⟨F - 1, by omega⟩
    rw [List.drop_eq_nil_of_le (by omega), List.filter_nil, List.length_nil]
    simp only [Nat.add_zero, gs_X3_countLike, b_X3_countLike_0, hL.1, nIle (show (gl n).length < 2 ^ 31 by omega) (show r < 2 ^ 31 by omega), if_pos (show (gl n).length ≤ r by omega)]
  | succ m ih =>
    intro r F acc hr hF
    obtain ⟨F, rfl⟩ : ∃ G, F = G + 1 := ⟨F - 1, by omega⟩
    have ih' := fun a => ih (r + 1) F a (by omega) (by omega)
    rw [drop_c (show r < (gl n).length by omega), List.filter_cons]
    simp only [gs_X3_countLike, b_X3_countLike_0, hL.1, nIle (show (gl n).length < 2 ^ 31 by omega) (show r < 2 ^ 31 by omega), if_neg (show ¬ (gl n).length ≤ r by omega), lenC_28, if_pos (ixN (show r < 116 by omega) (by omega)), q_clamp (show r < 2 ^ 31 by omega), hL.2 r (by omega), s_like2 hB hC h2 hn hk, bnd_s, nI_p1]
    by_cases q : likeB pt k n ((gl n).getD r 0) = true
    · rw [bI_t q, if_neg (by decide), if_pos q, ih' (acc + 1), List.length_cons, show acc + 1 + (((gl n).drop (r + 1)).filter (likeB pt k n)).length = acc + ((((gl n).drop (r + 1)).filter (likeB pt k n)).length + 1) by omega]
    · rw [bI_f q, if_pos rfl, if_neg q, ih' acc]
def fnd (n : Nat) (o : Option Nat) : Int32 := match o with
  | none => -9
  | some N => nI (cdn n n N)
theorem g_fstL {c n : Nat} {kd : Nat → Nat} {pt : Nat → Nat → Option Nat} {σ : my_M} (hB : ChB c n kd pt) (hC : ChC c n kd pt σ) (h2 : 2 ≤ n) (hn : σ 27 0 = nI n) (hL : Cod n (gl n) σ) {k : Nat} (hk : k < c) : ∀ (m r F : Nat), r + m = (gl n).length → m < F → g_X3_firstLike F σ (7 + k) (nI r) = some (fnd n (((gl n).drop r).find? (likeB pt k n)), σ) := by
  have h6 := hB.2.1
  have l := gl_len ⟨n, by omega⟩
  simp only at l
  intro m
  induction m with
  | zero =>
    intro r F hr hF
    obtain ⟨F, rfl⟩ : ∃ G, F = G + 1 := ⟨F - 1, by omega⟩
    rw [List.drop_eq_nil_of_le (by omega), List.find?_nil]
    simp only [gs_X3_firstLike, b_X3_firstLike_0, hL.1, nIle (show (gl n).length < 2 ^ 31 by omega) (show r < 2 ^ 31 by omega), if_pos (show (gl n).length ≤ r by omega), fnd]
  | succ m ih =>
    intro r F hr hF
    obtain ⟨F, rfl⟩ : ∃ G, F = G + 1 := ⟨F - 1, by omega⟩
    have ih' := ih (r + 1) F (by omega) (by omega)
    rw [drop_c (show r < (gl n).length by omega)]
    simp only [gs_X3_firstLike, b_X3_firstLike_0, hL.1, nIle (show (gl n).length < 2 ^ 31 by omega) (show r < 2 ^ 31 by omega), if_neg (show ¬ (gl n).length ≤ r by omega), lenC_28, if_pos (ixN (show r < 116 by omega) (by omega)), q_clamp (show r < 2 ^ 31 by omega), hL.2 r (by omega), s_like2 hB hC h2 hn hk, bnd_s, nI_p1]
    by_cases q : likeB pt k n ((gl n).getD r 0) = true
    · rw [bI_t q, if_neg (by decide), List.find?_cons_of_pos q]
      rfl
    · rw [bI_f q, if_pos rfl, List.find?_cons_of_neg q, ih']
def behB (n C N : Nat) : Bool := decide (C < cdn n n N)
theorem g_beh {n : Nat} {σ : my_M} (h2 : 0 < n) (h6 : n ≤ 6) (hL : Cod n (gl n) σ) {C : Nat} (hC : C < 262144) : ∀ (m r F : Nat), r + m = (gl n).length → m < F → g_X3_firstBehind F σ (nI C) (nI r) = some (fnd n (((gl n).drop r).find? (behB n C)), σ) := by
  have l := gl_len ⟨n, by omega⟩
  simp only at l
  intro m
  induction m with
  | zero =>
    intro r F hr hF
    obtain ⟨F, rfl⟩ : ∃ G, F = G + 1 := ⟨F - 1, by omega⟩
    rw [List.drop_eq_nil_of_le (by omega), List.find?_nil]
    simp only [gs_X3_firstBehind, b_X3_firstBehind_0, hL.1, nIle (show (gl n).length < 2 ^ 31 by omega) (show r < 2 ^ 31 by omega), if_pos (show (gl n).length ≤ r by omega), fnd]
  | succ m ih =>
    intro r F hr hF
    obtain ⟨F, rfl⟩ : ∃ G, F = G + 1 := ⟨F - 1, by omega⟩
    have ih' := ih (r + 1) F (by omega) (by omega)
    have cb := cdn_b h2 h6 ((gl n).getD r 0)
    rw [drop_c (show r < (gl n).length by omega)]
    simp only [gs_X3_firstBehind, b_X3_firstBehind_0, hL.1, nIle (show (gl n).length < 2 ^ 31 by omega) (show r < 2 ^ 31 by omega), if_neg (show ¬ (gl n).length ≤ r by omega), lenC_28, if_pos (ixN (show r < 116 by omega) (by omega)), q_clamp (show r < 2 ^ 31 by omega), hL.2 r (by omega), nIle (show cdn n n ((gl n).getD r 0) < 2 ^ 31 by omega) (show C < 2 ^ 31 by omega), nI_p1]
    by_cases q : C < cdn n n ((gl n).getD r 0)
    · rw [if_neg (by omega), List.find?_cons_of_pos (show behB n C ((gl n).getD r 0) = true from decide_eq_true q)]
      rfl
    · rw [if_pos (by omega), List.find?_cons_of_neg (show ¬ behB n C ((gl n).getD r 0) = true from fun z => q (of_decide_eq_true z)), ih']
