/-! bits of what sounds -/
theorem sh_amt {j : Nat} (hj : j < 12) : (nI j &&& 31).toBitVec.smod 32 = BitVec.ofNat 32 j := by
  have h : ∀ j : Fin 12, (nI j.1 &&& 31).toBitVec.smod 32 = BitVec.ofNat 32 j.1 := by decide +kernel
  exact h ⟨j, hj⟩
def bt (x : Int32) (j : Nat) : Bool := x.toBitVec.getLsbD j
theorem and1 (y : BitVec 32) : y &&& 1#32 = 1#32 ↔ y.getLsbD 0 = true := by
  constructor
  · intro h
    have h2 := congrArg (fun b => b.getLsbD 0) h
    simpa using h2
  · intro h
    apply BitVec.eq_of_getLsbD_eq
    intro i hi
    rw [BitVec.getLsbD_and]
    by_cases e : i = 0
    · subst e; rw [h]; rfl
    · have e1 : (1#32).getLsbD i = false := by
        rw [BitVec.getLsbD_one]
        simp [e]
      rw [e1, Bool.and_false]
theorem bt_iff (x : Int32) {j : Nat} (hj : j < 12) : ((x >>> (nI j &&& 31)) &&& 1 = 1) ↔ bt x j = true := by
  rw [← Int32.toBitVec_inj, Int32.toBitVec_and, Int32.toBitVec_shiftRight, sh_amt hj]
  show (x.toBitVec.sshiftRight' (BitVec.ofNat 32 j)) &&& 1#32 = 1#32 ↔ _
  rw [and1]
  unfold bt
  have e : (BitVec.ofNat 32 j).toNat = j := by rw [BitVec.toNat_ofNat]; exact Nat.mod_eq_of_lt (by omega)
  rw [BitVec.sshiftRight', e, BitVec.getLsbD_sshiftRight]
  simp
  omega
theorem bt_near (x : Int32) {j : Nat} (hj : j < 6) : (((((x <<< (1 &&& 31)) ||| (x >>> (1 &&& 31))) >>> (nI j &&& 31)) &&& 1) = 1) ↔ ((decide (1 ≤ j) && bt x (j - 1)) || bt x (j + 1)) = true := by
  rw [bt_iff _ (by omega)]
  unfold bt
  have e1 : (1 &&& 31 : Int32).toBitVec.smod 32 = 1#32 := by decide
  have e2 : (1#32).toNat = 1 := by decide
  rw [Int32.toBitVec_or, Int32.toBitVec_shiftLeft, Int32.toBitVec_shiftRight, e1, BitVec.getLsbD_or, BitVec.sshiftRight', e2, BitVec.getLsbD_sshiftRight, BitVec.shiftLeft_eq', e2, BitVec.getLsbD_shiftLeft]
  have h1 : decide (j < 32) = true := by simp; omega
  have h2 : decide (32 ≤ j) = false := by simp; omega
  have h3 : 1 + j < 32 := by omega
  rw [h1, h2, if_pos h3, Bool.true_and, Bool.not_false, Bool.true_and, Nat.add_comm 1 j]
  by_cases q : j < 1
  · simp [q]; omega
  · have j1 : 1 ≤ j := by omega
    have j0 : ¬ j = 0 := by omega
    simp [j1, j0]
def cF (kd : Nat) (h nr : Bool) : Nat := if kd = 0 then h.toNat else if kd = 1 then (h || nr).toNat else if h then 2 else nr.toNat
theorem s_cnt {σ : my_M} {k kd : Nat} (hk : k < 4) (e : σ (3 + k) 0 = nI kd) (hd : kd ≤ 2) {p q : Prop} [Decidable p] [Decidable q] {h nr : Bool} (hp : p ↔ h = true) (hq : q ↔ nr = true) : f_X1_counted σ k (if p then 1 else 0) (if q then 1 else 0) = some (nI (cF kd h nr), σ) := by
  have d : kd = 0 ∨ kd = 1 ∨ kd = 2 := by omega
  unfold f_X1_counted cF
  rw [if_pos hk, e]
  cases h with
  | true =>
    have hp1 : p := hp.mpr rfl
    rw [if_pos hp1]
    cases nr with
    | true =>
      rw [if_pos (hq.mpr rfl)]
      rcases d with rfl | rfl | rfl <;> rfl
    | false =>
      rw [if_neg (fun z => Bool.false_ne_true (hq.mp z))]
      rcases d with rfl | rfl | rfl <;> rfl
  | false =>
    rw [if_neg (fun z => Bool.false_ne_true (hp.mp z))]
    cases nr with
    | true =>
      rw [if_pos (hq.mpr rfl)]
      rcases d with rfl | rfl | rfl <;> rfl
    | false =>
      rw [if_neg (fun z => Bool.false_ne_true (hq.mp z))]
      rcases d with rfl | rfl | rfl <;> rfl
def stp (c : Int32) (b : Bool) (acc : Int32) : Int32 := if b = true then (if c ≤ acc then acc else c) else if 0 ≤ acc then acc else 0
def cA (kd p : Nat) (x : Int32) : Nat → Nat → Int32 → Int32
  | 0, _, acc => acc
  | r + 1, j, acc => cA kd p x r (j + 1) (stp (cntd kd ((p : Int) - (j : Int))) (bt x j) acc)
theorem cntd_far {kd : Nat} {d : Int} (h : d < -1 ∨ 1 < d) : cntd kd d = 0 := by
  unfold cntd
  rw [bI_f (by omega), bI_f (by omega), if_neg (show ¬ d = 0 by omega)]
  split
  · rfl
  · split <;> rfl
theorem stp_far {kd : Nat} {d : Int} {b : Bool} {acc : Int32} (h : d < -1 ∨ 1 < d) (ha : 0 ≤ acc) : stp (cntd kd d) b acc = acc := by
  unfold stp
  rw [cntd_far h, if_pos ha]
  split <;> rfl
theorem cA_tail {kd p : Nat} {x : Int32} : ∀ (r j : Nat) (acc : Int32), p + 1 < j → 0 ≤ acc → cA kd p x r j acc = acc := by
  intro r
  induction r with
  | zero => intro j acc _ _; rfl
  | succ r ih =>
    intro j acc hj ha
    rw [cA, stp_far (by omega) ha]
    exact ih (j + 1) acc (by omega) ha
theorem cA_head {kd p : Nat} {x : Int32} (r : Nat) : ∀ (m j : Nat) (acc : Int32), j + m + 1 ≤ p → 0 ≤ acc → cA kd p x (m + r) j acc = cA kd p x r (j + m) acc := by
  intro m
  induction m with
  | zero => intro j acc _ _; rw [Nat.zero_add]; rfl
  | succ m ih =>
    intro j acc hj ha
    rw [show m + 1 + r = (m + r) + 1 by omega, cA, stp_far (by omega) ha, ih (j + 1) acc (by omega) ha, show j + 1 + m = j + (m + 1) by omega]
theorem stp_all : ∀ (kd : Fin 3) (b1 b0 b2 : Bool), 0 ≤ stp (cntd kd.1 (-1)) b2 (stp (cntd kd.1 0) b0 (stp (cntd kd.1 1) b1 0)) ∧ stp (cntd kd.1 (-1)) b2 (stp (cntd kd.1 0) b0 (stp (cntd kd.1 1) b1 0)) = nI (cF kd.1 b0 (b1 || b2)) := by decide +kernel
theorem stp_two : ∀ (kd : Fin 3) (b0 b2 : Bool), 0 ≤ stp (cntd kd.1 (-1)) b2 (stp (cntd kd.1 0) b0 0) ∧ stp (cntd kd.1 (-1)) b2 (stp (cntd kd.1 0) b0 0) = nI (cF kd.1 b0 b2) := by decide +kernel
theorem cA_is {kd p : Nat} {x : Int32} (hk : kd ≤ 2) (hp : p < 6) : cA kd p x 12 0 0 = nI (cF kd (bt x p) ((decide (1 ≤ p) && bt x (p - 1)) || bt x (p + 1))) := by
  by_cases p0 : p = 0
  · subst p0
    obtain ⟨a1, a2⟩ := stp_two ⟨kd, by omega⟩ (bt x 0) (bt x 1)
    rw [cA, cA, show ((0 : Nat) : Int) - ((0 : Nat) : Int) = 0 by omega, show ((0 : Nat) : Int) - ((0 + 1 : Nat) : Int) = -1 by omega, cA_tail 10 _ _ (by omega) a1, a2]
    rfl
  · obtain ⟨q, rfl⟩ : ∃ q, p = q + 1 := ⟨p - 1, by omega⟩
    obtain ⟨a1, a2⟩ := stp_all ⟨kd, by omega⟩ (bt x q) (bt x (q + 1)) (bt x (q + 1 + 1))
    rw [show 12 = q + ((9 - q) + 3) by omega, cA_head _ q 0 0 (by omega) (by decide), Nat.zero_add, cA, cA, cA, show ((q + 1 : Nat) : Int) - (q : Int) = 1 by omega, show ((q + 1 : Nat) : Int) - ((q + 1 : Nat) : Int) = 0 by omega, show ((q + 1 : Nat) : Int) - ((q + 1 + 1 : Nat) : Int) = -1 by omega, cA_tail _ _ _ (by omega) a1, a2, Nat.add_sub_cancel, decide_eq_true (show 1 ≤ q + 1 by omega), Bool.true_and]
theorem g_cAll {c n : Nat} {kd : Nat → Nat} {pt : Nat → Nat → Option Nat} {ρ : my_M} (hB : ChB c n kd pt) (hR : ChR c n kd pt ρ) {k p : Nat} (hk : k < c) (hp : p < 6) (x : Int32) : ∀ (r j F : Nat) (acc : Int32), j + r = 12 → r < F → g_X9_countsOfAll F ρ (nI k) (nI p) x acc (nI j) = some (cA (kd k) p x r j acc, ρ) := by
  have h4 := hB.1
  intro r
  induction r with
  | zero =>
    intro j F acc hj hF
    obtain rfl : j = 12 := by omega
    obtain ⟨F, rfl⟩ : ∃ G, F = G + 1 := ⟨F - 1, by omega⟩
    simp only [gs_X9_countsOfAll, b_X9_countsOfAll_0, if_pos (show (12 : Int32) ≤ nI 12 by decide), cA]
  | succ r ih =>
    intro j F acc hj hF
    obtain ⟨F, rfl⟩ : ∃ G, F = G + 1 := ⟨F - 1, by omega⟩
    have n12 : ¬ (12 : Int32) ≤ nI j := by rw [show (12 : Int32) = nI 12 by decide, nIle (by omega) (by omega)]; omega
    have ih' := ih (j + 1) F (stp (cntd (kd k) ((p : Int) - (j : Int))) (bt x j) acc) (by omega) (by omega)
    refine Eq.trans ?_ ih'
    have tp := q_n (show p < 2 ^ 31 by omega)
    have tj := q_n (show j < 2 ^ 31 by omega)
    have hc := s_counts (show k < 4 by omega) (hR.2.2.1 k hk) (hB.2.2.1 k hk) (nI p) (nI j) (by show -1000 ≤ (nI p).toInt ∧ (nI p).toInt ≤ 1000; rw [tp]; omega) (by show -1000 ≤ (nI j).toInt ∧ (nI j).toInt ≤ 1000; rw [tj]; omega)
    rw [tp, tj] at hc
    simp only [gs_X9_countsOfAll, b_X9_countsOfAll_0, if_neg n12, hc, bnd_s, nI_p1]
    unfold stp
    by_cases hb : bt x j = true
    · rw [if_pos ((bt_iff x (by omega)).mpr hb), if_pos hb]
      split <;> rfl
    · rw [if_neg (fun z => hb ((bt_iff x (by omega)).mp z)), if_neg hb]
      split <;> rfl
theorem s_cAll {c n : Nat} {kd : Nat → Nat} {pt : Nat → Nat → Option Nat} {ρ : my_M} (hB : ChB c n kd pt) (hR : ChR c n kd pt ρ) {k p : Nat} (hk : k < c) (hp : p < 6) (x : Int32) : f_X9_countsOfAll ρ (nI k) (nI p) x = some (nI (cF (kd k) (bt x p) ((decide (1 ≤ p) && bt x (p - 1)) || bt x (p + 1))), ρ) := by
  have hN := NF_big
  unfold f_X9_countsOfAll
  rw [← cA_is (hB.2.2.1 k hk) hp, ← g_cAll hB hR hk hp x 12 0 my_NF 0 (by omega) (by omega), nI_0]
