/-! THE RELATION of the two memories -/
def enc (f : Int32) (o : Option Nat) : Int32 := match o with
  | none => f
  | some v => nI v
def ChB (c n : Nat) (kd : Nat → Nat) (pt : Nat → Nat → Option Nat) : Prop := c ≤ 4 ∧ n ≤ 6 ∧ (∀ k, k < c → kd k ≤ 2) ∧ (∀ k, k < c → ∀ i, i < n → ∀ v, pt k i = some v → v < n) ∧ (0 < c → 2 ≤ n) ∧ (c = 0 → n = 0)
def ChC (c n : Nat) (kd : Nat → Nat) (pt : Nat → Nat → Option Nat) (σ : my_M) : Prop := σ 1 1 = nI c ∧ σ 1 2 = nI n ∧ (∀ k, k < c → σ (3 + k) 0 = nI (kd k)) ∧ ∀ k, k < c → ∀ i, i < n → σ (7 + k) i = enc (-1) (pt k i)
def ChR (c n : Nat) (kd : Nat → Nat) (pt : Nat → Nat → Option Nat) (ρ : my_M) : Prop := ρ 0 1 = nI c ∧ ρ 0 2 = nI n ∧ (∀ k, k < c → ρ 1 k = nI (kd k)) ∧ ∀ k, k < c → ∀ i, i < n → ρ 2 (6 * k + i) = enc (-9) (pt k i)
def AiB (c a : Nat) (sw sm sh : Nat → Nat) : Prop := a ≤ 8 ∧ ∀ s, s < a → sw s < c ∧ sm s ≤ 20 ∧ sh s ≤ 5
def AiC (a : Nat) (sw sm sh : Nat → Nat) (e : Nat) (σ : my_M) : Prop := σ (11 + 5 * e) 0 = nI a ∧ ∀ s, s < a → σ (12 + 5 * e) s = nI (sw s) ∧ σ (13 + 5 * e) s = nI (sm s) ∧ σ (14 + 5 * e) s = nI (sh s)
def AiR (a : Nat) (sw sm sh : Nat → Nat) (ρ : my_M) : Prop := ρ 0 11 = nI a ∧ ∀ s, s < a → ρ 6 s = nI (sw s) ∧ ρ 7 s = nI (sm s) ∧ ρ 8 s = nI (sh s)
def RdB (c b : Nat) (rh rw : Nat → Nat) (rl rg : Nat → Int32) : Prop := b ≤ 8 ∧ ∀ r, r < b → rh r < c ∧ rw r < c ∧ iv (rl r) (-5) 5 ∧ iv (rg r) (-5) 5
def RdC (b : Nat) (rh rw : Nat → Nat) (rl rg rv : Nat → Int32) (σ : my_M) : Prop := σ 21 0 = nI b ∧ ∀ r, r < b → σ 22 r = nI (rh r) ∧ σ 23 r = nI (rw r) ∧ σ 24 r = rl r ∧ σ 25 r = rg r ∧ σ 26 r = rv r
def RdR (b : Nat) (rh rw : Nat → Nat) (rl rg rv : Nat → Int32) (ρ : my_M) : Prop := ρ 0 22 = nI b ∧ ∀ r, r < b → ρ 12 r = nI (rh r) ∧ ρ 13 r = nI (rw r) ∧ ρ 14 r = rl r ∧ ρ 15 r = rg r ∧ ρ 16 r = rv r
def ShR1 (k : Nat) (σ ρ : my_M) : Prop := (σ (32 + k) 0 = 0 ∧ ρ 17 k = -1) ∨ (σ (32 + k) 0 = 1 ∧ ∃ L ln : Nat, L ≤ 60 ∧ ln ≤ 2 ∧ σ (32 + k) 1 = nI ln ∧ ρ 18 k = nI ln ∧ σ (32 + k) 2 = nI L ∧ ρ 17 k = nI L ∧ ∀ i, i < L → σ (36 + k) i = ρ 19 (60 * k + i))
def ShR (σ ρ : my_M) : Prop := ∀ k, k < 4 → ShR1 k σ ρ
/-! good rows: a row as a number n-ary; whether beat j fits those ahead -/
def sinB (t : Nat → Nat) (j l : Nat) : Nat → Nat → Bool
  | 0, _ => true
  | r + 1, i => (t i + t (j - l) != t j + t (i - l)) && sinB t j l r (i + 1)
def soutB (t : Nat → Nat) (j : Nat) : Nat → Nat → Bool
  | 0, _ => true
  | r + 1, l => ((t j != t (j - l)) && sinB t j l (j - l) l) && soutB t j r (l + 1)
def staysB (t : Nat → Nat) (j : Nat) : Bool := soutB t j j 1
def pdr (n : Nat) : Nat → Nat → Nat → Nat
  | 0, _, _ => 0
  | d + 1, P, i => if i = d then P % n else pdr n d (P / n) i
def cdn (n : Nat) : Nat → Nat → Nat
  | 0, _ => 0
  | d + 1, P => cdn n d (P / n) * 8 + P % n
def lstf (f : Nat → List Nat) : Nat → Nat → List Nat
  | 0, _ => []
  | m + 1, v => f v ++ lstf f m (v + 1)
def Dl (n : Nat) : Nat → Nat → Nat → List Nat
  | 0, P, _ => [P]
  | r + 1, P, d => lstf (fun v => if staysB (pdr n (d + 1) (P * n + v)) d = true then Dl n r (P * n + v) (d + 1) else []) n 0
def gl (n : Nat) : List Nat := Dl n n 0 0
def GdC (σ : my_M) : Prop := σ 27 0 = 0 ∨ ∃ g : Nat, 2 ≤ g ∧ g ≤ 6 ∧ σ 27 0 = nI g ∧ σ 27 1 = nI (gl g).length ∧ ∀ i, i < (gl g).length → σ 28 i = nI (cdn g g ((gl g).getD i 0))
def RelX (σ ρ : my_M) : Prop := ∃ (c n : Nat) (kd : Nat → Nat) (pt : Nat → Nat → Option Nat) (a : Nat) (sw sm sh : Nat → Nat) (b : Nat) (rh rw : Nat → Nat) (rl rg rv : Nat → Int32), ChB c n kd pt ∧ ChC c n kd pt σ ∧ ChR c n kd pt ρ ∧ AiB c a sw sm sh ∧ AiC a sw sm sh 0 σ ∧ AiR a sw sm sh ρ ∧ RdB c b rh rw rl rg ∧ RdC b rh rw rl rg rv σ ∧ RdR b rh rw rl rg rv ρ ∧ ShR σ ρ ∧ GdC σ ∧ σ 0 7 = ρ 0 32
def Rel (σ ρ : my_M) : Prop := RelX σ ρ ∧ σ 0 8 = ρ 0 0
def my_s0 : my_M := fun _ _ => 0
def my_r0 : my_M := fun j => match j with
  | 17 => (upd (upd (upd (upd (fun _ => 0) (Int32.toNatClampNeg 0) (-1)) (Int32.toNatClampNeg (0 + 1)) (-1)) (Int32.toNatClampNeg ((0 + 1) + 1)) (-1)) (Int32.toNatClampNeg (((0 + 1) + 1) + 1)) (-1))
  | _ => fun _ => 0
theorem rel_init : Rel my_s0 my_r0 := by
  refine ⟨⟨0, 0, fun _ => 0, fun _ _ => none, 0, fun _ => 0, fun _ => 0, fun _ => 0, 0, fun _ => 0, fun _ => 0, fun _ => 0, fun _ => 0, fun _ => 0, ?_, ?_, ?_, ?_, ?_, ?_, ?_, ?_, ?_, ?_, Or.inl rfl, rfl⟩, rfl⟩
  · exact ⟨by omega, by omega, fun k h => absurd h (by omega), fun k h => absurd h (by omega), fun h => absurd h (by omega), fun _ => rfl⟩
  · exact ⟨nI_0.symm, nI_0.symm, fun k h => absurd h (by omega), fun k h => absurd h (by omega)⟩
  · exact ⟨nI_0.symm, nI_0.symm, fun k h => absurd h (by omega), fun k h => absurd h (by omega)⟩
  · exact ⟨by omega, fun k h => absurd h (by omega)⟩
  · exact ⟨nI_0.symm, fun k h => absurd h (by omega)⟩
  · exact ⟨nI_0.symm, fun k h => absurd h (by omega)⟩
  · exact ⟨by omega, fun k h => absurd h (by omega)⟩
  · exact ⟨nI_0.symm, fun k h => absurd h (by omega)⟩
  · exact ⟨nI_0.symm, fun k h => absurd h (by omega)⟩
  · intro k hk
    refine Or.inl ⟨rfl, ?_⟩
    match k, hk with
    | 0, _ => decide
    | 1, _ => decide
    | 2, _ => decide
    | 3, _ => decide
/-! frames -/
def agC (σ τ : my_M) : Prop := (∀ j, (1 ≤ j ∧ j ≤ 14) ∨ (21 ≤ j ∧ j ≤ 26) ∨ 31 ≤ j → τ j = σ j) ∧ τ 0 7 = σ 0 7
def agR (ρ τ : my_M) : Prop := (∀ j, j = 1 ∨ j = 2 ∨ (6 ≤ j ∧ j ≤ 8) ∨ (12 ≤ j ∧ j ≤ 19) → τ j = ρ j) ∧ ∀ i, i = 1 ∨ i = 2 ∨ i = 11 ∨ i = 22 ∨ i = 32 → τ 0 i = ρ 0 i
theorem agC_rf {σ : my_M} : agC σ σ := ⟨fun _ _ => rfl, rfl⟩
theorem agR_rf {ρ : my_M} : agR ρ ρ := ⟨fun _ _ => rfl, fun _ _ => rfl⟩
theorem agC_tr {σ τ υ : my_M} (h : agC σ τ) (g : agC τ υ) : agC σ υ := ⟨fun j hj => (g.1 j hj).trans (h.1 j hj), g.2.trans h.2⟩
theorem agR_tr {σ τ υ : my_M} (h : agR σ τ) (g : agR τ υ) : agR σ υ := ⟨fun j hj => (g.1 j hj).trans (h.1 j hj), fun i hi => (g.2 i hi).trans (h.2 i hi)⟩
theorem ChC_ag {c n : Nat} {kd : Nat → Nat} {pt : Nat → Nat → Option Nat} {σ τ : my_M} (h4 : c ≤ 4) (h : ChC c n kd pt σ) (g : agC σ τ) : ChC c n kd pt τ := by
  obtain ⟨h1, h2, h3, h5⟩ := h
  refine ⟨by rw [g.1 1 (by omega)]; exact h1, by rw [g.1 1 (by omega)]; exact h2, fun k hk => by rw [g.1 (3 + k) (by omega)]; exact h3 k hk, fun k hk i hi => by rw [g.1 (7 + k) (by omega)]; exact h5 k hk i hi⟩
theorem ChR_ag {c n : Nat} {kd : Nat → Nat} {pt : Nat → Nat → Option Nat} {ρ τ : my_M} (h : ChR c n kd pt ρ) (g : agR ρ τ) : ChR c n kd pt τ := by
  obtain ⟨h1, h2, h3, h5⟩ := h
  refine ⟨by rw [g.2 1 (by omega)]; exact h1, by rw [g.2 2 (by omega)]; exact h2, fun k hk => by rw [g.1 1 (by omega)]; exact h3 k hk, fun k hk i hi => by rw [g.1 2 (by omega)]; exact h5 k hk i hi⟩
theorem RelX_ag {σ ρ σ1 ρ1 : my_M} (h : RelX σ ρ) (gC : agC σ σ1) (gG : GdC σ1) (gR : agR ρ ρ1) : RelX σ1 ρ1 := by
  obtain ⟨c, n, kd, pt, a, sw, sm, sh, b, rh, rw_, rl, rg, rv, hB, hC, hR, aB, aC, aR, dB, dC, dR, hS, -, hT⟩ := h
  refine ⟨c, n, kd, pt, a, sw, sm, sh, b, rh, rw_, rl, rg, rv, hB, ChC_ag hB.1 hC gC, ChR_ag hR gR, aB, ?_, ?_, dB, ?_, ?_, ?_, gG, ?_⟩
  · refine ⟨by rw [gC.1 _ (by omega)]; exact aC.1, fun s hs => ?_⟩
    rw [gC.1 (12 + 5 * 0) (by omega), gC.1 (13 + 5 * 0) (by omega), gC.1 (14 + 5 * 0) (by omega)]
    exact aC.2 s hs
  · refine ⟨by rw [gR.2 11 (by omega)]; exact aR.1, fun s hs => ?_⟩
    rw [gR.1 6 (by omega), gR.1 7 (by omega), gR.1 8 (by omega)]
    exact aR.2 s hs
  · refine ⟨by rw [gC.1 _ (by omega)]; exact dC.1, fun s hs => ?_⟩
    rw [gC.1 22 (by omega), gC.1 23 (by omega), gC.1 24 (by omega), gC.1 25 (by omega), gC.1 26 (by omega)]
    exact dC.2 s hs
  · refine ⟨by rw [gR.2 22 (by omega)]; exact dR.1, fun s hs => ?_⟩
    rw [gR.1 12 (by omega), gR.1 13 (by omega), gR.1 14 (by omega), gR.1 15 (by omega), gR.1 16 (by omega)]
    exact dR.2 s hs
  · intro k hk
    have h1 := hS k hk
    unfold ShR1 at h1 ⊢
    rw [gC.1 (32 + k) (by omega), gC.1 (36 + k) (by omega), gR.1 17 (by omega), gR.1 18 (by omega), gR.1 19 (by omega)]
    exact h1
  · rw [gC.2, gR.2 32 (by omega)]
    exact hT
theorem RelX_G {σ ρ : my_M} (h : RelX σ ρ) : GdC σ := by
  obtain ⟨c, n, kd, pt, a, sw, sm, sh, b, rh, rw_, rl, rg, rv, hB, hC, hR, aB, aC, aR, dB, dC, dR, hS, hG, hT⟩ := h
  exact hG
theorem up_at {σ : my_M} {j i : Nat} {x : Int32} : my_up σ j i x j i = x := by simp [my_up, va_up, upd]
theorem up_i {σ : my_M} {j i k : Nat} {x : Int32} (h : k ≠ i) : my_up σ j i x j k = σ j k := by simp [my_up, va_up, upd, h]
theorem up_j {σ : my_M} {j i q : Nat} {x : Int32} (h : q ≠ j) : my_up σ j i x q = σ q := by simp [my_up, va_up, h]
theorem agC_fault {σ : my_M} {x : Int32} : agC σ (my_up σ 0 8 x) := ⟨fun j hj => up_j (by omega), up_i (by omega)⟩
theorem agR_fault {ρ : my_M} {x : Int32} : agR ρ (my_up ρ 0 0 x) := ⟨fun j hj => up_j (by omega), fun i hi => up_i (by omega)⟩
theorem GdC_fault {σ : my_M} {x : Int32} (h : GdC σ) : GdC (my_up σ 0 8 x) := by
  unfold GdC at h ⊢
  rw [up_j (show 27 ≠ 0 by omega), up_j (show 28 ≠ 0 by omega)]
  exact h
theorem RelX_fC {σ ρ : my_M} {x : Int32} (h : RelX σ ρ) : RelX (my_up σ 0 8 x) ρ := RelX_ag h agC_fault (GdC_fault (RelX_G h)) agR_rf
theorem RelX_fR {σ ρ : my_M} {x : Int32} (h : RelX σ ρ) : RelX σ (my_up ρ 0 0 x) := RelX_ag h agC_rf (RelX_G h) agR_fault
theorem Rel_set {σ ρ : my_M} {x : Int32} (h : RelX σ ρ) : Rel (my_up σ 0 8 x) (my_up ρ 0 0 x) := ⟨RelX_fC (RelX_fR h), by rw [up_at, up_at]⟩
/-- the simplest calls -/
theorem pr_trace {σ ρ : my_M} (h : Rel σ ρ) : ∃ (r : Int32) (σ1 ρ1 : my_M), f_X8_trace σ = some (r, σ1) ∧ f_X9_trace ρ = some (r, ρ1) ∧ Rel σ1 ρ1 := by
  obtain ⟨c, n, kd, pt, a, sw, sm, sh, b, rh, rw_, rl, rg, rv, hB, hC, hR, aB, aC, aR, dB, dC, dR, hS, hG, hT⟩ := h.1
  exact ⟨σ 0 7, σ, ρ, rfl, by unfold f_X9_trace; rw [hT], h⟩
theorem pr_fault {σ ρ : my_M} (h : Rel σ ρ) : ∃ (r : Int32) (σ1 ρ1 : my_M), f_X8_fault σ = some (r, σ1) ∧ f_X9_fault ρ = some (r, ρ1) ∧ Rel σ1 ρ1 :=
  ⟨σ 0 8, σ, ρ, rfl, by unfold f_X9_fault; rw [h.2], h⟩
