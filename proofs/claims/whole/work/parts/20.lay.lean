def lw_nestT : List (String × Nat × MethodName × String) := [("PitchRows$Choir", 17, (⟨"PitchRows$Caller", "<init>", "()V"⟩ : MethodName), "PitchRows"), ("PitchRows", 20, (⟨"PitchRows$Air", "<init>", "()V"⟩ : MethodName), "PitchRows"), ("PitchRows$Air", 3, (⟨"PitchRows$Numbered", "<init>", "()V"⟩ : MethodName), "PitchRows"), ("PitchRows", 30, (⟨"PitchRows$Readings", "<init>", "()V"⟩ : MethodName), "PitchRows"), ("PitchRows$Readings", 3, (⟨"PitchRows$Numbered", "<init>", "()V"⟩ : MethodName), "PitchRows"), ("PitchRows", 37, (⟨"PitchRows$GoodRows", "<init>", "()V"⟩ : MethodName), "PitchRows"), ("PitchRows", 44, (⟨"PitchRows$TextReader", "<init>", "()V"⟩ : MethodName), "PitchRows"), ("PitchRows", 55, (⟨"PitchRows$Sheet", "<init>", "()V"⟩ : MethodName), "PitchRows"), ("PitchRows$TextReader", 35, (⟨"PitchRows", "isWithin", "(III)Z"⟩ : MethodName), "PitchRows"), ("PitchRows$Choir", 22, (⟨"PitchRows", "isWithin", "(III)Z"⟩ : MethodName), "PitchRows"), ("PitchRows$Numbered", 13, (⟨"PitchRows", "isWithin", "(III)Z"⟩ : MethodName), "PitchRows")]
theorem tn_X2_17 : ("PitchRows$Choir", 17, (⟨"PitchRows$Caller", "<init>", "()V"⟩ : MethodName), "PitchRows") ∈ lw_nestT := List.mem_of_getElem? (i := 0) rfl
theorem tn_X8_20 : ("PitchRows", 20, (⟨"PitchRows$Air", "<init>", "()V"⟩ : MethodName), "PitchRows") ∈ lw_nestT := List.mem_of_getElem? (i := 1) rfl
theorem tn_X0_3 : ("PitchRows$Air", 3, (⟨"PitchRows$Numbered", "<init>", "()V"⟩ : MethodName), "PitchRows") ∈ lw_nestT := List.mem_of_getElem? (i := 2) rfl
theorem tn_X8_30 : ("PitchRows", 30, (⟨"PitchRows$Readings", "<init>", "()V"⟩ : MethodName), "PitchRows") ∈ lw_nestT := List.mem_of_getElem? (i := 3) rfl
theorem tn_X5_3 : ("PitchRows$Readings", 3, (⟨"PitchRows$Numbered", "<init>", "()V"⟩ : MethodName), "PitchRows") ∈ lw_nestT := List.mem_of_getElem? (i := 4) rfl
theorem tn_X8_37 : ("PitchRows", 37, (⟨"PitchRows$GoodRows", "<init>", "()V"⟩ : MethodName), "PitchRows") ∈ lw_nestT := List.mem_of_getElem? (i := 5) rfl
theorem tn_X8_44 : ("PitchRows", 44, (⟨"PitchRows$TextReader", "<init>", "()V"⟩ : MethodName), "PitchRows") ∈ lw_nestT := List.mem_of_getElem? (i := 6) rfl
theorem tn_X8_55 : ("PitchRows", 55, (⟨"PitchRows$Sheet", "<init>", "()V"⟩ : MethodName), "PitchRows") ∈ lw_nestT := List.mem_of_getElem? (i := 7) rfl
theorem tn_X7_35 : ("PitchRows$TextReader", 35, (⟨"PitchRows", "isWithin", "(III)Z"⟩ : MethodName), "PitchRows") ∈ lw_nestT := List.mem_of_getElem? (i := 8) rfl
theorem tn_X2_22 : ("PitchRows$Choir", 22, (⟨"PitchRows", "isWithin", "(III)Z"⟩ : MethodName), "PitchRows") ∈ lw_nestT := List.mem_of_getElem? (i := 9) rfl
theorem tn_X4_13 : ("PitchRows$Numbered", 13, (⟨"PitchRows", "isWithin", "(III)Z"⟩ : MethodName), "PitchRows") ∈ lw_nestT := List.mem_of_getElem? (i := 10) rfl
theorem lw_nestT_in : ∀ q ∈ lw_nestT, Cond.methodLinkNest q.1 q.2.1 q.2.2.1 q.2.2.2 ∈ tables_1 := by decide +kernel
/-! MY LAYER: objects that never come or go; the memory is a function of object and place. -/
abbrev my_L : Type := (Nat ⊕ (Nat × Nat × Nat)) ⊕ (Nat × List (Option Nat))
abbrev my_M : Type := Nat → Nat → Int32
abbrev my_V : Type := Launch × va_G × (Nat → ClassId) × (Nat → Nat)
abbrev my_T : Type := MethodName × ByteArray × Nat × Option FieldType
abbrev my_X : Type := Program × Env × State × MethodId × Array Value × List Frame × Method × Code
def my_fv (io : Nat → Nat) (g : Nat → Int32) (k : Nat) (o : Option Nat) : Value := match o with
  | none => .int (g k)
  | some r => .ref (io r)
def my_e (w : my_V) (σ : my_M) (j : Nat) (c : my_L) : va_E := match c with
  | .inl (.inl n) => .inl (w.2.2.1 0, n, .inl (σ j))
  | .inl (.inr (t, n, r)) => .inl (w.2.2.1 t, n, .inr (.inr (.inr (.inr (fun i => some (w.2.2.2 (r + i)))))))
  | .inr (ci, fs) => .inr (ci, fs.mapIdx (my_fv w.2.2.2 (σ j)))
def my_ws (w : my_V) (lay : List my_L) (σ : my_M) : va_W := lay.mapIdx (fun j c => (w.2.2.2 j, my_e w σ j c))
def my_ty (w : my_V) : List (ClassId × FieldType) := [(w.2.2.1 0, .int), (w.2.2.1 1, .object "PitchRows$Caller"), (w.2.2.1 2, .object "PitchRows$Sheet")]
def my_P (w : my_V) (lay : List my_L) (σ : my_M) (H : Heap) : Prop := va_P w.2.1 vwCl (my_ws w lay σ) H
def my_A (w : my_V) (lay : List my_L) : Nat → Prop := fun q => ∃ j, j < lay.length ∧ q = w.2.2.2 j
def my_I (w : my_V) (lay : List my_L) : Prop := ∀ i j, i < lay.length → j < lay.length → w.2.2.2 i = w.2.2.2 j → i = j
def my_N (U : State) : Prop := ∀ q ∈ lw_nestT, va_Nw (.methodLinkNest q.1 q.2.1 q.2.2.1 q.2.2.2) U
def my_K (w : my_V) (U : State) : Prop := va_K w.2.1 vwCl (my_ty w) U ∧ my_N U
def my_rm (k : Nat) : Room := { frames := k, cells := 0, slots := 0, locals := 60 * k }
def my_Qc (w : my_V) (lay : List my_L) (v : Option Value) (τ : my_M) : Array Value → State → Outcome → State → Prop := fun _ st o t => (o = .returned v ∧ my_P w lay τ t.heap ∧ my_K w t) ∧ va_F (my_A w lay) st t
def my_Pc (w : my_V) (lay : List my_L) (av : List Value) (σ : my_M) : Array Value → State → Prop := fun a U => a = av.toArray ∧ my_P w lay σ U.heap ∧ my_K w U
def Ct (w : my_V) (lay : List my_L) (t : my_T) (k : Nat) (av : List Value) (σ : my_M) (v : Option Value) (τ : my_M) : Prop :=
  my_I w lay → Met w.1 t.1 (Cond.code t.1 t.2.1 t.2.2.1 t.2.2.2 :: tblG) (my_rm k) (my_Pc w lay av σ) (my_Qc w lay v τ) 0 0 (my_A w lay)
def my_up (σ : my_M) (j k : Nat) (x : Int32) : my_M := va_up σ j (upd (σ j) k x)
abbrev my_ix (i : Int32) (n : Nat) : Prop := ¬ (i < 0 ∨ n ≤ i.toNatClampNeg)
def my_len (lay : List my_L) (j : Nat) : Nat := match lay[j]? with
  | some (.inl (.inl n)) => n
  | _ => 0
theorem my_len_at {lay : List my_L} {j n : Nat} (h : n < my_len lay j) : lay[j]? = some (.inl (.inl (my_len lay j))) := by
  unfold my_len at h ⊢
  split at h
  · assumption
  · omega
theorem my_len_in {lay : List my_L} {j : Nat} {i : Int32} (h : my_ix i (my_len lay j)) : lay[j]? = some (.inl (.inl (my_len lay j))) := my_len_at (n := i.toNatClampNeg) (Nat.not_le.mp fun q => h (Or.inr q))
theorem my_ws_at {w : my_V} {lay : List my_L} {σ : my_M} {j : Nat} {c : my_L} (h : lay[j]? = some c) : (my_ws w lay σ)[j]? = some (w.2.2.2 j, my_e w σ j c) := by
  simp [my_ws, List.getElem?_mapIdx, h]
theorem my_e_same {w : my_V} {σ τ : my_M} {j : Nat} {c : my_L} (h : τ j = σ j) : my_e w τ j c = my_e w σ j c := by
  rcases c with (n | ⟨t, n, r⟩) | ⟨ci, fs⟩ <;> simp only [my_e, h]
theorem my_ws_set {w : my_V} {lay : List my_L} {σ τ : my_M} {j : Nat} {c : my_L} (h : lay[j]? = some c) (ho : ∀ i, i ≠ j → τ i = σ i) : (my_ws w lay σ).set j (w.2.2.2 j, my_e w τ j c) = my_ws w lay τ := by
  have hj : j < lay.length := (List.getElem?_eq_some_iff.mp h).1
  apply List.ext_getElem?
  intro i
  by_cases hi : i = j
  · subst hi
    rw [List.getElem?_set_self (by simpa [my_ws] using hj), my_ws_at h]
  · rw [List.getElem?_set_ne (Ne.symm hi)]
    simp only [my_ws, List.getElem?_mapIdx]
    cases lay[i]? with
    | none => rfl
    | some c' => simp only [Option.map_some, my_e_same (w := w) (c := c') (ho i hi)]
theorem my_D {w : my_V} {lay : List my_L} {σ : my_M} (hI : my_I w lay) : va_D (my_A w lay) (my_ws w lay σ) := by
  have key : ∀ (i : Nat) (p : Nat × va_E), (my_ws w lay σ)[i]? = some p → i < lay.length ∧ p.1 = w.2.2.2 i := by
    intro i p hi
    have hl : i < lay.length := by
      have := (List.getElem?_eq_some_iff.mp hi).1
      simpa [my_ws] using this
    refine ⟨hl, ?_⟩
    rw [my_ws_at (List.getElem?_eq_getElem hl)] at hi
    cases hi
    rfl
  refine ⟨fun i j p q hi hj hpq => ?_, fun k q hk => ?_⟩
  · obtain ⟨a1, a2⟩ := key i p hi
    obtain ⟨b1, b2⟩ := key j q hj
    exact hI i j a1 b1 (by rw [← a2, ← b2]; exact hpq)
  · obtain ⟨a1, a2⟩ := key k q hk
    exact ⟨k, a1, a2⟩
theorem my_N_warm {s U : State} (hW : s.WarmedH U.vm) (h : my_N s) : my_N U := fun q hq => va_Nw.warmM hW (h q hq)
theorem my_N_same {s U : State} (e : s.vm = U.vm) (h : my_N s) : my_N U := fun q hq => va_Nw.same rfl e (h q hq)
theorem my_K_warm {w : my_V} {s U : State} (hW : s.WarmedH U.vm) (h : my_K w s) : my_K w U := ⟨va_K.moved hW.alike h.1, my_N_warm hW h.2⟩
theorem my_blind {w : my_V} {lay : List my_L} {av : List Value} {σ : my_M} : FrameBlind (my_Pc w lay av σ) := fun a U g mk q => ⟨q.1, q.2.1, va_K.moved (u := U) (U := U.calling g mk a) (Vm.Alike.refl U.vm) q.2.2.1, my_N_same (s := U) (U := U.calling g mk a) rfl q.2.2.2⟩
/-! the locals -/
def my_has (ls : Array Slot) (nL : Nat) (lv : List (Option Value)) : Prop := ls.size = nL ∧ lv_wf ls ∧ ∀ (i : Nat) (v : Value), lv[i]? = some (some v) → ls[i]? = some (.val v)
def my_al (lv : List (Option Value)) : List (Nat × Value) := lv.zipIdx.filterMap (fun q => q.1.map (fun v => (q.2, v)))
theorem my_al_mem {lv : List (Option Value)} {i : Nat} {v : Value} : (i, v) ∈ my_al lv ↔ lv[i]? = some (some v) := by
  simp only [my_al, List.mem_filterMap, Prod.exists, Option.map_eq_some_iff, Prod.mk.injEq]
  constructor
  · rintro ⟨o, n, h1, u, h2, h3, h4⟩
    subst h2; subst h3; subst h4
    exact List.mem_zipIdx_iff_getElem?.mp h1
  · intro h
    exact ⟨some v, i, List.mem_zipIdx_iff_getElem?.mpr h, v, rfl, rfl, rfl⟩
theorem my_has_lv {ls : Array Slot} {nL : Nat} {lv : List (Option Value)} (h : my_has ls nL lv) : lv_has ls nL (my_al lv) := ⟨h.1, h.2.1, fun q hq => h.2.2 q.1 q.2 (my_al_mem.mp hq)⟩
def my_c1 (o : Option Value) : Bool := match o with
  | some v => v.category == 1
  | none => true
def my_okp (lv : List (Option Value)) (i : Nat) : Prop := ∀ u, lv[i]? = some (some u) → u.category = 1
theorem my_okp_of {lv : List (Option Value)} {i : Nat} {o : Option Value} (h : lv[i]? = some o) (hc : my_c1 o = true) : my_okp lv i := by
  intro u hu
  rw [h] at hu
  cases hu
  simpa [my_c1] using hc
theorem my_set1 {ls : Array Slot} {nL i : Nat} {v : Value} {lv : List (Option Value)} (hp : ∀ j, j + 1 = i → my_okp lv j) (h : lv_has ls nL ((i, v) :: (my_al lv).filter (fun q => !(q.1 == i) && !(q.1 + 1 == i && q.2.category == 2)))) : my_has ls nL (lv.set i (some v)) := by
  refine ⟨h.1, h.2.1, fun j u hj => ?_⟩
  by_cases hi : j = i
  · subst hi
    by_cases hlt : j < lv.length
    · rw [List.getElem?_set_self hlt] at hj
      cases hj
      exact h.2.2 (j, v) List.mem_cons_self
    · rw [List.getElem?_eq_none (by simpa using hlt)] at hj
      cases hj
  · rw [List.getElem?_set_ne (Ne.symm hi)] at hj
    refine h.2.2 (j, u) (List.mem_cons_of_mem _ (List.mem_filter.mpr ⟨my_al_mem.mpr hj, ?_⟩))
    have hji : (j == i) = false := by simp [hi]
    by_cases hs : j + 1 = i
    · have := hp j hs u hj
      simp [hji, this]
    · simp [hji, hs]
theorem my_set2 {ls : Array Slot} {nL i : Nat} {v : Value} {lv : List (Option Value)} (hp : ∀ j, j + 1 = i → my_okp lv j) (h : lv_has ls nL ((i, v) :: (my_al lv).filter (fun q => !(q.1 == i) && (!(q.1 == i + 1) && !(q.1 + 1 == i && q.2.category == 2))))) : my_has ls nL ((lv.set i (some v)).set (i + 1) none) := by
  refine ⟨h.1, h.2.1, fun j u hj => ?_⟩
  by_cases hi1 : j = i + 1
  · subst hi1
    by_cases hlt : i + 1 < (lv.set i (some v)).length
    · rw [List.getElem?_set_self hlt] at hj
      cases hj
    · rw [List.getElem?_eq_none (by simpa using hlt)] at hj
      cases hj
  rw [List.getElem?_set_ne (Ne.symm hi1)] at hj
  by_cases hi : j = i
  · subst hi
    by_cases hlt : j < lv.length
    · rw [List.getElem?_set_self hlt] at hj
      cases hj
      exact h.2.2 (j, v) List.mem_cons_self
    · rw [List.getElem?_eq_none (by simpa using hlt)] at hj
      cases hj
  · rw [List.getElem?_set_ne (Ne.symm hi)] at hj
    refine h.2.2 (j, u) (List.mem_cons_of_mem _ (List.mem_filter.mpr ⟨my_al_mem.mpr hj, ?_⟩))
    have hji : (j == i) = false := by simp [hi]
    have hji1 : (j == i + 1) = false := by simp [hi1]
    by_cases hs : j + 1 = i
    · have := hp j hs u hj
      simp [hji, hji1, this]
    · simp [hji, hji1, hs]
/-- fewer known locals -/
def my_le (a b : List (Option Value)) : Prop := ∀ (i : Nat) (v : Value), a[i]? = some (some v) → b[i]? = some (some v)
theorem w_0 : my_le [] [] := fun i v h => h
theorem w_s {x : Option Value} {a b : List (Option Value)} (h : my_le a b) : my_le (x :: a) (x :: b) := by
  intro i v hi
  cases i with
  | zero => exact hi
  | succ i =>
    rw [List.getElem?_cons_succ] at hi ⊢
    exact h i v hi
theorem w_n {x : Option Value} {a b : List (Option Value)} (h : my_le a b) : my_le (none :: a) (x :: b) := by
  intro i v hi
  cases i with
  | zero => rw [List.getElem?_cons_zero] at hi; cases hi
  | succ i =>
    rw [List.getElem?_cons_succ] at hi ⊢
    exact h i v hi
theorem w_r {a : List (Option Value)} : my_le a a := fun i v h => h
def my_ent : List Value → List (Option Value)
  | [] => []
  | v :: vs => if v.category = 2 then some v :: none :: my_ent vs else some v :: my_ent vs
theorem my_ent_mem : ∀ (vs : List Value) (b i : Nat) (v : Value), (my_ent vs)[i]? = some (some v) → (b + i, v) ∈ lv_args b vs
  | [], b, i, v, h => by simp [my_ent] at h
  | u :: vs, b, i, v, h => by
    unfold my_ent at h
    unfold lv_args
    by_cases hc : u.category = 2
    · rw [if_pos hc] at h ⊢
      match i, h with
      | 0, h => simp at h; subst h; exact List.mem_cons_self
      | 1, h => simp at h
      | i + 2, h =>
        have := my_ent_mem vs (b + 2) i v (by simpa using h)
        refine List.mem_cons_of_mem _ ?_
        rw [show b + (i + 2) = b + 2 + i by omega]
        exact this
    · rw [if_neg hc] at h ⊢
      match i, h with
      | 0, h => simp at h; subst h; exact List.mem_cons_self
      | i + 1, h =>
        have := my_ent_mem vs (b + 1) i v (by simpa using h)
        refine List.mem_cons_of_mem _ ?_
        rw [show b + (i + 1) = b + 1 + i by omega]
        exact this
/-! the judgement -/
def my_OK (X : my_X) (w : my_V) (lay : List my_L) (cc : ByteArray) (own : String) (nL : Nat) (ret : Option FieldType) : Prop :=
  X.1.tables.exec = Jvm.exec ∧ X.2.2.2.2.2.2.2.code = cc ∧ X.2.2.2.2.2.2.2.maxLocals = nL ∧ X.2.2.1.vm.findClass own = some X.2.2.2.1.cls ∧ (∀ u ∈ tblG, u.before X.2.2.2.2.1 X.2.2.1 = true) ∧ my_K w X.2.2.1 ∧ my_I w lay ∧ X.2.2.2.2.2.2.1.locks = false ∧ X.2.2.2.2.2.2.1.sig.returnType = ret
def Go (X : my_X) (w : my_V) (lay : List my_L) (k nL : Nat) (v : Option Value) (τ σ : my_M) (pc : Nat) (lv : List (Option Value)) (st : List Value) : Prop :=
  ∀ (H : Heap) (locs : List Loc) (ls : Array Slot), my_P w lay σ H → va_S (my_A w lay) X.2.2.1.heap H locs → my_has ls nL lv →
    W X.1 w.1 X.2.1 (my_rm k) X.2.2.1 X.2.2.2.1 X.2.2.2.2.1 X.2.2.2.2.2.1 X.2.2.2.2.2.2.1 X.2.2.2.2.2.2.2 H locs 0 0 (MQ X.2.2.2.2.2.1 (my_Qc w lay v τ) X.2.2.2.2.1 X.2.2.1 0 0 (my_A w lay)) (F0 X.2.2.2.1 pc ls st)
theorem my_met {w : my_V} {lay : List my_L} {y : MethodName} {cc : ByteArray} {nL : Nat} {ret : Option FieldType} {k : Nat} {av : List Value} {σ : my_M} {v : Option Value} {τ : my_M} (own : String) (lv0 : List (Option Value)) (r : Nat) (hy : plainName y.cls = true) (hown : y.cls = own) (hlen : (lg_sl av).length ≤ nL) (hlv : my_ent av ++ List.replicate r none = lv0)
    (body : ∀ X : my_X, my_OK X w lay cc own nL ret → Go X w lay k nL v τ σ 0 lv0 []) : Ct w lay (y, cc, nL, ret) k av σ v τ := by
  intro hI
  refine Met.ofW (cc := cc) (maxL := nL) (ret := ret) hy rfl ?_
  intro p e s m args below meth c s₁ B hml hv
  obtain ⟨rfl, hP, hK⟩ := hv
  have hts := atoms_spec (ws := Cond.code y cc nL ret :: tblG) B.pre
  have hown' : s.vm.findClass own = some m.cls := by rw [← hown]; exact findClass_of_methodNamed B.named
  have hl := lv_entry av (n := nL) hlen
  rw [lg_entry_eq]
  generalize (lg_sl av ++ List.replicate (nL - (lg_sl av).length) Slot.unset).toArray = ls at hl ⊢
  refine body (p, e, s, m, av.toArray, below, meth, c) ⟨B.exec, B.bytes, hml, hown', fun u hu => hts u (List.mem_cons_of_mem _ hu), hK, hI, B.notSynchronized, B.returns⟩ s.heap [] ls hP va_S.rf ⟨hl.1, hl.2.1, fun i u hu => ?_⟩
  refine hl.2.2 (i, u) ?_
  subst hlv
  by_cases hi : i < (my_ent av).length
  · rw [List.getElem?_append_left hi] at hu
    have := my_ent_mem av 0 i u hu
    rwa [Nat.zero_add] at this
  · rw [List.getElem?_append_right (by omega)] at hu
    have := List.mem_replicate.mp (List.mem_of_getElem? hu)
    cases this.2
section ROWS
variable {X : my_X} {w : my_V} {lay : List my_L} {cc : ByteArray} {own : String} {nL : Nat} {ret : Option FieldType} {k : Nat} {v : Option Value} {τ σ : my_M} {pc : Nat} {lv : List (Option Value)} {st : List Value}
theorem g_weak {a : List (Option Value)} (hg : Go X w lay k nL v τ σ pc a st) (hl : my_le a lv) : Go X w lay k nL v τ σ pc lv st := fun H locs ls hP hS h => hg H locs ls hP hS ⟨h.1, h.2.1, fun i u hu => h.2.2 i u (hl i u hu)⟩
theorem g_iadd (h : my_OK X w lay cc own nL ret) (pc' : Nat) {x y : Int32} (d : decode cc pc = .ok (.iadd, 1)) (e : pc + 1 = pc') (kk : Go X w lay k nL v τ σ pc' lv (.int (x + y) :: st)) : Go X w lay k nL v τ σ pc lv (.int y :: .int x :: st) := by
  subst e
  exact fun H locs ls hP hS hl => lv_iadd h.1 h.2.1 d (kk H locs ls hP hS hl)
theorem g_isub (h : my_OK X w lay cc own nL ret) (pc' : Nat) {x y : Int32} (d : decode cc pc = .ok (.isub, 1)) (e : pc + 1 = pc') (kk : Go X w lay k nL v τ σ pc' lv (.int (x - y) :: st)) : Go X w lay k nL v τ σ pc lv (.int y :: .int x :: st) := by
  subst e
  exact fun H locs ls hP hS hl => lv_isub h.1 h.2.1 d (kk H locs ls hP hS hl)
theorem g_imul (h : my_OK X w lay cc own nL ret) (pc' : Nat) {x y : Int32} (d : decode cc pc = .ok (.imul, 1)) (e : pc + 1 = pc') (kk : Go X w lay k nL v τ σ pc' lv (.int (x * y) :: st)) : Go X w lay k nL v τ σ pc lv (.int y :: .int x :: st) := by
  subst e
  exact fun H locs ls hP hS hl => lv_imul h.1 h.2.1 d (kk H locs ls hP hS hl)
theorem g_iand (h : my_OK X w lay cc own nL ret) (pc' : Nat) {x y : Int32} (d : decode cc pc = .ok (.iand, 1)) (e : pc + 1 = pc') (kk : Go X w lay k nL v τ σ pc' lv (.int (x &&& y) :: st)) : Go X w lay k nL v τ σ pc lv (.int y :: .int x :: st) := by
  subst e
  exact fun H locs ls hP hS hl => lv_iand h.1 h.2.1 d (kk H locs ls hP hS hl)
theorem g_ior (h : my_OK X w lay cc own nL ret) (pc' : Nat) {x y : Int32} (d : decode cc pc = .ok (.ior, 1)) (e : pc + 1 = pc') (kk : Go X w lay k nL v τ σ pc' lv (.int (x ||| y) :: st)) : Go X w lay k nL v τ σ pc lv (.int y :: .int x :: st) := by
  subst e
  exact fun H locs ls hP hS hl => lv_ior h.1 h.2.1 d (kk H locs ls hP hS hl)
theorem g_ishl (h : my_OK X w lay cc own nL ret) (pc' : Nat) {x y : Int32} (d : decode cc pc = .ok (.ishl, 1)) (e : pc + 1 = pc') (kk : Go X w lay k nL v τ σ pc' lv (.int (x <<< (y &&& 31)) :: st)) : Go X w lay k nL v τ σ pc lv (.int y :: .int x :: st) := by
  subst e
  exact fun H locs ls hP hS hl => lv_ishl h.1 h.2.1 d (kk H locs ls hP hS hl)
theorem g_ishr (h : my_OK X w lay cc own nL ret) (pc' : Nat) {x y : Int32} (d : decode cc pc = .ok (.ishr, 1)) (e : pc + 1 = pc') (kk : Go X w lay k nL v τ σ pc' lv (.int (x >>> (y &&& 31)) :: st)) : Go X w lay k nL v τ σ pc lv (.int y :: .int x :: st) := by
  subst e
  exact fun H locs ls hP hS hl => lv_ishr h.1 h.2.1 d (kk H locs ls hP hS hl)
theorem g_iushr (h : my_OK X w lay cc own nL ret) (pc' : Nat) {x y : Int32} (d : decode cc pc = .ok (.iushr, 1)) (e : pc + 1 = pc') (kk : Go X w lay k nL v τ σ pc' lv (.int ((x.toUInt32 >>> (y.toUInt32 &&& Int32.toUInt32 31)).toInt32) :: st)) : Go X w lay k nL v τ σ pc lv (.int y :: .int x :: st) := by
  subst e
  exact fun H locs ls hP hS hl => lv_iushr h.1 h.2.1 d rfl (kk H locs ls hP hS hl)
theorem g_ineg (h : my_OK X w lay cc own nL ret) (pc' : Nat) {x : Int32} (d : decode cc pc = .ok (.ineg, 1)) (e : pc + 1 = pc') (kk : Go X w lay k nL v τ σ pc' lv (.int (-x) :: st)) : Go X w lay k nL v τ σ pc lv (.int x :: st) := by
  subst e
  exact fun H locs ls hP hS hl => lv_ineg h.1 h.2.1 d (kk H locs ls hP hS hl)
theorem g_idiv (h : my_OK X w lay cc own nL ret) (pc' : Nat) {x y : Int32} (hne : ¬ y = 0) (d : decode cc pc = .ok (.idiv, 1)) (e : pc + 1 = pc') (kk : Go X w lay k nL v τ σ pc' lv (.int (x / y) :: st)) : Go X w lay k nL v τ σ pc lv (.int y :: .int x :: st) := by
  subst e
  exact fun H locs ls hP hS hl => lv_idiv h.1 h.2.1 d hne (kk H locs ls hP hS hl)
theorem g_irem (h : my_OK X w lay cc own nL ret) (pc' : Nat) {x y : Int32} (hne : ¬ y = 0) (d : decode cc pc = .ok (.irem, 1)) (e : pc + 1 = pc') (kk : Go X w lay k nL v τ σ pc' lv (.int (x - x / y * y) :: st)) : Go X w lay k nL v τ σ pc lv (.int y :: .int x :: st) := by
  subst e
  exact fun H locs ls hP hS hl => lv_irem h.1 h.2.1 d hne (kk H locs ls hP hS hl)
theorem g_ladd (h : my_OK X w lay cc own nL ret) (pc' : Nat) {x y : Int64} (d : decode cc pc = .ok (.ladd, 1)) (e : pc + 1 = pc') (kk : Go X w lay k nL v τ σ pc' lv (.long (x + y) :: st)) : Go X w lay k nL v τ σ pc lv (.long y :: .long x :: st) := by
  subst e
  exact fun H locs ls hP hS hl => lv_ladd h.1 h.2.1 d (kk H locs ls hP hS hl)
theorem g_lsub (h : my_OK X w lay cc own nL ret) (pc' : Nat) {x y : Int64} (d : decode cc pc = .ok (.lsub, 1)) (e : pc + 1 = pc') (kk : Go X w lay k nL v τ σ pc' lv (.long (x - y) :: st)) : Go X w lay k nL v τ σ pc lv (.long y :: .long x :: st) := by
  subst e
  exact fun H locs ls hP hS hl => lv_lsub h.1 h.2.1 d (kk H locs ls hP hS hl)
theorem g_lmul (h : my_OK X w lay cc own nL ret) (pc' : Nat) {x y : Int64} (d : decode cc pc = .ok (.lmul, 1)) (e : pc + 1 = pc') (kk : Go X w lay k nL v τ σ pc' lv (.long (x * y) :: st)) : Go X w lay k nL v τ σ pc lv (.long y :: .long x :: st) := by
  subst e
  exact fun H locs ls hP hS hl => lv_lmul h.1 h.2.1 d (kk H locs ls hP hS hl)
theorem g_ldiv (h : my_OK X w lay cc own nL ret) (pc' : Nat) {x y : Int64} (hne : ¬ y = 0) (d : decode cc pc = .ok (.ldiv, 1)) (e : pc + 1 = pc') (kk : Go X w lay k nL v τ σ pc' lv (.long (x / y) :: st)) : Go X w lay k nL v τ σ pc lv (.long y :: .long x :: st) := by
  subst e
  exact fun H locs ls hP hS hl => lv_ldiv h.1 h.2.1 d hne (kk H locs ls hP hS hl)
theorem g_lrem (h : my_OK X w lay cc own nL ret) (pc' : Nat) {x y : Int64} (hne : ¬ y = 0) (d : decode cc pc = .ok (.lrem, 1)) (e : pc + 1 = pc') (kk : Go X w lay k nL v τ σ pc' lv (.long (x - x / y * y) :: st)) : Go X w lay k nL v τ σ pc lv (.long y :: .long x :: st) := by
  subst e
  exact fun H locs ls hP hS hl => lv_lrem h.1 h.2.1 d hne (kk H locs ls hP hS hl)
theorem g_lcmp (h : my_OK X w lay cc own nL ret) (pc' : Nat) {x y : Int64} (d : decode cc pc = .ok (.lcmp, 1)) (e : pc + 1 = pc') (kk : Go X w lay k nL v τ σ pc' lv (.int (lg_cmp x y) :: st)) : Go X w lay k nL v τ σ pc lv (.long y :: .long x :: st) := by
  subst e
  exact fun H locs ls hP hS hl => W.lcmp h.1 h.2.1 d (kk H locs ls hP hS hl)
theorem g_i2l (h : my_OK X w lay cc own nL ret) (pc' : Nat) {x : Int32} (d : decode cc pc = .ok (.i2l, 1)) (e : pc + 1 = pc') (kk : Go X w lay k nL v τ σ pc' lv (.long x.toInt64 :: st)) : Go X w lay k nL v τ σ pc lv (.int x :: st) := by
  subst e
  exact fun H locs ls hP hS hl => lv_i2l h.1 h.2.1 d rfl (kk H locs ls hP hS hl)
theorem g_i2b (h : my_OK X w lay cc own nL ret) (pc' : Nat) {x : Int32} (d : decode cc pc = .ok (.i2b, 1)) (e : pc + 1 = pc') (kk : Go X w lay k nL v τ σ pc' lv (.int x.toInt8.toInt32 :: st)) : Go X w lay k nL v τ σ pc lv (.int x :: st) := by
  subst e
  exact fun H locs ls hP hS hl => lv_i2b h.1 h.2.1 d rfl (kk H locs ls hP hS hl)
theorem g_i2s (h : my_OK X w lay cc own nL ret) (pc' : Nat) {x : Int32} (d : decode cc pc = .ok (.i2s, 1)) (e : pc + 1 = pc') (kk : Go X w lay k nL v τ σ pc' lv (.int x.toInt16.toInt32 :: st)) : Go X w lay k nL v τ σ pc lv (.int x :: st) := by
  subst e
  exact fun H locs ls hP hS hl => lv_i2s h.1 h.2.1 d rfl (kk H locs ls hP hS hl)
theorem g_iconst (h : my_OK X w lay cc own nL ret) (pc' : Nat) {n : Int} {x : Int32} (hv : Int32.ofInt n = x) (d : decode cc pc = .ok (.iconst n, 1)) (e : pc + 1 = pc') (kk : Go X w lay k nL v τ σ pc' lv (.int x :: st)) : Go X w lay k nL v τ σ pc lv st := by
  subst e
  exact fun H locs ls hP hS hl => lv_iconst h.1 h.2.1 d hv (kk H locs ls hP hS hl)
theorem g_bipush (h : my_OK X w lay cc own nL ret) (pc' : Nat) {n : Int} {x : Int32} (hv : (Int8.ofInt n).toInt32 = x) (d : decode cc pc = .ok (.bipush n, 2)) (e : pc + 2 = pc') (kk : Go X w lay k nL v τ σ pc' lv (.int x :: st)) : Go X w lay k nL v τ σ pc lv st := by
  subst e
  exact fun H locs ls hP hS hl => lv_bipush h.1 h.2.1 d hv (kk H locs ls hP hS hl)
theorem g_sipush (h : my_OK X w lay cc own nL ret) (pc' : Nat) {n : Int} {x : Int32} (hv : (Int16.ofInt n).toInt32 = x) (d : decode cc pc = .ok (.sipush n, 3)) (e : pc + 3 = pc') (kk : Go X w lay k nL v τ σ pc' lv (.int x :: st)) : Go X w lay k nL v τ σ pc lv st := by
  subst e
  exact fun H locs ls hP hS hl => lv_sipush h.1 h.2.1 d hv (kk H locs ls hP hS hl)
theorem g_lconst (h : my_OK X w lay cc own nL ret) (pc' : Nat) {n : Fin 2} {x : Int64} (hv : Int64.ofNat (n : Nat) = x) (d : decode cc pc = .ok (.lconst n, 1)) (e : pc + 1 = pc') (kk : Go X w lay k nL v τ σ pc' lv (.long x :: st)) : Go X w lay k nL v τ σ pc lv st := by
  subst e
  exact fun H locs ls hP hS hl => lv_lconst h.1 h.2.1 d hv (kk H locs ls hP hS hl)
theorem g_ldcw (h : my_OK X w lay cc own nL ret) (pc' : Nat) {idx : Nat} {x : Int32} (hc : Cond.constant own idx x ∈ tblG) (d : decode cc pc = .ok (.ldc_w idx, 3)) (e : pc + 3 = pc') (kk : Go X w lay k nL v τ σ pc' lv (.int x :: st)) : Go X w lay k nL v τ σ pc lv st := by
  subst e
  exact fun H locs ls hP hS hl => lv_ldcw h.1 h.2.1 h.2.2.2.1 (h.2.2.2.2.1 _ hc) d (kk H locs ls hP hS hl)
theorem g_ldc2 (h : my_OK X w lay cc own nL ret) (pc' : Nat) {idx : Nat} {x : Int64} (hc : Cond.constantLong own idx x ∈ tblG) (d : decode cc pc = .ok (.ldc2_w idx, 3)) (e : pc + 3 = pc') (kk : Go X w lay k nL v τ σ pc' lv (.long x :: st)) : Go X w lay k nL v τ σ pc lv st := by
  subst e
  exact fun H locs ls hP hS hl => lv_ldc2 h.1 h.2.1 h.2.2.2.1 (h.2.2.2.2.1 _ hc) d (kk H locs ls hP hS hl)
theorem g_dup (h : my_OK X w lay cc own nL ret) (pc' : Nat) {a : Value} (ha : a.category = 1) (d : decode cc pc = .ok (.dup, 1)) (e : pc + 1 = pc') (kk : Go X w lay k nL v τ σ pc' lv (a :: a :: st)) : Go X w lay k nL v τ σ pc lv (a :: st) := by
  subst e
  exact fun H locs ls hP hS hl => lv_dup h.1 h.2.1 d ha (kk H locs ls hP hS hl)
theorem g_pop (h : my_OK X w lay cc own nL ret) (pc' : Nat) {a : Value} (ha : a.category = 1) (d : decode cc pc = .ok (.pop, 1)) (e : pc + 1 = pc') (kk : Go X w lay k nL v τ σ pc' lv st) : Go X w lay k nL v τ σ pc lv (a :: st) := by
  subst e
  exact fun H locs ls hP hS hl => lv_pop h.1 h.2.1 d ha (kk H locs ls hP hS hl)
theorem g_dup2 (h : my_OK X w lay cc own nL ret) (pc' : Nat) {a b : Value} (ha : a.category = 1) (hb : b.category = 1) (d : decode cc pc = .ok (.dup2, 1)) (e : pc + 1 = pc') (kk : Go X w lay k nL v τ σ pc' lv (a :: b :: a :: b :: st)) : Go X w lay k nL v τ σ pc lv (a :: b :: st) := by
  subst e
  exact fun H locs ls hP hS hl => lv_dup2_11 h.1 h.2.1 d ha hb (kk H locs ls hP hS hl)
theorem g_dupx1 (h : my_OK X w lay cc own nL ret) (pc' : Nat) {a b : Value} (ha : a.category = 1) (hb : b.category = 1) (d : decode cc pc = .ok (.dup_x1, 1)) (e : pc + 1 = pc') (kk : Go X w lay k nL v τ σ pc' lv (a :: b :: a :: st)) : Go X w lay k nL v τ σ pc lv (a :: b :: st) := by
  subst e
  exact fun H locs ls hP hS hl => lv_dup_x1 h.1 h.2.1 d ha hb (kk H locs ls hP hS hl)
theorem g_goto (h : my_OK X w lay cc own nL ret) (pc' : Nat) {off : Int} (d : decode cc pc = .ok (.goto off, 3)) (ht : (pc : Int) + off = (pc' : Int)) (kk : Go X w lay k nL v τ σ pc' lv st) : Go X w lay k nL v τ σ pc lv st := fun H locs ls hP hS hl => lv_goto h.1 h.2.1 d ht (kk H locs ls hP hS hl)
theorem g_iceq (h : my_OK X w lay cc own nL ret) (tgt pc' : Nat) {x y : Int32} {off : Int} (d : decode cc pc = .ok (.if_icmp .eq off, 3)) (ht : (pc : Int) + off = (tgt : Int)) (e : pc + 3 = pc') (kt : x = y → Go X w lay k nL v τ σ tgt lv st) (kf : ¬ x = y → Go X w lay k nL v τ σ pc' lv st) : Go X w lay k nL v τ σ pc lv (.int y :: .int x :: st) := by
  subst e
  exact fun H locs ls hP hS hl => lv_icmp_eq h.1 h.2.1 d ht (fun q => kt q H locs ls hP hS hl) (fun q => kf q H locs ls hP hS hl)
theorem g_ifeq (h : my_OK X w lay cc own nL ret) (tgt pc' : Nat) {x : Int32} {off : Int} (d : decode cc pc = .ok (.ifCond .eq off, 3)) (ht : (pc : Int) + off = (tgt : Int)) (e : pc + 3 = pc') (kt : x = 0 → Go X w lay k nL v τ σ tgt lv st) (kf : ¬ x = 0 → Go X w lay k nL v τ σ pc' lv st) : Go X w lay k nL v τ σ pc lv (.int x :: st) := by
  subst e
  exact fun H locs ls hP hS hl => lv_if_eq h.1 h.2.1 d ht (fun q => kt q H locs ls hP hS hl) (fun q => kf q H locs ls hP hS hl)
theorem g_icne (h : my_OK X w lay cc own nL ret) (tgt pc' : Nat) {x y : Int32} {off : Int} (d : decode cc pc = .ok (.if_icmp .ne off, 3)) (ht : (pc : Int) + off = (tgt : Int)) (e : pc + 3 = pc') (kt : ¬ x = y → Go X w lay k nL v τ σ tgt lv st) (kf : x = y → Go X w lay k nL v τ σ pc' lv st) : Go X w lay k nL v τ σ pc lv (.int y :: .int x :: st) := by
  subst e
  exact fun H locs ls hP hS hl => lv_icmp_ne h.1 h.2.1 d ht (fun q => kt q H locs ls hP hS hl) (fun q => kf q H locs ls hP hS hl)
theorem g_ifne (h : my_OK X w lay cc own nL ret) (tgt pc' : Nat) {x : Int32} {off : Int} (d : decode cc pc = .ok (.ifCond .ne off, 3)) (ht : (pc : Int) + off = (tgt : Int)) (e : pc + 3 = pc') (kt : ¬ x = 0 → Go X w lay k nL v τ σ tgt lv st) (kf : x = 0 → Go X w lay k nL v τ σ pc' lv st) : Go X w lay k nL v τ σ pc lv (.int x :: st) := by
  subst e
  exact fun H locs ls hP hS hl => lv_if_ne h.1 h.2.1 d ht (fun q => kt q H locs ls hP hS hl) (fun q => kf q H locs ls hP hS hl)
theorem g_iclt (h : my_OK X w lay cc own nL ret) (tgt pc' : Nat) {x y : Int32} {off : Int} (d : decode cc pc = .ok (.if_icmp .lt off, 3)) (ht : (pc : Int) + off = (tgt : Int)) (e : pc + 3 = pc') (kt : x < y → Go X w lay k nL v τ σ tgt lv st) (kf : ¬ x < y → Go X w lay k nL v τ σ pc' lv st) : Go X w lay k nL v τ σ pc lv (.int y :: .int x :: st) := by
  subst e
  exact fun H locs ls hP hS hl => lv_icmp_lt h.1 h.2.1 d ht (fun q => kt q H locs ls hP hS hl) (fun q => kf q H locs ls hP hS hl)
theorem g_iflt (h : my_OK X w lay cc own nL ret) (tgt pc' : Nat) {x : Int32} {off : Int} (d : decode cc pc = .ok (.ifCond .lt off, 3)) (ht : (pc : Int) + off = (tgt : Int)) (e : pc + 3 = pc') (kt : x < 0 → Go X w lay k nL v τ σ tgt lv st) (kf : ¬ x < 0 → Go X w lay k nL v τ σ pc' lv st) : Go X w lay k nL v τ σ pc lv (.int x :: st) := by
  subst e
  exact fun H locs ls hP hS hl => lv_if_lt h.1 h.2.1 d ht (fun q => kt q H locs ls hP hS hl) (fun q => kf q H locs ls hP hS hl)
theorem g_icge (h : my_OK X w lay cc own nL ret) (tgt pc' : Nat) {x y : Int32} {off : Int} (d : decode cc pc = .ok (.if_icmp .ge off, 3)) (ht : (pc : Int) + off = (tgt : Int)) (e : pc + 3 = pc') (kt : y ≤ x → Go X w lay k nL v τ σ tgt lv st) (kf : ¬ y ≤ x → Go X w lay k nL v τ σ pc' lv st) : Go X w lay k nL v τ σ pc lv (.int y :: .int x :: st) := by
  subst e
  exact fun H locs ls hP hS hl => lv_icmp_ge h.1 h.2.1 d ht (fun q => kt q H locs ls hP hS hl) (fun q => kf q H locs ls hP hS hl)
theorem g_ifge (h : my_OK X w lay cc own nL ret) (tgt pc' : Nat) {x : Int32} {off : Int} (d : decode cc pc = .ok (.ifCond .ge off, 3)) (ht : (pc : Int) + off = (tgt : Int)) (e : pc + 3 = pc') (kt : 0 ≤ x → Go X w lay k nL v τ σ tgt lv st) (kf : ¬ 0 ≤ x → Go X w lay k nL v τ σ pc' lv st) : Go X w lay k nL v τ σ pc lv (.int x :: st) := by
  subst e
  exact fun H locs ls hP hS hl => lv_if_ge h.1 h.2.1 d ht (fun q => kt q H locs ls hP hS hl) (fun q => kf q H locs ls hP hS hl)
theorem g_icgt (h : my_OK X w lay cc own nL ret) (tgt pc' : Nat) {x y : Int32} {off : Int} (d : decode cc pc = .ok (.if_icmp .gt off, 3)) (ht : (pc : Int) + off = (tgt : Int)) (e : pc + 3 = pc') (kt : y < x → Go X w lay k nL v τ σ tgt lv st) (kf : ¬ y < x → Go X w lay k nL v τ σ pc' lv st) : Go X w lay k nL v τ σ pc lv (.int y :: .int x :: st) := by
  subst e
  exact fun H locs ls hP hS hl => lv_icmp_gt h.1 h.2.1 d ht (fun q => kt q H locs ls hP hS hl) (fun q => kf q H locs ls hP hS hl)
theorem g_ifgt (h : my_OK X w lay cc own nL ret) (tgt pc' : Nat) {x : Int32} {off : Int} (d : decode cc pc = .ok (.ifCond .gt off, 3)) (ht : (pc : Int) + off = (tgt : Int)) (e : pc + 3 = pc') (kt : 0 < x → Go X w lay k nL v τ σ tgt lv st) (kf : ¬ 0 < x → Go X w lay k nL v τ σ pc' lv st) : Go X w lay k nL v τ σ pc lv (.int x :: st) := by
  subst e
  exact fun H locs ls hP hS hl => lv_if_gt h.1 h.2.1 d ht (fun q => kt q H locs ls hP hS hl) (fun q => kf q H locs ls hP hS hl)
theorem g_icle (h : my_OK X w lay cc own nL ret) (tgt pc' : Nat) {x y : Int32} {off : Int} (d : decode cc pc = .ok (.if_icmp .le off, 3)) (ht : (pc : Int) + off = (tgt : Int)) (e : pc + 3 = pc') (kt : x ≤ y → Go X w lay k nL v τ σ tgt lv st) (kf : ¬ x ≤ y → Go X w lay k nL v τ σ pc' lv st) : Go X w lay k nL v τ σ pc lv (.int y :: .int x :: st) := by
  subst e
  exact fun H locs ls hP hS hl => lv_icmp_le h.1 h.2.1 d ht (fun q => kt q H locs ls hP hS hl) (fun q => kf q H locs ls hP hS hl)
theorem g_ifle (h : my_OK X w lay cc own nL ret) (tgt pc' : Nat) {x : Int32} {off : Int} (d : decode cc pc = .ok (.ifCond .le off, 3)) (ht : (pc : Int) + off = (tgt : Int)) (e : pc + 3 = pc') (kt : x ≤ 0 → Go X w lay k nL v τ σ tgt lv st) (kf : ¬ x ≤ 0 → Go X w lay k nL v τ σ pc' lv st) : Go X w lay k nL v τ σ pc lv (.int x :: st) := by
  subst e
  exact fun H locs ls hP hS hl => lv_if_le h.1 h.2.1 d ht (fun q => kt q H locs ls hP hS hl) (fun q => kf q H locs ls hP hS hl)
theorem g_tsI (h : my_OK X w lay cc own nL ret) (tgt : Nat) {x : Int32} {dflt lo hi : Int} {offs : Array Int} {len : Nat} {off : Int} (d : decode cc pc = .ok (.tableswitch dflt lo hi offs, len)) (c : Int32) (hc : x = c) (h1 : ¬ c.toInt < lo) (h2 : ¬ hi < c.toInt) (ho : offs[(c.toInt - lo).toNat]? = some off) (ht : (pc : Int) + off = (tgt : Int)) (kk : Go X w lay k nL v τ σ tgt lv st) : Go X w lay k nL v τ σ pc lv (.int x :: st) := by
  subst hc
  exact fun H locs ls hP hS hl => lv_tableIn h.1 h.2.1 d h1 h2 ho ht (kk H locs ls hP hS hl)
theorem g_tsO (h : my_OK X w lay cc own nL ret) (tgt : Nat) {x : Int32} {dflt lo hi : Int} {offs : Array Int} {len : Nat} (d : decode cc pc = .ok (.tableswitch dflt lo hi offs, len)) (h1 : x.toInt < lo ∨ hi < x.toInt) (ht : (pc : Int) + dflt = (tgt : Int)) (kk : Go X w lay k nL v τ σ tgt lv st) : Go X w lay k nL v τ σ pc lv (.int x :: st) := fun H locs ls hP hS hl => lv_tableOut h.1 h.2.1 d h1 ht (kk H locs ls hP hS hl)
theorem g_lsw (h : my_OK X w lay cc own nL ret) (tgt : Nat) {x : Int32} {dflt : Int} {ps : Array (Int × Int)} {len : Nat} {off : Int} (d : decode cc pc = .ok (.lookupswitch dflt ps, len)) (hp : (ps.toList.zip (ps.toList.drop 1)).all (fun (a, next) => a.1 < next.1) = true) (ho : Op.lookupswitch.offset ps.toList dflt x.toInt = off) (ht : (pc : Int) + off = (tgt : Int)) (kk : Go X w lay k nL v τ σ tgt lv st) : Go X w lay k nL v τ σ pc lv (.int x :: st) := fun H locs ls hP hS hl => lv_lookup h.1 h.2.1 d hp ho ht (kk H locs ls hP hS hl)
theorem g_iln (h : my_OK X w lay cc own nL ret) (pc' : Nat) {kk0 : Fin 4} {i : Nat} {x : Int32} (d : decode cc pc = .ok (.iload_n kk0, 1)) (hi : (kk0 : Nat) = i) (e : pc + 1 = pc') (hl0 : lv[i]? = some (some (.int x))) (kk : Go X w lay k nL v τ σ pc' lv (.int x :: st)) : Go X w lay k nL v τ σ pc lv st := by
  subst e
  exact fun H locs ls hP hS hl => lv_iload_n h.1 h.2.1 d hi (hl.2.2 _ _ hl0) (kk H locs ls hP hS hl)
theorem g_ilw (h : my_OK X w lay cc own nL ret) (pc' : Nat) {i : Nat} {x : Int32} (d : decode cc pc = .ok (.iload i, 2)) (e : pc + 2 = pc') (hl0 : lv[i]? = some (some (.int x))) (kk : Go X w lay k nL v τ σ pc' lv (.int x :: st)) : Go X w lay k nL v τ σ pc lv st := by
  subst e
  exact fun H locs ls hP hS hl => lv_iload h.1 h.2.1 d (hl.2.2 _ _ hl0) (kk H locs ls hP hS hl)
theorem g_aln (h : my_OK X w lay cc own nL ret) (pc' : Nat) {kk0 : Fin 4} {i : Nat} {x : Nat} (d : decode cc pc = .ok (.aload_n kk0, 1)) (hi : (kk0 : Nat) = i) (e : pc + 1 = pc') (hl0 : lv[i]? = some (some (.ref x))) (kk : Go X w lay k nL v τ σ pc' lv (.ref x :: st)) : Go X w lay k nL v τ σ pc lv st := by
  subst e
  exact fun H locs ls hP hS hl => lv_aload_n h.1 h.2.1 d hi (hl.2.2 _ _ hl0) (kk H locs ls hP hS hl)
theorem g_alw (h : my_OK X w lay cc own nL ret) (pc' : Nat) {i : Nat} {x : Nat} (d : decode cc pc = .ok (.aload i, 2)) (e : pc + 2 = pc') (hl0 : lv[i]? = some (some (.ref x))) (kk : Go X w lay k nL v τ σ pc' lv (.ref x :: st)) : Go X w lay k nL v τ σ pc lv st := by
  subst e
  exact fun H locs ls hP hS hl => lv_aload h.1 h.2.1 d (hl.2.2 _ _ hl0) (kk H locs ls hP hS hl)
theorem g_lln (h : my_OK X w lay cc own nL ret) (pc' : Nat) {kk0 : Fin 4} {i : Nat} {x : Int64} (d : decode cc pc = .ok (.lload_n kk0, 1)) (hi : (kk0 : Nat) = i) (e : pc + 1 = pc') (hl0 : lv[i]? = some (some (.long x))) (kk : Go X w lay k nL v τ σ pc' lv (.long x :: st)) : Go X w lay k nL v τ σ pc lv st := by
  subst e
  exact fun H locs ls hP hS hl => lv_lload_n h.1 h.2.1 d hi (hl.2.2 _ _ hl0) (kk H locs ls hP hS hl)
theorem g_llw (h : my_OK X w lay cc own nL ret) (pc' : Nat) {i : Nat} {x : Int64} (d : decode cc pc = .ok (.lload i, 2)) (e : pc + 2 = pc') (hl0 : lv[i]? = some (some (.long x))) (kk : Go X w lay k nL v τ σ pc' lv (.long x :: st)) : Go X w lay k nL v τ σ pc lv st := by
  subst e
  exact fun H locs ls hP hS hl => lv_lload h.1 h.2.1 d (hl.2.2 _ _ hl0) (kk H locs ls hP hS hl)
theorem g_isn (h : my_OK X w lay cc own nL ret) (pc' : Nat) {kk0 : Fin 4} {i : Nat} {x : Int32} (d : decode cc pc = .ok (.istore_n kk0, 1)) (hi : (kk0 : Nat) = i) (e : pc + 1 = pc') (hn : i < nL) (hp : ∀ j, j + 1 = i → my_okp lv j) (kk : Go X w lay k nL v τ σ pc' (lv.set i (some (.int x))) st) : Go X w lay k nL v τ σ pc lv (.int x :: st) := by
  subst e
  exact fun H locs ls hP hS hl => lv_istore_n h.1 h.2.1 d hi (my_has_lv hl) hn rfl (fun ls1 hl1 => kk H locs ls1 hP hS (my_set1 hp hl1))
theorem g_isw (h : my_OK X w lay cc own nL ret) (pc' : Nat) {i : Nat} {x : Int32} (d : decode cc pc = .ok (.istore i, 2)) (e : pc + 2 = pc') (hn : i < nL) (hp : ∀ j, j + 1 = i → my_okp lv j) (kk : Go X w lay k nL v τ σ pc' (lv.set i (some (.int x))) st) : Go X w lay k nL v τ σ pc lv (.int x :: st) := by
  subst e
  exact fun H locs ls hP hS hl => lv_istore h.1 h.2.1 d (my_has_lv hl) hn rfl (fun ls1 hl1 => kk H locs ls1 hP hS (my_set1 hp hl1))
theorem g_asn (h : my_OK X w lay cc own nL ret) (pc' : Nat) {kk0 : Fin 4} {i : Nat} {x : Nat} (d : decode cc pc = .ok (.astore_n kk0, 1)) (hi : (kk0 : Nat) = i) (e : pc + 1 = pc') (hn : i < nL) (hp : ∀ j, j + 1 = i → my_okp lv j) (kk : Go X w lay k nL v τ σ pc' (lv.set i (some (.ref x))) st) : Go X w lay k nL v τ σ pc lv (.ref x :: st) := by
  subst e
  exact fun H locs ls hP hS hl => lv_astore_n h.1 h.2.1 d hi (my_has_lv hl) hn rfl (fun ls1 hl1 => kk H locs ls1 hP hS (my_set1 hp hl1))
theorem g_asw (h : my_OK X w lay cc own nL ret) (pc' : Nat) {i : Nat} {x : Nat} (d : decode cc pc = .ok (.astore i, 2)) (e : pc + 2 = pc') (hn : i < nL) (hp : ∀ j, j + 1 = i → my_okp lv j) (kk : Go X w lay k nL v τ σ pc' (lv.set i (some (.ref x))) st) : Go X w lay k nL v τ σ pc lv (.ref x :: st) := by
  subst e
  exact fun H locs ls hP hS hl => lv_astore h.1 h.2.1 d (my_has_lv hl) hn rfl (fun ls1 hl1 => kk H locs ls1 hP hS (my_set1 hp hl1))
theorem g_lsn (h : my_OK X w lay cc own nL ret) (pc' : Nat) {kk0 : Fin 4} {i : Nat} {x : Int64} (d : decode cc pc = .ok (.lstore_n kk0, 1)) (hi : (kk0 : Nat) = i) (e : pc + 1 = pc') (hn : i + 1 < nL) (hp : ∀ j, j + 1 = i → my_okp lv j) (kk : Go X w lay k nL v τ σ pc' ((lv.set i (some (.long x))).set (i + 1) none) st) : Go X w lay k nL v τ σ pc lv (.long x :: st) := by
  subst e
  exact fun H locs ls hP hS hl => lv_lstore_n h.1 h.2.1 d hi (my_has_lv hl) hn rfl (fun ls1 hl1 => kk H locs ls1 hP hS (my_set2 hp hl1))
theorem g_lsw2 (h : my_OK X w lay cc own nL ret) (pc' : Nat) {i : Nat} {x : Int64} (d : decode cc pc = .ok (.lstore i, 2)) (e : pc + 2 = pc') (hn : i + 1 < nL) (hp : ∀ j, j + 1 = i → my_okp lv j) (kk : Go X w lay k nL v τ σ pc' ((lv.set i (some (.long x))).set (i + 1) none) st) : Go X w lay k nL v τ σ pc lv (.long x :: st) := by
  subst e
  exact fun H locs ls hP hS hl => lv_lstore h.1 h.2.1 d (my_has_lv hl) hn rfl (fun ls1 hl1 => kk H locs ls1 hP hS (my_set2 hp hl1))
theorem g_incg (h : my_OK X w lay cc own nL ret) (pc' : Nat) {i : Nat} {n : Int} {x y : Int32} (hv : x + Int32.ofInt n = y) (d : decode cc pc = .ok (.iinc i n, 3)) (e : pc + 3 = pc') (hl0 : lv[i]? = some (some (.int x))) (hn : i < nL) (hp : ∀ j, j + 1 = i → my_okp lv j) (kk : Go X w lay k nL v τ σ pc' (lv.set i (some (.int y))) st) : Go X w lay k nL v τ σ pc lv st := by
  subst e
  intro H locs ls hP hS hl
  obtain ⟨q, hq⟩ := List.getElem?_of_mem (my_al_mem.mpr hl0)
  exact lv_iinc h.1 h.2.1 d (my_has_lv hl) (k := q) hq hv hn rfl (fun ls1 hl1 => kk H locs ls1 hP hS (my_set1 hp hl1))
theorem g_il0 (h : my_OK X w lay cc own nL ret) (pc' : Nat) {r : List (Option Value)} {x : Int32} (d : decode cc pc = .ok (.iload_n 0, 1)) (e : pc + 1 = pc') (kk : Go X w lay k nL v τ σ pc' (some (.int x) :: r) (.int x :: st)) : Go X w lay k nL v τ σ pc (some (.int x) :: r) st := g_iln h pc' d rfl e rfl kk
theorem g_al0 (h : my_OK X w lay cc own nL ret) (pc' : Nat) {r : List (Option Value)} {x : Nat} (d : decode cc pc = .ok (.aload_n 0, 1)) (e : pc + 1 = pc') (kk : Go X w lay k nL v τ σ pc' (some (.ref x) :: r) (.ref x :: st)) : Go X w lay k nL v τ σ pc (some (.ref x) :: r) st := g_aln h pc' d rfl e rfl kk
theorem g_ll0 (h : my_OK X w lay cc own nL ret) (pc' : Nat) {r : List (Option Value)} {x : Int64} (d : decode cc pc = .ok (.lload_n 0, 1)) (e : pc + 1 = pc') (kk : Go X w lay k nL v τ σ pc' (some (.long x) :: r) (.long x :: st)) : Go X w lay k nL v τ σ pc (some (.long x) :: r) st := g_lln h pc' d rfl e rfl kk
theorem g_is0 (h : my_OK X w lay cc own nL ret) (pc' : Nat) {o : Option Value} {r : List (Option Value)} {x : Int32} (hn : 0 < nL) (d : decode cc pc = .ok (.istore_n 0, 1)) (e : pc + 1 = pc') (kk : Go X w lay k nL v τ σ pc' (some (.int x) :: r) st) : Go X w lay k nL v τ σ pc (o :: r) (.int x :: st) := g_isn h pc' d rfl e hn (fun j hj => absurd hj (by omega)) kk
theorem g_as0 (h : my_OK X w lay cc own nL ret) (pc' : Nat) {o : Option Value} {r : List (Option Value)} {x : Nat} (hn : 0 < nL) (d : decode cc pc = .ok (.astore_n 0, 1)) (e : pc + 1 = pc') (kk : Go X w lay k nL v τ σ pc' (some (.ref x) :: r) st) : Go X w lay k nL v τ σ pc (o :: r) (.ref x :: st) := g_asn h pc' d rfl e hn (fun j hj => absurd hj (by omega)) kk
theorem g_ls0 (h : my_OK X w lay cc own nL ret) (pc' : Nat) {o o2 : Option Value} {r : List (Option Value)} {x : Int64} (hn : 0 + 1 < nL) (d : decode cc pc = .ok (.lstore_n 0, 1)) (e : pc + 1 = pc') (kk : Go X w lay k nL v τ σ pc' (some (.long x) :: none :: r) st) : Go X w lay k nL v τ σ pc (o :: o2 :: r) (.long x :: st) := g_lsn h pc' d rfl e hn (fun j hj => absurd hj (by omega)) kk
theorem g_inc0 (h : my_OK X w lay cc own nL ret) (pc' : Nat) {r : List (Option Value)} {n : Int} {x y : Int32} (hv : x + Int32.ofInt n = y) (hn : 0 < nL) (d : decode cc pc = .ok (.iinc 0 n, 3)) (e : pc + 3 = pc') (kk : Go X w lay k nL v τ σ pc' (some (.int y) :: r) st) : Go X w lay k nL v τ σ pc (some (.int x) :: r) st := g_incg h pc' hv d e rfl hn (fun j hj => absurd hj (by omega)) kk
theorem g_il1 (h : my_OK X w lay cc own nL ret) (pc' : Nat) {a0 : Option Value} {r : List (Option Value)} {x : Int32} (d : decode cc pc = .ok (.iload_n 1, 1)) (e : pc + 1 = pc') (kk : Go X w lay k nL v τ σ pc' (a0 :: some (.int x) :: r) (.int x :: st)) : Go X w lay k nL v τ σ pc (a0 :: some (.int x) :: r) st := g_iln h pc' d rfl e rfl kk
theorem g_al1 (h : my_OK X w lay cc own nL ret) (pc' : Nat) {a0 : Option Value} {r : List (Option Value)} {x : Nat} (d : decode cc pc = .ok (.aload_n 1, 1)) (e : pc + 1 = pc') (kk : Go X w lay k nL v τ σ pc' (a0 :: some (.ref x) :: r) (.ref x :: st)) : Go X w lay k nL v τ σ pc (a0 :: some (.ref x) :: r) st := g_aln h pc' d rfl e rfl kk
theorem g_ll1 (h : my_OK X w lay cc own nL ret) (pc' : Nat) {a0 : Option Value} {r : List (Option Value)} {x : Int64} (d : decode cc pc = .ok (.lload_n 1, 1)) (e : pc + 1 = pc') (kk : Go X w lay k nL v τ σ pc' (a0 :: some (.long x) :: r) (.long x :: st)) : Go X w lay k nL v τ σ pc (a0 :: some (.long x) :: r) st := g_lln h pc' d rfl e rfl kk
theorem g_is1 (h : my_OK X w lay cc own nL ret) (pc' : Nat) {a0 : Option Value} {o : Option Value} {r : List (Option Value)} {x : Int32} (hn : 1 < nL) (hc : my_c1 a0 = true) (d : decode cc pc = .ok (.istore_n 1, 1)) (e : pc + 1 = pc') (kk : Go X w lay k nL v τ σ pc' (a0 :: some (.int x) :: r) st) : Go X w lay k nL v τ σ pc (a0 :: o :: r) (.int x :: st) := g_isn h pc' d rfl e hn (fun j hj => by obtain rfl : j = 0 := (by omega); exact my_okp_of rfl hc) kk
theorem g_as1 (h : my_OK X w lay cc own nL ret) (pc' : Nat) {a0 : Option Value} {o : Option Value} {r : List (Option Value)} {x : Nat} (hn : 1 < nL) (hc : my_c1 a0 = true) (d : decode cc pc = .ok (.astore_n 1, 1)) (e : pc + 1 = pc') (kk : Go X w lay k nL v τ σ pc' (a0 :: some (.ref x) :: r) st) : Go X w lay k nL v τ σ pc (a0 :: o :: r) (.ref x :: st) := g_asn h pc' d rfl e hn (fun j hj => by obtain rfl : j = 0 := (by omega); exact my_okp_of rfl hc) kk
theorem g_ls1 (h : my_OK X w lay cc own nL ret) (pc' : Nat) {a0 : Option Value} {o o2 : Option Value} {r : List (Option Value)} {x : Int64} (hn : 1 + 1 < nL) (hc : my_c1 a0 = true) (d : decode cc pc = .ok (.lstore_n 1, 1)) (e : pc + 1 = pc') (kk : Go X w lay k nL v τ σ pc' (a0 :: some (.long x) :: none :: r) st) : Go X w lay k nL v τ σ pc (a0 :: o :: o2 :: r) (.long x :: st) := g_lsn h pc' d rfl e hn (fun j hj => by obtain rfl : j = 0 := (by omega); exact my_okp_of rfl hc) kk
theorem g_inc1 (h : my_OK X w lay cc own nL ret) (pc' : Nat) {a0 : Option Value} {r : List (Option Value)} {n : Int} {x y : Int32} (hv : x + Int32.ofInt n = y) (hn : 1 < nL) (hc : my_c1 a0 = true) (d : decode cc pc = .ok (.iinc 1 n, 3)) (e : pc + 3 = pc') (kk : Go X w lay k nL v τ σ pc' (a0 :: some (.int y) :: r) st) : Go X w lay k nL v τ σ pc (a0 :: some (.int x) :: r) st := g_incg h pc' hv d e rfl hn (fun j hj => by obtain rfl : j = 0 := (by omega); exact my_okp_of rfl hc) kk
theorem g_il2 (h : my_OK X w lay cc own nL ret) (pc' : Nat) {a0 a1 : Option Value} {r : List (Option Value)} {x : Int32} (d : decode cc pc = .ok (.iload_n 2, 1)) (e : pc + 1 = pc') (kk : Go X w lay k nL v τ σ pc' (a0 :: a1 :: some (.int x) :: r) (.int x :: st)) : Go X w lay k nL v τ σ pc (a0 :: a1 :: some (.int x) :: r) st := g_iln h pc' d rfl e rfl kk
theorem g_al2 (h : my_OK X w lay cc own nL ret) (pc' : Nat) {a0 a1 : Option Value} {r : List (Option Value)} {x : Nat} (d : decode cc pc = .ok (.aload_n 2, 1)) (e : pc + 1 = pc') (kk : Go X w lay k nL v τ σ pc' (a0 :: a1 :: some (.ref x) :: r) (.ref x :: st)) : Go X w lay k nL v τ σ pc (a0 :: a1 :: some (.ref x) :: r) st := g_aln h pc' d rfl e rfl kk
theorem g_ll2 (h : my_OK X w lay cc own nL ret) (pc' : Nat) {a0 a1 : Option Value} {r : List (Option Value)} {x : Int64} (d : decode cc pc = .ok (.lload_n 2, 1)) (e : pc + 1 = pc') (kk : Go X w lay k nL v τ σ pc' (a0 :: a1 :: some (.long x) :: r) (.long x :: st)) : Go X w lay k nL v τ σ pc (a0 :: a1 :: some (.long x) :: r) st := g_lln h pc' d rfl e rfl kk
theorem g_is2 (h : my_OK X w lay cc own nL ret) (pc' : Nat) {a0 a1 : Option Value} {o : Option Value} {r : List (Option Value)} {x : Int32} (hn : 2 < nL) (hc : my_c1 a1 = true) (d : decode cc pc = .ok (.istore_n 2, 1)) (e : pc + 1 = pc') (kk : Go X w lay k nL v τ σ pc' (a0 :: a1 :: some (.int x) :: r) st) : Go X w lay k nL v τ σ pc (a0 :: a1 :: o :: r) (.int x :: st) := g_isn h pc' d rfl e hn (fun j hj => by obtain rfl : j = 1 := (by omega); exact my_okp_of rfl hc) kk
theorem g_as2 (h : my_OK X w lay cc own nL ret) (pc' : Nat) {a0 a1 : Option Value} {o : Option Value} {r : List (Option Value)} {x : Nat} (hn : 2 < nL) (hc : my_c1 a1 = true) (d : decode cc pc = .ok (.astore_n 2, 1)) (e : pc + 1 = pc') (kk : Go X w lay k nL v τ σ pc' (a0 :: a1 :: some (.ref x) :: r) st) : Go X w lay k nL v τ σ pc (a0 :: a1 :: o :: r) (.ref x :: st) := g_asn h pc' d rfl e hn (fun j hj => by obtain rfl : j = 1 := (by omega); exact my_okp_of rfl hc) kk
theorem g_ls2 (h : my_OK X w lay cc own nL ret) (pc' : Nat) {a0 a1 : Option Value} {o o2 : Option Value} {r : List (Option Value)} {x : Int64} (hn : 2 + 1 < nL) (hc : my_c1 a1 = true) (d : decode cc pc = .ok (.lstore_n 2, 1)) (e : pc + 1 = pc') (kk : Go X w lay k nL v τ σ pc' (a0 :: a1 :: some (.long x) :: none :: r) st) : Go X w lay k nL v τ σ pc (a0 :: a1 :: o :: o2 :: r) (.long x :: st) := g_lsn h pc' d rfl e hn (fun j hj => by obtain rfl : j = 1 := (by omega); exact my_okp_of rfl hc) kk
theorem g_inc2 (h : my_OK X w lay cc own nL ret) (pc' : Nat) {a0 a1 : Option Value} {r : List (Option Value)} {n : Int} {x y : Int32} (hv : x + Int32.ofInt n = y) (hn : 2 < nL) (hc : my_c1 a1 = true) (d : decode cc pc = .ok (.iinc 2 n, 3)) (e : pc + 3 = pc') (kk : Go X w lay k nL v τ σ pc' (a0 :: a1 :: some (.int y) :: r) st) : Go X w lay k nL v τ σ pc (a0 :: a1 :: some (.int x) :: r) st := g_incg h pc' hv d e rfl hn (fun j hj => by obtain rfl : j = 1 := (by omega); exact my_okp_of rfl hc) kk
theorem g_il3 (h : my_OK X w lay cc own nL ret) (pc' : Nat) {a0 a1 a2 : Option Value} {r : List (Option Value)} {x : Int32} (d : decode cc pc = .ok (.iload_n 3, 1)) (e : pc + 1 = pc') (kk : Go X w lay k nL v τ σ pc' (a0 :: a1 :: a2 :: some (.int x) :: r) (.int x :: st)) : Go X w lay k nL v τ σ pc (a0 :: a1 :: a2 :: some (.int x) :: r) st := g_iln h pc' d rfl e rfl kk
theorem g_al3 (h : my_OK X w lay cc own nL ret) (pc' : Nat) {a0 a1 a2 : Option Value} {r : List (Option Value)} {x : Nat} (d : decode cc pc = .ok (.aload_n 3, 1)) (e : pc + 1 = pc') (kk : Go X w lay k nL v τ σ pc' (a0 :: a1 :: a2 :: some (.ref x) :: r) (.ref x :: st)) : Go X w lay k nL v τ σ pc (a0 :: a1 :: a2 :: some (.ref x) :: r) st := g_aln h pc' d rfl e rfl kk
theorem g_ll3 (h : my_OK X w lay cc own nL ret) (pc' : Nat) {a0 a1 a2 : Option Value} {r : List (Option Value)} {x : Int64} (d : decode cc pc = .ok (.lload_n 3, 1)) (e : pc + 1 = pc') (kk : Go X w lay k nL v τ σ pc' (a0 :: a1 :: a2 :: some (.long x) :: r) (.long x :: st)) : Go X w lay k nL v τ σ pc (a0 :: a1 :: a2 :: some (.long x) :: r) st := g_lln h pc' d rfl e rfl kk
theorem g_is3 (h : my_OK X w lay cc own nL ret) (pc' : Nat) {a0 a1 a2 : Option Value} {o : Option Value} {r : List (Option Value)} {x : Int32} (hn : 3 < nL) (hc : my_c1 a2 = true) (d : decode cc pc = .ok (.istore_n 3, 1)) (e : pc + 1 = pc') (kk : Go X w lay k nL v τ σ pc' (a0 :: a1 :: a2 :: some (.int x) :: r) st) : Go X w lay k nL v τ σ pc (a0 :: a1 :: a2 :: o :: r) (.int x :: st) := g_isn h pc' d rfl e hn (fun j hj => by obtain rfl : j = 2 := (by omega); exact my_okp_of rfl hc) kk
theorem g_as3 (h : my_OK X w lay cc own nL ret) (pc' : Nat) {a0 a1 a2 : Option Value} {o : Option Value} {r : List (Option Value)} {x : Nat} (hn : 3 < nL) (hc : my_c1 a2 = true) (d : decode cc pc = .ok (.astore_n 3, 1)) (e : pc + 1 = pc') (kk : Go X w lay k nL v τ σ pc' (a0 :: a1 :: a2 :: some (.ref x) :: r) st) : Go X w lay k nL v τ σ pc (a0 :: a1 :: a2 :: o :: r) (.ref x :: st) := g_asn h pc' d rfl e hn (fun j hj => by obtain rfl : j = 2 := (by omega); exact my_okp_of rfl hc) kk
theorem g_ls3 (h : my_OK X w lay cc own nL ret) (pc' : Nat) {a0 a1 a2 : Option Value} {o o2 : Option Value} {r : List (Option Value)} {x : Int64} (hn : 3 + 1 < nL) (hc : my_c1 a2 = true) (d : decode cc pc = .ok (.lstore_n 3, 1)) (e : pc + 1 = pc') (kk : Go X w lay k nL v τ σ pc' (a0 :: a1 :: a2 :: some (.long x) :: none :: r) st) : Go X w lay k nL v τ σ pc (a0 :: a1 :: a2 :: o :: o2 :: r) (.long x :: st) := g_lsn h pc' d rfl e hn (fun j hj => by obtain rfl : j = 2 := (by omega); exact my_okp_of rfl hc) kk
theorem g_inc3 (h : my_OK X w lay cc own nL ret) (pc' : Nat) {a0 a1 a2 : Option Value} {r : List (Option Value)} {n : Int} {x y : Int32} (hv : x + Int32.ofInt n = y) (hn : 3 < nL) (hc : my_c1 a2 = true) (d : decode cc pc = .ok (.iinc 3 n, 3)) (e : pc + 3 = pc') (kk : Go X w lay k nL v τ σ pc' (a0 :: a1 :: a2 :: some (.int y) :: r) st) : Go X w lay k nL v τ σ pc (a0 :: a1 :: a2 :: some (.int x) :: r) st := g_incg h pc' hv d e rfl hn (fun j hj => by obtain rfl : j = 2 := (by omega); exact my_okp_of rfl hc) kk
theorem g_il4 (h : my_OK X w lay cc own nL ret) (pc' : Nat) {a0 a1 a2 a3 : Option Value} {r : List (Option Value)} {x : Int32} (d : decode cc pc = .ok (.iload 4, 2)) (e : pc + 2 = pc') (kk : Go X w lay k nL v τ σ pc' (a0 :: a1 :: a2 :: a3 :: some (.int x) :: r) (.int x :: st)) : Go X w lay k nL v τ σ pc (a0 :: a1 :: a2 :: a3 :: some (.int x) :: r) st := g_ilw h pc' d e rfl kk
theorem g_al4 (h : my_OK X w lay cc own nL ret) (pc' : Nat) {a0 a1 a2 a3 : Option Value} {r : List (Option Value)} {x : Nat} (d : decode cc pc = .ok (.aload 4, 2)) (e : pc + 2 = pc') (kk : Go X w lay k nL v τ σ pc' (a0 :: a1 :: a2 :: a3 :: some (.ref x) :: r) (.ref x :: st)) : Go X w lay k nL v τ σ pc (a0 :: a1 :: a2 :: a3 :: some (.ref x) :: r) st := g_alw h pc' d e rfl kk
theorem g_ll4 (h : my_OK X w lay cc own nL ret) (pc' : Nat) {a0 a1 a2 a3 : Option Value} {r : List (Option Value)} {x : Int64} (d : decode cc pc = .ok (.lload 4, 2)) (e : pc + 2 = pc') (kk : Go X w lay k nL v τ σ pc' (a0 :: a1 :: a2 :: a3 :: some (.long x) :: r) (.long x :: st)) : Go X w lay k nL v τ σ pc (a0 :: a1 :: a2 :: a3 :: some (.long x) :: r) st := g_llw h pc' d e rfl kk
theorem g_is4 (h : my_OK X w lay cc own nL ret) (pc' : Nat) {a0 a1 a2 a3 : Option Value} {o : Option Value} {r : List (Option Value)} {x : Int32} (hn : 4 < nL) (hc : my_c1 a3 = true) (d : decode cc pc = .ok (.istore 4, 2)) (e : pc + 2 = pc') (kk : Go X w lay k nL v τ σ pc' (a0 :: a1 :: a2 :: a3 :: some (.int x) :: r) st) : Go X w lay k nL v τ σ pc (a0 :: a1 :: a2 :: a3 :: o :: r) (.int x :: st) := g_isw h pc' d e hn (fun j hj => by obtain rfl : j = 3 := (by omega); exact my_okp_of rfl hc) kk
theorem g_as4 (h : my_OK X w lay cc own nL ret) (pc' : Nat) {a0 a1 a2 a3 : Option Value} {o : Option Value} {r : List (Option Value)} {x : Nat} (hn : 4 < nL) (hc : my_c1 a3 = true) (d : decode cc pc = .ok (.astore 4, 2)) (e : pc + 2 = pc') (kk : Go X w lay k nL v τ σ pc' (a0 :: a1 :: a2 :: a3 :: some (.ref x) :: r) st) : Go X w lay k nL v τ σ pc (a0 :: a1 :: a2 :: a3 :: o :: r) (.ref x :: st) := g_asw h pc' d e hn (fun j hj => by obtain rfl : j = 3 := (by omega); exact my_okp_of rfl hc) kk
theorem g_ls4 (h : my_OK X w lay cc own nL ret) (pc' : Nat) {a0 a1 a2 a3 : Option Value} {o o2 : Option Value} {r : List (Option Value)} {x : Int64} (hn : 4 + 1 < nL) (hc : my_c1 a3 = true) (d : decode cc pc = .ok (.lstore 4, 2)) (e : pc + 2 = pc') (kk : Go X w lay k nL v τ σ pc' (a0 :: a1 :: a2 :: a3 :: some (.long x) :: none :: r) st) : Go X w lay k nL v τ σ pc (a0 :: a1 :: a2 :: a3 :: o :: o2 :: r) (.long x :: st) := g_lsw2 h pc' d e hn (fun j hj => by obtain rfl : j = 3 := (by omega); exact my_okp_of rfl hc) kk
theorem g_inc4 (h : my_OK X w lay cc own nL ret) (pc' : Nat) {a0 a1 a2 a3 : Option Value} {r : List (Option Value)} {n : Int} {x y : Int32} (hv : x + Int32.ofInt n = y) (hn : 4 < nL) (hc : my_c1 a3 = true) (d : decode cc pc = .ok (.iinc 4 n, 3)) (e : pc + 3 = pc') (kk : Go X w lay k nL v τ σ pc' (a0 :: a1 :: a2 :: a3 :: some (.int y) :: r) st) : Go X w lay k nL v τ σ pc (a0 :: a1 :: a2 :: a3 :: some (.int x) :: r) st := g_incg h pc' hv d e rfl hn (fun j hj => by obtain rfl : j = 3 := (by omega); exact my_okp_of rfl hc) kk
theorem g_il5 (h : my_OK X w lay cc own nL ret) (pc' : Nat) {a0 a1 a2 a3 a4 : Option Value} {r : List (Option Value)} {x : Int32} (d : decode cc pc = .ok (.iload 5, 2)) (e : pc + 2 = pc') (kk : Go X w lay k nL v τ σ pc' (a0 :: a1 :: a2 :: a3 :: a4 :: some (.int x) :: r) (.int x :: st)) : Go X w lay k nL v τ σ pc (a0 :: a1 :: a2 :: a3 :: a4 :: some (.int x) :: r) st := g_ilw h pc' d e rfl kk
theorem g_al5 (h : my_OK X w lay cc own nL ret) (pc' : Nat) {a0 a1 a2 a3 a4 : Option Value} {r : List (Option Value)} {x : Nat} (d : decode cc pc = .ok (.aload 5, 2)) (e : pc + 2 = pc') (kk : Go X w lay k nL v τ σ pc' (a0 :: a1 :: a2 :: a3 :: a4 :: some (.ref x) :: r) (.ref x :: st)) : Go X w lay k nL v τ σ pc (a0 :: a1 :: a2 :: a3 :: a4 :: some (.ref x) :: r) st := g_alw h pc' d e rfl kk
theorem g_ll5 (h : my_OK X w lay cc own nL ret) (pc' : Nat) {a0 a1 a2 a3 a4 : Option Value} {r : List (Option Value)} {x : Int64} (d : decode cc pc = .ok (.lload 5, 2)) (e : pc + 2 = pc') (kk : Go X w lay k nL v τ σ pc' (a0 :: a1 :: a2 :: a3 :: a4 :: some (.long x) :: r) (.long x :: st)) : Go X w lay k nL v τ σ pc (a0 :: a1 :: a2 :: a3 :: a4 :: some (.long x) :: r) st := g_llw h pc' d e rfl kk
theorem g_is5 (h : my_OK X w lay cc own nL ret) (pc' : Nat) {a0 a1 a2 a3 a4 : Option Value} {o : Option Value} {r : List (Option Value)} {x : Int32} (hn : 5 < nL) (hc : my_c1 a4 = true) (d : decode cc pc = .ok (.istore 5, 2)) (e : pc + 2 = pc') (kk : Go X w lay k nL v τ σ pc' (a0 :: a1 :: a2 :: a3 :: a4 :: some (.int x) :: r) st) : Go X w lay k nL v τ σ pc (a0 :: a1 :: a2 :: a3 :: a4 :: o :: r) (.int x :: st) := g_isw h pc' d e hn (fun j hj => by obtain rfl : j = 4 := (by omega); exact my_okp_of rfl hc) kk
theorem g_as5 (h : my_OK X w lay cc own nL ret) (pc' : Nat) {a0 a1 a2 a3 a4 : Option Value} {o : Option Value} {r : List (Option Value)} {x : Nat} (hn : 5 < nL) (hc : my_c1 a4 = true) (d : decode cc pc = .ok (.astore 5, 2)) (e : pc + 2 = pc') (kk : Go X w lay k nL v τ σ pc' (a0 :: a1 :: a2 :: a3 :: a4 :: some (.ref x) :: r) st) : Go X w lay k nL v τ σ pc (a0 :: a1 :: a2 :: a3 :: a4 :: o :: r) (.ref x :: st) := g_asw h pc' d e hn (fun j hj => by obtain rfl : j = 4 := (by omega); exact my_okp_of rfl hc) kk
theorem g_ls5 (h : my_OK X w lay cc own nL ret) (pc' : Nat) {a0 a1 a2 a3 a4 : Option Value} {o o2 : Option Value} {r : List (Option Value)} {x : Int64} (hn : 5 + 1 < nL) (hc : my_c1 a4 = true) (d : decode cc pc = .ok (.lstore 5, 2)) (e : pc + 2 = pc') (kk : Go X w lay k nL v τ σ pc' (a0 :: a1 :: a2 :: a3 :: a4 :: some (.long x) :: none :: r) st) : Go X w lay k nL v τ σ pc (a0 :: a1 :: a2 :: a3 :: a4 :: o :: o2 :: r) (.long x :: st) := g_lsw2 h pc' d e hn (fun j hj => by obtain rfl : j = 4 := (by omega); exact my_okp_of rfl hc) kk
theorem g_inc5 (h : my_OK X w lay cc own nL ret) (pc' : Nat) {a0 a1 a2 a3 a4 : Option Value} {r : List (Option Value)} {n : Int} {x y : Int32} (hv : x + Int32.ofInt n = y) (hn : 5 < nL) (hc : my_c1 a4 = true) (d : decode cc pc = .ok (.iinc 5 n, 3)) (e : pc + 3 = pc') (kk : Go X w lay k nL v τ σ pc' (a0 :: a1 :: a2 :: a3 :: a4 :: some (.int y) :: r) st) : Go X w lay k nL v τ σ pc (a0 :: a1 :: a2 :: a3 :: a4 :: some (.int x) :: r) st := g_incg h pc' hv d e rfl hn (fun j hj => by obtain rfl : j = 4 := (by omega); exact my_okp_of rfl hc) kk
theorem g_il6 (h : my_OK X w lay cc own nL ret) (pc' : Nat) {a0 a1 a2 a3 a4 a5 : Option Value} {r : List (Option Value)} {x : Int32} (d : decode cc pc = .ok (.iload 6, 2)) (e : pc + 2 = pc') (kk : Go X w lay k nL v τ σ pc' (a0 :: a1 :: a2 :: a3 :: a4 :: a5 :: some (.int x) :: r) (.int x :: st)) : Go X w lay k nL v τ σ pc (a0 :: a1 :: a2 :: a3 :: a4 :: a5 :: some (.int x) :: r) st := g_ilw h pc' d e rfl kk
theorem g_al6 (h : my_OK X w lay cc own nL ret) (pc' : Nat) {a0 a1 a2 a3 a4 a5 : Option Value} {r : List (Option Value)} {x : Nat} (d : decode cc pc = .ok (.aload 6, 2)) (e : pc + 2 = pc') (kk : Go X w lay k nL v τ σ pc' (a0 :: a1 :: a2 :: a3 :: a4 :: a5 :: some (.ref x) :: r) (.ref x :: st)) : Go X w lay k nL v τ σ pc (a0 :: a1 :: a2 :: a3 :: a4 :: a5 :: some (.ref x) :: r) st := g_alw h pc' d e rfl kk
theorem g_ll6 (h : my_OK X w lay cc own nL ret) (pc' : Nat) {a0 a1 a2 a3 a4 a5 : Option Value} {r : List (Option Value)} {x : Int64} (d : decode cc pc = .ok (.lload 6, 2)) (e : pc + 2 = pc') (kk : Go X w lay k nL v τ σ pc' (a0 :: a1 :: a2 :: a3 :: a4 :: a5 :: some (.long x) :: r) (.long x :: st)) : Go X w lay k nL v τ σ pc (a0 :: a1 :: a2 :: a3 :: a4 :: a5 :: some (.long x) :: r) st := g_llw h pc' d e rfl kk
theorem g_is6 (h : my_OK X w lay cc own nL ret) (pc' : Nat) {a0 a1 a2 a3 a4 a5 : Option Value} {o : Option Value} {r : List (Option Value)} {x : Int32} (hn : 6 < nL) (hc : my_c1 a5 = true) (d : decode cc pc = .ok (.istore 6, 2)) (e : pc + 2 = pc') (kk : Go X w lay k nL v τ σ pc' (a0 :: a1 :: a2 :: a3 :: a4 :: a5 :: some (.int x) :: r) st) : Go X w lay k nL v τ σ pc (a0 :: a1 :: a2 :: a3 :: a4 :: a5 :: o :: r) (.int x :: st) := g_isw h pc' d e hn (fun j hj => by obtain rfl : j = 5 := (by omega); exact my_okp_of rfl hc) kk
theorem g_as6 (h : my_OK X w lay cc own nL ret) (pc' : Nat) {a0 a1 a2 a3 a4 a5 : Option Value} {o : Option Value} {r : List (Option Value)} {x : Nat} (hn : 6 < nL) (hc : my_c1 a5 = true) (d : decode cc pc = .ok (.astore 6, 2)) (e : pc + 2 = pc') (kk : Go X w lay k nL v τ σ pc' (a0 :: a1 :: a2 :: a3 :: a4 :: a5 :: some (.ref x) :: r) st) : Go X w lay k nL v τ σ pc (a0 :: a1 :: a2 :: a3 :: a4 :: a5 :: o :: r) (.ref x :: st) := g_asw h pc' d e hn (fun j hj => by obtain rfl : j = 5 := (by omega); exact my_okp_of rfl hc) kk
theorem g_ls6 (h : my_OK X w lay cc own nL ret) (pc' : Nat) {a0 a1 a2 a3 a4 a5 : Option Value} {o o2 : Option Value} {r : List (Option Value)} {x : Int64} (hn : 6 + 1 < nL) (hc : my_c1 a5 = true) (d : decode cc pc = .ok (.lstore 6, 2)) (e : pc + 2 = pc') (kk : Go X w lay k nL v τ σ pc' (a0 :: a1 :: a2 :: a3 :: a4 :: a5 :: some (.long x) :: none :: r) st) : Go X w lay k nL v τ σ pc (a0 :: a1 :: a2 :: a3 :: a4 :: a5 :: o :: o2 :: r) (.long x :: st) := g_lsw2 h pc' d e hn (fun j hj => by obtain rfl : j = 5 := (by omega); exact my_okp_of rfl hc) kk
theorem g_inc6 (h : my_OK X w lay cc own nL ret) (pc' : Nat) {a0 a1 a2 a3 a4 a5 : Option Value} {r : List (Option Value)} {n : Int} {x y : Int32} (hv : x + Int32.ofInt n = y) (hn : 6 < nL) (hc : my_c1 a5 = true) (d : decode cc pc = .ok (.iinc 6 n, 3)) (e : pc + 3 = pc') (kk : Go X w lay k nL v τ σ pc' (a0 :: a1 :: a2 :: a3 :: a4 :: a5 :: some (.int y) :: r) st) : Go X w lay k nL v τ σ pc (a0 :: a1 :: a2 :: a3 :: a4 :: a5 :: some (.int x) :: r) st := g_incg h pc' hv d e rfl hn (fun j hj => by obtain rfl : j = 5 := (by omega); exact my_okp_of rfl hc) kk
theorem g_il7 (h : my_OK X w lay cc own nL ret) (pc' : Nat) {a0 a1 a2 a3 a4 a5 a6 : Option Value} {r : List (Option Value)} {x : Int32} (d : decode cc pc = .ok (.iload 7, 2)) (e : pc + 2 = pc') (kk : Go X w lay k nL v τ σ pc' (a0 :: a1 :: a2 :: a3 :: a4 :: a5 :: a6 :: some (.int x) :: r) (.int x :: st)) : Go X w lay k nL v τ σ pc (a0 :: a1 :: a2 :: a3 :: a4 :: a5 :: a6 :: some (.int x) :: r) st := g_ilw h pc' d e rfl kk
theorem g_al7 (h : my_OK X w lay cc own nL ret) (pc' : Nat) {a0 a1 a2 a3 a4 a5 a6 : Option Value} {r : List (Option Value)} {x : Nat} (d : decode cc pc = .ok (.aload 7, 2)) (e : pc + 2 = pc') (kk : Go X w lay k nL v τ σ pc' (a0 :: a1 :: a2 :: a3 :: a4 :: a5 :: a6 :: some (.ref x) :: r) (.ref x :: st)) : Go X w lay k nL v τ σ pc (a0 :: a1 :: a2 :: a3 :: a4 :: a5 :: a6 :: some (.ref x) :: r) st := g_alw h pc' d e rfl kk
theorem g_ll7 (h : my_OK X w lay cc own nL ret) (pc' : Nat) {a0 a1 a2 a3 a4 a5 a6 : Option Value} {r : List (Option Value)} {x : Int64} (d : decode cc pc = .ok (.lload 7, 2)) (e : pc + 2 = pc') (kk : Go X w lay k nL v τ σ pc' (a0 :: a1 :: a2 :: a3 :: a4 :: a5 :: a6 :: some (.long x) :: r) (.long x :: st)) : Go X w lay k nL v τ σ pc (a0 :: a1 :: a2 :: a3 :: a4 :: a5 :: a6 :: some (.long x) :: r) st := g_llw h pc' d e rfl kk
theorem g_is7 (h : my_OK X w lay cc own nL ret) (pc' : Nat) {a0 a1 a2 a3 a4 a5 a6 : Option Value} {o : Option Value} {r : List (Option Value)} {x : Int32} (hn : 7 < nL) (hc : my_c1 a6 = true) (d : decode cc pc = .ok (.istore 7, 2)) (e : pc + 2 = pc') (kk : Go X w lay k nL v τ σ pc' (a0 :: a1 :: a2 :: a3 :: a4 :: a5 :: a6 :: some (.int x) :: r) st) : Go X w lay k nL v τ σ pc (a0 :: a1 :: a2 :: a3 :: a4 :: a5 :: a6 :: o :: r) (.int x :: st) := g_isw h pc' d e hn (fun j hj => by obtain rfl : j = 6 := (by omega); exact my_okp_of rfl hc) kk
theorem g_as7 (h : my_OK X w lay cc own nL ret) (pc' : Nat) {a0 a1 a2 a3 a4 a5 a6 : Option Value} {o : Option Value} {r : List (Option Value)} {x : Nat} (hn : 7 < nL) (hc : my_c1 a6 = true) (d : decode cc pc = .ok (.astore 7, 2)) (e : pc + 2 = pc') (kk : Go X w lay k nL v τ σ pc' (a0 :: a1 :: a2 :: a3 :: a4 :: a5 :: a6 :: some (.ref x) :: r) st) : Go X w lay k nL v τ σ pc (a0 :: a1 :: a2 :: a3 :: a4 :: a5 :: a6 :: o :: r) (.ref x :: st) := g_asw h pc' d e hn (fun j hj => by obtain rfl : j = 6 := (by omega); exact my_okp_of rfl hc) kk
theorem g_ls7 (h : my_OK X w lay cc own nL ret) (pc' : Nat) {a0 a1 a2 a3 a4 a5 a6 : Option Value} {o o2 : Option Value} {r : List (Option Value)} {x : Int64} (hn : 7 + 1 < nL) (hc : my_c1 a6 = true) (d : decode cc pc = .ok (.lstore 7, 2)) (e : pc + 2 = pc') (kk : Go X w lay k nL v τ σ pc' (a0 :: a1 :: a2 :: a3 :: a4 :: a5 :: a6 :: some (.long x) :: none :: r) st) : Go X w lay k nL v τ σ pc (a0 :: a1 :: a2 :: a3 :: a4 :: a5 :: a6 :: o :: o2 :: r) (.long x :: st) := g_lsw2 h pc' d e hn (fun j hj => by obtain rfl : j = 6 := (by omega); exact my_okp_of rfl hc) kk
theorem g_inc7 (h : my_OK X w lay cc own nL ret) (pc' : Nat) {a0 a1 a2 a3 a4 a5 a6 : Option Value} {r : List (Option Value)} {n : Int} {x y : Int32} (hv : x + Int32.ofInt n = y) (hn : 7 < nL) (hc : my_c1 a6 = true) (d : decode cc pc = .ok (.iinc 7 n, 3)) (e : pc + 3 = pc') (kk : Go X w lay k nL v τ σ pc' (a0 :: a1 :: a2 :: a3 :: a4 :: a5 :: a6 :: some (.int y) :: r) st) : Go X w lay k nL v τ σ pc (a0 :: a1 :: a2 :: a3 :: a4 :: a5 :: a6 :: some (.int x) :: r) st := g_incg h pc' hv d e rfl hn (fun j hj => by obtain rfl : j = 6 := (by omega); exact my_okp_of rfl hc) kk
theorem g_il8 (h : my_OK X w lay cc own nL ret) (pc' : Nat) {a0 a1 a2 a3 a4 a5 a6 a7 : Option Value} {r : List (Option Value)} {x : Int32} (d : decode cc pc = .ok (.iload 8, 2)) (e : pc + 2 = pc') (kk : Go X w lay k nL v τ σ pc' (a0 :: a1 :: a2 :: a3 :: a4 :: a5 :: a6 :: a7 :: some (.int x) :: r) (.int x :: st)) : Go X w lay k nL v τ σ pc (a0 :: a1 :: a2 :: a3 :: a4 :: a5 :: a6 :: a7 :: some (.int x) :: r) st := g_ilw h pc' d e rfl kk
theorem g_al8 (h : my_OK X w lay cc own nL ret) (pc' : Nat) {a0 a1 a2 a3 a4 a5 a6 a7 : Option Value} {r : List (Option Value)} {x : Nat} (d : decode cc pc = .ok (.aload 8, 2)) (e : pc + 2 = pc') (kk : Go X w lay k nL v τ σ pc' (a0 :: a1 :: a2 :: a3 :: a4 :: a5 :: a6 :: a7 :: some (.ref x) :: r) (.ref x :: st)) : Go X w lay k nL v τ σ pc (a0 :: a1 :: a2 :: a3 :: a4 :: a5 :: a6 :: a7 :: some (.ref x) :: r) st := g_alw h pc' d e rfl kk
theorem g_ll8 (h : my_OK X w lay cc own nL ret) (pc' : Nat) {a0 a1 a2 a3 a4 a5 a6 a7 : Option Value} {r : List (Option Value)} {x : Int64} (d : decode cc pc = .ok (.lload 8, 2)) (e : pc + 2 = pc') (kk : Go X w lay k nL v τ σ pc' (a0 :: a1 :: a2 :: a3 :: a4 :: a5 :: a6 :: a7 :: some (.long x) :: r) (.long x :: st)) : Go X w lay k nL v τ σ pc (a0 :: a1 :: a2 :: a3 :: a4 :: a5 :: a6 :: a7 :: some (.long x) :: r) st := g_llw h pc' d e rfl kk
theorem g_is8 (h : my_OK X w lay cc own nL ret) (pc' : Nat) {a0 a1 a2 a3 a4 a5 a6 a7 : Option Value} {o : Option Value} {r : List (Option Value)} {x : Int32} (hn : 8 < nL) (hc : my_c1 a7 = true) (d : decode cc pc = .ok (.istore 8, 2)) (e : pc + 2 = pc') (kk : Go X w lay k nL v τ σ pc' (a0 :: a1 :: a2 :: a3 :: a4 :: a5 :: a6 :: a7 :: some (.int x) :: r) st) : Go X w lay k nL v τ σ pc (a0 :: a1 :: a2 :: a3 :: a4 :: a5 :: a6 :: a7 :: o :: r) (.int x :: st) := g_isw h pc' d e hn (fun j hj => by obtain rfl : j = 7 := (by omega); exact my_okp_of rfl hc) kk
theorem g_as8 (h : my_OK X w lay cc own nL ret) (pc' : Nat) {a0 a1 a2 a3 a4 a5 a6 a7 : Option Value} {o : Option Value} {r : List (Option Value)} {x : Nat} (hn : 8 < nL) (hc : my_c1 a7 = true) (d : decode cc pc = .ok (.astore 8, 2)) (e : pc + 2 = pc') (kk : Go X w lay k nL v τ σ pc' (a0 :: a1 :: a2 :: a3 :: a4 :: a5 :: a6 :: a7 :: some (.ref x) :: r) st) : Go X w lay k nL v τ σ pc (a0 :: a1 :: a2 :: a3 :: a4 :: a5 :: a6 :: a7 :: o :: r) (.ref x :: st) := g_asw h pc' d e hn (fun j hj => by obtain rfl : j = 7 := (by omega); exact my_okp_of rfl hc) kk
theorem g_ls8 (h : my_OK X w lay cc own nL ret) (pc' : Nat) {a0 a1 a2 a3 a4 a5 a6 a7 : Option Value} {o o2 : Option Value} {r : List (Option Value)} {x : Int64} (hn : 8 + 1 < nL) (hc : my_c1 a7 = true) (d : decode cc pc = .ok (.lstore 8, 2)) (e : pc + 2 = pc') (kk : Go X w lay k nL v τ σ pc' (a0 :: a1 :: a2 :: a3 :: a4 :: a5 :: a6 :: a7 :: some (.long x) :: none :: r) st) : Go X w lay k nL v τ σ pc (a0 :: a1 :: a2 :: a3 :: a4 :: a5 :: a6 :: a7 :: o :: o2 :: r) (.long x :: st) := g_lsw2 h pc' d e hn (fun j hj => by obtain rfl : j = 7 := (by omega); exact my_okp_of rfl hc) kk
theorem g_inc8 (h : my_OK X w lay cc own nL ret) (pc' : Nat) {a0 a1 a2 a3 a4 a5 a6 a7 : Option Value} {r : List (Option Value)} {n : Int} {x y : Int32} (hv : x + Int32.ofInt n = y) (hn : 8 < nL) (hc : my_c1 a7 = true) (d : decode cc pc = .ok (.iinc 8 n, 3)) (e : pc + 3 = pc') (kk : Go X w lay k nL v τ σ pc' (a0 :: a1 :: a2 :: a3 :: a4 :: a5 :: a6 :: a7 :: some (.int y) :: r) st) : Go X w lay k nL v τ σ pc (a0 :: a1 :: a2 :: a3 :: a4 :: a5 :: a6 :: a7 :: some (.int x) :: r) st := g_incg h pc' hv d e rfl hn (fun j hj => by obtain rfl : j = 7 := (by omega); exact my_okp_of rfl hc) kk
theorem g_il9 (h : my_OK X w lay cc own nL ret) (pc' : Nat) {a0 a1 a2 a3 a4 a5 a6 a7 a8 : Option Value} {r : List (Option Value)} {x : Int32} (d : decode cc pc = .ok (.iload 9, 2)) (e : pc + 2 = pc') (kk : Go X w lay k nL v τ σ pc' (a0 :: a1 :: a2 :: a3 :: a4 :: a5 :: a6 :: a7 :: a8 :: some (.int x) :: r) (.int x :: st)) : Go X w lay k nL v τ σ pc (a0 :: a1 :: a2 :: a3 :: a4 :: a5 :: a6 :: a7 :: a8 :: some (.int x) :: r) st := g_ilw h pc' d e rfl kk
theorem g_al9 (h : my_OK X w lay cc own nL ret) (pc' : Nat) {a0 a1 a2 a3 a4 a5 a6 a7 a8 : Option Value} {r : List (Option Value)} {x : Nat} (d : decode cc pc = .ok (.aload 9, 2)) (e : pc + 2 = pc') (kk : Go X w lay k nL v τ σ pc' (a0 :: a1 :: a2 :: a3 :: a4 :: a5 :: a6 :: a7 :: a8 :: some (.ref x) :: r) (.ref x :: st)) : Go X w lay k nL v τ σ pc (a0 :: a1 :: a2 :: a3 :: a4 :: a5 :: a6 :: a7 :: a8 :: some (.ref x) :: r) st := g_alw h pc' d e rfl kk
theorem g_ll9 (h : my_OK X w lay cc own nL ret) (pc' : Nat) {a0 a1 a2 a3 a4 a5 a6 a7 a8 : Option Value} {r : List (Option Value)} {x : Int64} (d : decode cc pc = .ok (.lload 9, 2)) (e : pc + 2 = pc') (kk : Go X w lay k nL v τ σ pc' (a0 :: a1 :: a2 :: a3 :: a4 :: a5 :: a6 :: a7 :: a8 :: some (.long x) :: r) (.long x :: st)) : Go X w lay k nL v τ σ pc (a0 :: a1 :: a2 :: a3 :: a4 :: a5 :: a6 :: a7 :: a8 :: some (.long x) :: r) st := g_llw h pc' d e rfl kk
theorem g_is9 (h : my_OK X w lay cc own nL ret) (pc' : Nat) {a0 a1 a2 a3 a4 a5 a6 a7 a8 : Option Value} {o : Option Value} {r : List (Option Value)} {x : Int32} (hn : 9 < nL) (hc : my_c1 a8 = true) (d : decode cc pc = .ok (.istore 9, 2)) (e : pc + 2 = pc') (kk : Go X w lay k nL v τ σ pc' (a0 :: a1 :: a2 :: a3 :: a4 :: a5 :: a6 :: a7 :: a8 :: some (.int x) :: r) st) : Go X w lay k nL v τ σ pc (a0 :: a1 :: a2 :: a3 :: a4 :: a5 :: a6 :: a7 :: a8 :: o :: r) (.int x :: st) := g_isw h pc' d e hn (fun j hj => by obtain rfl : j = 8 := (by omega); exact my_okp_of rfl hc) kk
theorem g_as9 (h : my_OK X w lay cc own nL ret) (pc' : Nat) {a0 a1 a2 a3 a4 a5 a6 a7 a8 : Option Value} {o : Option Value} {r : List (Option Value)} {x : Nat} (hn : 9 < nL) (hc : my_c1 a8 = true) (d : decode cc pc = .ok (.astore 9, 2)) (e : pc + 2 = pc') (kk : Go X w lay k nL v τ σ pc' (a0 :: a1 :: a2 :: a3 :: a4 :: a5 :: a6 :: a7 :: a8 :: some (.ref x) :: r) st) : Go X w lay k nL v τ σ pc (a0 :: a1 :: a2 :: a3 :: a4 :: a5 :: a6 :: a7 :: a8 :: o :: r) (.ref x :: st) := g_asw h pc' d e hn (fun j hj => by obtain rfl : j = 8 := (by omega); exact my_okp_of rfl hc) kk
theorem g_ls9 (h : my_OK X w lay cc own nL ret) (pc' : Nat) {a0 a1 a2 a3 a4 a5 a6 a7 a8 : Option Value} {o o2 : Option Value} {r : List (Option Value)} {x : Int64} (hn : 9 + 1 < nL) (hc : my_c1 a8 = true) (d : decode cc pc = .ok (.lstore 9, 2)) (e : pc + 2 = pc') (kk : Go X w lay k nL v τ σ pc' (a0 :: a1 :: a2 :: a3 :: a4 :: a5 :: a6 :: a7 :: a8 :: some (.long x) :: none :: r) st) : Go X w lay k nL v τ σ pc (a0 :: a1 :: a2 :: a3 :: a4 :: a5 :: a6 :: a7 :: a8 :: o :: o2 :: r) (.long x :: st) := g_lsw2 h pc' d e hn (fun j hj => by obtain rfl : j = 8 := (by omega); exact my_okp_of rfl hc) kk
theorem g_inc9 (h : my_OK X w lay cc own nL ret) (pc' : Nat) {a0 a1 a2 a3 a4 a5 a6 a7 a8 : Option Value} {r : List (Option Value)} {n : Int} {x y : Int32} (hv : x + Int32.ofInt n = y) (hn : 9 < nL) (hc : my_c1 a8 = true) (d : decode cc pc = .ok (.iinc 9 n, 3)) (e : pc + 3 = pc') (kk : Go X w lay k nL v τ σ pc' (a0 :: a1 :: a2 :: a3 :: a4 :: a5 :: a6 :: a7 :: a8 :: some (.int y) :: r) st) : Go X w lay k nL v τ σ pc (a0 :: a1 :: a2 :: a3 :: a4 :: a5 :: a6 :: a7 :: a8 :: some (.int x) :: r) st := g_incg h pc' hv d e rfl hn (fun j hj => by obtain rfl : j = 8 := (by omega); exact my_okp_of rfl hc) kk
theorem g_il10 (h : my_OK X w lay cc own nL ret) (pc' : Nat) {a0 a1 a2 a3 a4 a5 a6 a7 a8 a9 : Option Value} {r : List (Option Value)} {x : Int32} (d : decode cc pc = .ok (.iload 10, 2)) (e : pc + 2 = pc') (kk : Go X w lay k nL v τ σ pc' (a0 :: a1 :: a2 :: a3 :: a4 :: a5 :: a6 :: a7 :: a8 :: a9 :: some (.int x) :: r) (.int x :: st)) : Go X w lay k nL v τ σ pc (a0 :: a1 :: a2 :: a3 :: a4 :: a5 :: a6 :: a7 :: a8 :: a9 :: some (.int x) :: r) st := g_ilw h pc' d e rfl kk
theorem g_al10 (h : my_OK X w lay cc own nL ret) (pc' : Nat) {a0 a1 a2 a3 a4 a5 a6 a7 a8 a9 : Option Value} {r : List (Option Value)} {x : Nat} (d : decode cc pc = .ok (.aload 10, 2)) (e : pc + 2 = pc') (kk : Go X w lay k nL v τ σ pc' (a0 :: a1 :: a2 :: a3 :: a4 :: a5 :: a6 :: a7 :: a8 :: a9 :: some (.ref x) :: r) (.ref x :: st)) : Go X w lay k nL v τ σ pc (a0 :: a1 :: a2 :: a3 :: a4 :: a5 :: a6 :: a7 :: a8 :: a9 :: some (.ref x) :: r) st := g_alw h pc' d e rfl kk
theorem g_ll10 (h : my_OK X w lay cc own nL ret) (pc' : Nat) {a0 a1 a2 a3 a4 a5 a6 a7 a8 a9 : Option Value} {r : List (Option Value)} {x : Int64} (d : decode cc pc = .ok (.lload 10, 2)) (e : pc + 2 = pc') (kk : Go X w lay k nL v τ σ pc' (a0 :: a1 :: a2 :: a3 :: a4 :: a5 :: a6 :: a7 :: a8 :: a9 :: some (.long x) :: r) (.long x :: st)) : Go X w lay k nL v τ σ pc (a0 :: a1 :: a2 :: a3 :: a4 :: a5 :: a6 :: a7 :: a8 :: a9 :: some (.long x) :: r) st := g_llw h pc' d e rfl kk
theorem g_is10 (h : my_OK X w lay cc own nL ret) (pc' : Nat) {a0 a1 a2 a3 a4 a5 a6 a7 a8 a9 : Option Value} {o : Option Value} {r : List (Option Value)} {x : Int32} (hn : 10 < nL) (hc : my_c1 a9 = true) (d : decode cc pc = .ok (.istore 10, 2)) (e : pc + 2 = pc') (kk : Go X w lay k nL v τ σ pc' (a0 :: a1 :: a2 :: a3 :: a4 :: a5 :: a6 :: a7 :: a8 :: a9 :: some (.int x) :: r) st) : Go X w lay k nL v τ σ pc (a0 :: a1 :: a2 :: a3 :: a4 :: a5 :: a6 :: a7 :: a8 :: a9 :: o :: r) (.int x :: st) := g_isw h pc' d e hn (fun j hj => by obtain rfl : j = 9 := (by omega); exact my_okp_of rfl hc) kk
theorem g_as10 (h : my_OK X w lay cc own nL ret) (pc' : Nat) {a0 a1 a2 a3 a4 a5 a6 a7 a8 a9 : Option Value} {o : Option Value} {r : List (Option Value)} {x : Nat} (hn : 10 < nL) (hc : my_c1 a9 = true) (d : decode cc pc = .ok (.astore 10, 2)) (e : pc + 2 = pc') (kk : Go X w lay k nL v τ σ pc' (a0 :: a1 :: a2 :: a3 :: a4 :: a5 :: a6 :: a7 :: a8 :: a9 :: some (.ref x) :: r) st) : Go X w lay k nL v τ σ pc (a0 :: a1 :: a2 :: a3 :: a4 :: a5 :: a6 :: a7 :: a8 :: a9 :: o :: r) (.ref x :: st) := g_asw h pc' d e hn (fun j hj => by obtain rfl : j = 9 := (by omega); exact my_okp_of rfl hc) kk
theorem g_ls10 (h : my_OK X w lay cc own nL ret) (pc' : Nat) {a0 a1 a2 a3 a4 a5 a6 a7 a8 a9 : Option Value} {o o2 : Option Value} {r : List (Option Value)} {x : Int64} (hn : 10 + 1 < nL) (hc : my_c1 a9 = true) (d : decode cc pc = .ok (.lstore 10, 2)) (e : pc + 2 = pc') (kk : Go X w lay k nL v τ σ pc' (a0 :: a1 :: a2 :: a3 :: a4 :: a5 :: a6 :: a7 :: a8 :: a9 :: some (.long x) :: none :: r) st) : Go X w lay k nL v τ σ pc (a0 :: a1 :: a2 :: a3 :: a4 :: a5 :: a6 :: a7 :: a8 :: a9 :: o :: o2 :: r) (.long x :: st) := g_lsw2 h pc' d e hn (fun j hj => by obtain rfl : j = 9 := (by omega); exact my_okp_of rfl hc) kk
theorem g_inc10 (h : my_OK X w lay cc own nL ret) (pc' : Nat) {a0 a1 a2 a3 a4 a5 a6 a7 a8 a9 : Option Value} {r : List (Option Value)} {n : Int} {x y : Int32} (hv : x + Int32.ofInt n = y) (hn : 10 < nL) (hc : my_c1 a9 = true) (d : decode cc pc = .ok (.iinc 10 n, 3)) (e : pc + 3 = pc') (kk : Go X w lay k nL v τ σ pc' (a0 :: a1 :: a2 :: a3 :: a4 :: a5 :: a6 :: a7 :: a8 :: a9 :: some (.int y) :: r) st) : Go X w lay k nL v τ σ pc (a0 :: a1 :: a2 :: a3 :: a4 :: a5 :: a6 :: a7 :: a8 :: a9 :: some (.int x) :: r) st := g_incg h pc' hv d e rfl hn (fun j hj => by obtain rfl : j = 9 := (by omega); exact my_okp_of rfl hc) kk
theorem g_il11 (h : my_OK X w lay cc own nL ret) (pc' : Nat) {a0 a1 a2 a3 a4 a5 a6 a7 a8 a9 a10 : Option Value} {r : List (Option Value)} {x : Int32} (d : decode cc pc = .ok (.iload 11, 2)) (e : pc + 2 = pc') (kk : Go X w lay k nL v τ σ pc' (a0 :: a1 :: a2 :: a3 :: a4 :: a5 :: a6 :: a7 :: a8 :: a9 :: a10 :: some (.int x) :: r) (.int x :: st)) : Go X w lay k nL v τ σ pc (a0 :: a1 :: a2 :: a3 :: a4 :: a5 :: a6 :: a7 :: a8 :: a9 :: a10 :: some (.int x) :: r) st := g_ilw h pc' d e rfl kk
theorem g_al11 (h : my_OK X w lay cc own nL ret) (pc' : Nat) {a0 a1 a2 a3 a4 a5 a6 a7 a8 a9 a10 : Option Value} {r : List (Option Value)} {x : Nat} (d : decode cc pc = .ok (.aload 11, 2)) (e : pc + 2 = pc') (kk : Go X w lay k nL v τ σ pc' (a0 :: a1 :: a2 :: a3 :: a4 :: a5 :: a6 :: a7 :: a8 :: a9 :: a10 :: some (.ref x) :: r) (.ref x :: st)) : Go X w lay k nL v τ σ pc (a0 :: a1 :: a2 :: a3 :: a4 :: a5 :: a6 :: a7 :: a8 :: a9 :: a10 :: some (.ref x) :: r) st := g_alw h pc' d e rfl kk
theorem g_ll11 (h : my_OK X w lay cc own nL ret) (pc' : Nat) {a0 a1 a2 a3 a4 a5 a6 a7 a8 a9 a10 : Option Value} {r : List (Option Value)} {x : Int64} (d : decode cc pc = .ok (.lload 11, 2)) (e : pc + 2 = pc') (kk : Go X w lay k nL v τ σ pc' (a0 :: a1 :: a2 :: a3 :: a4 :: a5 :: a6 :: a7 :: a8 :: a9 :: a10 :: some (.long x) :: r) (.long x :: st)) : Go X w lay k nL v τ σ pc (a0 :: a1 :: a2 :: a3 :: a4 :: a5 :: a6 :: a7 :: a8 :: a9 :: a10 :: some (.long x) :: r) st := g_llw h pc' d e rfl kk
theorem g_is11 (h : my_OK X w lay cc own nL ret) (pc' : Nat) {a0 a1 a2 a3 a4 a5 a6 a7 a8 a9 a10 : Option Value} {o : Option Value} {r : List (Option Value)} {x : Int32} (hn : 11 < nL) (hc : my_c1 a10 = true) (d : decode cc pc = .ok (.istore 11, 2)) (e : pc + 2 = pc') (kk : Go X w lay k nL v τ σ pc' (a0 :: a1 :: a2 :: a3 :: a4 :: a5 :: a6 :: a7 :: a8 :: a9 :: a10 :: some (.int x) :: r) st) : Go X w lay k nL v τ σ pc (a0 :: a1 :: a2 :: a3 :: a4 :: a5 :: a6 :: a7 :: a8 :: a9 :: a10 :: o :: r) (.int x :: st) := g_isw h pc' d e hn (fun j hj => by obtain rfl : j = 10 := (by omega); exact my_okp_of rfl hc) kk
theorem g_as11 (h : my_OK X w lay cc own nL ret) (pc' : Nat) {a0 a1 a2 a3 a4 a5 a6 a7 a8 a9 a10 : Option Value} {o : Option Value} {r : List (Option Value)} {x : Nat} (hn : 11 < nL) (hc : my_c1 a10 = true) (d : decode cc pc = .ok (.astore 11, 2)) (e : pc + 2 = pc') (kk : Go X w lay k nL v τ σ pc' (a0 :: a1 :: a2 :: a3 :: a4 :: a5 :: a6 :: a7 :: a8 :: a9 :: a10 :: some (.ref x) :: r) st) : Go X w lay k nL v τ σ pc (a0 :: a1 :: a2 :: a3 :: a4 :: a5 :: a6 :: a7 :: a8 :: a9 :: a10 :: o :: r) (.ref x :: st) := g_asw h pc' d e hn (fun j hj => by obtain rfl : j = 10 := (by omega); exact my_okp_of rfl hc) kk
theorem g_ls11 (h : my_OK X w lay cc own nL ret) (pc' : Nat) {a0 a1 a2 a3 a4 a5 a6 a7 a8 a9 a10 : Option Value} {o o2 : Option Value} {r : List (Option Value)} {x : Int64} (hn : 11 + 1 < nL) (hc : my_c1 a10 = true) (d : decode cc pc = .ok (.lstore 11, 2)) (e : pc + 2 = pc') (kk : Go X w lay k nL v τ σ pc' (a0 :: a1 :: a2 :: a3 :: a4 :: a5 :: a6 :: a7 :: a8 :: a9 :: a10 :: some (.long x) :: none :: r) st) : Go X w lay k nL v τ σ pc (a0 :: a1 :: a2 :: a3 :: a4 :: a5 :: a6 :: a7 :: a8 :: a9 :: a10 :: o :: o2 :: r) (.long x :: st) := g_lsw2 h pc' d e hn (fun j hj => by obtain rfl : j = 10 := (by omega); exact my_okp_of rfl hc) kk
theorem g_inc11 (h : my_OK X w lay cc own nL ret) (pc' : Nat) {a0 a1 a2 a3 a4 a5 a6 a7 a8 a9 a10 : Option Value} {r : List (Option Value)} {n : Int} {x y : Int32} (hv : x + Int32.ofInt n = y) (hn : 11 < nL) (hc : my_c1 a10 = true) (d : decode cc pc = .ok (.iinc 11 n, 3)) (e : pc + 3 = pc') (kk : Go X w lay k nL v τ σ pc' (a0 :: a1 :: a2 :: a3 :: a4 :: a5 :: a6 :: a7 :: a8 :: a9 :: a10 :: some (.int y) :: r) st) : Go X w lay k nL v τ σ pc (a0 :: a1 :: a2 :: a3 :: a4 :: a5 :: a6 :: a7 :: a8 :: a9 :: a10 :: some (.int x) :: r) st := g_incg h pc' hv d e rfl hn (fun j hj => by obtain rfl : j = 10 := (by omega); exact my_okp_of rfl hc) kk
/-! objects -/
def my_Cl (ci : Nat) (C : String) (T : u_T) (N : Nat) : Prop := vwCl[ci]? = some (C, T, N) ∧ (∀ u ∈ u_ws C T N, u ∈ tblG) ∧ ∃ ty : Nat → FieldType, (∀ q, q < N → parseFieldDescriptor (T q).2.2.1 = some (ty q)) ∧ ∀ a, a < N → ∀ b, b < N → a ≠ b → (T a).2.1 ≠ (T b).2.1
def my_F (own : String) (idx ci f : Nat) (ty : FieldType) : Prop := ∃ (C : String) (T : u_T) (N : Nat) (ref : String), my_Cl ci C T N ∧ f < N ∧ Cond.fieldLink own idx ref (T f).2.1 (T f).2.2.1 ∈ tblG ∧ (ref = (T f).1 ∨ Cond.sameField ref (T f).1 (T f).2.1 (T f).2.2.1 ∈ tblG) ∧ parseFieldDescriptor (T f).2.2.1 = some ty
def my_FP (own : String) (idx ci f : Nat) (ty : FieldType) : Prop := ∃ (C : String) (T : u_T) (N : Nat) (ref : String), my_Cl ci C T N ∧ f < N ∧ Cond.fieldLink own idx ref (T f).2.1 (T f).2.2.1 ∈ tblG ∧ (ref = (T f).1 ∨ Cond.sameField ref (T f).1 (T f).2.1 (T f).2.2.1 ∈ tblG) ∧ parseFieldDescriptor (T f).2.2.1 = some ty ∧ (T f).2.2.2 = false
theorem my_same {A : Array Value} {s : State} (hts : ∀ u ∈ tblG, u.before A s = true) {ref o n d : String} (h : ref = o ∨ Cond.sameField ref o n d ∈ tblG) : ∀ x, s.fieldFound? o n d = some x → s.fieldFound? ref n d = some x := by
  intro x hx
  rcases h with rfl | h
  · exact hx
  · exact u_same (hts _ h) x hx
theorem my_up_same {j q : Nat} {x : Int32} : my_up σ j q x j = upd (σ j) q x := by simp [my_up, va_up]
theorem my_up_ne {j q i : Nat} {x : Int32} (hi : i ≠ j) : my_up σ j q x i = σ i := by simp [my_up, va_up, hi]
theorem g_geti (h : my_OK X w lay cc own nL ret) (pc' : Nat) {idx j ci f : Nat} {ty : FieldType} {fs : List (Option Nat)} (hF : my_F own idx ci f ty) (hl0 : lay[j]? = some (.inr (ci, fs))) (ho : fs[f]? = some none) (d : decode cc pc = .ok (.getfield idx, 3)) (e : pc + 3 = pc')
    (kk : Go X w lay k nL v τ σ pc' lv (.int (σ j f) :: st)) : Go X w lay k nL v τ σ pc lv (.ref (w.2.2.2 j) :: st) := by
  subst e
  obtain ⟨C, T, N, ref, ⟨hc, hin, -⟩, hk, hlk, hsm, -⟩ := hF
  intro H locs ls hP hS hl
  exact va_get h.1 h.2.1 h.2.2.2.2.1 hin h.2.2.2.1 h.2.2.2.2.2.1.1 hP j (my_ws_at hl0) hc f hk (h.2.2.2.2.1 _ hlk) (my_same h.2.2.2.2.1 hsm) (by rw [List.getElem?_mapIdx, ho]; rfl) d (kk H locs ls hP hS hl)
theorem g_geta (h : my_OK X w lay cc own nL ret) (pc' : Nat) {idx j ci f r : Nat} {ty : FieldType} {fs : List (Option Nat)} (hF : my_F own idx ci f ty) (hl0 : lay[j]? = some (.inr (ci, fs))) (ho : fs[f]? = some (some r)) (d : decode cc pc = .ok (.getfield idx, 3)) (e : pc + 3 = pc')
    (kk : Go X w lay k nL v τ σ pc' lv (.ref (w.2.2.2 r) :: st)) : Go X w lay k nL v τ σ pc lv (.ref (w.2.2.2 j) :: st) := by
  subst e
  obtain ⟨C, T, N, ref, ⟨hc, hin, -⟩, hk, hlk, hsm, -⟩ := hF
  intro H locs ls hP hS hl
  exact va_get h.1 h.2.1 h.2.2.2.2.1 hin h.2.2.2.1 h.2.2.2.2.2.1.1 hP j (my_ws_at hl0) hc f hk (h.2.2.2.2.1 _ hlk) (my_same h.2.2.2.2.1 hsm) (by rw [List.getElem?_mapIdx, ho]; rfl) d (kk H locs ls hP hS hl)
theorem my_put_list {io : Nat → Nat} {g : Nat → Int32} {fs : List (Option Nat)} {f : Nat} {x : Int32} (ho : fs[f]? = some none) : (fs.mapIdx (my_fv io g)).set f (.int x) = fs.mapIdx (my_fv io (upd g f x)) := by
  apply List.ext_getElem?
  intro i
  by_cases hi : i = f
  · subst hi
    have hlt : i < fs.length := (List.getElem?_eq_some_iff.mp ho).1
    rw [List.getElem?_set_self (by simpa using hlt), List.getElem?_mapIdx, ho]
    simp [my_fv, upd]
  · rw [List.getElem?_set_ne (Ne.symm hi), List.getElem?_mapIdx, List.getElem?_mapIdx]
    cases fs[i]? with
    | none => rfl
    | some o => cases o <;> simp [my_fv, upd, hi]
theorem g_putt (h : my_OK X w lay cc own nL ret) (pc' : Nat) {idx j ci f : Nat} {ty : FieldType} {fs : List (Option Nat)} {x : Int32} (hF : my_FP own idx ci f ty) (hl0 : lay[j]? = some (.inr (ci, fs))) (ho : fs[f]? = some none) (hn : narrow ty (.int x) = .int x) (hfit : fits ty (.int x) = true) (d : decode cc pc = .ok (.putfield idx, 3)) (e : pc + 3 = pc')
    (kk : Go X w lay k nL v τ (my_up σ j f x) pc' lv st) : Go X w lay k nL v τ σ pc lv (.int x :: .ref (w.2.2.2 j) :: st) := by
  subst e
  obtain ⟨C, T, N, ref, ⟨hc, hin, ty0, hty, hnm⟩, hk, hlk, hsm, hd, hfin⟩ := hF
  intro H locs ls hP hS hl
  have hlt : f < (fs.mapIdx (my_fv w.2.2.2 (σ j))).length := by
    have := (List.getElem?_eq_some_iff.mp ho).1
    simpa using this
  refine va_put h.1 h.2.1 h.2.2.2.2.1 hin ty0 hty hnm h.2.2.2.1 h.2.2.2.2.2.1.1 hP (my_D h.2.2.2.2.2.2.1) hS j (my_ws_at hl0) hc f hk (h.2.2.2.2.1 _ hlk) (my_same h.2.2.2.2.1 hsm) hfin hd hn hfit hlt d (fun H1 locs1 hP1 hD1 hS1 => kk H1 locs1 ls ?_ hS1 hl)
  have hset := my_ws_set (w := w) (σ := σ) (τ := my_up σ j f x) hl0 (fun i hi => my_up_ne hi)
  have he : my_e w (my_up σ j f x) j (.inr (ci, fs)) = .inr (ci, (fs.mapIdx (my_fv w.2.2.2 (σ j))).set f (.int x)) := by
    show (Sum.inr (ci, fs.mapIdx (my_fv w.2.2.2 (my_up σ j f x j))) : va_E) = _
    rw [my_up_same, my_put_list ho]
  rw [he] at hset
  show va_P _ _ _ _
  rw [← hset]
  exact hP1
theorem g_puti (h : my_OK X w lay cc own nL ret) (pc' : Nat) {idx j ci f : Nat} {fs : List (Option Nat)} {x : Int32} (hF : my_FP own idx ci f .int) (hl0 : lay[j]? = some (.inr (ci, fs))) (ho : fs[f]? = some none) (d : decode cc pc = .ok (.putfield idx, 3)) (e : pc + 3 = pc')
    (kk : Go X w lay k nL v τ (my_up σ j f x) pc' lv st) : Go X w lay k nL v τ σ pc lv (.int x :: .ref (w.2.2.2 j) :: st) := g_putt h pc' hF hl0 ho rfl rfl d e kk
abbrev my_b (x : Int32) : Prop := x = 0 ∨ x = 1
theorem my_b_nar {x : Int32} (h : my_b x) : narrow .boolean (.int x) = .int x ∧ fits .boolean (.int x) = true := by
  rcases h with rfl | rfl <;> decide
theorem g_putz (h : my_OK X w lay cc own nL ret) (pc' : Nat) {idx j ci f : Nat} {fs : List (Option Nat)} {x : Int32} (hF : my_FP own idx ci f .boolean) (hl0 : lay[j]? = some (.inr (ci, fs))) (ho : fs[f]? = some none) (d : decode cc pc = .ok (.putfield idx, 3)) (e : pc + 3 = pc') (hx : my_b x)
    (kk : Go X w lay k nL v τ (my_up σ j f x) pc' lv st) : Go X w lay k nL v τ σ pc lv (.int x :: .ref (w.2.2.2 j) :: st) := g_putt h pc' hF hl0 ho (my_b_nar hx).1 (my_b_nar hx).2 d e kk
/-! arrays -/
theorem g_iald (h : my_OK X w lay cc own nL ret) (pc' : Nat) {j : Nat} {i : Int32} (d : decode cc pc = .ok (.iaload, 1)) (e : pc + 1 = pc') (hok : my_ix i (my_len lay j))
    (kk : Go X w lay k nL v τ σ pc' lv (.int (σ j i.toNatClampNeg) :: st)) : Go X w lay k nL v τ σ pc lv (.int i :: .ref (w.2.2.2 j) :: st) := by
  subst e
  exact fun H locs ls hP hS hl => va_iald h.1 h.2.1 h.2.2.2.2.2.1.1 hP j 0 (my_ws_at (my_len_in hok)) rfl hok d (kk H locs ls hP hS hl)
theorem g_iast (h : my_OK X w lay cc own nL ret) (pc' : Nat) {j : Nat} {i x : Int32} (d : decode cc pc = .ok (.iastore, 1)) (e : pc + 1 = pc') (hok : my_ix i (my_len lay j))
    (kk : Go X w lay k nL v τ (my_up σ j i.toNatClampNeg x) pc' lv st) : Go X w lay k nL v τ σ pc lv (.int x :: .int i :: .ref (w.2.2.2 j) :: st) := by
  subst e
  intro H locs ls hP hS hl
  refine va_iast h.1 h.2.1 h.2.2.2.2.2.1.1 hP (my_D h.2.2.2.2.2.2.1) hS j 0 (my_ws_at (my_len_in hok)) rfl hok d (fun H1 locs1 hP1 hD1 hS1 => kk H1 locs1 ls ?_ hS1 hl)
  have hset := my_ws_set (w := w) (σ := σ) (τ := my_up σ j i.toNatClampNeg x) (my_len_in hok) (fun i hi => my_up_ne hi)
  have he : my_e w (my_up σ j i.toNatClampNeg x) j (.inl (.inl (my_len lay j))) = .inl (w.2.2.1 0, my_len lay j, .inl (upd (σ j) i.toNatClampNeg x)) := by
    show (Sum.inl (w.2.2.1 0, my_len lay j, Sum.inl (my_up σ j i.toNatClampNeg x j)) : va_E) = _
    rw [my_up_same]
  rw [he] at hset
  show va_P _ _ _ _
  rw [← hset]
  exact hP1
theorem g_alen (h : my_OK X w lay cc own nL ret) (pc' : Nat) {j : Nat} (d : decode cc pc = .ok (.arraylength, 1)) (e : pc + 1 = pc') (hok : 0 < my_len lay j)
    (kk : Go X w lay k nL v τ σ pc' lv (.int (nI (my_len lay j)) :: st)) : Go X w lay k nL v τ σ pc lv (.ref (w.2.2.2 j) :: st) := by
  subst e
  exact fun H locs ls hP hS hl => va_alen h.1 h.2.1 h.2.2.2.2.2.1.1 hP j 0 (x := (my_len lay j, .inl (σ j))) (my_ws_at (my_len_at hok)) (ty := .int) rfl rfl d (kk H locs ls hP hS hl)
theorem g_aald (h : my_OK X w lay cc own nL ret) (pc' : Nat) {j t n r : Nat} {C : String} {i : Int32} (hl0 : lay[j]? = some (.inl (.inr (t, n, r)))) (ht : (my_ty w)[t]? = some (w.2.2.1 t, .object C)) (d : decode cc pc = .ok (.aaload, 1)) (e : pc + 1 = pc') (hok : my_ix i n)
    (kk : Go X w lay k nL v τ σ pc' lv (.ref (w.2.2.2 (r + i.toNatClampNeg)) :: st)) : Go X w lay k nL v τ σ pc lv (.int i :: .ref (w.2.2.2 j) :: st) := by
  subst e
  exact fun H locs ls hP hS hl => va_aldq h.1 h.2.1 h.2.2.2.2.2.1.1 hP j t (my_ws_at hl0) ht hok d (kk H locs ls hP hS hl)
/-- System.arraycopy between int rows -/
def my_cp (σ : my_M) (a b : Nat) (i j n : Int32) : my_M := va_up σ b (va_cpy (σ a) (σ b) i.toNatClampNeg j.toNatClampNeg n.toNatClampNeg)
abbrev my_cpok (lay : List my_L) (a b : Nat) (i j n : Int32) : Prop := ¬ i < 0 ∧ ¬ j < 0 ∧ ¬ n < 0 ∧ i.toNatClampNeg + n.toNatClampNeg ≤ my_len lay a ∧ j.toNatClampNeg + n.toNatClampNeg ≤ my_len lay b ∧ 0 < my_len lay a ∧ 0 < my_len lay b
theorem g_copy (h : my_OK X w lay cc own nL ret) (pc' : Nat) {idx a b : Nat} {i j n : Int32} (hlk : Cond.methodLink own idx arraycopyName ∈ tblG) (hk : 1 ≤ k) (d : decode cc pc = .ok (.invokestatic idx, 3)) (e : pc + 3 = pc') (hs : (st.map fun v => v.category).sum ≤ 8) (hok : my_cpok lay a b i j n)
    (kk : Go X w lay k nL v τ (my_cp σ a b i j n) pc' lv st) : Go X w lay k nL v τ σ pc lv (.int n :: .int j :: .ref (w.2.2.2 b) :: .int i :: .ref (w.2.2.2 a) :: st) := by
  subst e
  obtain ⟨h1, h2, h3, h4, h5, h6, h7⟩ := hok
  intro H locs ls hP hS hl
  refine va_copyi h.1 h.2.1 (h.2.2.1.trans hl.1.symm) h.2.2.2.1 (h.2.2.2.2.1 _ hlk) (h.2.2.2.2.1 _ tw_nv_J10_arraycopy) (h.2.2.2.2.1 _ tw_st_J10_arraycopy) (h.2.2.2.2.1 _ tw_in_J10) h.2.2.2.2.2.1.1 hP (my_D h.2.2.2.2.2.2.1) hS a b 0 0 (my_ws_at (my_len_at h6)) (my_ws_at (my_len_at h7)) rfl rfl rfl h1 h2 h3 h4 h5 (fun _ _ => rfl) hk ?_ d (fun H1 locs1 hP1 hD1 hS1 => kk H1 locs1 ls ?_ hS1 hl)
  · have hn : nativeFrameWords "java/lang/System" "arraycopy" 5 + 11 ≤ 52 := by decide
    show (st.map fun v => v.category).sum + (nativeFrameWords "java/lang/System" "arraycopy" 5 + 11) ≤ 60 * k
    omega
  · have hset := my_ws_set (w := w) (σ := σ) (τ := my_cp σ a b i j n) (my_len_at h7) (fun q hq => by simp [my_cp, va_up, hq])
    have he : my_e w (my_cp σ a b i j n) b (.inl (.inl (my_len lay b))) = .inl (w.2.2.1 0, my_len lay b, .inl (va_cpy (σ a) (σ b) i.toNatClampNeg j.toNatClampNeg n.toNatClampNeg)) := by
      show (Sum.inl (w.2.2.1 0, my_len lay b, Sum.inl (my_cp σ a b i j n b)) : va_E) = _
      simp [my_cp, va_up]
    rw [he] at hset
    show va_P _ _ _ _
    rw [← hset]
    exact hP1
/-! returns -/
theorem g_iret (h : my_OK X w lay cc own nL (some .int)) {x : Int32} (d : decode cc pc = .ok (.ireturn, 1)) (hv : some (.int x) = v) (hσ : σ = τ) : Go X w lay k nL v τ σ pc lv [.int x] := by
  subst hv; subst hσ
  exact fun H locs ls hP hS hl => W.iret h.1 h.2.1 h.2.2.2.2.2.2.2.2 (fun t ht hW => ⟨⟨rfl, by rw [ht]; exact hP, my_K_warm hW h.2.2.2.2.2.1⟩, hS.F ht⟩) hS.2.2 d h.2.2.2.2.2.2.2.1
theorem g_zret (h : my_OK X w lay cc own nL (some .boolean)) {x : Int32} (d : decode cc pc = .ok (.ireturn, 1)) (hb : my_b x) (hv : some (.int x) = v) (hσ : σ = τ) : Go X w lay k nL v τ σ pc lv [.int x] := by
  subst hv; subst hσ
  exact fun H locs ls hP hS hl => W.zret h.1 h.2.1 h.2.2.2.2.2.2.2.2 (my_b_nar hb).1 (fun t ht hW => ⟨⟨rfl, by rw [ht]; exact hP, my_K_warm hW h.2.2.2.2.2.1⟩, hS.F ht⟩) hS.2.2 d h.2.2.2.2.2.2.2.1
theorem g_lret (h : my_OK X w lay cc own nL (some .long)) {x : Int64} (d : decode cc pc = .ok (.lreturn, 1)) (hv : some (.long x) = v) (hσ : σ = τ) : Go X w lay k nL v τ σ pc lv [.long x] := by
  subst hv; subst hσ
  exact fun H locs ls hP hS hl => W.lret h.1 h.2.1 h.2.2.2.2.2.2.2.2 (fun t ht hW => ⟨⟨rfl, by rw [ht]; exact hP, my_K_warm hW h.2.2.2.2.2.1⟩, hS.F ht⟩) hS.2.2 d h.2.2.2.2.2.2.2.1
theorem g_vret (h : my_OK X w lay cc own nL none) (d : decode cc pc = .ok (.return_, 1)) (hv : none = v) (hσ : σ = τ) : Go X w lay k nL v τ σ pc lv [] := by
  subst hv; subst hσ
  exact fun H locs ls hP hS hl => W.vret h.1 h.2.1 h.2.2.2.2.2.2.2.2 (fun t ht hW => ⟨⟨rfl, by rw [ht]; exact hP, my_K_warm hW h.2.2.2.2.2.1⟩, hS.F ht⟩) hS.2.2 d h.2.2.2.2.2.2.2.1
/-! calls -/
theorem my_go_run {σ1 : my_M} {v1 : Option Value} {st0 rest : List Value} {a : Array Value}
    (hr : ∀ (H : Heap) (locs : List Loc) (ls : Array Slot), my_P w lay σ H → va_S (my_A w lay) X.2.2.1.heap H locs → my_has ls nL lv → va_Run X.1 w.1 X.2.1 (my_rm k) X.2.2.1 X.2.2.2.1 X.2.2.2.2.1 X.2.2.2.2.2.1 X.2.2.2.2.2.2.1 X.2.2.2.2.2.2.2 H locs 0 0 0 0 (F0 X.2.2.2.1 pc ls st0) rest (my_Qc w lay v1 σ1 a) (my_A w lay))
    (kk : Go X w lay k nL v τ σ1 (pc + 3) lv (v1.toList ++ rest)) : Go X w lay k nL v τ σ pc lv st0 := by
  intro H locs ls hP hS hl T hT Y
  obtain ⟨v', st₀, t, T', L, h0, Y', hL, e1, e2, ⟨⟨hv, hP1, hK1⟩, hz, hk⟩, sts⟩ := hr H locs ls hP hS hl T hT Y
  cases hv
  rw [h0] at hz hk
  obtain ⟨t2, a1, b1⟩ := kk T'.heap (locs ++ L) ls (by rw [e1]; exact hP1) ⟨Nat.le_trans hS.1 (by rw [e1]; exact hz), fun q h1 h2 => by rw [e1, hk q (Nat.lt_of_lt_of_le h1 hS.1) h2]; exact hS.2.1 q h1 h2, fun q hq => by
      rcases List.mem_append.mp hq with h | h
      · exact hS.2.2 q h
      · exact hL q h⟩ hl T' rfl Y'
  exact ⟨t2, sts t2 a1, b1⟩
def my_notMH (c : String) : Prop := c ≠ "java/lang/invoke/MethodHandle" ∧ c ≠ "java/lang/invoke/VarHandle"
def my_Cd (t : my_T) (n : Nat) : Prop := Cond.code t.1 t.2.1 t.2.2.1 t.2.2.2 ∈ tblG ∧ Cond.initialized t.1.cls ∈ tblG ∧ my_notMH t.1.cls ∧ (parseMethodDescriptor t.1.desc).map (fun d => d.parameters.length) = some n
def my_CV (own : String) (idx : Nat) (C : String) (t : my_T) (n : Nat) : Prop := my_Cd t n ∧ Cond.methodLink own idx t.1 ∈ tblG ∧ Cond.instanceMethod t.1 ∈ tblG ∧ Cond.selects C t.1 t.1 ∈ tblG
def my_CS (own : String) (idx : Nat) (t : my_T) (n : Nat) : Prop := my_Cd t n ∧ Cond.methodLink own idx t.1 ∈ tblG ∧ Cond.static t.1 ∈ tblG
def my_CN (own : String) (idx : Nat) (host : String) (t : my_T) (n : Nat) : Prop := my_Cd t n ∧ (own, idx, t.1, host) ∈ lw_nestT ∧ Cond.static t.1 ∈ tblG
/-- an inherited method: named x, its code y's -/
def my_CU (own : String) (idx : Nat) (C : String) (x : MethodName) (t : my_T) (n : Nat) : Prop := my_Cd t n ∧ t.1 = ⟨t.1.cls, x.name, x.desc⟩ ∧ Cond.methodLink own idx x ∈ tblG ∧ Cond.sameMethod x.cls t.1.cls x.name x.desc ∈ tblG ∧ Cond.selects C x t.1 ∈ tblG ∧ Cond.instanceMethod t.1 ∈ tblG
theorem my_good {t : my_T} {n : Nat} (h : my_Cd t n) : GoodIn tblG (Cond.code t.1 t.2.1 t.2.2.1 t.2.2.2 :: tblG) := by
  intro u hu
  rcases List.mem_cons.mp hu with rfl | hu
  · exact ⟨h.1, tblG_good h.1⟩
  · exact ⟨hu, tblG_good hu⟩
abbrev my_fit (t : my_T) (k' k : Nat) : Prop := k' + 1 ≤ k ∧ 8 + (t.2.2.1 + 11) + 60 * k' ≤ 60 * k
theorem my_CB (h : my_OK X w lay cc own nL ret) {t : my_T} {n k' idx : Nat} (hd : my_Cd t n) (hlk : Cond.methodLink own idx t.1 ∈ tblG) (hk : my_fit t k' k) : CallB (my_rm k) X.2.2.1 X.2.2.2.2.1 own idx t.1 t.2.1 t.2.2.1 t.2.2.2 (Cond.code t.1 t.2.1 t.2.2.1 t.2.2.2 :: tblG) (my_rm k') 0 0 n :=
  callB_of n h.2.2.2.2.1 (my_good hd) rfl rfl rfl (h.2.2.2.2.1 _ hd.2.1) (h.2.2.2.2.1 _ hlk) ⟨hd.2.2.1.1, hd.2.2.1.2, hd.2.2.2⟩ hk
theorem my_preV (h : my_OK X w lay cc own nL ret) {j ci N : Nat} {C : String} {T : u_T} {fs : List (Option Nat)} {As : List Value} {H : Heap} (hcl : vwCl[ci]? = some (C, T, N)) (hl0 : lay[j]? = some (.inr (ci, fs))) (hP : my_P w lay σ H) : PreV X.2.2.1 H C (w.2.2.2 j) (my_Pc w lay (.ref (w.2.2.2 j) :: As) σ) As :=
  ⟨my_blind, va_recv h.2.2.2.2.2.1.1 hP hcl (my_ws_at hl0), fun U hU hW => ⟨rfl, by rw [hU]; exact hP, my_K_warm hW h.2.2.2.2.2.1⟩⟩
theorem my_preS (h : my_OK X w lay cc own nL ret) {As : List Value} {H : Heap} (hP : my_P w lay σ H) : PreS X.2.2.1 H (my_Pc w lay As σ) As :=
  ⟨my_blind, fun U hU hW => ⟨rfl, by rw [hU]; exact hP, my_K_warm hW h.2.2.2.2.2.1⟩⟩
theorem g_callV (h : my_OK X w lay cc own nL ret) {t : my_T} {k' n idx j ci N : Nat} {C : String} {T : u_T} {fs : List (Option Nat)} {As rest st0 : List Value} {σ1 : my_M} {v1 : Option Value} (hc : my_CV own idx C t n) (hcl : vwCl[ci]? = some (C, T, N)) (hl0 : lay[j]? = some (.inr (ci, fs))) (hM : Ct w lay t k' (.ref (w.2.2.2 j) :: As) σ v1 σ1) (hn : As.length = n) (hst : st0 = As.reverse ++ .ref (w.2.2.2 j) :: rest) (hs : (rest.map fun v => v.category).sum ≤ 8) (hk : my_fit t k' k) (d : decode cc pc = .ok (.invokevirtual idx, 3))
    (kk : Go X w lay k nL v τ σ1 (pc + 3) lv (v1.toList ++ rest)) : Go X w lay k nL v τ σ pc lv st0 := by
  refine my_go_run (a := (Value.ref (w.2.2.2 j) :: As).toArray) (fun H locs ls hP hS hl => ?_) kk
  exact va_runV ⟨h.1, h.2.1, h.2.2.1, h.2.2.2.1, h.2.2.2.2.1⟩ (hM h.2.2.2.2.2.2.1) ⟨my_CB h hc.1 hc.2.1 hk, h.2.2.2.2.1 _ hc.2.2.1, h.2.2.2.2.1 _ hc.2.2.2⟩ (my_preV h hcl hl0 hP) rfl hn hl.1 hst (lv_room hs) d ⟨Nat.zero_le _, Nat.zero_le _⟩
theorem g_callS (h : my_OK X w lay cc own nL ret) {t : my_T} {k' n idx : Nat} {As rest st0 : List Value} {σ1 : my_M} {v1 : Option Value} (hc : my_CS own idx t n) (hM : Ct w lay t k' As σ v1 σ1) (hn : As.length = n) (hst : st0 = As.reverse ++ rest) (hs : (rest.map fun v => v.category).sum ≤ 8) (hk : my_fit t k' k) (d : decode cc pc = .ok (.invokestatic idx, 3))
    (kk : Go X w lay k nL v τ σ1 (pc + 3) lv (v1.toList ++ rest)) : Go X w lay k nL v τ σ pc lv st0 := by
  refine my_go_run (a := As.toArray) (fun H locs ls hP hS hl => ?_) kk
  exact va_runS ⟨h.1, h.2.1, h.2.2.1, h.2.2.2.1, h.2.2.2.2.1⟩ (hM h.2.2.2.2.2.2.1) ⟨my_CB h hc.1 hc.2.1 hk, h.2.2.2.2.1 _ hc.2.2⟩ (my_preS h hP) rfl hn hl.1 hst (lv_room hs) d ⟨Nat.zero_le _, Nat.zero_le _⟩
theorem g_callN (h : my_OK X w lay cc own nL ret) {t : my_T} {k' n idx : Nat} {host : String} {As rest st0 : List Value} {σ1 : my_M} {v1 : Option Value} (hc : my_CN own idx host t n) (hM : Ct w lay t k' As σ v1 σ1) (hn : As.length = n) (hst : st0 = As.reverse ++ rest) (hs : (rest.map fun v => v.category).sum ≤ 8) (hk : my_fit t k' k) (d : decode cc pc = .ok (.invokestatic idx, 3))
    (kk : Go X w lay k nL v τ σ1 (pc + 3) lv (v1.toList ++ rest)) : Go X w lay k nL v τ σ pc lv st0 := by
  refine my_go_run (a := As.toArray) (fun H locs ls hP hS hl => ?_) kk
  exact va_runSN ⟨h.1, h.2.1, h.2.2.1, h.2.2.2.1, h.2.2.2.2.1⟩ (hM h.2.2.2.2.2.2.1) ⟨va_cnB n h.2.2.2.2.1 (my_good hc.1) rfl rfl rfl (h.2.2.2.2.2.1.2 _ hc.2.1) (h.2.2.2.2.1 _ hc.1.2.1) ⟨hc.1.2.2.1.1, hc.1.2.2.1.2, hc.1.2.2.2⟩ hk, h.2.2.2.2.1 _ hc.2.2, trivial⟩ (my_preS h hP) rfl hn hl.1 hst (lv_room hs) d ⟨Nat.zero_le _, Nat.zero_le _⟩
theorem g_callU (h : my_OK X w lay cc own nL ret) {t : my_T} {x : MethodName} {k' n idx j ci N : Nat} {C : String} {T : u_T} {fs : List (Option Nat)} {As rest st0 : List Value} {σ1 : my_M} {v1 : Option Value} (hc : my_CU own idx C x t n) (hcl : vwCl[ci]? = some (C, T, N)) (hl0 : lay[j]? = some (.inr (ci, fs))) (hM : Ct w lay t k' (.ref (w.2.2.2 j) :: As) σ v1 σ1) (hn : As.length = n) (hst : st0 = As.reverse ++ .ref (w.2.2.2 j) :: rest) (hs : (rest.map fun v => v.category).sum ≤ 8) (hk : my_fit t k' k) (d : decode cc pc = .ok (.invokevirtual idx, 3))
    (kk : Go X w lay k nL v τ σ1 (pc + 3) lv (v1.toList ++ rest)) : Go X w lay k nL v τ σ pc lv st0 := by
  refine my_go_run (a := (Value.ref (w.2.2.2 j) :: As).toArray) (fun H locs ls hP hS hl => ?_) kk
  obtain ⟨hd, hyx, h1, h2, h3, h4⟩ := hc
  have hdx : (parseMethodDescriptor x.desc).map (fun d => d.parameters.length) = some n := by
    have h9 := hd.2.2.2
    rw [hyx] at h9
    exact h9
  refine va_runU (owner := t.1.cls) ⟨h.1, h.2.1, h.2.2.1, h.2.2.2.1, h.2.2.2.2.1⟩ (hM h.2.2.2.2.2.2.1) (va_cwU n h.2.2.2.2.1 ?_ rfl rfl rfl hyx ⟨hd.2.2.1.1, hd.2.2.1.2, hdx⟩ hk) (my_preV h hcl hl0 hP) rfl hn hl.1 hst (lv_room hs) d ⟨Nat.zero_le _, Nat.zero_le _⟩
  intro u hu
  have hu : u ∈ ([.methodLink own idx x, .sameMethod x.cls t.1.cls x.name x.desc, .selects C x t.1, .instanceMethod t.1, .initialized t.1.cls] : List Cond) ++ (Cond.code t.1 t.2.1 t.2.2.1 t.2.2.2 :: tblG) := hu
  have hin : u ∈ tblG := by
    rcases List.mem_append.mp hu with hu | hu
    · simp only [List.mem_cons, List.not_mem_nil, or_false] at hu
      rcases hu with rfl | rfl | rfl | rfl | rfl
      · exact h1
      · exact h2
      · exact h3
      · exact h4
      · exact hd.2.1
    · exact (my_good hd u hu).1
  exact ⟨hin, tblG_good hin⟩
/-! what the pure side gives -/
theorem my_ifT {α : Type} {p : Prop} [Decidable p] {a b r : α} (h : p) (hf : (if p then a else b) = r) : a = r := by rw [if_pos h] at hf; exact hf
theorem my_ifF {α : Type} {p : Prop} [Decidable p] {a b r : α} (h : ¬ p) (hf : (if p then a else b) = r) : b = r := by rw [if_neg h] at hf; exact hf
theorem my_chk {α : Type} {p : Prop} [Decidable p] {a : Option α} {r : α} (hf : (if p then a else none) = some r) : p ∧ a = some r := by
  by_cases h : p
  · rw [if_pos h] at hf; exact ⟨h, hf⟩
  · rw [if_neg h] at hf; cases hf
end ROWS
def my_bnd {α β γ : Type} (x : Option (α × β)) (g : α → β → Option γ) : Option γ := match x with
  | none => none
  | some q => g q.1 q.2
theorem my_ofb {α β γ : Type} {x : Option (α × β)} {g : α → β → Option γ} {r : γ} (h : my_bnd x g = some r) : ∃ a b, x = some (a, b) ∧ g a b = some r := by
  cases x with
  | none => cases h
  | some q => exact ⟨q.1, q.2, rfl, h⟩
theorem my_bnd_some {α β γ : Type} {a : α} {b : β} {g : α → β → Option γ} : my_bnd (some (a, b)) g = g a b := rfl
theorem my_inj {α β : Type} {a c : α} {b d : β} (h : some (a, b) = some (c, d)) : a = c ∧ b = d := by cases h; exact ⟨rfl, rfl⟩
def my_NF : Nat := 100000
theorem ic_m1 : Int32.ofInt (-1) = (-1 : Int32) := by decide
theorem ic_0 : Int32.ofInt (0) = (0 : Int32) := by decide
theorem ic_1 : Int32.ofInt (1) = (1 : Int32) := by decide
theorem ic_2 : Int32.ofInt (2) = (2 : Int32) := by decide
theorem ic_3 : Int32.ofInt (3) = (3 : Int32) := by decide
theorem ic_4 : Int32.ofInt (4) = (4 : Int32) := by decide
theorem ic_5 : Int32.ofInt (5) = (5 : Int32) := by decide
theorem bp_m100 : (Int8.ofInt (-100)).toInt32 = (-100 : Int32) := by decide
theorem bp_m10 : (Int8.ofInt (-10)).toInt32 = (-10 : Int32) := by decide
theorem bp_m9 : (Int8.ofInt (-9)).toInt32 = (-9 : Int32) := by decide
theorem bp_m5 : (Int8.ofInt (-5)).toInt32 = (-5 : Int32) := by decide
theorem bp_m4 : (Int8.ofInt (-4)).toInt32 = (-4 : Int32) := by decide
theorem bp_m3 : (Int8.ofInt (-3)).toInt32 = (-3 : Int32) := by decide
theorem bp_m2 : (Int8.ofInt (-2)).toInt32 = (-2 : Int32) := by decide
theorem bp_6 : (Int8.ofInt (6)).toInt32 = (6 : Int32) := by decide
theorem bp_7 : (Int8.ofInt (7)).toInt32 = (7 : Int32) := by decide
theorem bp_8 : (Int8.ofInt (8)).toInt32 = (8 : Int32) := by decide
theorem bp_9 : (Int8.ofInt (9)).toInt32 = (9 : Int32) := by decide
theorem bp_10 : (Int8.ofInt (10)).toInt32 = (10 : Int32) := by decide
theorem bp_12 : (Int8.ofInt (12)).toInt32 = (12 : Int32) := by decide
theorem bp_13 : (Int8.ofInt (13)).toInt32 = (13 : Int32) := by decide
theorem bp_15 : (Int8.ofInt (15)).toInt32 = (15 : Int32) := by decide
theorem bp_16 : (Int8.ofInt (16)).toInt32 = (16 : Int32) := by decide
theorem bp_20 : (Int8.ofInt (20)).toInt32 = (20 : Int32) := by decide
theorem bp_24 : (Int8.ofInt (24)).toInt32 = (24 : Int32) := by decide
theorem bp_25 : (Int8.ofInt (25)).toInt32 = (25 : Int32) := by decide
theorem bp_26 : (Int8.ofInt (26)).toInt32 = (26 : Int32) := by decide
theorem bp_31 : (Int8.ofInt (31)).toInt32 = (31 : Int32) := by decide
theorem bp_45 : (Int8.ofInt (45)).toInt32 = (45 : Int32) := by decide
theorem bp_48 : (Int8.ofInt (48)).toInt32 = (48 : Int32) := by decide
theorem bp_50 : (Int8.ofInt (50)).toInt32 = (50 : Int32) := by decide
theorem bp_54 : (Int8.ofInt (54)).toInt32 = (54 : Int32) := by decide
theorem bp_59 : (Int8.ofInt (59)).toInt32 = (59 : Int32) := by decide
theorem bp_60 : (Int8.ofInt (60)).toInt32 = (60 : Int32) := by decide
theorem bp_63 : (Int8.ofInt (63)).toInt32 = (63 : Int32) := by decide
theorem bp_98 : (Int8.ofInt (98)).toInt32 = (98 : Int32) := by decide
theorem bp_99 : (Int8.ofInt (99)).toInt32 = (99 : Int32) := by decide
theorem bp_100 : (Int8.ofInt (100)).toInt32 = (100 : Int32) := by decide
theorem bp_107 : (Int8.ofInt (107)).toInt32 = (107 : Int32) := by decide
theorem bp_112 : (Int8.ofInt (112)).toInt32 = (112 : Int32) := by decide
theorem bp_116 : (Int8.ofInt (116)).toInt32 = (116 : Int32) := by decide
theorem bp_120 : (Int8.ofInt (120)).toInt32 = (120 : Int32) := by decide
theorem sp_240 : (Int16.ofInt (240)).toInt32 = (240 : Int32) := by decide
theorem lc_0 : Int64.ofNat ((0 : Fin 2) : Nat) = (0 : Int64) := by decide
theorem lc_1 : Int64.ofNat ((1 : Fin 2) : Nat) = (1 : Int64) := by decide
