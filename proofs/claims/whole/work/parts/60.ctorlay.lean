theorem tw_objIm : Cond.instanceMethod objectInit ∈ tblG := my_in 21 (by decide +kernel) (by decide +kernel)
theorem tw_objCd : Cond.code objectInit ⟨#[0xb1]⟩ 1 none ∈ tblG := my_in 22 (by decide +kernel) (by decide +kernel)
/-! CONSTRUCTORS: a world that grows -/
def my_Kc (w : my_V) (U : State) : Prop := my_K w U ∧ va_AO "PitchRows$Caller" U ∧ va_AO "PitchRows$Sheet" U
theorem my_Kc_warm {w : my_V} {s U : State} (hW : s.WarmedH U.vm) (h : my_Kc w s) : my_Kc w U := ⟨my_K_warm hW h.1, va_AO.moved hW.alike h.2.1, va_AO.moved hW.alike h.2.2⟩
def my_Ac (h0 sz : Nat) : Nat → Prop := fun q => q = h0 ∨ sz ≤ q
def my_rc (k mc ms : Nat) : Room := { frames := k, cells := mc, slots := ms, locals := 60 * k }
def my_Qn (w : my_V) (h0 sz : Nat) (wt : (Nat → Nat) → va_W) : Array Value → State → Outcome → State → Prop := fun _ st o t => (∃ u : Nat → Nat, o = .returned none ∧ va_P w.2.1 vwCl (wt u) t.heap ∧ va_D (my_Ac h0 sz) (wt u) ∧ my_Kc w t) ∧ va_F (my_Ac h0 sz) st t
def my_Pn (w : my_V) (h0 sz : Nat) (e0 : va_E) : Array Value → State → Prop := fun a U => a = ([Value.ref h0] : List Value).toArray ∧ U.heap.size = sz ∧ va_P w.2.1 vwCl [(h0, e0)] U.heap ∧ my_Kc w U
def Cn (w : my_V) (t : my_T) (k mc ms h0 : Nat) (e0 : va_E) (wt : (Nat → Nat) → va_W) : Prop :=
  ∀ sz, Met w.1 t.1 (Cond.code t.1 t.2.1 t.2.2.1 t.2.2.2 :: tblG) (my_rc k mc ms) (my_Pn w h0 sz e0) (my_Qn w h0 sz wt) mc ms (my_Ac h0 sz)
theorem my_blindN {w : my_V} {h0 sz : Nat} {e0 : va_E} : FrameBlind (my_Pn w h0 sz e0) := fun a U g mk q => ⟨q.1, q.2.1, q.2.2.1, ⟨va_K.moved (u := U) (U := U.calling g mk a) (Vm.Alike.refl U.vm) q.2.2.2.1.1, my_N_same (s := U) (U := U.calling g mk a) rfl q.2.2.2.1.2⟩, va_AO.moved (u := U) (U := U.calling g mk a) (Vm.Alike.refl U.vm) q.2.2.2.2.1, va_AO.moved (u := U) (U := U.calling g mk a) (Vm.Alike.refl U.vm) q.2.2.2.2.2⟩
def my_OKn (X : my_X) (w : my_V) (cc : ByteArray) (own : String) (nL : Nat) : Prop :=
  X.1.tables.exec = Jvm.exec ∧ X.2.2.2.2.2.2.2.code = cc ∧ X.2.2.2.2.2.2.2.maxLocals = nL ∧ X.2.2.1.vm.findClass own = some X.2.2.2.1.cls ∧ (∀ u ∈ tblG, u.before X.2.2.2.2.1 X.2.2.1 = true) ∧ my_Kc w X.2.2.1 ∧ X.2.2.2.2.2.2.1.name = "<init>" ∧ X.2.2.2.2.2.2.1.locks = false ∧ X.2.2.2.2.2.2.1.sig.returnType = none
def GoW (X : my_X) (w : my_V) (h0 k mc ms nL : Nat) (wt : (Nat → Nat) → va_W) (ws : va_W) (cs sl pc : Nat) (lv : List (Option Value)) (st : List Value) : Prop :=
  ∀ (H : Heap) (locs : List Loc) (ls : Array Slot), va_P w.2.1 vwCl ws H → va_D (my_Ac h0 X.2.2.1.heap.size) ws → va_S (my_Ac h0 X.2.2.1.heap.size) X.2.2.1.heap H locs → my_has ls nL lv →
    W X.1 w.1 X.2.1 (my_rc k mc ms) X.2.2.1 X.2.2.2.1 X.2.2.2.2.1 X.2.2.2.2.2.1 X.2.2.2.2.2.2.1 X.2.2.2.2.2.2.2 H locs cs sl (MQ X.2.2.2.2.2.1 (my_Qn w h0 X.2.2.1.heap.size wt) X.2.2.2.2.1 X.2.2.1 mc ms (my_Ac h0 X.2.2.1.heap.size)) (F0 X.2.2.2.1 pc ls st)
theorem my_cn {w : my_V} {y : MethodName} {cc : ByteArray} {nL k mc ms h0 : Nat} {e0 : va_E} {wt : (Nat → Nat) → va_W} (own : String) (lv0 : List (Option Value)) (r : Nat) (hy : plainName y.cls = true) (hown : y.cls = own) (hnm : y.name = "<init>") (hlen : 1 ≤ nL) (hlv : [some (.ref h0)] ++ List.replicate r none = lv0)
    (body : ∀ X : my_X, my_OKn X w cc own nL → GoW X w h0 k mc ms nL wt [(h0, e0)] 0 0 0 lv0 []) : Cn w (y, cc, nL, none) k mc ms h0 e0 wt := by
  intro sz
  refine Met.ofW (cc := cc) (maxL := nL) (ret := none) hy rfl ?_
  intro p e s m args below meth c s₁ B hml hv
  obtain ⟨rfl, hsz, hP, hK⟩ := hv
  subst hsz
  have hts := atoms_spec (ws := Cond.code y cc nL none :: tblG) B.pre
  have hown' : s.vm.findClass own = some m.cls := by rw [← hown]; exact findClass_of_methodNamed B.named
  have hl := lv_entry [.ref h0] (n := nL) hlen
  rw [lg_entry_eq]
  generalize (lg_sl [.ref h0] ++ List.replicate (nL - (lg_sl [.ref h0]).length) Slot.unset).toArray = ls at hl ⊢
  have hin : meth.name = "<init>" := (name_of_methodNamed B.named B.method).1.trans hnm
  refine body (p, e, s, m, ([Value.ref h0] : List Value).toArray, below, meth, c) ⟨B.exec, B.bytes, hml, hown', fun u hu => hts u (List.mem_cons_of_mem _ hu), hK, hin, B.notSynchronized, B.returns⟩ s.heap [] ls hP ?_ va_S.rf ⟨hl.1, hl.2.1, fun i u hu => ?_⟩
  · refine ⟨fun i j p q hi hj _ => ?_, fun k q hk => ?_⟩
    · have h1 := (List.getElem?_eq_some_iff.mp hi).1
      have h2 := (List.getElem?_eq_some_iff.mp hj).1
      simp at h1 h2
      omega
    · have h1 := (List.getElem?_eq_some_iff.mp hk).1
      simp at h1
      subst h1
      simp at hk
      subst hk
      exact Or.inl rfl
  · refine hl.2.2 (i, u) ?_
    subst hlv
    cases i with
    | zero => simp at hu; subst hu; exact List.mem_cons_self
    | succ i =>
      simp only [List.singleton_append, List.getElem?_cons_succ] at hu
      have := List.mem_replicate.mp (List.mem_of_getElem? hu)
      cases this.2
theorem my_Pswap {D : va_G} {cl : List vw_C} {ws : va_W} {x : Nat × va_E} {H : Heap} (h : va_P D cl (ws ++ [x]) H) : va_P D cl (x :: ws) H := by
  intro k q hk
  have : q ∈ ws ++ [x] := by
    have := List.mem_of_getElem? hk
    simp only [List.mem_cons] at this
    simp only [List.mem_append, List.mem_singleton]
    exact this.symm
  obtain ⟨i, hi⟩ := List.getElem?_of_mem this
  exact h i q hi
theorem my_Dswap {A : Nat → Prop} {ws : va_W} {x : Nat × va_E} (h : va_D A (ws ++ [x])) : va_D A (x :: ws) := by
  have key : ∀ (i : Nat) (p : Nat × va_E), (x :: ws)[i]? = some p → ∃ j, (ws ++ [x])[j]? = some p ∧ ((i = 0 ∧ j = ws.length) ∨ (i = j + 1 ∧ j < ws.length)) := by
    intro i p hi
    cases i with
    | zero => exact ⟨ws.length, by simpa using hi, Or.inl ⟨rfl, rfl⟩⟩
    | succ i =>
      rw [List.getElem?_cons_succ] at hi
      have hl := (List.getElem?_eq_some_iff.mp hi).1
      exact ⟨i, by rw [List.getElem?_append_left hl]; exact hi, Or.inr ⟨rfl, hl⟩⟩
  refine ⟨fun i j p q hi hj hpq => ?_, fun k q hk => ?_⟩
  · obtain ⟨a, a1, a2⟩ := key i p hi
    obtain ⟨b, b1, b2⟩ := key j q hj
    have := h.1 a b p q a1 b1 hpq
    omega
  · obtain ⟨a, a1, -⟩ := key k q hk
    exact h.2 a q a1
section CROWS
variable {X : my_X} {w : my_V} {cc : ByteArray} {own : String} {h0 k mc ms nL : Nat} {wt : (Nat → Nat) → va_W} {ws : va_W} {cs sl pc : Nat} {lv : List (Option Value)} {st : List Value}
theorem c_iconst (h : my_OKn X w cc own nL) (pc' : Nat) {n : Int} {x : Int32} (hv : Int32.ofInt n = x) (d : decode cc pc = .ok (.iconst n, 1)) (e : pc + 1 = pc') (kk : GoW X w h0 k mc ms nL wt ws cs sl pc' lv (.int x :: st)) : GoW X w h0 k mc ms nL wt ws cs sl pc lv st := by
  subst e
  exact fun H locs ls hP hD hS hl => lv_iconst h.1 h.2.1 d hv (kk H locs ls hP hD hS hl)
theorem c_bipush (h : my_OKn X w cc own nL) (pc' : Nat) {n : Int} {x : Int32} (hv : (Int8.ofInt n).toInt32 = x) (d : decode cc pc = .ok (.bipush n, 2)) (e : pc + 2 = pc') (kk : GoW X w h0 k mc ms nL wt ws cs sl pc' lv (.int x :: st)) : GoW X w h0 k mc ms nL wt ws cs sl pc lv st := by
  subst e
  exact fun H locs ls hP hD hS hl => lv_bipush h.1 h.2.1 d hv (kk H locs ls hP hD hS hl)
theorem c_sipush (h : my_OKn X w cc own nL) (pc' : Nat) {n : Int} {x : Int32} (hv : (Int16.ofInt n).toInt32 = x) (d : decode cc pc = .ok (.sipush n, 3)) (e : pc + 3 = pc') (kk : GoW X w h0 k mc ms nL wt ws cs sl pc' lv (.int x :: st)) : GoW X w h0 k mc ms nL wt ws cs sl pc lv st := by
  subst e
  exact fun H locs ls hP hD hS hl => lv_sipush h.1 h.2.1 d hv (kk H locs ls hP hD hS hl)
theorem c_dup (h : my_OKn X w cc own nL) (pc' : Nat) {a : Value} (ha : a.category = 1) (d : decode cc pc = .ok (.dup, 1)) (e : pc + 1 = pc') (kk : GoW X w h0 k mc ms nL wt ws cs sl pc' lv (a :: a :: st)) : GoW X w h0 k mc ms nL wt ws cs sl pc lv (a :: st) := by
  subst e
  exact fun H locs ls hP hD hS hl => lv_dup h.1 h.2.1 d ha (kk H locs ls hP hD hS hl)
theorem c_goto (h : my_OKn X w cc own nL) (pc' : Nat) {off : Int} (d : decode cc pc = .ok (.goto off, 3)) (ht : (pc : Int) + off = (pc' : Int)) (kk : GoW X w h0 k mc ms nL wt ws cs sl pc' lv st) : GoW X w h0 k mc ms nL wt ws cs sl pc lv st := fun H locs ls hP hD hS hl => lv_goto h.1 h.2.1 d ht (kk H locs ls hP hD hS hl)
theorem c_icge (h : my_OKn X w cc own nL) (tgt pc' : Nat) {x y : Int32} {off : Int} (d : decode cc pc = .ok (.if_icmp .ge off, 3)) (ht : (pc : Int) + off = (tgt : Int)) (e : pc + 3 = pc') (kt : y ≤ x → GoW X w h0 k mc ms nL wt ws cs sl tgt lv st) (kf : ¬ y ≤ x → GoW X w h0 k mc ms nL wt ws cs sl pc' lv st) : GoW X w h0 k mc ms nL wt ws cs sl pc lv (.int y :: .int x :: st) := by
  subst e
  exact fun H locs ls hP hD hS hl => lv_icmp_ge h.1 h.2.1 d ht (fun q => kt q H locs ls hP hD hS hl) (fun q => kf q H locs ls hP hD hS hl)
theorem c_al0 (h : my_OKn X w cc own nL) (pc' : Nat) {r : List (Option Value)} {x : Nat} (d : decode cc pc = .ok (.aload_n 0, 1)) (e : pc + 1 = pc') (kk : GoW X w h0 k mc ms nL wt ws cs sl pc' (some (.ref x) :: r) (.ref x :: st)) : GoW X w h0 k mc ms nL wt ws cs sl pc (some (.ref x) :: r) st := by
  subst e
  exact fun H locs ls hP hD hS hl => lv_aload_n h.1 h.2.1 d rfl (hl.2.2 0 _ rfl) (kk H locs ls hP hD hS hl)
theorem c_il1 (h : my_OKn X w cc own nL) (pc' : Nat) {a : Option Value} {r : List (Option Value)} {x : Int32} (d : decode cc pc = .ok (.iload_n 1, 1)) (e : pc + 1 = pc') (kk : GoW X w h0 k mc ms nL wt ws cs sl pc' (a :: some (.int x) :: r) (.int x :: st)) : GoW X w h0 k mc ms nL wt ws cs sl pc (a :: some (.int x) :: r) st := by
  subst e
  exact fun H locs ls hP hD hS hl => lv_iload_n h.1 h.2.1 d rfl (hl.2.2 1 _ rfl) (kk H locs ls hP hD hS hl)
theorem c_is1 (h : my_OKn X w cc own nL) (pc' : Nat) {a o : Option Value} {r : List (Option Value)} {x : Int32} (hn : 1 < nL) (hc : my_c1 a = true) (d : decode cc pc = .ok (.istore_n 1, 1)) (e : pc + 1 = pc') (kk : GoW X w h0 k mc ms nL wt ws cs sl pc' (a :: some (.int x) :: r) st) : GoW X w h0 k mc ms nL wt ws cs sl pc (a :: o :: r) (.int x :: st) := by
  subst e
  exact fun H locs ls hP hD hS hl => lv_istore_n h.1 h.2.1 d rfl (my_has_lv hl) hn rfl (fun ls1 hl1 => kk H locs ls1 hP hD hS (my_set1 (lv := a :: o :: r) (fun j hj => by obtain rfl : j = 0 := (by omega); exact my_okp_of rfl hc) hl1))
theorem c_inc1 (h : my_OKn X w cc own nL) (pc' : Nat) {a : Option Value} {r : List (Option Value)} {n : Int} {x y : Int32} (hv : x + Int32.ofInt n = y) (hn : 1 < nL) (hc : my_c1 a = true) (d : decode cc pc = .ok (.iinc 1 n, 3)) (e : pc + 3 = pc') (kk : GoW X w h0 k mc ms nL wt ws cs sl pc' (a :: some (.int y) :: r) st) : GoW X w h0 k mc ms nL wt ws cs sl pc (a :: some (.int x) :: r) st := by
  subst e
  intro H locs ls hP hD hS hl
  obtain ⟨q, hq⟩ := List.getElem?_of_mem (my_al_mem (lv := a :: some (.int x) :: r) (i := 1) (v := .int x) |>.mpr rfl)
  exact lv_iinc h.1 h.2.1 d (my_has_lv hl) (k := q) hq hv hn rfl (fun ls1 hl1 => kk H locs ls1 hP hD hS (my_set1 (lv := a :: some (.int x) :: r) (fun j hj => by obtain rfl : j = 0 := (by omega); exact my_okp_of rfl hc) hl1))
theorem c_objInit (h : my_OKn X w cc own nL) (pc' : Nat) {idx : Nat} {a : Nat} (hlk : Cond.methodLink own idx objectInit ∈ tblG) (hk : 1 ≤ k) (d : decode cc pc = .ok (.invokespecial idx, 3)) (e : pc + 3 = pc') (hs : (st.map fun v => v.category).sum ≤ 8) (kk : GoW X w h0 k mc ms nL wt ws cs sl pc' lv st) : GoW X w h0 k mc ms nL wt ws cs sl pc lv (.ref a :: st) := by
  subst e
  intro H locs ls hP hD hS hl
  exact W.objInit h.1 h.2.1 h.2.2.2.1 (h.2.2.2.2.1 _ hlk) (h.2.2.2.2.1 _ tw_objIm) (h.2.2.2.2.1 _ tw_objCd) rfl (hl.1.trans h.2.2.1.symm) rfl d hk (by show 2 * 0 + _ + 12 ≤ 60 * k; omega) (kk H locs ls hP hD hS hl)
theorem c_new (h : my_OKn X w cc own nL) (pc' : Nat) {idx ci N : Nat} {C : String} {T : u_T} (fs : List Value) (hcl : my_Cl ci C T N) (hlk : Cond.classLink own idx C ∈ tblG) (hins : Cond.instantiable C N ∈ tblG) (hini : Cond.initialized C ∈ tblG) (hfs : ∀ ty : Nat → FieldType, (∀ q, q < N → parseFieldDescriptor (T q).2.2.1 = some (ty q)) → ∀ j, j < N → defaultValue (ty j) = vp_V fs j) (hc1 : cs + 1 ≤ mc) (hs1 : sl + N ≤ ms) (d : decode cc pc = .ok (.new idx, 3)) (e : pc + 3 = pc')
    (kk : ∀ q : Nat, GoW X w h0 k mc ms nL wt ((q, .inr (ci, fs)) :: ws) (cs + 1) (sl + N) pc' lv (.ref q :: st)) : GoW X w h0 k mc ms nL wt ws cs sl pc lv st := by
  subst e
  obtain ⟨hc, hin, ty, hty, hnm⟩ := hcl
  intro H locs ls hP hD hS hl
  exact va_new h.1 h.2.1 h.2.2.2.2.1 hin ty hty h.2.2.2.1 (h.2.2.2.2.1 _ hlk) (h.2.2.2.2.1 _ hins) (h.2.2.2.2.1 _ hini) h.2.2.2.2.2.1.1.1 hP hD hS (fun q hq => Or.inr hq) hc (hfs ty hty) hc1 hs1 d (fun q H1 hP1 hD1 hS1 => kk q H1 locs ls (my_Pswap hP1) (my_Dswap hD1) hS1 hl)
theorem c_newa (h : my_OKn X w cc own nL) (pc' : Nat) {n : Int32} (N : Nat) (hn : ¬ n < 0) (hN : n.toNatClampNeg = N) (hb : N * 4 ≤ 536870912) (hc1 : cs + 1 ≤ mc) (hs1 : sl + N ≤ ms) (d : decode cc pc = .ok (.newarray .int, 2)) (e : pc + 2 = pc')
    (kk : ∀ q : Nat, GoW X w h0 k mc ms nL wt ((q, .inl (w.2.2.1 0, N, .inl (fun _ => 0))) :: ws) (cs + 1) (sl + N) pc' lv (.ref q :: st)) : GoW X w h0 k mc ms nL wt ws cs sl pc lv (.int n :: st) := by
  subst e
  intro H locs ls hP hD hS hl
  refine va_newa (atype := .int) (ty := .int) (a0 := (N, .inl (fun _ => 0))) h.1 h.2.1 (h.2.2.2.2.1 _ tw_ac_48) rfl h.2.2.2.2.2.1.1.1 hP hD hS (fun q hq => Or.inr hq) (fun cA => rfl) hn hN hb hc1 hs1 d (fun q cA H1 hK1 hP1 hD1 hS1 => ?_)
  have e1 : X.2.2.1.vm.findClass ("[" ++ FieldType.int.toString) = some cA := (hK1.2 3 (cA, .int) rfl).2
  have e2 : X.2.2.1.vm.findClass ("[" ++ FieldType.int.toString) = some (w.2.2.1 0) := (h.2.2.2.2.2.1.1.1.2 0 (w.2.2.1 0, .int) rfl).2
  have e3 : cA = w.2.2.1 0 := Option.some.inj (e1.symm.trans e2)
  subst e3
  exact kk q H1 locs ls (my_Pswap hP1) (my_Dswap hD1) hS1 hl
theorem c_newq (h : my_OKn X w cc own nL) (pc' : Nat) {idx : Nat} {C : String} {n : Int32} (t N : Nat) (hlk : Cond.classLink own idx C ∈ tblG) (hov : va_AO C X.2.2.1) (ht : (my_ty w)[t]? = some (w.2.2.1 t, .object C)) (hn : ¬ n < 0) (hN : n.toNatClampNeg = N) (hb : N * 4 ≤ 536870912) (hc1 : cs + 1 ≤ mc) (hs1 : sl + N ≤ ms) (d : decode cc pc = .ok (.anewarray idx, 3)) (e : pc + 3 = pc')
    (kk : ∀ q : Nat, GoW X w h0 k mc ms nL wt ((q, .inl (w.2.2.1 t, N, .inr (.inr (.inr (.inr (fun _ => none)))))) :: ws) (cs + 1) (sl + N) pc' lv (.ref q :: st)) : GoW X w h0 k mc ms nL wt ws cs sl pc lv (.int n :: st) := by
  subst e
  intro H locs ls hP hD hS hl
  refine va_newq h.1 h.2.1 h.2.2.2.1 (h.2.2.2.2.1 _ hlk) hov h.2.2.2.2.2.1.1.1 hP hD hS (fun q hq => Or.inr hq) hn hN hb hc1 hs1 d (fun q cA H1 hK1 hP1 hD1 hS1 => ?_)
  obtain ⟨-, -, -, -, -, e1⟩ := (hK1.2 3 (cA, .object C) rfl).2
  obtain ⟨-, -, -, -, -, e2⟩ := (h.2.2.2.2.2.1.1.1.2 t (w.2.2.1 t, .object C) ht).2
  have e3 : cA = w.2.2.1 t := Option.some.inj (e1.symm.trans e2)
  subst e3
  exact kk q H1 locs ls (my_Pswap hP1) (my_Dswap hD1) hS1 hl
theorem c_putF (h : my_OKn X w cc own nL) (pc' : Nat) {idx ci f N a v : Nat} {C : String} {T : u_T} {ty : FieldType} {fs : List Value} (p0 : Nat) (hcl : my_Cl ci C T N) (he : ws[p0]? = some (a, .inr (ci, fs))) (hf : f < N) (hlk : Cond.fieldLink own idx (T f).1 (T f).2.1 (T f).2.2.1 ∈ tblG) (hfin : (T f).2.2.2 = true) (hdecl : (T f).1 = own) (hd : parseFieldDescriptor (T f).2.2.1 = some ty) (hn : narrow ty (.ref v) = .ref v) (hfit : fits ty (.ref v) = true) (hlt : f < fs.length) (d : decode cc pc = .ok (.putfield idx, 3)) (e : pc + 3 = pc')
    (ws2 : va_W) (hw : ws.set p0 (a, .inr (ci, fs.set f (.ref v))) = ws2) (kk : GoW X w h0 k mc ms nL wt ws2 cs sl pc' lv st) : GoW X w h0 k mc ms nL wt ws cs sl pc lv (.ref v :: .ref a :: st) := by
  subst e
  subst hw
  obtain ⟨hc, hin, ty0, hty, hnm⟩ := hcl
  intro H locs ls hP hD hS hl
  exact va_putF h.1 h.2.1 h.2.2.2.2.1 hin ty0 hty hnm h.2.2.2.1 h.2.2.2.2.2.1.1.1 hP hD hS p0 he hc f hf (h.2.2.2.2.1 _ hlk) (fun _ q => q) hfin h.2.2.2.2.2.2.1 hdecl hd hn hfit hlt d (fun H1 locs1 hP1 hD1 hS1 => kk H1 locs1 ls hP1 hD1 hS1 hl)
theorem c_geta (h : my_OKn X w cc own nL) (pc' : Nat) {idx ci f N a v : Nat} {C : String} {T : u_T} {fs : List Value} (p0 : Nat) (hcl : my_Cl ci C T N) (he : ws[p0]? = some (a, .inr (ci, fs))) (hf : f < N) (hlk : Cond.fieldLink own idx (T f).1 (T f).2.1 (T f).2.2.1 ∈ tblG) (hv : fs[f]? = some (.ref v)) (d : decode cc pc = .ok (.getfield idx, 3)) (e : pc + 3 = pc')
    (kk : GoW X w h0 k mc ms nL wt ws cs sl pc' lv (.ref v :: st)) : GoW X w h0 k mc ms nL wt ws cs sl pc lv (.ref a :: st) := by
  subst e
  obtain ⟨hc, hin, ty0, hty, hnm⟩ := hcl
  intro H locs ls hP hD hS hl
  exact va_get h.1 h.2.1 h.2.2.2.2.1 hin h.2.2.2.1 h.2.2.2.2.2.1.1.1 hP p0 he hc f hf (h.2.2.2.2.1 _ hlk) (fun _ q => q) hv d (kk H locs ls hP hD hS hl)
theorem c_aast (h : my_OKn X w cc own nL) (pc' : Nat) {a v n ci t : Nat} {r : vw_C} {i : Int32} {f : Nat → Option Nat} {vs : List Value} (p0 p1 : Nat) (he : ws[p0]? = some (a, .inl (w.2.2.1 t, n, .inr (.inr (.inr (.inr f)))))) (ht : (my_ty w)[t]? = some (w.2.2.1 t, .object r.1)) (hv : ws[p1]? = some (v, .inr (ci, vs))) (hc : vwCl[ci]? = some r) (hin : vp_in i n) (d : decode cc pc = .ok (.aastore, 1)) (e : pc + 1 = pc')
    (ws2 : va_W) (hw : ws.set p0 (a, .inl (w.2.2.1 t, n, .inr (.inr (.inr (.inr (va_up f i.toNatClampNeg (some v))))))) = ws2) (kk : GoW X w h0 k mc ms nL wt ws2 cs sl pc' lv st) : GoW X w h0 k mc ms nL wt ws cs sl pc lv (.ref v :: .int i :: .ref a :: st) := by
  subst e
  subst hw
  intro H locs ls hP hD hS hl
  exact va_astq h.1 h.2.1 h.2.2.2.2.2.1.1.1 hP hD hS p0 t p1 ci he ht hv hc hin d (fun H1 locs1 hP1 hD1 hS1 => kk H1 locs1 ls hP1 hD1 hS1 hl)
theorem c_iast (h : my_OKn X w cc own nL) (pc' : Nat) {a n : Nat} {i x : Int32} {f : Nat → Int32} (p0 : Nat) (he : ws[p0]? = some (a, .inl (w.2.2.1 0, n, .inl f))) (hin : vp_in i n) (d : decode cc pc = .ok (.iastore, 1)) (e : pc + 1 = pc')
    (ws2 : va_W) (hw : ws.set p0 (a, .inl (w.2.2.1 0, n, .inl (upd f i.toNatClampNeg x))) = ws2) (kk : GoW X w h0 k mc ms nL wt ws2 cs sl pc' lv st) : GoW X w h0 k mc ms nL wt ws cs sl pc lv (.int x :: .int i :: .ref a :: st) := by
  subst e
  subst hw
  intro H locs ls hP hD hS hl
  exact va_iast h.1 h.2.1 h.2.2.2.2.2.1.1.1 hP hD hS p0 0 he rfl hin d (fun H1 locs1 hP1 hD1 hS1 => kk H1 locs1 ls hP1 hD1 hS1 hl)
theorem c_vret (h : my_OKn X w cc own nL) (u : Nat → Nat) (is : List Nat) (h1 : is.filterMap (fun i => ws[i]?) = wt u) (h2 : va_nd is = true) (h3 : is.map (fun i => ws[i]?) = (wt u).map some) (hc : cs ≤ mc) (hs : sl ≤ ms) (d : decode cc pc = .ok (.return_, 1)) : GoW X w h0 k mc ms nL wt ws cs sl pc lv [] := by
  intro H locs ls hP hD hS hl
  refine W.widen hc hs ?_
  exact W.vret h.1 h.2.1 h.2.2.2.2.2.2.2.2 (fun t ht hW => ⟨⟨u, rfl, by rw [ht]; exact hP.sub is h1, hD.sub is h2 h3, my_Kc_warm hW h.2.2.2.2.2.1⟩, hS.F ht⟩) hS.2.2 d h.2.2.2.2.2.2.2.1
theorem my_go_ctor {t : my_T} {k' mc' ms' q : Nat} {e0 : va_E} {wu : (Nat → Nat) → va_W} {st0 rest : List Value} {a : Array Value}
    (hr : ∀ (H : Heap) (locs : List Loc) (ls : Array Slot), va_P w.2.1 vwCl ((q, e0) :: ws) H → va_S (my_Ac h0 X.2.2.1.heap.size) X.2.2.1.heap H locs → my_has ls nL lv → va_Run X.1 w.1 X.2.1 (my_rc k mc ms) X.2.2.1 X.2.2.2.1 X.2.2.2.2.1 X.2.2.2.2.2.1 X.2.2.2.2.2.2.1 X.2.2.2.2.2.2.2 H locs cs sl mc' ms' (F0 X.2.2.2.1 pc ls st0) rest (my_Qn w q H.size wu a) (my_Ac q H.size))
    (kk : ∀ u : Nat → Nat, GoW X w h0 k mc ms nL wt (wu u ++ ws) (cs + mc') (sl + ms') (pc + 3) lv rest) : GoW X w h0 k mc ms nL wt ((q, e0) :: ws) cs sl pc lv st0 := by
  intro H locs ls hP hD hS hl T hT Y
  obtain ⟨v', st₀, t, T', L, h0', Y', hL, e1, e2, ⟨⟨u, hv, hP1, hD1, hK1⟩, hz, hk⟩, sts⟩ := hr H locs ls hP hS hl T hT Y
  cases hv
  rw [h0'] at hz hk
  have hAq : my_Ac h0 X.2.2.1.heap.size q := hD.2 0 (q, e0) rfl
  have hsub : ∀ x, my_Ac q H.size x → my_Ac h0 X.2.2.1.heap.size x := by
    intro x hx
    rcases hx with rfl | hx
    · exact hAq
    · exact Or.inr (Nat.le_trans hS.1 hx)
  have hout : ∀ (i : Nat) (p : Nat × va_E), ws[i]? = some p → p.1 < H.size ∧ ¬ my_Ac q H.size p.1 := by
    intro i p hi
    have hlt := (hP (i + 1) p (by rw [List.getElem?_cons_succ]; exact hi)).lt
    refine ⟨hlt, fun hx => ?_⟩
    rcases hx with hx | hx
    · have := hD.1 (i + 1) 0 p (q, e0) (by rw [List.getElem?_cons_succ]; exact hi) rfl hx
      omega
    · omega
  have hPr : va_P w.2.1 vwCl ws T'.heap := by
    intro i p hi
    obtain ⟨g1, g2⟩ := hout i p hi
    refine (hP (i + 1) p (by rw [List.getElem?_cons_succ]; exact hi)).kept ?_
    rw [e1]
    exact hk p.1 g1 g2
  have hDr : va_D (my_Ac h0 X.2.2.1.heap.size) ws := ⟨fun i j p p' hi hj hpq => by
    have := hD.1 (i + 1) (j + 1) p p' (by rw [List.getElem?_cons_succ]; exact hi) (by rw [List.getElem?_cons_succ]; exact hj) hpq
    omega, fun i p hi => hD.2 (i + 1) p (by rw [List.getElem?_cons_succ]; exact hi)⟩
  obtain ⟨t2, a1, b1⟩ := kk u T'.heap (locs ++ L) ls (va_P.app (by rw [e1]; exact hP1) hPr) (va_D.app (hD1.weaken (fun _ x _ hx => hsub x.1 hx)) hDr (fun i j p p' hi hj hpq => (hout j p' hj).2 (by rw [← hpq]; exact hD1.2 i p hi))) ⟨Nat.le_trans hS.1 (by rw [e1]; exact hz), fun x g1 g2 => by rw [e1, hk x (Nat.lt_of_lt_of_le g1 hS.1) (fun z => g2 (hsub x z))]; exact hS.2.1 x g1 g2, fun x hx => by
      rcases List.mem_append.mp hx with h | h
      · exact hS.2.2 x h
      · exact hsub _ (hL x h)⟩ hl T' rfl Y'
  exact ⟨t2, sts t2 a1, b1⟩
abbrev my_fitc (t : my_T) (k' k : Nat) : Prop := k' + 1 ≤ k ∧ 8 + (t.2.2.1 + 11) + 60 * k' ≤ 60 * k
theorem my_preN (h : my_OKn X w cc own nL) {q : Nat} {e0 : va_E} {H : Heap} (hP : va_P w.2.1 vwCl ((q, e0) :: ws) H) : PreS X.2.2.1 H (my_Pn w q H.size e0) (.ref q :: []) :=
  ⟨my_blindN, fun U hU hW => ⟨rfl, by rw [hU], by rw [hU]; exact hP.sub [0] rfl, my_Kc_warm hW h.2.2.2.2.2.1⟩⟩
/-- a constructor of our own, named by an ordinary link -/
theorem c_callI (h : my_OKn X w cc own nL) (pc' : Nat) {y : MethodName} {bytes : ByteArray} {mL k' mc' ms' q idx : Nat} {e0 : va_E} {wu : (Nat → Nat) → va_W} (hd : my_Cd (y, bytes, mL, none) 0) (hlk : Cond.methodLink own idx y ∈ tblG) (him : Cond.instanceMethod y ∈ tblG) (hnm : y.name = "<init>") (hM : Cn w (y, bytes, mL, none) k' mc' ms' q e0 wu) (hk : my_fitc (y, bytes, mL, none) k' k) (hc : cs + mc' ≤ mc) (hs : sl + ms' ≤ ms) (hst : (st.map fun v => v.category).sum ≤ 8) (d : decode cc pc = .ok (.invokespecial idx, 3)) (e : pc + 3 = pc')
    (ws2 : (Nat → Nat) → va_W) (hw : ∀ u, wu u ++ ws = ws2 u) (kk : ∀ u : Nat → Nat, GoW X w h0 k mc ms nL wt (ws2 u) (cs + mc') (sl + ms') pc' lv st) : GoW X w h0 k mc ms nL wt ((q, e0) :: ws) cs sl pc lv (.ref q :: st) := by
  subst e
  refine my_go_ctor (t := (y, bytes, mL, none)) (k' := k') (a := (Value.ref q :: []).toArray) (fun H locs ls hP hS hl => ?_) (fun u => by rw [hw u]; exact kk u)
  exact va_runI (As := []) ⟨h.1, h.2.1, h.2.2.1, h.2.2.2.1, h.2.2.2.2.1⟩ (hM H.size) (cwI 0 h.2.2.2.2.1 (my_good hd) rfl rfl rfl (h.2.2.2.2.1 _ hd.2.1) (h.2.2.2.2.1 _ hlk) (h.2.2.2.2.1 _ him) hnm ⟨hd.2.2.1.1, hd.2.2.1.2, hd.2.2.2⟩ hk) (my_preN h hP) rfl rfl hl.1 rfl (lv_room hst) d ⟨hc, hs⟩
/-- a private constructor of a nest mate -/
theorem c_callN (h : my_OKn X w cc own nL) (pc' : Nat) {y : MethodName} {bytes : ByteArray} {mL k' mc' ms' q idx : Nat} {host : String} {e0 : va_E} {wu : (Nat → Nat) → va_W} (hd : my_Cd (y, bytes, mL, none) 0) (hlk : (own, idx, y, host) ∈ lw_nestT) (him : Cond.instanceMethod y ∈ tblG) (hnm : y.name = "<init>") (hM : Cn w (y, bytes, mL, none) k' mc' ms' q e0 wu) (hk : my_fitc (y, bytes, mL, none) k' k) (hc : cs + mc' ≤ mc) (hs : sl + ms' ≤ ms) (hst : (st.map fun v => v.category).sum ≤ 8) (d : decode cc pc = .ok (.invokespecial idx, 3)) (e : pc + 3 = pc')
    (ws2 : (Nat → Nat) → va_W) (hw : ∀ u, wu u ++ ws = ws2 u) (kk : ∀ u : Nat → Nat, GoW X w h0 k mc ms nL wt (ws2 u) (cs + mc') (sl + ms') pc' lv st) : GoW X w h0 k mc ms nL wt ((q, e0) :: ws) cs sl pc lv (.ref q :: st) := by
  subst e
  refine my_go_ctor (t := (y, bytes, mL, none)) (k' := k') (a := (Value.ref q :: []).toArray) (fun H locs ls hP hS hl => ?_) (fun u => by rw [hw u]; exact kk u)
  exact va_runIN (As := []) ⟨h.1, h.2.1, h.2.2.1, h.2.2.2.1, h.2.2.2.2.1⟩ (hM H.size) ⟨va_cnB 0 h.2.2.2.2.1 (my_good hd) rfl rfl rfl (h.2.2.2.2.2.1.1.2 _ hlk) (h.2.2.2.2.1 _ hd.2.1) ⟨hd.2.2.1.1, hd.2.2.1.2, hd.2.2.2⟩ hk, hnm, h.2.2.2.2.1 _ him⟩ (my_preN h hP) rfl rfl hl.1 rfl (lv_room hst) d ⟨hc, hs⟩
end CROWS
