/-! THE CLAIM OUT OF ONE WALK OF THE LAW'S BODY. Your part is whole_start (and what it stands on); all else here is the same for every law, but numbers. -/
def R_law : String := "PitchRowsLaw"
def lw_P (b : Addr) (xs : List Int32) (args : Array Value) (s : State) : Prop := args = #[.ref b] ∧ s.IntsAt b xs ∧ xs.length ≤ 3072 ∧ (Jvm.Cond.and given_1 narrow_1).before args s = true
def lw_Q (_ : Array Value) (s : State) (o : Outcome) (t : State) : Prop := o = .returned (some (.int 1)) ∧ Framed s o t [] 600000 7302250
def lw_Z (below : List Frame) (a : Array Value) (s : State) : State → Prop := fun t => ∃ o, t.status = .running ∧ Ended t below o ∧ lw_Q a s o t
/-- the law's own end, with 1 on the stack, nothing written that was there before, its room as the claim has it -/
theorem lw_ret {p : Program} {l : Launch} {e : Env} {s : State} {m : MethodId} {below : List Frame} {meth : Method} {c : Code} {b : Nat} (hx : p.tables.exec = Jvm.exec) (hb : c.code = code) (hr : meth.sig.returnType = ret) (hlocks : meth.locks = false) {pc : Nat} {H : Heap} {ls : Array Slot} (hdg : decode code pc = .ok (.ireturn, 1)) : W p l e room_1 s m #[Value.ref b] below meth c H [] 600000 7302250 (lw_Z below #[Value.ref b] s) (F0 m pc ls [.int 1]) := by
  intro T hT X
  obtain ⟨fs, hret, hrun, hended, hW, hframe⟩ := X.leave (v := some (.int 1)) (hlocks := hlocks) (fun h => by rw [hr] at h; cases h)
  have hmeth' : T.vm.method? m = some meth := X.method'
  refine ⟨T.setFrames fs, ?_, .returned (some (.int 1)), hrun, hended, rfl, ⟨_, rfl⟩, hW, hframe⟩
  jvm_step X.here [X.here.top, hx, hb, hdg, hmeth', hr, ret, narrow_b1]
  (try refine ⟨rfl, ?_⟩); (try refine ⟨rfl, ?_⟩)
  first | (intro acts; rw [hret _ acts rfl rfl rfl]) | rw [hret _ _ rfl rfl rfl]
  exact Steps.refl _
/-- what holds at the law's entry: the machine, the code, the tables' words (any of lw_tbl by 'hts w (by decide +kernel)'), the script of L ints xs at the cell b, what the Statement gives of the start (any of its parts by flat_of_before) -/
def lw_At (p : Program) (s : State) (m : MethodId) (meth : Method) (c : Code) (b L : Nat) (xs : Nat → Int32) : Prop :=
  p.tables.exec = Jvm.exec ∧ c.code = code ∧ meth.sig.returnType = ret ∧ c.maxLocals = 4 ∧ s.vm.findClass R_law = some m.cls ∧ (∀ w ∈ lw_tbl, w.before #[Value.ref b] s = true) ∧ va_X b L xs s s.heap ∧ b < s.heap.size ∧ meth.locks = false ∧ (Jvm.Cond.and given_1 narrow_1).before #[Value.ref b] s = true
/-! THE LAW: two worlds side by side -/
def my_OL (X : my_X) (l : Launch) (D : va_G) (cA : Nat → ClassId) (iC iR : Nat → Nat) (b L : Nat) (xs : Nat → Int32) : Prop :=
  X.1.tables.exec = Jvm.exec ∧ X.2.2.2.2.2.2.2.code = code ∧ X.2.2.2.2.2.2.2.maxLocals = 4 ∧ X.2.2.1.vm.findClass RL = some X.2.2.2.1.cls ∧ (∀ u ∈ tblG, u.before X.2.2.2.2.1 X.2.2.1 = true) ∧ my_K (l, D, cA, iC) X.2.2.1 ∧ my_I (l, D, cA, iC) layC ∧ my_I (l, D, cA, iR) layR ∧ (∀ q, my_A (l, D, cA, iC) layC q → ¬ my_A (l, D, cA, iR) layR q) ∧ (∀ q, my_A (l, D, cA, iC) layC q → X.2.2.1.heap.size ≤ q) ∧ (∀ q, my_A (l, D, cA, iR) layR q → X.2.2.1.heap.size ≤ q) ∧ va_X b L xs X.2.2.1 X.2.2.1.heap ∧ b < X.2.2.1.heap.size ∧ X.2.2.2.2.2.2.1.locks = false ∧ X.2.2.2.2.2.2.1.sig.returnType = ret ∧ X.2.2.2.2.1 = #[Value.ref b]
def GoL (X : my_X) (l : Launch) (D : va_G) (cA : Nat → ClassId) (iC iR : Nat → Nat) (σ ρ : my_M) (pc : Nat) (lv : List (Option Value)) (st : List Value) : Prop :=
  ∀ (H : Heap) (locs : List Loc) (ls : Array Slot), my_P (l, D, cA, iC) layC σ H → my_P (l, D, cA, iR) layR ρ H → va_S (fun q => X.2.2.1.heap.size ≤ q) X.2.2.1.heap H locs → my_has ls 4 lv →
    W X.1 l X.2.1 room_1 X.2.2.1 X.2.2.2.1 X.2.2.2.2.1 X.2.2.2.2.2.1 X.2.2.2.2.2.2.1 X.2.2.2.2.2.2.2 H locs 61 1085 (lw_Z X.2.2.2.2.2.1 X.2.2.2.2.1 X.2.2.1) (F0 X.2.2.2.1 pc ls st)
theorem my_P_off {w : my_V} {lay : List my_L} {σ : my_M} {H H1 : Heap} (h : my_P w lay σ H) (hq : ∀ q, my_A w lay q → q < H.size → H1[q]? = H[q]?) : my_P w lay σ H1 := by
  intro k q hk
  have hlt := (h k q hk).lt
  have hl : k < lay.length := by
    have := (List.getElem?_eq_some_iff.mp hk).1
    simpa [my_ws] using this
  refine (h k q hk).kept (hq q.1 ⟨k, hl, ?_⟩ hlt)
  have e := (my_ws_at (w := w) (σ := σ) (List.getElem?_eq_getElem hl)).symm.trans hk
  cases e
  rfl
section LROWS
variable {X : my_X} {l : Launch} {D : va_G} {cA : Nat → ClassId} {iC iR : Nat → Nat} {b L : Nat} {xs : Nat → Int32} {σ ρ : my_M} {pc : Nat} {lv : List (Option Value)} {st : List Value}
theorem l_al0 (h : my_OL X l D cA iC iR b L xs) (pc' : Nat) {r : List (Option Value)} {x : Nat} (d : decode code pc = .ok (.aload_n 0, 1)) (e : pc + 1 = pc') (kk : GoL X l D cA iC iR σ ρ pc' (some (.ref x) :: r) (.ref x :: st)) : GoL X l D cA iC iR σ ρ pc (some (.ref x) :: r) st := by
  subst e
  exact fun H locs ls hP hR hS hl => lv_aload_n h.1 h.2.1 d rfl (hl.2.2 0 _ rfl) (kk H locs ls hP hR hS hl)
theorem l_al1 (h : my_OL X l D cA iC iR b L xs) (pc' : Nat) {a0 : Option Value} {r : List (Option Value)} {x : Nat} (d : decode code pc = .ok (.aload_n 1, 1)) (e : pc + 1 = pc') (kk : GoL X l D cA iC iR σ ρ pc' (a0 :: some (.ref x) :: r) (.ref x :: st)) : GoL X l D cA iC iR σ ρ pc (a0 :: some (.ref x) :: r) st := by
  subst e
  exact fun H locs ls hP hR hS hl => lv_aload_n h.1 h.2.1 d rfl (hl.2.2 1 _ rfl) (kk H locs ls hP hR hS hl)
theorem l_al2 (h : my_OL X l D cA iC iR b L xs) (pc' : Nat) {a0 a1 : Option Value} {r : List (Option Value)} {x : Nat} (d : decode code pc = .ok (.aload_n 2, 1)) (e : pc + 1 = pc') (kk : GoL X l D cA iC iR σ ρ pc' (a0 :: a1 :: some (.ref x) :: r) (.ref x :: st)) : GoL X l D cA iC iR σ ρ pc (a0 :: a1 :: some (.ref x) :: r) st := by
  subst e
  exact fun H locs ls hP hR hS hl => lv_aload_n h.1 h.2.1 d rfl (hl.2.2 2 _ rfl) (kk H locs ls hP hR hS hl)
theorem l_il3 (h : my_OL X l D cA iC iR b L xs) (pc' : Nat) {a0 a1 a2 : Option Value} {r : List (Option Value)} {x : Int32} (d : decode code pc = .ok (.iload_n 3, 1)) (e : pc + 1 = pc') (kk : GoL X l D cA iC iR σ ρ pc' (a0 :: a1 :: a2 :: some (.int x) :: r) (.int x :: st)) : GoL X l D cA iC iR σ ρ pc (a0 :: a1 :: a2 :: some (.int x) :: r) st := by
  subst e
  exact fun H locs ls hP hR hS hl => lv_iload_n h.1 h.2.1 d rfl (hl.2.2 3 _ rfl) (kk H locs ls hP hR hS hl)
theorem l_inc3 (h : my_OL X l D cA iC iR b L xs) (pc' : Nat) {a0 a1 a2 : Option Value} {r : List (Option Value)} {n : Int} {x y : Int32} (hv : x + Int32.ofInt n = y) (hc : my_c1 a2 = true) (d : decode code pc = .ok (.iinc 3 n, 3)) (e : pc + 3 = pc') (kk : GoL X l D cA iC iR σ ρ pc' (a0 :: a1 :: a2 :: some (.int y) :: r) st) : GoL X l D cA iC iR σ ρ pc (a0 :: a1 :: a2 :: some (.int x) :: r) st := by
  subst e
  intro H locs ls hP hR hS hl
  obtain ⟨q, hq⟩ := List.getElem?_of_mem (my_al_mem (lv := a0 :: a1 :: a2 :: some (.int x) :: r) (i := 3) (v := .int x) |>.mpr rfl)
  exact lv_iinc h.1 h.2.1 d (my_has_lv hl) (k := q) hq hv (by decide) rfl (fun ls1 hl1 => kk H locs ls1 hP hR hS (my_set1 (lv := a0 :: a1 :: a2 :: some (.int x) :: r) (fun j hj => by obtain rfl : j = 2 := (by omega); exact my_okp_of rfl hc) hl1))
theorem l_iconst (h : my_OL X l D cA iC iR b L xs) (pc' : Nat) {n : Int} {x : Int32} (hv : Int32.ofInt n = x) (d : decode code pc = .ok (.iconst n, 1)) (e : pc + 1 = pc') (kk : GoL X l D cA iC iR σ ρ pc' lv (.int x :: st)) : GoL X l D cA iC iR σ ρ pc lv st := by
  subst e
  exact fun H locs ls hP hR hS hl => lv_iconst h.1 h.2.1 d hv (kk H locs ls hP hR hS hl)
theorem l_bipush (h : my_OL X l D cA iC iR b L xs) (pc' : Nat) {n : Int} {x : Int32} (hv : (Int8.ofInt n).toInt32 = x) (d : decode code pc = .ok (.bipush n, 2)) (e : pc + 2 = pc') (kk : GoL X l D cA iC iR σ ρ pc' lv (.int x :: st)) : GoL X l D cA iC iR σ ρ pc lv st := by
  subst e
  exact fun H locs ls hP hR hS hl => lv_bipush h.1 h.2.1 d hv (kk H locs ls hP hR hS hl)
theorem l_iadd (h : my_OL X l D cA iC iR b L xs) (pc' : Nat) {x y : Int32} (d : decode code pc = .ok (.iadd, 1)) (e : pc + 1 = pc') (kk : GoL X l D cA iC iR σ ρ pc' lv (.int (x + y) :: st)) : GoL X l D cA iC iR σ ρ pc lv (.int y :: .int x :: st) := by
  subst e
  exact fun H locs ls hP hR hS hl => lv_iadd h.1 h.2.1 d (kk H locs ls hP hR hS hl)
theorem l_isub (h : my_OL X l D cA iC iR b L xs) (pc' : Nat) {x y : Int32} (d : decode code pc = .ok (.isub, 1)) (e : pc + 1 = pc') (kk : GoL X l D cA iC iR σ ρ pc' lv (.int (x - y) :: st)) : GoL X l D cA iC iR σ ρ pc lv (.int y :: .int x :: st) := by
  subst e
  exact fun H locs ls hP hR hS hl => lv_isub h.1 h.2.1 d (kk H locs ls hP hR hS hl)
theorem l_iand (h : my_OL X l D cA iC iR b L xs) (pc' : Nat) {x y : Int32} (d : decode code pc = .ok (.iand, 1)) (e : pc + 1 = pc') (kk : GoL X l D cA iC iR σ ρ pc' lv (.int (x &&& y) :: st)) : GoL X l D cA iC iR σ ρ pc lv (.int y :: .int x :: st) := by
  subst e
  exact fun H locs ls hP hR hS hl => lv_iand h.1 h.2.1 d (kk H locs ls hP hR hS hl)
theorem l_lcmp (h : my_OL X l D cA iC iR b L xs) (pc' : Nat) {x y : Int64} (d : decode code pc = .ok (.lcmp, 1)) (e : pc + 1 = pc') (kk : GoL X l D cA iC iR σ ρ pc' lv (.int (lg_cmp x y) :: st)) : GoL X l D cA iC iR σ ρ pc lv (.long y :: .long x :: st) := by
  subst e
  exact fun H locs ls hP hR hS hl => W.lcmp h.1 h.2.1 d (kk H locs ls hP hR hS hl)
theorem l_goto (h : my_OL X l D cA iC iR b L xs) (pc' : Nat) {off : Int} (d : decode code pc = .ok (.goto off, 3)) (ht : (pc : Int) + off = (pc' : Int)) (kk : GoL X l D cA iC iR σ ρ pc' lv st) : GoL X l D cA iC iR σ ρ pc lv st := fun H locs ls hP hR hS hl => lv_goto h.1 h.2.1 d ht (kk H locs ls hP hR hS hl)
theorem l_icgt (h : my_OL X l D cA iC iR b L xs) (tgt pc' : Nat) {x y : Int32} {off : Int} (d : decode code pc = .ok (.if_icmp .gt off, 3)) (ht : (pc : Int) + off = (tgt : Int)) (e : pc + 3 = pc') (kt : y < x → GoL X l D cA iC iR σ ρ tgt lv st) (kf : ¬ y < x → GoL X l D cA iC iR σ ρ pc' lv st) : GoL X l D cA iC iR σ ρ pc lv (.int y :: .int x :: st) := by
  subst e
  exact fun H locs ls hP hR hS hl => lv_icmp_gt h.1 h.2.1 d ht (fun q => kt q H locs ls hP hR hS hl) (fun q => kf q H locs ls hP hR hS hl)
theorem l_same (h : my_OL X l D cA iC iR b L xs) (tgt : Nat) {x : Int32} {off : Int} (d : decode code pc = .ok (.if_icmp .eq off, 3)) (ht : (pc : Int) + off = (tgt : Int)) (kk : GoL X l D cA iC iR σ ρ tgt lv st) : GoL X l D cA iC iR σ ρ pc lv (.int x :: .int x :: st) :=
  fun H locs ls hP hR hS hl => lv_icmp_eq h.1 h.2.1 d ht (fun _ => kk H locs ls hP hR hS hl) (fun q => absurd rfl q)
theorem l_sameL (h : my_OL X l D cA iC iR b L xs) (tgt : Nat) {x : Int64} {off : Int} (d0 : decode code pc = .ok (.lcmp, 1)) (d : decode code (pc + 1) = .ok (.ifCond .eq off, 3)) (ht : ((pc + 1 : Nat) : Int) + off = (tgt : Int)) (kk : GoL X l D cA iC iR σ ρ tgt lv st) : GoL X l D cA iC iR σ ρ pc lv (.long x :: .long x :: st) := by
  refine l_lcmp h (pc + 1) d0 rfl ?_
  have e : lg_cmp x x = 0 := by simp [lg_cmp]
  rw [e]
  exact fun H locs ls hP hR hS hl => lv_if_eq h.1 h.2.1 d ht (fun _ => kk H locs ls hP hR hS hl) (fun q => absurd rfl q)
theorem l_sw (h : my_OL X l D cA iC iR b L xs) (tgt : Nat) {x : Int32} {dflt lo hi : Int} {offs : Array Int} {len : Nat} {off : Int} (d : decode code pc = .ok (.tableswitch dflt lo hi offs, len)) (c : Int32) (hc : x = c) (h1 : ¬ c.toInt < lo) (h2 : ¬ hi < c.toInt) (ho : offs[(c.toInt - lo).toNat]? = some off) (ht : (pc : Int) + off = (tgt : Int)) (kk : GoL X l D cA iC iR σ ρ tgt lv st) : GoL X l D cA iC iR σ ρ pc lv (.int x :: st) := by
  subst hc
  exact fun H locs ls hP hR hS hl => lv_tableIn h.1 h.2.1 d h1 h2 ho ht (kk H locs ls hP hR hS hl)
theorem l_swO (h : my_OL X l D cA iC iR b L xs) (tgt : Nat) {x : Int32} {dflt lo hi : Int} {offs : Array Int} {len : Nat} (d : decode code pc = .ok (.tableswitch dflt lo hi offs, len)) (h1 : x.toInt < lo ∨ hi < x.toInt) (ht : (pc : Int) + dflt = (tgt : Int)) (kk : GoL X l D cA iC iR σ ρ tgt lv st) : GoL X l D cA iC iR σ ρ pc lv (.int x :: st) := fun H locs ls hP hR hS hl => lv_tableOut h.1 h.2.1 d h1 ht (kk H locs ls hP hR hS hl)
theorem l_sld (h : my_OL X l D cA iC iR b L xs) (pc' : Nat) {i : Int32} (hin : vp_in i L) (d : decode code pc = .ok (.iaload, 1)) (e : pc + 1 = pc') (kk : GoL X l D cA iC iR σ ρ pc' lv (.int (xs i.toNatClampNeg) :: st)) : GoL X l D cA iC iR σ ρ pc lv (.int i :: .ref b :: st) := by
  subst e
  obtain ⟨-, -, -, -, -, -, -, -, -, -, -, hX, hbl, -⟩ := id h
  exact fun H locs ls hP hR hS hl => va_sld h.1 h.2.1 hX hbl (Nat.not_le.mpr hbl) hS hin d (kk H locs ls hP hR hS hl)
theorem l_slen (h : my_OL X l D cA iC iR b L xs) (pc' : Nat) (d : decode code pc = .ok (.arraylength, 1)) (e : pc + 1 = pc') (kk : GoL X l D cA iC iR σ ρ pc' lv (.int (nI L) :: st)) : GoL X l D cA iC iR σ ρ pc lv (.ref b :: st) := by
  subst e
  obtain ⟨-, -, -, -, -, -, -, -, -, -, -, hX, hbl, -⟩ := id h
  exact fun H locs ls hP hR hS hl => va_slen h.1 h.2.1 hX hbl (Nat.not_le.mpr hbl) hS d (kk H locs ls hP hR hS hl)
theorem l_end (h : my_OL X l D cA iC iR b L xs) (d0 : decode code pc = .ok (.iconst 1, 1)) (d : decode code (pc + 1) = .ok (.ireturn, 1)) : GoL X l D cA iC iR σ ρ pc lv [] := by
  obtain ⟨hx, hb, -, -, -, -, -, -, -, -, -, -, -, hlocks, hr, ha⟩ := id h
  intro H locs ls hP hR hS hl
  refine lv_iconst (v := 1) hx hb d0 (by decide) ?_
  refine va_forget (fun q hq => hS.2.2 q hq) ?_
  refine W.widen (k := 600000) (n := 7302250) (Nat.le_of_ble_eq_true rfl) (Nat.le_of_ble_eq_true rfl) ?_
  rw [ha]
  exact lw_ret hx hb hr hlocks d
theorem l_go_run {w1 w2 : my_V} {lay1 lay2 : List my_L} {σ2 τ1 : my_M} {v1 : Option Value} {st0 rest : List Value} {a : Array Value} {H : Heap} {locs : List Loc} {ls : Array Slot} {Q : State → Prop} {R : Room}
    (hr : va_Run X.1 l X.2.1 R X.2.2.1 X.2.2.2.1 X.2.2.2.2.1 X.2.2.2.2.2.1 X.2.2.2.2.2.2.1 X.2.2.2.2.2.2.2 H locs 61 1085 0 0 (F0 X.2.2.2.1 pc ls st0) rest (my_Qc w1 lay1 v1 τ1 a) (my_A w1 lay1))
    (hP2 : my_P w2 lay2 σ2 H) (hS : va_S (fun q => X.2.2.1.heap.size ≤ q) X.2.2.1.heap H locs) (hap : ∀ q, my_A w2 lay2 q → ¬ my_A w1 lay1 q) (hge : ∀ q, my_A w1 lay1 q → X.2.2.1.heap.size ≤ q)
    (kk : ∀ (H1 : Heap) (locs1 : List Loc), my_P w1 lay1 τ1 H1 → my_P w2 lay2 σ2 H1 → va_S (fun q => X.2.2.1.heap.size ≤ q) X.2.2.1.heap H1 locs1 → W X.1 l X.2.1 R X.2.2.1 X.2.2.2.1 X.2.2.2.2.1 X.2.2.2.2.2.1 X.2.2.2.2.2.2.1 X.2.2.2.2.2.2.2 H1 locs1 61 1085 Q (F0 X.2.2.2.1 (pc + 3) ls (v1.toList ++ rest))) : W X.1 l X.2.1 R X.2.2.1 X.2.2.2.1 X.2.2.2.2.1 X.2.2.2.2.2.1 X.2.2.2.2.2.2.1 X.2.2.2.2.2.2.2 H locs 61 1085 Q (F0 X.2.2.2.1 pc ls st0) := by
  intro T hT Y
  obtain ⟨v', st₀, t, T', Ls, h0, Y', hL, e1, e2, ⟨⟨hv, hP1, hK1⟩, hz, hk⟩, sts⟩ := hr T hT Y
  cases hv
  rw [h0] at hz hk
  obtain ⟨t2, a1, b1⟩ := kk T'.heap (locs ++ Ls) (by rw [e1]; exact hP1) (my_P_off hP2 (fun q hq hlt => by rw [e1]; exact hk q hlt (hap q hq))) ⟨Nat.le_trans hS.1 (by rw [e1]; exact hz), fun q h1 h2 => by rw [e1, hk q (Nat.lt_of_lt_of_le h1 hS.1) (fun z => h2 (hge q z))]; exact hS.2.1 q h1 h2, fun q hq => by
      rcases List.mem_append.mp hq with h | h
      · exact hS.2.2 q h
      · exact hge _ (hL q h)⟩ T' rfl Y'
  exact ⟨t2, sts t2 a1, b1⟩
abbrev my_fitL (t : my_T) (k' : Nat) : Prop := k' + 1 ≤ 2048 ∧ 8 + (t.2.2.1 + 11) + 60 * k' ≤ 84000
theorem l_CB (h : my_OL X l D cA iC iR b L xs) {t : my_T} {n k' idx : Nat} (hd : my_Cd t n) (hlk : Cond.methodLink RL idx t.1 ∈ tblG) (hk : my_fitL t k') : CallB room_1 X.2.2.1 X.2.2.2.2.1 RL idx t.1 t.2.1 t.2.2.1 t.2.2.2 (Cond.code t.1 t.2.1 t.2.2.1 t.2.2.2 :: tblG) (my_rm k') 0 0 n :=
  callB_of n h.2.2.2.2.1 (my_good hd) rfl rfl rfl (h.2.2.2.2.1 _ hd.2.1) (h.2.2.2.2.1 _ hlk) ⟨hd.2.2.1.1, hd.2.2.1.2, hd.2.2.2⟩ hk
theorem l_callC (h : my_OL X l D cA iC iR b L xs) {t : my_T} {k' n idx : Nat} {As rest st0 : List Value} {σ1 : my_M} {v1 : Option Value} (hc : my_CV RL idx RX8 t n) (hM : Ct (l, D, cA, iC) layC t k' (.ref (iC 0) :: As) σ v1 σ1) (hn : As.length = n) (hst : st0 = As.reverse ++ .ref (iC 0) :: rest) (hs : (rest.map fun v => v.category).sum ≤ 8) (hk : my_fitL t k') (d : decode code pc = .ok (.invokevirtual idx, 3))
    (kk : GoL X l D cA iC iR σ1 ρ (pc + 3) lv (v1.toList ++ rest)) : GoL X l D cA iC iR σ ρ pc lv st0 := by
  obtain ⟨hx, hb, hml, hown, hts, hK, hIC, hIR, hap, hgC, hgR, -⟩ := id h
  intro H locs ls hP hR hS hl
  refine l_go_run (a := (Value.ref (iC 0) :: As).toArray) (va_runV ⟨hx, hb, hml, hown, hts⟩ (hM hIC) ⟨l_CB h hc.1 hc.2.1 hk, hts _ hc.2.2.1, hts _ hc.2.2.2⟩ ⟨my_blind, va_recv hK.1 hP (ci := 7) rfl (my_ws_at lyC_0), fun U hU hW => ⟨rfl, by rw [hU]; exact hP, my_K_warm hW hK⟩⟩ rfl hn hl.1 hst (lv_room hs) d ⟨Nat.le_of_ble_eq_true rfl, Nat.le_of_ble_eq_true rfl⟩) hR hS (fun q hq hq2 => hap q hq2 hq) hgC (fun H1 locs1 hP1 hR1 hS1 => kk H1 locs1 ls hP1 hR1 hS1 hl)
theorem l_callR (h : my_OL X l D cA iC iR b L xs) {t : my_T} {k' n idx : Nat} {As rest st0 : List Value} {ρ1 : my_M} {v1 : Option Value} (hc : my_CV RL idx RX9 t n) (hM : Ct (l, D, cA, iR) layR t k' (.ref (iR 0) :: As) ρ v1 ρ1) (hn : As.length = n) (hst : st0 = As.reverse ++ .ref (iR 0) :: rest) (hs : (rest.map fun v => v.category).sum ≤ 8) (hk : my_fitL t k') (d : decode code pc = .ok (.invokevirtual idx, 3))
    (kk : GoL X l D cA iC iR σ ρ1 (pc + 3) lv (v1.toList ++ rest)) : GoL X l D cA iC iR σ ρ pc lv st0 := by
  obtain ⟨hx, hb, hml, hown, hts, hK, hIC, hIR, hap, hgC, hgR, -⟩ := id h
  intro H locs ls hP hR hS hl
  refine l_go_run (a := (Value.ref (iR 0) :: As).toArray) (va_runV ⟨hx, hb, hml, hown, hts⟩ (hM hIR) ⟨l_CB h hc.1 hc.2.1 hk, hts _ hc.2.2.1, hts _ hc.2.2.2⟩ ⟨my_blind, va_recv (tys := my_ty (l, D, cA, iR)) hK.1 hR (ci := 8) rfl (my_ws_at lyR_0), fun U hU hW => ⟨rfl, by rw [hU]; exact hR, my_K_warm (w := (l, D, cA, iR)) hW hK⟩⟩ rfl hn hl.1 hst (lv_room hs) d ⟨Nat.le_of_ble_eq_true rfl, Nat.le_of_ble_eq_true rfl⟩) hP hS hap hgR (fun H1 locs1 hR1 hP1 hS1 => kk H1 locs1 ls hP1 hR1 hS1 hl)
theorem l_callCi (h : my_OL X l D cA iC iR b L xs) (pc' : Nat) {t : my_T} {k' n idx : Nat} {As rest st0 : List Value} {σ1 : my_M} {r : Int32} (hc : my_CV RL idx RX8 t n) (hM : Ct (l, D, cA, iC) layC t k' (.ref (iC 0) :: As) σ (some (.int r)) σ1) (hn : As.length = n) (hst : st0 = As.reverse ++ .ref (iC 0) :: rest) (hs : (rest.map fun v => v.category).sum ≤ 8) (hk : my_fitL t k') (d : decode code pc = .ok (.invokevirtual idx, 3)) (e : pc + 3 = pc') (kk : GoL X l D cA iC iR σ1 ρ pc' lv (.int r :: rest)) : GoL X l D cA iC iR σ ρ pc lv st0 := by
  subst e
  exact l_callC h hc hM hn hst hs hk d kk
theorem l_callCl (h : my_OL X l D cA iC iR b L xs) (pc' : Nat) {t : my_T} {k' n idx : Nat} {As rest st0 : List Value} {σ1 : my_M} {r : Int64} (hc : my_CV RL idx RX8 t n) (hM : Ct (l, D, cA, iC) layC t k' (.ref (iC 0) :: As) σ (some (.long r)) σ1) (hn : As.length = n) (hst : st0 = As.reverse ++ .ref (iC 0) :: rest) (hs : (rest.map fun v => v.category).sum ≤ 8) (hk : my_fitL t k') (d : decode code pc = .ok (.invokevirtual idx, 3)) (e : pc + 3 = pc') (kk : GoL X l D cA iC iR σ1 ρ pc' lv (.long r :: rest)) : GoL X l D cA iC iR σ ρ pc lv st0 := by
  subst e
  exact l_callC h hc hM hn hst hs hk d kk
theorem l_callRi (h : my_OL X l D cA iC iR b L xs) (pc' : Nat) {t : my_T} {k' n idx : Nat} {As rest st0 : List Value} {ρ1 : my_M} {r : Int32} (hc : my_CV RL idx RX9 t n) (hM : Ct (l, D, cA, iR) layR t k' (.ref (iR 0) :: As) ρ (some (.int r)) ρ1) (hn : As.length = n) (hst : st0 = As.reverse ++ .ref (iR 0) :: rest) (hs : (rest.map fun v => v.category).sum ≤ 8) (hk : my_fitL t k') (d : decode code pc = .ok (.invokevirtual idx, 3)) (e : pc + 3 = pc') (kk : GoL X l D cA iC iR σ ρ1 pc' lv (.int r :: rest)) : GoL X l D cA iC iR σ ρ pc lv st0 := by
  subst e
  exact l_callR h hc hM hn hst hs hk d kk
theorem l_callRl (h : my_OL X l D cA iC iR b L xs) (pc' : Nat) {t : my_T} {k' n idx : Nat} {As rest st0 : List Value} {ρ1 : my_M} {r : Int64} (hc : my_CV RL idx RX9 t n) (hM : Ct (l, D, cA, iR) layR t k' (.ref (iR 0) :: As) ρ (some (.long r)) ρ1) (hn : As.length = n) (hst : st0 = As.reverse ++ .ref (iR 0) :: rest) (hs : (rest.map fun v => v.category).sum ≤ 8) (hk : my_fitL t k') (d : decode code pc = .ok (.invokevirtual idx, 3)) (e : pc + 3 = pc') (kk : GoL X l D cA iC iR σ ρ1 pc' lv (.long r :: rest)) : GoL X l D cA iC iR σ ρ pc lv st0 := by
  subst e
  exact l_callR h hc hM hn hst hs hk d kk
end LROWS
theorem my_six {L i : Nat} (hL : L ≤ 3072) (hi : i ≤ 3072) (h : ¬ nI L - 6 < nI i) : i + 6 ≤ L := by
  have e : (nI L - nI 6).toInt = (L : Int) - (6 : Nat) := pk_sub_toInt (by omega) (by omega)
  have e6 : nI 6 = 6 := by decide
  rw [e6] at e
  have h2 : ¬ (nI L - 6).toInt < (nI i).toInt := fun q => h (Int32.lt_iff_toInt_lt.mpr q)
  rw [e, nI_toInt (by omega)] at h2
  omega
theorem my_plus {i j : Nat} {c : Int32} (hc : nI j = c) : nI i + c = nI (i + j) := by rw [← hc]; exact nI_add i j
theorem my_pin {L i j : Nat} {c : Int32} (hc : nI j = c) (h : i + j < L) (hL : L ≤ 3072) : vp_in (nI i + c) L := by rw [my_plus hc]; exact vp_in_nI h (by omega)
theorem my_W_ctor {p : Program} {l : Launch} {e : Env} {R : Room} {s : State} {m : MethodId} {args : Array Value} {below : List Frame} {meth : Method} {c : Code} {w : my_V} {H : Heap} {locs : List Loc} {cs sl mc' ms' q pc : Nat} {ls : Array Slot} {st0 rest : List Value} {e0 : va_E} {ws : va_W} {wu : (Nat → Nat) → va_W} {a : Array Value} {A0 : Nat → Prop} {Q : State → Prop}
    (hr : va_Run p l e R s m args below meth c H locs cs sl mc' ms' (F0 m pc ls st0) rest (my_Qn w q H.size wu a) (my_Ac q H.size)) (hP : va_P w.2.1 vwCl ((q, e0) :: ws) H) (hD : va_D A0 ((q, e0) :: ws)) (hS : va_S A0 s.heap H locs) (hA : ∀ x, s.heap.size ≤ x → A0 x)
    (kk : ∀ (u : Nat → Nat) (H1 : Heap) (locs1 : List Loc), va_P w.2.1 vwCl (wu u ++ ws) H1 → va_D A0 (wu u ++ ws) → va_S A0 s.heap H1 locs1 → W p l e R s m args below meth c H1 locs1 (cs + mc') (sl + ms') Q (F0 m (pc + 3) ls rest)) : W p l e R s m args below meth c H locs cs sl Q (F0 m pc ls st0) := by
  intro T hT Y
  obtain ⟨v', st₀, t, T', Ls, h0', Y', hL, e1, e2, ⟨⟨u, hv, hP1, hD1, hK1⟩, hz, hk⟩, sts⟩ := hr T hT Y
  cases hv
  rw [h0'] at hz hk
  have hsub : ∀ x, my_Ac q H.size x → A0 x := by
    intro x hx
    rcases hx with rfl | hx
    · exact hD.2 0 (x, e0) rfl
    · exact hA x (Nat.le_trans hS.1 hx)
  have hout : ∀ (i : Nat) (p : Nat × va_E), ws[i]? = some p → p.1 < H.size ∧ ¬ my_Ac q H.size p.1 := by
    intro i p hi
    have hlt := (hP (i + 1) p (by rw [List.getElem?_cons_succ]; exact hi)).lt
    refine ⟨hlt, fun hx => ?_⟩
    rcases hx with hx | hx
    · have := hD.1 (i + 1) 0 p (q, e0) (by rw [List.getElem?_cons_succ]; exact hi) rfl hx
      omega
    · omega
  have hPr : va_P w.2.1 vwCl ws T'.heap := by
    intro i p hi
    obtain ⟨g1, g2⟩ := hout i p hi
    refine (hP (i + 1) p (by rw [List.getElem?_cons_succ]; exact hi)).kept ?_
    rw [e1]
    exact hk p.1 g1 g2
  have hDr : va_D A0 ws := ⟨fun i j p p' hi hj hpq => by
    have := hD.1 (i + 1) (j + 1) p p' (by rw [List.getElem?_cons_succ]; exact hi) (by rw [List.getElem?_cons_succ]; exact hj) hpq
    omega, fun i p hi => hD.2 (i + 1) p (by rw [List.getElem?_cons_succ]; exact hi)⟩
  obtain ⟨t2, a1, b1⟩ := kk u T'.heap (locs ++ Ls) (va_P.app (by rw [e1]; exact hP1) hPr) (va_D.app (hD1.weaken (fun _ x _ hx => hsub x.1 hx)) hDr (fun i j p p' hi hj hpq => (hout j p' hj).2 (by rw [← hpq]; exact hD1.2 i p hi))) ⟨Nat.le_trans hS.1 (by rw [e1]; exact hz), fun x g1 g2 => by rw [e1, hk x (Nat.lt_of_lt_of_le g1 hS.1) (fun z => g2 (hsub x z))]; exact hS.2.1 x g1 g2, fun x hx => by
      rcases List.mem_append.mp hx with h | h
      · exact hS.2.2 x h
      · exact hsub _ (hL x h)⟩ T' rfl Y'
  exact ⟨t2, sts t2 a1, b1⟩
