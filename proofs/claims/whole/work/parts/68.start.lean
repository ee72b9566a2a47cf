def my_i (h0 : Nat) (u : Nat → Nat) : Nat → Nat := fun j => match j with
  | 0 => h0
  | j + 1 => u j
theorem my_refs {cA : ClassId} {n : Nat} {f g : Nat → Option Nat} (h : ∀ i, i < n → f i = g i) : vp_cell cA (n, .inr (.inr (.inr (.inr f)))) = vp_cell cA (n, .inr (.inr (.inr (.inr g)))) := by
  rw [vp_cell_q, vp_cell_q]
  have e : (fun j : Fin n => va_rf (f j.val)) = fun j : Fin n => va_rf (g j.val) := by
    funext j
    rw [h j.val j.isLt]
  show ({ cls := cA, slots := Array.ofFn (n := n) fun j => va_rf (f j.val), vm := .none } : Cell) = { cls := cA, slots := Array.ofFn (n := n) fun j => va_rf (g j.val), vm := .none }
  rw [e]
theorem my_Dapp {A : Nat → Prop} {w1 w2 : va_W} (h : va_D A (w1 ++ w2)) : va_D A w1 ∧ va_D A w2 ∧ ∀ (i j : Nat) (p q : Nat × va_E), w1[i]? = some p → w2[j]? = some q → p.1 ≠ q.1 := by
  have l1 : ∀ (i : Nat) (p : Nat × va_E), w1[i]? = some p → (w1 ++ w2)[i]? = some p := fun i p hi => by
    rw [List.getElem?_append_left (List.getElem?_eq_some_iff.mp hi).1]; exact hi
  have l2 : ∀ (i : Nat) (p : Nat × va_E), w2[i]? = some p → (w1 ++ w2)[w1.length + i]? = some p := fun i p hi => by
    rw [List.getElem?_append_right (by omega), show w1.length + i - w1.length = i by omega]; exact hi
  refine ⟨⟨fun i j p q hi hj e => h.1 i j p q (l1 i p hi) (l1 j q hj) e, fun k q hk => h.2 k q (l1 k q hk)⟩, ⟨fun i j p q hi hj e => ?_, fun k q hk => h.2 _ q (l2 k q hk)⟩, fun i j p q hi hj e => ?_⟩
  · have := h.1 _ _ p q (l2 i p hi) (l2 j q hj) e
    omega
  · have := h.1 _ _ p q (l1 i p hi) (l2 j q hj) e
    have := (List.getElem?_eq_some_iff.mp hi).1
    omega
theorem wsc_X8_at {w : my_V} {h0 : Nat} {u : Nat → Nat} : ∀ j, j < 40 → ∃ e, (wsc_X8 w h0 u)[j]? = some (my_i h0 u j, e)
  | 0, _ => ⟨_, rfl⟩
  | 1, _ => ⟨_, rfl⟩
  | 2, _ => ⟨_, rfl⟩
  | 3, _ => ⟨_, rfl⟩
  | 4, _ => ⟨_, rfl⟩
  | 5, _ => ⟨_, rfl⟩
  | 6, _ => ⟨_, rfl⟩
  | 7, _ => ⟨_, rfl⟩
  | 8, _ => ⟨_, rfl⟩
  | 9, _ => ⟨_, rfl⟩
  | 10, _ => ⟨_, rfl⟩
  | 11, _ => ⟨_, rfl⟩
  | 12, _ => ⟨_, rfl⟩
  | 13, _ => ⟨_, rfl⟩
  | 14, _ => ⟨_, rfl⟩
  | 15, _ => ⟨_, rfl⟩
  | 16, _ => ⟨_, rfl⟩
  | 17, _ => ⟨_, rfl⟩
  | 18, _ => ⟨_, rfl⟩
  | 19, _ => ⟨_, rfl⟩
  | 20, _ => ⟨_, rfl⟩
  | 21, _ => ⟨_, rfl⟩
  | 22, _ => ⟨_, rfl⟩
  | 23, _ => ⟨_, rfl⟩
  | 24, _ => ⟨_, rfl⟩
  | 25, _ => ⟨_, rfl⟩
  | 26, _ => ⟨_, rfl⟩
  | 27, _ => ⟨_, rfl⟩
  | 28, _ => ⟨_, rfl⟩
  | 29, _ => ⟨_, rfl⟩
  | 30, _ => ⟨_, rfl⟩
  | 31, _ => ⟨_, rfl⟩
  | 32, _ => ⟨_, rfl⟩
  | 33, _ => ⟨_, rfl⟩
  | 34, _ => ⟨_, rfl⟩
  | 35, _ => ⟨_, rfl⟩
  | 36, _ => ⟨_, rfl⟩
  | 37, _ => ⟨_, rfl⟩
  | 38, _ => ⟨_, rfl⟩
  | 39, _ => ⟨_, rfl⟩
  | j + 40, h => absurd h (by omega)
theorem meC_0 {l : Launch} {D : va_G} {cA : Nat → ClassId} {h0 : Nat} {u : Nat → Nat} : ((my_i h0 u 0, my_e (l, D, cA, my_i h0 u) my_s0 0 (.inr (7, [some 1, some 11, some 16, some 21, some 27, some 30, some 31, none, none]))) : Nat × va_E) = (h0, .inr (7, [.ref (u 0), .ref (u 10), .ref (u 15), .ref (u 20), .ref (u 26), .ref (u 29), .ref (u 30), .int 0, .int 0])) := by
  show ((my_i h0 u 0, Sum.inr (7, List.mapIdx (my_fv (my_i h0 u) (my_s0 0)) _)) : Nat × va_E) = _
  simp only [List.mapIdx_cons, List.mapIdx_nil, my_fv]
  rfl
theorem meC_1 {l : Launch} {D : va_G} {cA : Nat → ClassId} {h0 : Nat} {u : Nat → Nat} : ((my_i h0 u 1, my_e (l, D, cA, my_i h0 u) my_s0 1 (.inr (2, [some 2, none, none]))) : Nat × va_E) = ((u 0), .inr (2, [.ref (u 1), .int 0, .int 0])) := by
  show ((my_i h0 u 1, Sum.inr (2, List.mapIdx (my_fv (my_i h0 u) (my_s0 1)) _)) : Nat × va_E) = _
  simp only [List.mapIdx_cons, List.mapIdx_nil, my_fv]
  rfl
theorem meC_2 {l : Launch} {D : va_G} {cA : Nat → ClassId} {h0 : Nat} {u : Nat → Nat} : ((my_i h0 u 2, my_e (l, D, cA, my_i h0 u) my_s0 2 (.inl (.inr (1, 4, 3)))) : Nat × va_E) = ((u 1), .inl (cA 1, 4, .inr (.inr (.inr (.inr (fun i => some (my_i h0 u (3 + i)))))))) := by
  rfl
theorem meC_3 {l : Launch} {D : va_G} {cA : Nat → ClassId} {h0 : Nat} {u : Nat → Nat} : ((my_i h0 u 3, my_e (l, D, cA, my_i h0 u) my_s0 3 (.inr (1, [none, some 7]))) : Nat × va_E) = ((u 2), .inr (1, [.int 0, .ref (u 6)])) := by
  show ((my_i h0 u 3, Sum.inr (1, List.mapIdx (my_fv (my_i h0 u) (my_s0 3)) _)) : Nat × va_E) = _
  simp only [List.mapIdx_cons, List.mapIdx_nil, my_fv]
  rfl
theorem meC_4 {l : Launch} {D : va_G} {cA : Nat → ClassId} {h0 : Nat} {u : Nat → Nat} : ((my_i h0 u 4, my_e (l, D, cA, my_i h0 u) my_s0 4 (.inr (1, [none, some 8]))) : Nat × va_E) = ((u 3), .inr (1, [.int 0, .ref (u 7)])) := by
  show ((my_i h0 u 4, Sum.inr (1, List.mapIdx (my_fv (my_i h0 u) (my_s0 4)) _)) : Nat × va_E) = _
  simp only [List.mapIdx_cons, List.mapIdx_nil, my_fv]
  rfl
theorem meC_5 {l : Launch} {D : va_G} {cA : Nat → ClassId} {h0 : Nat} {u : Nat → Nat} : ((my_i h0 u 5, my_e (l, D, cA, my_i h0 u) my_s0 5 (.inr (1, [none, some 9]))) : Nat × va_E) = ((u 4), .inr (1, [.int 0, .ref (u 8)])) := by
  show ((my_i h0 u 5, Sum.inr (1, List.mapIdx (my_fv (my_i h0 u) (my_s0 5)) _)) : Nat × va_E) = _
  simp only [List.mapIdx_cons, List.mapIdx_nil, my_fv]
  rfl
theorem meC_6 {l : Launch} {D : va_G} {cA : Nat → ClassId} {h0 : Nat} {u : Nat → Nat} : ((my_i h0 u 6, my_e (l, D, cA, my_i h0 u) my_s0 6 (.inr (1, [none, some 10]))) : Nat × va_E) = ((u 5), .inr (1, [.int 0, .ref (u 9)])) := by
  show ((my_i h0 u 6, Sum.inr (1, List.mapIdx (my_fv (my_i h0 u) (my_s0 6)) _)) : Nat × va_E) = _
  simp only [List.mapIdx_cons, List.mapIdx_nil, my_fv]
  rfl
theorem meC_7 {l : Launch} {D : va_G} {cA : Nat → ClassId} {h0 : Nat} {u : Nat → Nat} : ((my_i h0 u 7, my_e (l, D, cA, my_i h0 u) my_s0 7 (.inl (.inl 6))) : Nat × va_E) = ((u 6), .inl (cA 0, 6, .inl (fun _ => 0))) := by
  rfl
theorem meC_8 {l : Launch} {D : va_G} {cA : Nat → ClassId} {h0 : Nat} {u : Nat → Nat} : ((my_i h0 u 8, my_e (l, D, cA, my_i h0 u) my_s0 8 (.inl (.inl 6))) : Nat × va_E) = ((u 7), .inl (cA 0, 6, .inl (fun _ => 0))) := by
  rfl
theorem meC_9 {l : Launch} {D : va_G} {cA : Nat → ClassId} {h0 : Nat} {u : Nat → Nat} : ((my_i h0 u 9, my_e (l, D, cA, my_i h0 u) my_s0 9 (.inl (.inl 6))) : Nat × va_E) = ((u 8), .inl (cA 0, 6, .inl (fun _ => 0))) := by
  rfl
theorem meC_10 {l : Launch} {D : va_G} {cA : Nat → ClassId} {h0 : Nat} {u : Nat → Nat} : ((my_i h0 u 10, my_e (l, D, cA, my_i h0 u) my_s0 10 (.inl (.inl 6))) : Nat × va_E) = ((u 9), .inl (cA 0, 6, .inl (fun _ => 0))) := by
  rfl
theorem meC_11 {l : Launch} {D : va_G} {cA : Nat → ClassId} {h0 : Nat} {u : Nat → Nat} : ((my_i h0 u 11, my_e (l, D, cA, my_i h0 u) my_s0 11 (.inr (0, [none, some 12, some 13, some 14, some 15]))) : Nat × va_E) = ((u 10), .inr (0, [.int 0, .ref (u 11), .ref (u 12), .ref (u 13), .ref (u 14)])) := by
  show ((my_i h0 u 11, Sum.inr (0, List.mapIdx (my_fv (my_i h0 u) (my_s0 11)) _)) : Nat × va_E) = _
  simp only [List.mapIdx_cons, List.mapIdx_nil, my_fv]
  rfl
theorem meC_12 {l : Launch} {D : va_G} {cA : Nat → ClassId} {h0 : Nat} {u : Nat → Nat} : ((my_i h0 u 12, my_e (l, D, cA, my_i h0 u) my_s0 12 (.inl (.inl 8))) : Nat × va_E) = ((u 11), .inl (cA 0, 8, .inl (fun _ => 0))) := by
  rfl
theorem meC_13 {l : Launch} {D : va_G} {cA : Nat → ClassId} {h0 : Nat} {u : Nat → Nat} : ((my_i h0 u 13, my_e (l, D, cA, my_i h0 u) my_s0 13 (.inl (.inl 8))) : Nat × va_E) = ((u 12), .inl (cA 0, 8, .inl (fun _ => 0))) := by
  rfl
theorem meC_14 {l : Launch} {D : va_G} {cA : Nat → ClassId} {h0 : Nat} {u : Nat → Nat} : ((my_i h0 u 14, my_e (l, D, cA, my_i h0 u) my_s0 14 (.inl (.inl 8))) : Nat × va_E) = ((u 13), .inl (cA 0, 8, .inl (fun _ => 0))) := by
  rfl
theorem meC_15 {l : Launch} {D : va_G} {cA : Nat → ClassId} {h0 : Nat} {u : Nat → Nat} : ((my_i h0 u 15, my_e (l, D, cA, my_i h0 u) my_s0 15 (.inl (.inl 26))) : Nat × va_E) = ((u 14), .inl (cA 0, 26, .inl (fun _ => 0))) := by
  rfl
theorem meC_16 {l : Launch} {D : va_G} {cA : Nat → ClassId} {h0 : Nat} {u : Nat → Nat} : ((my_i h0 u 16, my_e (l, D, cA, my_i h0 u) my_s0 16 (.inr (0, [none, some 17, some 18, some 19, some 20]))) : Nat × va_E) = ((u 15), .inr (0, [.int 0, .ref (u 16), .ref (u 17), .ref (u 18), .ref (u 19)])) := by
  show ((my_i h0 u 16, Sum.inr (0, List.mapIdx (my_fv (my_i h0 u) (my_s0 16)) _)) : Nat × va_E) = _
  simp only [List.mapIdx_cons, List.mapIdx_nil, my_fv]
  rfl
theorem meC_17 {l : Launch} {D : va_G} {cA : Nat → ClassId} {h0 : Nat} {u : Nat → Nat} : ((my_i h0 u 17, my_e (l, D, cA, my_i h0 u) my_s0 17 (.inl (.inl 8))) : Nat × va_E) = ((u 16), .inl (cA 0, 8, .inl (fun _ => 0))) := by
  rfl
theorem meC_18 {l : Launch} {D : va_G} {cA : Nat → ClassId} {h0 : Nat} {u : Nat → Nat} : ((my_i h0 u 18, my_e (l, D, cA, my_i h0 u) my_s0 18 (.inl (.inl 8))) : Nat × va_E) = ((u 17), .inl (cA 0, 8, .inl (fun _ => 0))) := by
  rfl
theorem meC_19 {l : Launch} {D : va_G} {cA : Nat → ClassId} {h0 : Nat} {u : Nat → Nat} : ((my_i h0 u 19, my_e (l, D, cA, my_i h0 u) my_s0 19 (.inl (.inl 8))) : Nat × va_E) = ((u 18), .inl (cA 0, 8, .inl (fun _ => 0))) := by
  rfl
theorem meC_20 {l : Launch} {D : va_G} {cA : Nat → ClassId} {h0 : Nat} {u : Nat → Nat} : ((my_i h0 u 20, my_e (l, D, cA, my_i h0 u) my_s0 20 (.inl (.inl 26))) : Nat × va_E) = ((u 19), .inl (cA 0, 26, .inl (fun _ => 0))) := by
  rfl
theorem meC_21 {l : Launch} {D : va_G} {cA : Nat → ClassId} {h0 : Nat} {u : Nat → Nat} : ((my_i h0 u 21, my_e (l, D, cA, my_i h0 u) my_s0 21 (.inr (4, [none, some 22, some 23, some 24, some 25, some 26]))) : Nat × va_E) = ((u 20), .inr (4, [.int 0, .ref (u 21), .ref (u 22), .ref (u 23), .ref (u 24), .ref (u 25)])) := by
  show ((my_i h0 u 21, Sum.inr (4, List.mapIdx (my_fv (my_i h0 u) (my_s0 21)) _)) : Nat × va_E) = _
  simp only [List.mapIdx_cons, List.mapIdx_nil, my_fv]
  rfl
theorem meC_22 {l : Launch} {D : va_G} {cA : Nat → ClassId} {h0 : Nat} {u : Nat → Nat} : ((my_i h0 u 22, my_e (l, D, cA, my_i h0 u) my_s0 22 (.inl (.inl 8))) : Nat × va_E) = ((u 21), .inl (cA 0, 8, .inl (fun _ => 0))) := by
  rfl
theorem meC_23 {l : Launch} {D : va_G} {cA : Nat → ClassId} {h0 : Nat} {u : Nat → Nat} : ((my_i h0 u 23, my_e (l, D, cA, my_i h0 u) my_s0 23 (.inl (.inl 8))) : Nat × va_E) = ((u 22), .inl (cA 0, 8, .inl (fun _ => 0))) := by
  rfl
theorem meC_24 {l : Launch} {D : va_G} {cA : Nat → ClassId} {h0 : Nat} {u : Nat → Nat} : ((my_i h0 u 24, my_e (l, D, cA, my_i h0 u) my_s0 24 (.inl (.inl 8))) : Nat × va_E) = ((u 23), .inl (cA 0, 8, .inl (fun _ => 0))) := by
  rfl
theorem meC_25 {l : Launch} {D : va_G} {cA : Nat → ClassId} {h0 : Nat} {u : Nat → Nat} : ((my_i h0 u 25, my_e (l, D, cA, my_i h0 u) my_s0 25 (.inl (.inl 8))) : Nat × va_E) = ((u 24), .inl (cA 0, 8, .inl (fun _ => 0))) := by
  rfl
theorem meC_26 {l : Launch} {D : va_G} {cA : Nat → ClassId} {h0 : Nat} {u : Nat → Nat} : ((my_i h0 u 26, my_e (l, D, cA, my_i h0 u) my_s0 26 (.inl (.inl 8))) : Nat × va_E) = ((u 25), .inl (cA 0, 8, .inl (fun _ => 0))) := by
  rfl
theorem meC_27 {l : Launch} {D : va_G} {cA : Nat → ClassId} {h0 : Nat} {u : Nat → Nat} : ((my_i h0 u 27, my_e (l, D, cA, my_i h0 u) my_s0 27 (.inr (3, [none, none, some 28, some 29]))) : Nat × va_E) = ((u 26), .inr (3, [.int 0, .int 0, .ref (u 27), .ref (u 28)])) := by
  show ((my_i h0 u 27, Sum.inr (3, List.mapIdx (my_fv (my_i h0 u) (my_s0 27)) _)) : Nat × va_E) = _
  simp only [List.mapIdx_cons, List.mapIdx_nil, my_fv]
  rfl
theorem meC_28 {l : Launch} {D : va_G} {cA : Nat → ClassId} {h0 : Nat} {u : Nat → Nat} : ((my_i h0 u 28, my_e (l, D, cA, my_i h0 u) my_s0 28 (.inl (.inl 116))) : Nat × va_E) = ((u 27), .inl (cA 0, 116, .inl (fun _ => 0))) := by
  rfl
theorem meC_29 {l : Launch} {D : va_G} {cA : Nat → ClassId} {h0 : Nat} {u : Nat → Nat} : ((my_i h0 u 29, my_e (l, D, cA, my_i h0 u) my_s0 29 (.inl (.inl 6))) : Nat × va_E) = ((u 28), .inl (cA 0, 6, .inl (fun _ => 0))) := by
  rfl
theorem meC_30 {l : Launch} {D : va_G} {cA : Nat → ClassId} {h0 : Nat} {u : Nat → Nat} : ((my_i h0 u 30, my_e (l, D, cA, my_i h0 u) my_s0 30 (.inr (6, [none, none, none, none]))) : Nat × va_E) = ((u 29), .inr (6, [.int 0, .int 0, .int 0, .int 0])) := by
  show ((my_i h0 u 30, Sum.inr (6, List.mapIdx (my_fv (my_i h0 u) (my_s0 30)) _)) : Nat × va_E) = _
  simp only [List.mapIdx_cons, List.mapIdx_nil, my_fv]
  rfl
theorem meC_31 {l : Launch} {D : va_G} {cA : Nat → ClassId} {h0 : Nat} {u : Nat → Nat} : ((my_i h0 u 31, my_e (l, D, cA, my_i h0 u) my_s0 31 (.inl (.inr (2, 4, 32)))) : Nat × va_E) = ((u 30), .inl (cA 2, 4, .inr (.inr (.inr (.inr (fun i => some (my_i h0 u (32 + i)))))))) := by
  rfl
theorem meC_32 {l : Launch} {D : va_G} {cA : Nat → ClassId} {h0 : Nat} {u : Nat → Nat} : ((my_i h0 u 32, my_e (l, D, cA, my_i h0 u) my_s0 32 (.inr (5, [none, none, none, some 36]))) : Nat × va_E) = ((u 31), .inr (5, [.int 0, .int 0, .int 0, .ref (u 35)])) := by
  show ((my_i h0 u 32, Sum.inr (5, List.mapIdx (my_fv (my_i h0 u) (my_s0 32)) _)) : Nat × va_E) = _
  simp only [List.mapIdx_cons, List.mapIdx_nil, my_fv]
  rfl
theorem meC_33 {l : Launch} {D : va_G} {cA : Nat → ClassId} {h0 : Nat} {u : Nat → Nat} : ((my_i h0 u 33, my_e (l, D, cA, my_i h0 u) my_s0 33 (.inr (5, [none, none, none, some 37]))) : Nat × va_E) = ((u 32), .inr (5, [.int 0, .int 0, .int 0, .ref (u 36)])) := by
  show ((my_i h0 u 33, Sum.inr (5, List.mapIdx (my_fv (my_i h0 u) (my_s0 33)) _)) : Nat × va_E) = _
  simp only [List.mapIdx_cons, List.mapIdx_nil, my_fv]
  rfl
theorem meC_34 {l : Launch} {D : va_G} {cA : Nat → ClassId} {h0 : Nat} {u : Nat → Nat} : ((my_i h0 u 34, my_e (l, D, cA, my_i h0 u) my_s0 34 (.inr (5, [none, none, none, some 38]))) : Nat × va_E) = ((u 33), .inr (5, [.int 0, .int 0, .int 0, .ref (u 37)])) := by
  show ((my_i h0 u 34, Sum.inr (5, List.mapIdx (my_fv (my_i h0 u) (my_s0 34)) _)) : Nat × va_E) = _
  simp only [List.mapIdx_cons, List.mapIdx_nil, my_fv]
  rfl
theorem meC_35 {l : Launch} {D : va_G} {cA : Nat → ClassId} {h0 : Nat} {u : Nat → Nat} : ((my_i h0 u 35, my_e (l, D, cA, my_i h0 u) my_s0 35 (.inr (5, [none, none, none, some 39]))) : Nat × va_E) = ((u 34), .inr (5, [.int 0, .int 0, .int 0, .ref (u 38)])) := by
  show ((my_i h0 u 35, Sum.inr (5, List.mapIdx (my_fv (my_i h0 u) (my_s0 35)) _)) : Nat × va_E) = _
  simp only [List.mapIdx_cons, List.mapIdx_nil, my_fv]
  rfl
theorem meC_36 {l : Launch} {D : va_G} {cA : Nat → ClassId} {h0 : Nat} {u : Nat → Nat} : ((my_i h0 u 36, my_e (l, D, cA, my_i h0 u) my_s0 36 (.inl (.inl 60))) : Nat × va_E) = ((u 35), .inl (cA 0, 60, .inl (fun _ => 0))) := by
  rfl
theorem meC_37 {l : Launch} {D : va_G} {cA : Nat → ClassId} {h0 : Nat} {u : Nat → Nat} : ((my_i h0 u 37, my_e (l, D, cA, my_i h0 u) my_s0 37 (.inl (.inl 60))) : Nat × va_E) = ((u 36), .inl (cA 0, 60, .inl (fun _ => 0))) := by
  rfl
theorem meC_38 {l : Launch} {D : va_G} {cA : Nat → ClassId} {h0 : Nat} {u : Nat → Nat} : ((my_i h0 u 38, my_e (l, D, cA, my_i h0 u) my_s0 38 (.inl (.inl 60))) : Nat × va_E) = ((u 37), .inl (cA 0, 60, .inl (fun _ => 0))) := by
  rfl
theorem meC_39 {l : Launch} {D : va_G} {cA : Nat → ClassId} {h0 : Nat} {u : Nat → Nat} : ((my_i h0 u 39, my_e (l, D, cA, my_i h0 u) my_s0 39 (.inl (.inl 60))) : Nat × va_E) = ((u 38), .inl (cA 0, 60, .inl (fun _ => 0))) := by
  rfl
theorem pC_0 {l : Launch} {D : va_G} {cA : Nat → ClassId} {io : Nat → Nat} {h0 : Nat} {u : Nat → Nat} {H : Heap} (hP : va_P D vwCl (wsc_X8 (l, D, cA, io) h0 u) H) (c : my_L) (hc : layC[0]? = some c) : va_at D vwCl ((my_i h0 u 0, my_e (l, D, cA, my_i h0 u) my_s0 0 c) : Nat × va_E) H := by
  obtain rfl : c = (.inr (7, [some 1, some 11, some 16, some 21, some 27, some 30, some 31, none, none])) := Option.some.inj (hc.symm.trans (show layC[0]? = some (.inr (7, [some 1, some 11, some 16, some 21, some 27, some 30, some 31, none, none])) from rfl))
  rw [meC_0]
  exact hP 0 _ rfl
theorem pC_1 {l : Launch} {D : va_G} {cA : Nat → ClassId} {io : Nat → Nat} {h0 : Nat} {u : Nat → Nat} {H : Heap} (hP : va_P D vwCl (wsc_X8 (l, D, cA, io) h0 u) H) (c : my_L) (hc : layC[1]? = some c) : va_at D vwCl ((my_i h0 u 1, my_e (l, D, cA, my_i h0 u) my_s0 1 c) : Nat × va_E) H := by
  obtain rfl : c = (.inr (2, [some 2, none, none])) := Option.some.inj (hc.symm.trans (show layC[1]? = some (.inr (2, [some 2, none, none])) from rfl))
  rw [meC_1]
  exact hP 1 _ rfl
theorem pC_2 {l : Launch} {D : va_G} {cA : Nat → ClassId} {io : Nat → Nat} {h0 : Nat} {u : Nat → Nat} {H : Heap} (hP : va_P D vwCl (wsc_X8 (l, D, cA, io) h0 u) H) (c : my_L) (hc : layC[2]? = some c) : va_at D vwCl ((my_i h0 u 2, my_e (l, D, cA, my_i h0 u) my_s0 2 c) : Nat × va_E) H := by
  obtain rfl : c = (.inl (.inr (1, 4, 3))) := Option.some.inj (hc.symm.trans (show layC[2]? = some (.inl (.inr (1, 4, 3))) from rfl))
  rw [meC_2]
  exact (hP 2 _ rfl).trans (congrArg some (my_refs (fun i hi => by
    match i, hi with
    | 0, _ => rfl
    | 1, _ => rfl
    | 2, _ => rfl
    | 3, _ => rfl
    | i + 4, hi => exact absurd hi (by omega))))
theorem pC_3 {l : Launch} {D : va_G} {cA : Nat → ClassId} {io : Nat → Nat} {h0 : Nat} {u : Nat → Nat} {H : Heap} (hP : va_P D vwCl (wsc_X8 (l, D, cA, io) h0 u) H) (c : my_L) (hc : layC[3]? = some c) : va_at D vwCl ((my_i h0 u 3, my_e (l, D, cA, my_i h0 u) my_s0 3 c) : Nat × va_E) H := by
  obtain rfl : c = (.inr (1, [none, some 7])) := Option.some.inj (hc.symm.trans (show layC[3]? = some (.inr (1, [none, some 7])) from rfl))
  rw [meC_3]
  exact hP 3 _ rfl
theorem pC_4 {l : Launch} {D : va_G} {cA : Nat → ClassId} {io : Nat → Nat} {h0 : Nat} {u : Nat → Nat} {H : Heap} (hP : va_P D vwCl (wsc_X8 (l, D, cA, io) h0 u) H) (c : my_L) (hc : layC[4]? = some c) : va_at D vwCl ((my_i h0 u 4, my_e (l, D, cA, my_i h0 u) my_s0 4 c) : Nat × va_E) H := by
  obtain rfl : c = (.inr (1, [none, some 8])) := Option.some.inj (hc.symm.trans (show layC[4]? = some (.inr (1, [none, some 8])) from rfl))
  rw [meC_4]
  exact hP 4 _ rfl
theorem pC_5 {l : Launch} {D : va_G} {cA : Nat → ClassId} {io : Nat → Nat} {h0 : Nat} {u : Nat → Nat} {H : Heap} (hP : va_P D vwCl (wsc_X8 (l, D, cA, io) h0 u) H) (c : my_L) (hc : layC[5]? = some c) : va_at D vwCl ((my_i h0 u 5, my_e (l, D, cA, my_i h0 u) my_s0 5 c) : Nat × va_E) H := by
  obtain rfl : c = (.inr (1, [none, some 9])) := Option.some.inj (hc.symm.trans (show layC[5]? = some (.inr (1, [none, some 9])) from rfl))
  rw [meC_5]
  exact hP 5 _ rfl
theorem pC_6 {l : Launch} {D : va_G} {cA : Nat → ClassId} {io : Nat → Nat} {h0 : Nat} {u : Nat → Nat} {H : Heap} (hP : va_P D vwCl (wsc_X8 (l, D, cA, io) h0 u) H) (c : my_L) (hc : layC[6]? = some c) : va_at D vwCl ((my_i h0 u 6, my_e (l, D, cA, my_i h0 u) my_s0 6 c) : Nat × va_E) H := by
  obtain rfl : c = (.inr (1, [none, some 10])) := Option.some.inj (hc.symm.trans (show layC[6]? = some (.inr (1, [none, some 10])) from rfl))
  rw [meC_6]
  exact hP 6 _ rfl
theorem pC_7 {l : Launch} {D : va_G} {cA : Nat → ClassId} {io : Nat → Nat} {h0 : Nat} {u : Nat → Nat} {H : Heap} (hP : va_P D vwCl (wsc_X8 (l, D, cA, io) h0 u) H) (c : my_L) (hc : layC[7]? = some c) : va_at D vwCl ((my_i h0 u 7, my_e (l, D, cA, my_i h0 u) my_s0 7 c) : Nat × va_E) H := by
  obtain rfl : c = (.inl (.inl 6)) := Option.some.inj (hc.symm.trans (show layC[7]? = some (.inl (.inl 6)) from rfl))
  rw [meC_7]
  exact hP 7 _ rfl
theorem pC_8 {l : Launch} {D : va_G} {cA : Nat → ClassId} {io : Nat → Nat} {h0 : Nat} {u : Nat → Nat} {H : Heap} (hP : va_P D vwCl (wsc_X8 (l, D, cA, io) h0 u) H) (c : my_L) (hc : layC[8]? = some c) : va_at D vwCl ((my_i h0 u 8, my_e (l, D, cA, my_i h0 u) my_s0 8 c) : Nat × va_E) H := by
  obtain rfl : c = (.inl (.inl 6)) := Option.some.inj (hc.symm.trans (show layC[8]? = some (.inl (.inl 6)) from rfl))
  rw [meC_8]
  exact hP 8 _ rfl
theorem pC_9 {l : Launch} {D : va_G} {cA : Nat → ClassId} {io : Nat → Nat} {h0 : Nat} {u : Nat → Nat} {H : Heap} (hP : va_P D vwCl (wsc_X8 (l, D, cA, io) h0 u) H) (c : my_L) (hc : layC[9]? = some c) : va_at D vwCl ((my_i h0 u 9, my_e (l, D, cA, my_i h0 u) my_s0 9 c) : Nat × va_E) H := by
  obtain rfl : c = (.inl (.inl 6)) := Option.some.inj (hc.symm.trans (show layC[9]? = some (.inl (.inl 6)) from rfl))
  rw [meC_9]
  exact hP 9 _ rfl
theorem pC_10 {l : Launch} {D : va_G} {cA : Nat → ClassId} {io : Nat → Nat} {h0 : Nat} {u : Nat → Nat} {H : Heap} (hP : va_P D vwCl (wsc_X8 (l, D, cA, io) h0 u) H) (c : my_L) (hc : layC[10]? = some c) : va_at D vwCl ((my_i h0 u 10, my_e (l, D, cA, my_i h0 u) my_s0 10 c) : Nat × va_E) H := by
  obtain rfl : c = (.inl (.inl 6)) := Option.some.inj (hc.symm.trans (show layC[10]? = some (.inl (.inl 6)) from rfl))
  rw [meC_10]
  exact hP 10 _ rfl
theorem pC_11 {l : Launch} {D : va_G} {cA : Nat → ClassId} {io : Nat → Nat} {h0 : Nat} {u : Nat → Nat} {H : Heap} (hP : va_P D vwCl (wsc_X8 (l, D, cA, io) h0 u) H) (c : my_L) (hc : layC[11]? = some c) : va_at D vwCl ((my_i h0 u 11, my_e (l, D, cA, my_i h0 u) my_s0 11 c) : Nat × va_E) H := by
  obtain rfl : c = (.inr (0, [none, some 12, some 13, some 14, some 15])) := Option.some.inj (hc.symm.trans (show layC[11]? = some (.inr (0, [none, some 12, some 13, some 14, some 15])) from rfl))
  rw [meC_11]
  exact hP 11 _ rfl
theorem pC_12 {l : Launch} {D : va_G} {cA : Nat → ClassId} {io : Nat → Nat} {h0 : Nat} {u : Nat → Nat} {H : Heap} (hP : va_P D vwCl (wsc_X8 (l, D, cA, io) h0 u) H) (c : my_L) (hc : layC[12]? = some c) : va_at D vwCl ((my_i h0 u 12, my_e (l, D, cA, my_i h0 u) my_s0 12 c) : Nat × va_E) H := by
  obtain rfl : c = (.inl (.inl 8)) := Option.some.inj (hc.symm.trans (show layC[12]? = some (.inl (.inl 8)) from rfl))
  rw [meC_12]
  exact hP 12 _ rfl
theorem pC_13 {l : Launch} {D : va_G} {cA : Nat → ClassId} {io : Nat → Nat} {h0 : Nat} {u : Nat → Nat} {H : Heap} (hP : va_P D vwCl (wsc_X8 (l, D, cA, io) h0 u) H) (c : my_L) (hc : layC[13]? = some c) : va_at D vwCl ((my_i h0 u 13, my_e (l, D, cA, my_i h0 u) my_s0 13 c) : Nat × va_E) H := by
  obtain rfl : c = (.inl (.inl 8)) := Option.some.inj (hc.symm.trans (show layC[13]? = some (.inl (.inl 8)) from rfl))
  rw [meC_13]
  exact hP 13 _ rfl
theorem pC_14 {l : Launch} {D : va_G} {cA : Nat → ClassId} {io : Nat → Nat} {h0 : Nat} {u : Nat → Nat} {H : Heap} (hP : va_P D vwCl (wsc_X8 (l, D, cA, io) h0 u) H) (c : my_L) (hc : layC[14]? = some c) : va_at D vwCl ((my_i h0 u 14, my_e (l, D, cA, my_i h0 u) my_s0 14 c) : Nat × va_E) H := by
  obtain rfl : c = (.inl (.inl 8)) := Option.some.inj (hc.symm.trans (show layC[14]? = some (.inl (.inl 8)) from rfl))
  rw [meC_14]
  exact hP 14 _ rfl
theorem pC_15 {l : Launch} {D : va_G} {cA : Nat → ClassId} {io : Nat → Nat} {h0 : Nat} {u : Nat → Nat} {H : Heap} (hP : va_P D vwCl (wsc_X8 (l, D, cA, io) h0 u) H) (c : my_L) (hc : layC[15]? = some c) : va_at D vwCl ((my_i h0 u 15, my_e (l, D, cA, my_i h0 u) my_s0 15 c) : Nat × va_E) H := by
  obtain rfl : c = (.inl (.inl 26)) := Option.some.inj (hc.symm.trans (show layC[15]? = some (.inl (.inl 26)) from rfl))
  rw [meC_15]
  exact hP 15 _ rfl
theorem pC_16 {l : Launch} {D : va_G} {cA : Nat → ClassId} {io : Nat → Nat} {h0 : Nat} {u : Nat → Nat} {H : Heap} (hP : va_P D vwCl (wsc_X8 (l, D, cA, io) h0 u) H) (c : my_L) (hc : layC[16]? = some c) : va_at D vwCl ((my_i h0 u 16, my_e (l, D, cA, my_i h0 u) my_s0 16 c) : Nat × va_E) H := by
  obtain rfl : c = (.inr (0, [none, some 17, some 18, some 19, some 20])) := Option.some.inj (hc.symm.trans (show layC[16]? = some (.inr (0, [none, some 17, some 18, some 19, some 20])) from rfl))
  rw [meC_16]
  exact hP 16 _ rfl
theorem pC_17 {l : Launch} {D : va_G} {cA : Nat → ClassId} {io : Nat → Nat} {h0 : Nat} {u : Nat → Nat} {H : Heap} (hP : va_P D vwCl (wsc_X8 (l, D, cA, io) h0 u) H) (c : my_L) (hc : layC[17]? = some c) : va_at D vwCl ((my_i h0 u 17, my_e (l, D, cA, my_i h0 u) my_s0 17 c) : Nat × va_E) H := by
  obtain rfl : c = (.inl (.inl 8)) := Option.some.inj (hc.symm.trans (show layC[17]? = some (.inl (.inl 8)) from rfl))
  rw [meC_17]
  exact hP 17 _ rfl
theorem pC_18 {l : Launch} {D : va_G} {cA : Nat → ClassId} {io : Nat → Nat} {h0 : Nat} {u : Nat → Nat} {H : Heap} (hP : va_P D vwCl (wsc_X8 (l, D, cA, io) h0 u) H) (c : my_L) (hc : layC[18]? = some c) : va_at D vwCl ((my_i h0 u 18, my_e (l, D, cA, my_i h0 u) my_s0 18 c) : Nat × va_E) H := by
  obtain rfl : c = (.inl (.inl 8)) := Option.some.inj (hc.symm.trans (show layC[18]? = some (.inl (.inl 8)) from rfl))
  rw [meC_18]
  exact hP 18 _ rfl
theorem pC_19 {l : Launch} {D : va_G} {cA : Nat → ClassId} {io : Nat → Nat} {h0 : Nat} {u : Nat → Nat} {H : Heap} (hP : va_P D vwCl (wsc_X8 (l, D, cA, io) h0 u) H) (c : my_L) (hc : layC[19]? = some c) : va_at D vwCl ((my_i h0 u 19, my_e (l, D, cA, my_i h0 u) my_s0 19 c) : Nat × va_E) H := by
  obtain rfl : c = (.inl (.inl 8)) := Option.some.inj (hc.symm.trans (show layC[19]? = some (.inl (.inl 8)) from rfl))
  rw [meC_19]
  exact hP 19 _ rfl
theorem pC_20 {l : Launch} {D : va_G} {cA : Nat → ClassId} {io : Nat → Nat} {h0 : Nat} {u : Nat → Nat} {H : Heap} (hP : va_P D vwCl (wsc_X8 (l, D, cA, io) h0 u) H) (c : my_L) (hc : layC[20]? = some c) : va_at D vwCl ((my_i h0 u 20, my_e (l, D, cA, my_i h0 u) my_s0 20 c) : Nat × va_E) H := by
  obtain rfl : c = (.inl (.inl 26)) := Option.some.inj (hc.symm.trans (show layC[20]? = some (.inl (.inl 26)) from rfl))
  rw [meC_20]
  exact hP 20 _ rfl
theorem pC_21 {l : Launch} {D : va_G} {cA : Nat → ClassId} {io : Nat → Nat} {h0 : Nat} {u : Nat → Nat} {H : Heap} (hP : va_P D vwCl (wsc_X8 (l, D, cA, io) h0 u) H) (c : my_L) (hc : layC[21]? = some c) : va_at D vwCl ((my_i h0 u 21, my_e (l, D, cA, my_i h0 u) my_s0 21 c) : Nat × va_E) H := by
  obtain rfl : c = (.inr (4, [none, some 22, some 23, some 24, some 25, some 26])) := Option.some.inj (hc.symm.trans (show layC[21]? = some (.inr (4, [none, some 22, some 23, some 24, some 25, some 26])) from rfl))
  rw [meC_21]
  exact hP 21 _ rfl
theorem pC_22 {l : Launch} {D : va_G} {cA : Nat → ClassId} {io : Nat → Nat} {h0 : Nat} {u : Nat → Nat} {H : Heap} (hP : va_P D vwCl (wsc_X8 (l, D, cA, io) h0 u) H) (c : my_L) (hc : layC[22]? = some c) : va_at D vwCl ((my_i h0 u 22, my_e (l, D, cA, my_i h0 u) my_s0 22 c) : Nat × va_E) H := by
  obtain rfl : c = (.inl (.inl 8)) := Option.some.inj (hc.symm.trans (show layC[22]? = some (.inl (.inl 8)) from rfl))
  rw [meC_22]
  exact hP 22 _ rfl
theorem pC_23 {l : Launch} {D : va_G} {cA : Nat → ClassId} {io : Nat → Nat} {h0 : Nat} {u : Nat → Nat} {H : Heap} (hP : va_P D vwCl (wsc_X8 (l, D, cA, io) h0 u) H) (c : my_L) (hc : layC[23]? = some c) : va_at D vwCl ((my_i h0 u 23, my_e (l, D, cA, my_i h0 u) my_s0 23 c) : Nat × va_E) H := by
  obtain rfl : c = (.inl (.inl 8)) := Option.some.inj (hc.symm.trans (show layC[23]? = some (.inl (.inl 8)) from rfl))
  rw [meC_23]
  exact hP 23 _ rfl
theorem pC_24 {l : Launch} {D : va_G} {cA : Nat → ClassId} {io : Nat → Nat} {h0 : Nat} {u : Nat → Nat} {H : Heap} (hP : va_P D vwCl (wsc_X8 (l, D, cA, io) h0 u) H) (c : my_L) (hc : layC[24]? = some c) : va_at D vwCl ((my_i h0 u 24, my_e (l, D, cA, my_i h0 u) my_s0 24 c) : Nat × va_E) H := by
  obtain rfl : c = (.inl (.inl 8)) := Option.some.inj (hc.symm.trans (show layC[24]? = some (.inl (.inl 8)) from rfl))
  rw [meC_24]
  exact hP 24 _ rfl
theorem pC_25 {l : Launch} {D : va_G} {cA : Nat → ClassId} {io : Nat → Nat} {h0 : Nat} {u : Nat → Nat} {H : Heap} (hP : va_P D vwCl (wsc_X8 (l, D, cA, io) h0 u) H) (c : my_L) (hc : layC[25]? = some c) : va_at D vwCl ((my_i h0 u 25, my_e (l, D, cA, my_i h0 u) my_s0 25 c) : Nat × va_E) H := by
  obtain rfl : c = (.inl (.inl 8)) := Option.some.inj (hc.symm.trans (show layC[25]? = some (.inl (.inl 8)) from rfl))
  rw [meC_25]
  exact hP 25 _ rfl
theorem pC_26 {l : Launch} {D : va_G} {cA : Nat → ClassId} {io : Nat → Nat} {h0 : Nat} {u : Nat → Nat} {H : Heap} (hP : va_P D vwCl (wsc_X8 (l, D, cA, io) h0 u) H) (c : my_L) (hc : layC[26]? = some c) : va_at D vwCl ((my_i h0 u 26, my_e (l, D, cA, my_i h0 u) my_s0 26 c) : Nat × va_E) H := by
  obtain rfl : c = (.inl (.inl 8)) := Option.some.inj (hc.symm.trans (show layC[26]? = some (.inl (.inl 8)) from rfl))
  rw [meC_26]
  exact hP 26 _ rfl
theorem pC_27 {l : Launch} {D : va_G} {cA : Nat → ClassId} {io : Nat → Nat} {h0 : Nat} {u : Nat → Nat} {H : Heap} (hP : va_P D vwCl (wsc_X8 (l, D, cA, io) h0 u) H) (c : my_L) (hc : layC[27]? = some c) : va_at D vwCl ((my_i h0 u 27, my_e (l, D, cA, my_i h0 u) my_s0 27 c) : Nat × va_E) H := by
  obtain rfl : c = (.inr (3, [none, none, some 28, some 29])) := Option.some.inj (hc.symm.trans (show layC[27]? = some (.inr (3, [none, none, some 28, some 29])) from rfl))
  rw [meC_27]
  exact hP 27 _ rfl
theorem pC_28 {l : Launch} {D : va_G} {cA : Nat → ClassId} {io : Nat → Nat} {h0 : Nat} {u : Nat → Nat} {H : Heap} (hP : va_P D vwCl (wsc_X8 (l, D, cA, io) h0 u) H) (c : my_L) (hc : layC[28]? = some c) : va_at D vwCl ((my_i h0 u 28, my_e (l, D, cA, my_i h0 u) my_s0 28 c) : Nat × va_E) H := by
  obtain rfl : c = (.inl (.inl 116)) := Option.some.inj (hc.symm.trans (show layC[28]? = some (.inl (.inl 116)) from rfl))
  rw [meC_28]
  exact hP 28 _ rfl
theorem pC_29 {l : Launch} {D : va_G} {cA : Nat → ClassId} {io : Nat → Nat} {h0 : Nat} {u : Nat → Nat} {H : Heap} (hP : va_P D vwCl (wsc_X8 (l, D, cA, io) h0 u) H) (c : my_L) (hc : layC[29]? = some c) : va_at D vwCl ((my_i h0 u 29, my_e (l, D, cA, my_i h0 u) my_s0 29 c) : Nat × va_E) H := by
  obtain rfl : c = (.inl (.inl 6)) := Option.some.inj (hc.symm.trans (show layC[29]? = some (.inl (.inl 6)) from rfl))
  rw [meC_29]
  exact hP 29 _ rfl
theorem pC_30 {l : Launch} {D : va_G} {cA : Nat → ClassId} {io : Nat → Nat} {h0 : Nat} {u : Nat → Nat} {H : Heap} (hP : va_P D vwCl (wsc_X8 (l, D, cA, io) h0 u) H) (c : my_L) (hc : layC[30]? = some c) : va_at D vwCl ((my_i h0 u 30, my_e (l, D, cA, my_i h0 u) my_s0 30 c) : Nat × va_E) H := by
  obtain rfl : c = (.inr (6, [none, none, none, none])) := Option.some.inj (hc.symm.trans (show layC[30]? = some (.inr (6, [none, none, none, none])) from rfl))
  rw [meC_30]
  exact hP 30 _ rfl
theorem pC_31 {l : Launch} {D : va_G} {cA : Nat → ClassId} {io : Nat → Nat} {h0 : Nat} {u : Nat → Nat} {H : Heap} (hP : va_P D vwCl (wsc_X8 (l, D, cA, io) h0 u) H) (c : my_L) (hc : layC[31]? = some c) : va_at D vwCl ((my_i h0 u 31, my_e (l, D, cA, my_i h0 u) my_s0 31 c) : Nat × va_E) H := by
  obtain rfl : c = (.inl (.inr (2, 4, 32))) := Option.some.inj (hc.symm.trans (show layC[31]? = some (.inl (.inr (2, 4, 32))) from rfl))
  rw [meC_31]
  exact (hP 31 _ rfl).trans (congrArg some (my_refs (fun i hi => by
    match i, hi with
    | 0, _ => rfl
    | 1, _ => rfl
    | 2, _ => rfl
    | 3, _ => rfl
    | i + 4, hi => exact absurd hi (by omega))))
theorem pC_32 {l : Launch} {D : va_G} {cA : Nat → ClassId} {io : Nat → Nat} {h0 : Nat} {u : Nat → Nat} {H : Heap} (hP : va_P D vwCl (wsc_X8 (l, D, cA, io) h0 u) H) (c : my_L) (hc : layC[32]? = some c) : va_at D vwCl ((my_i h0 u 32, my_e (l, D, cA, my_i h0 u) my_s0 32 c) : Nat × va_E) H := by
  obtain rfl : c = (.inr (5, [none, none, none, some 36])) := Option.some.inj (hc.symm.trans (show layC[32]? = some (.inr (5, [none, none, none, some 36])) from rfl))
  rw [meC_32]
  exact hP 32 _ rfl
theorem pC_33 {l : Launch} {D : va_G} {cA : Nat → ClassId} {io : Nat → Nat} {h0 : Nat} {u : Nat → Nat} {H : Heap} (hP : va_P D vwCl (wsc_X8 (l, D, cA, io) h0 u) H) (c : my_L) (hc : layC[33]? = some c) : va_at D vwCl ((my_i h0 u 33, my_e (l, D, cA, my_i h0 u) my_s0 33 c) : Nat × va_E) H := by
  obtain rfl : c = (.inr (5, [none, none, none, some 37])) := Option.some.inj (hc.symm.trans (show layC[33]? = some (.inr (5, [none, none, none, some 37])) from rfl))
  rw [meC_33]
  exact hP 33 _ rfl
theorem pC_34 {l : Launch} {D : va_G} {cA : Nat → ClassId} {io : Nat → Nat} {h0 : Nat} {u : Nat → Nat} {H : Heap} (hP : va_P D vwCl (wsc_X8 (l, D, cA, io) h0 u) H) (c : my_L) (hc : layC[34]? = some c) : va_at D vwCl ((my_i h0 u 34, my_e (l, D, cA, my_i h0 u) my_s0 34 c) : Nat × va_E) H := by
  obtain rfl : c = (.inr (5, [none, none, none, some 38])) := Option.some.inj (hc.symm.trans (show layC[34]? = some (.inr (5, [none, none, none, some 38])) from rfl))
  rw [meC_34]
  exact hP 34 _ rfl
theorem pC_35 {l : Launch} {D : va_G} {cA : Nat → ClassId} {io : Nat → Nat} {h0 : Nat} {u : Nat → Nat} {H : Heap} (hP : va_P D vwCl (wsc_X8 (l, D, cA, io) h0 u) H) (c : my_L) (hc : layC[35]? = some c) : va_at D vwCl ((my_i h0 u 35, my_e (l, D, cA, my_i h0 u) my_s0 35 c) : Nat × va_E) H := by
  obtain rfl : c = (.inr (5, [none, none, none, some 39])) := Option.some.inj (hc.symm.trans (show layC[35]? = some (.inr (5, [none, none, none, some 39])) from rfl))
  rw [meC_35]
  exact hP 35 _ rfl
theorem pC_36 {l : Launch} {D : va_G} {cA : Nat → ClassId} {io : Nat → Nat} {h0 : Nat} {u : Nat → Nat} {H : Heap} (hP : va_P D vwCl (wsc_X8 (l, D, cA, io) h0 u) H) (c : my_L) (hc : layC[36]? = some c) : va_at D vwCl ((my_i h0 u 36, my_e (l, D, cA, my_i h0 u) my_s0 36 c) : Nat × va_E) H := by
  obtain rfl : c = (.inl (.inl 60)) := Option.some.inj (hc.symm.trans (show layC[36]? = some (.inl (.inl 60)) from rfl))
  rw [meC_36]
  exact hP 36 _ rfl
theorem pC_37 {l : Launch} {D : va_G} {cA : Nat → ClassId} {io : Nat → Nat} {h0 : Nat} {u : Nat → Nat} {H : Heap} (hP : va_P D vwCl (wsc_X8 (l, D, cA, io) h0 u) H) (c : my_L) (hc : layC[37]? = some c) : va_at D vwCl ((my_i h0 u 37, my_e (l, D, cA, my_i h0 u) my_s0 37 c) : Nat × va_E) H := by
  obtain rfl : c = (.inl (.inl 60)) := Option.some.inj (hc.symm.trans (show layC[37]? = some (.inl (.inl 60)) from rfl))
  rw [meC_37]
  exact hP 37 _ rfl
theorem pC_38 {l : Launch} {D : va_G} {cA : Nat → ClassId} {io : Nat → Nat} {h0 : Nat} {u : Nat → Nat} {H : Heap} (hP : va_P D vwCl (wsc_X8 (l, D, cA, io) h0 u) H) (c : my_L) (hc : layC[38]? = some c) : va_at D vwCl ((my_i h0 u 38, my_e (l, D, cA, my_i h0 u) my_s0 38 c) : Nat × va_E) H := by
  obtain rfl : c = (.inl (.inl 60)) := Option.some.inj (hc.symm.trans (show layC[38]? = some (.inl (.inl 60)) from rfl))
  rw [meC_38]
  exact hP 38 _ rfl
theorem pC_39 {l : Launch} {D : va_G} {cA : Nat → ClassId} {io : Nat → Nat} {h0 : Nat} {u : Nat → Nat} {H : Heap} (hP : va_P D vwCl (wsc_X8 (l, D, cA, io) h0 u) H) (c : my_L) (hc : layC[39]? = some c) : va_at D vwCl ((my_i h0 u 39, my_e (l, D, cA, my_i h0 u) my_s0 39 c) : Nat × va_E) H := by
  obtain rfl : c = (.inl (.inl 60)) := Option.some.inj (hc.symm.trans (show layC[39]? = some (.inl (.inl 60)) from rfl))
  rw [meC_39]
  exact hP 39 _ rfl
theorem pC_all {l : Launch} {D : va_G} {cA : Nat → ClassId} {io : Nat → Nat} {h0 : Nat} {u : Nat → Nat} {H : Heap} (hP : va_P D vwCl (wsc_X8 (l, D, cA, io) h0 u) H) : ∀ (k : Nat) (c : my_L), k < 40 → layC[k]? = some c → va_at D vwCl ((my_i h0 u k, my_e (l, D, cA, my_i h0 u) my_s0 k c) : Nat × va_E) H
  | 0, c, _, hc => pC_0 hP c hc
  | 1, c, _, hc => pC_1 hP c hc
  | 2, c, _, hc => pC_2 hP c hc
  | 3, c, _, hc => pC_3 hP c hc
  | 4, c, _, hc => pC_4 hP c hc
  | 5, c, _, hc => pC_5 hP c hc
  | 6, c, _, hc => pC_6 hP c hc
  | 7, c, _, hc => pC_7 hP c hc
  | 8, c, _, hc => pC_8 hP c hc
  | 9, c, _, hc => pC_9 hP c hc
  | 10, c, _, hc => pC_10 hP c hc
  | 11, c, _, hc => pC_11 hP c hc
  | 12, c, _, hc => pC_12 hP c hc
  | 13, c, _, hc => pC_13 hP c hc
  | 14, c, _, hc => pC_14 hP c hc
  | 15, c, _, hc => pC_15 hP c hc
  | 16, c, _, hc => pC_16 hP c hc
  | 17, c, _, hc => pC_17 hP c hc
  | 18, c, _, hc => pC_18 hP c hc
  | 19, c, _, hc => pC_19 hP c hc
  | 20, c, _, hc => pC_20 hP c hc
  | 21, c, _, hc => pC_21 hP c hc
  | 22, c, _, hc => pC_22 hP c hc
  | 23, c, _, hc => pC_23 hP c hc
  | 24, c, _, hc => pC_24 hP c hc
  | 25, c, _, hc => pC_25 hP c hc
  | 26, c, _, hc => pC_26 hP c hc
  | 27, c, _, hc => pC_27 hP c hc
  | 28, c, _, hc => pC_28 hP c hc
  | 29, c, _, hc => pC_29 hP c hc
  | 30, c, _, hc => pC_30 hP c hc
  | 31, c, _, hc => pC_31 hP c hc
  | 32, c, _, hc => pC_32 hP c hc
  | 33, c, _, hc => pC_33 hP c hc
  | 34, c, _, hc => pC_34 hP c hc
  | 35, c, _, hc => pC_35 hP c hc
  | 36, c, _, hc => pC_36 hP c hc
  | 37, c, _, hc => pC_37 hP c hc
  | 38, c, _, hc => pC_38 hP c hc
  | 39, c, _, hc => pC_39 hP c hc
  | k + 40, _, h, _ => absurd h (by omega)
theorem my_P0C {l : Launch} {D : va_G} {cA : Nat → ClassId} {io : Nat → Nat} {h0 : Nat} {u : Nat → Nat} {H : Heap} (hP : va_P D vwCl (wsc_X8 (l, D, cA, io) h0 u) H) : my_P (l, D, cA, my_i h0 u) layC my_s0 H := by
  intro k q hk
  have hl : k < layC.length := by
    have := (List.getElem?_eq_some_iff.mp hk).1
    rw [my_ws, List.length_mapIdx] at this
    exact this
  have hc := List.getElem?_eq_getElem hl
  have e := (my_ws_at hc).symm.trans hk
  have e := Option.some.inj e
  rw [← e]
  exact pC_all hP k _ hl hc
theorem my_I0C {l : Launch} {D : va_G} {cA : Nat → ClassId} {io : Nat → Nat} {h0 : Nat} {u : Nat → Nat} {A : Nat → Prop} (hD : va_D A (wsc_X8 (l, D, cA, io) h0 u)) : my_I (l, D, cA, my_i h0 u) layC ∧ ∀ q, my_A (l, D, cA, my_i h0 u) layC q → A q ∧ ∃ (j : Nat) (e : va_E), (wsc_X8 (l, D, cA, io) h0 u)[j]? = some (q, e) := by
  refine ⟨fun i j hi hj e => ?_, fun q hq => ?_⟩
  · obtain ⟨e1, h1⟩ := wsc_X8_at (w := (l, D, cA, io)) (h0 := h0) (u := u) i hi
    obtain ⟨e2, h2⟩ := wsc_X8_at (w := (l, D, cA, io)) (h0 := h0) (u := u) j hj
    exact hD.1 i j _ _ h1 h2 e
  · obtain ⟨j, hj, rfl⟩ := hq
    obtain ⟨e1, h1⟩ := wsc_X8_at (w := (l, D, cA, io)) (h0 := h0) (u := u) j hj
    exact ⟨hD.2 j _ h1, j, e1, h1⟩
theorem wsc_X9_at {w : my_V} {h0 : Nat} {u : Nat → Nat} : ∀ j, j < 21 → ∃ e, (wsc_X9 w h0 u)[j]? = some (my_i h0 u j, e)
  | 0, _ => ⟨_, rfl⟩
  | 1, _ => ⟨_, rfl⟩
  | 2, _ => ⟨_, rfl⟩
  | 3, _ => ⟨_, rfl⟩
  | 4, _ => ⟨_, rfl⟩
  | 5, _ => ⟨_, rfl⟩
  | 6, _ => ⟨_, rfl⟩
  | 7, _ => ⟨_, rfl⟩
  | 8, _ => ⟨_, rfl⟩
  | 9, _ => ⟨_, rfl⟩
  | 10, _ => ⟨_, rfl⟩
  | 11, _ => ⟨_, rfl⟩
  | 12, _ => ⟨_, rfl⟩
  | 13, _ => ⟨_, rfl⟩
  | 14, _ => ⟨_, rfl⟩
  | 15, _ => ⟨_, rfl⟩
  | 16, _ => ⟨_, rfl⟩
  | 17, _ => ⟨_, rfl⟩
  | 18, _ => ⟨_, rfl⟩
  | 19, _ => ⟨_, rfl⟩
  | 20, _ => ⟨_, rfl⟩
  | j + 21, h => absurd h (by omega)
theorem meR_0 {l : Launch} {D : va_G} {cA : Nat → ClassId} {h0 : Nat} {u : Nat → Nat} : ((my_i h0 u 0, my_e (l, D, cA, my_i h0 u) my_r0 0 (.inr (8, [none, none, none, some 1, some 2, none, none, none, some 3, some 4, some 5, none, some 6, some 7, some 8, none, some 9, some 10, some 11, none, none, none, none, some 12, some 13, some 14, some 15, some 16, some 17, some 18, some 19, some 20, none]))) : Nat × va_E) = (h0, .inr (8, [.int 0, .int 0, .int 0, .ref (u 0), .ref (u 1), .int 0, .int 0, .int 0, .ref (u 2), .ref (u 3), .ref (u 4), .int 0, .ref (u 5), .ref (u 6), .ref (u 7), .int 0, .ref (u 8), .ref (u 9), .ref (u 10), .int 0, .int 0, .int 0, .int 0, .ref (u 11), .ref (u 12), .ref (u 13), .ref (u 14), .ref (u 15), .ref (u 16), .ref (u 17), .ref (u 18), .ref (u 19), .int 0])) := by
  show ((my_i h0 u 0, Sum.inr (8, List.mapIdx (my_fv (my_i h0 u) (my_r0 0)) _)) : Nat × va_E) = _
  simp only [List.mapIdx_cons, List.mapIdx_nil, my_fv]
  rfl
theorem meR_1 {l : Launch} {D : va_G} {cA : Nat → ClassId} {h0 : Nat} {u : Nat → Nat} : ((my_i h0 u 1, my_e (l, D, cA, my_i h0 u) my_r0 1 (.inl (.inl 4))) : Nat × va_E) = ((u 0), .inl (cA 0, 4, .inl (fun _ => 0))) := by
  rfl
theorem meR_2 {l : Launch} {D : va_G} {cA : Nat → ClassId} {h0 : Nat} {u : Nat → Nat} : ((my_i h0 u 2, my_e (l, D, cA, my_i h0 u) my_r0 2 (.inl (.inl 24))) : Nat × va_E) = ((u 1), .inl (cA 0, 24, .inl (fun _ => 0))) := by
  rfl
theorem meR_3 {l : Launch} {D : va_G} {cA : Nat → ClassId} {h0 : Nat} {u : Nat → Nat} : ((my_i h0 u 3, my_e (l, D, cA, my_i h0 u) my_r0 3 (.inl (.inl 4))) : Nat × va_E) = ((u 2), .inl (cA 0, 4, .inl (fun _ => 0))) := by
  rfl
theorem meR_4 {l : Launch} {D : va_G} {cA : Nat → ClassId} {h0 : Nat} {u : Nat → Nat} : ((my_i h0 u 4, my_e (l, D, cA, my_i h0 u) my_r0 4 (.inl (.inl 24))) : Nat × va_E) = ((u 3), .inl (cA 0, 24, .inl (fun _ => 0))) := by
  rfl
theorem meR_5 {l : Launch} {D : va_G} {cA : Nat → ClassId} {h0 : Nat} {u : Nat → Nat} : ((my_i h0 u 5, my_e (l, D, cA, my_i h0 u) my_r0 5 (.inl (.inl 6))) : Nat × va_E) = ((u 4), .inl (cA 0, 6, .inl (fun _ => 0))) := by
  rfl
theorem meR_6 {l : Launch} {D : va_G} {cA : Nat → ClassId} {h0 : Nat} {u : Nat → Nat} : ((my_i h0 u 6, my_e (l, D, cA, my_i h0 u) my_r0 6 (.inl (.inl 8))) : Nat × va_E) = ((u 5), .inl (cA 0, 8, .inl (fun _ => 0))) := by
  rfl
theorem meR_7 {l : Launch} {D : va_G} {cA : Nat → ClassId} {h0 : Nat} {u : Nat → Nat} : ((my_i h0 u 7, my_e (l, D, cA, my_i h0 u) my_r0 7 (.inl (.inl 8))) : Nat × va_E) = ((u 6), .inl (cA 0, 8, .inl (fun _ => 0))) := by
  rfl
theorem meR_8 {l : Launch} {D : va_G} {cA : Nat → ClassId} {h0 : Nat} {u : Nat → Nat} : ((my_i h0 u 8, my_e (l, D, cA, my_i h0 u) my_r0 8 (.inl (.inl 8))) : Nat × va_E) = ((u 7), .inl (cA 0, 8, .inl (fun _ => 0))) := by
  rfl
theorem meR_9 {l : Launch} {D : va_G} {cA : Nat → ClassId} {h0 : Nat} {u : Nat → Nat} : ((my_i h0 u 9, my_e (l, D, cA, my_i h0 u) my_r0 9 (.inl (.inl 8))) : Nat × va_E) = ((u 8), .inl (cA 0, 8, .inl (fun _ => 0))) := by
  rfl
theorem meR_10 {l : Launch} {D : va_G} {cA : Nat → ClassId} {h0 : Nat} {u : Nat → Nat} : ((my_i h0 u 10, my_e (l, D, cA, my_i h0 u) my_r0 10 (.inl (.inl 8))) : Nat × va_E) = ((u 9), .inl (cA 0, 8, .inl (fun _ => 0))) := by
  rfl
theorem meR_11 {l : Launch} {D : va_G} {cA : Nat → ClassId} {h0 : Nat} {u : Nat → Nat} : ((my_i h0 u 11, my_e (l, D, cA, my_i h0 u) my_r0 11 (.inl (.inl 8))) : Nat × va_E) = ((u 10), .inl (cA 0, 8, .inl (fun _ => 0))) := by
  rfl
theorem meR_12 {l : Launch} {D : va_G} {cA : Nat → ClassId} {h0 : Nat} {u : Nat → Nat} : ((my_i h0 u 12, my_e (l, D, cA, my_i h0 u) my_r0 12 (.inl (.inl 8))) : Nat × va_E) = ((u 11), .inl (cA 0, 8, .inl (fun _ => 0))) := by
  rfl
theorem meR_13 {l : Launch} {D : va_G} {cA : Nat → ClassId} {h0 : Nat} {u : Nat → Nat} : ((my_i h0 u 13, my_e (l, D, cA, my_i h0 u) my_r0 13 (.inl (.inl 8))) : Nat × va_E) = ((u 12), .inl (cA 0, 8, .inl (fun _ => 0))) := by
  rfl
theorem meR_14 {l : Launch} {D : va_G} {cA : Nat → ClassId} {h0 : Nat} {u : Nat → Nat} : ((my_i h0 u 14, my_e (l, D, cA, my_i h0 u) my_r0 14 (.inl (.inl 8))) : Nat × va_E) = ((u 13), .inl (cA 0, 8, .inl (fun _ => 0))) := by
  rfl
theorem meR_15 {l : Launch} {D : va_G} {cA : Nat → ClassId} {h0 : Nat} {u : Nat → Nat} : ((my_i h0 u 15, my_e (l, D, cA, my_i h0 u) my_r0 15 (.inl (.inl 8))) : Nat × va_E) = ((u 14), .inl (cA 0, 8, .inl (fun _ => 0))) := by
  rfl
theorem meR_16 {l : Launch} {D : va_G} {cA : Nat → ClassId} {h0 : Nat} {u : Nat → Nat} : ((my_i h0 u 16, my_e (l, D, cA, my_i h0 u) my_r0 16 (.inl (.inl 8))) : Nat × va_E) = ((u 15), .inl (cA 0, 8, .inl (fun _ => 0))) := by
  rfl
theorem meR_17 {l : Launch} {D : va_G} {cA : Nat → ClassId} {h0 : Nat} {u : Nat → Nat} : ((my_i h0 u 17, my_e (l, D, cA, my_i h0 u) my_r0 17 (.inl (.inl 4))) : Nat × va_E) = ((u 16), .inl (cA 0, 4, .inl (my_r0 17))) := by
  rfl
theorem meR_18 {l : Launch} {D : va_G} {cA : Nat → ClassId} {h0 : Nat} {u : Nat → Nat} : ((my_i h0 u 18, my_e (l, D, cA, my_i h0 u) my_r0 18 (.inl (.inl 4))) : Nat × va_E) = ((u 17), .inl (cA 0, 4, .inl (fun _ => 0))) := by
  rfl
theorem meR_19 {l : Launch} {D : va_G} {cA : Nat → ClassId} {h0 : Nat} {u : Nat → Nat} : ((my_i h0 u 19, my_e (l, D, cA, my_i h0 u) my_r0 19 (.inl (.inl 240))) : Nat × va_E) = ((u 18), .inl (cA 0, 240, .inl (fun _ => 0))) := by
  rfl
theorem meR_20 {l : Launch} {D : va_G} {cA : Nat → ClassId} {h0 : Nat} {u : Nat → Nat} : ((my_i h0 u 20, my_e (l, D, cA, my_i h0 u) my_r0 20 (.inl (.inl 60))) : Nat × va_E) = ((u 19), .inl (cA 0, 60, .inl (fun _ => 0))) := by
  rfl
theorem pR_0 {l : Launch} {D : va_G} {cA : Nat → ClassId} {io : Nat → Nat} {h0 : Nat} {u : Nat → Nat} {H : Heap} (hP : va_P D vwCl (wsc_X9 (l, D, cA, io) h0 u) H) (c : my_L) (hc : layR[0]? = some c) : va_at D vwCl ((my_i h0 u 0, my_e (l, D, cA, my_i h0 u) my_r0 0 c) : Nat × va_E) H := by
  obtain rfl : c = (.inr (8, [none, none, none, some 1, some 2, none, none, none, some 3, some 4, some 5, none, some 6, some 7, some 8, none, some 9, some 10, some 11, none, none, none, none, some 12, some 13, some 14, some 15, some 16, some 17, some 18, some 19, some 20, none])) := Option.some.inj (hc.symm.trans (show layR[0]? = some (.inr (8, [none, none, none, some 1, some 2, none, none, none, some 3, some 4, some 5, none, some 6, some 7, some 8, none, some 9, some 10, some 11, none, none, none, none, some 12, some 13, some 14, some 15, some 16, some 17, some 18, some 19, some 20, none])) from rfl))
  rw [meR_0]
  exact hP 0 _ rfl
theorem pR_1 {l : Launch} {D : va_G} {cA : Nat → ClassId} {io : Nat → Nat} {h0 : Nat} {u : Nat → Nat} {H : Heap} (hP : va_P D vwCl (wsc_X9 (l, D, cA, io) h0 u) H) (c : my_L) (hc : layR[1]? = some c) : va_at D vwCl ((my_i h0 u 1, my_e (l, D, cA, my_i h0 u) my_r0 1 c) : Nat × va_E) H := by
  obtain rfl : c = (.inl (.inl 4)) := Option.some.inj (hc.symm.trans (show layR[1]? = some (.inl (.inl 4)) from rfl))
  rw [meR_1]
  exact hP 1 _ rfl
theorem pR_2 {l : Launch} {D : va_G} {cA : Nat → ClassId} {io : Nat → Nat} {h0 : Nat} {u : Nat → Nat} {H : Heap} (hP : va_P D vwCl (wsc_X9 (l, D, cA, io) h0 u) H) (c : my_L) (hc : layR[2]? = some c) : va_at D vwCl ((my_i h0 u 2, my_e (l, D, cA, my_i h0 u) my_r0 2 c) : Nat × va_E) H := by
  obtain rfl : c = (.inl (.inl 24)) := Option.some.inj (hc.symm.trans (show layR[2]? = some (.inl (.inl 24)) from rfl))
  rw [meR_2]
  exact hP 2 _ rfl
theorem pR_3 {l : Launch} {D : va_G} {cA : Nat → ClassId} {io : Nat → Nat} {h0 : Nat} {u : Nat → Nat} {H : Heap} (hP : va_P D vwCl (wsc_X9 (l, D, cA, io) h0 u) H) (c : my_L) (hc : layR[3]? = some c) : va_at D vwCl ((my_i h0 u 3, my_e (l, D, cA, my_i h0 u) my_r0 3 c) : Nat × va_E) H := by
  obtain rfl : c = (.inl (.inl 4)) := Option.some.inj (hc.symm.trans (show layR[3]? = some (.inl (.inl 4)) from rfl))
  rw [meR_3]
  exact hP 3 _ rfl
theorem pR_4 {l : Launch} {D : va_G} {cA : Nat → ClassId} {io : Nat → Nat} {h0 : Nat} {u : Nat → Nat} {H : Heap} (hP : va_P D vwCl (wsc_X9 (l, D, cA, io) h0 u) H) (c : my_L) (hc : layR[4]? = some c) : va_at D vwCl ((my_i h0 u 4, my_e (l, D, cA, my_i h0 u) my_r0 4 c) : Nat × va_E) H := by
  obtain rfl : c = (.inl (.inl 24)) := Option.some.inj (hc.symm.trans (show layR[4]? = some (.inl (.inl 24)) from rfl))
  rw [meR_4]
  exact hP 4 _ rfl
theorem pR_5 {l : Launch} {D : va_G} {cA : Nat → ClassId} {io : Nat → Nat} {h0 : Nat} {u : Nat → Nat} {H : Heap} (hP : va_P D vwCl (wsc_X9 (l, D, cA, io) h0 u) H) (c : my_L) (hc : layR[5]? = some c) : va_at D vwCl ((my_i h0 u 5, my_e (l, D, cA, my_i h0 u) my_r0 5 c) : Nat × va_E) H := by
  obtain rfl : c = (.inl (.inl 6)) := Option.some.inj (hc.symm.trans (show layR[5]? = some (.inl (.inl 6)) from rfl))
  rw [meR_5]
  exact hP 5 _ rfl
theorem pR_6 {l : Launch} {D : va_G} {cA : Nat → ClassId} {io : Nat → Nat} {h0 : Nat} {u : Nat → Nat} {H : Heap} (hP : va_P D vwCl (wsc_X9 (l, D, cA, io) h0 u) H) (c : my_L) (hc : layR[6]? = some c) : va_at D vwCl ((my_i h0 u 6, my_e (l, D, cA, my_i h0 u) my_r0 6 c) : Nat × va_E) H := by
  obtain rfl : c = (.inl (.inl 8)) := Option.some.inj (hc.symm.trans (show layR[6]? = some (.inl (.inl 8)) from rfl))
  rw [meR_6]
  exact hP 6 _ rfl
theorem pR_7 {l : Launch} {D : va_G} {cA : Nat → ClassId} {io : Nat → Nat} {h0 : Nat} {u : Nat → Nat} {H : Heap} (hP : va_P D vwCl (wsc_X9 (l, D, cA, io) h0 u) H) (c : my_L) (hc : layR[7]? = some c) : va_at D vwCl ((my_i h0 u 7, my_e (l, D, cA, my_i h0 u) my_r0 7 c) : Nat × va_E) H := by
  obtain rfl : c = (.inl (.inl 8)) := Option.some.inj (hc.symm.trans (show layR[7]? = some (.inl (.inl 8)) from rfl))
  rw [meR_7]
  exact hP 7 _ rfl
theorem pR_8 {l : Launch} {D : va_G} {cA : Nat → ClassId} {io : Nat → Nat} {h0 : Nat} {u : Nat → Nat} {H : Heap} (hP : va_P D vwCl (wsc_X9 (l, D, cA, io) h0 u) H) (c : my_L) (hc : layR[8]? = some c) : va_at D vwCl ((my_i h0 u 8, my_e (l, D, cA, my_i h0 u) my_r0 8 c) : Nat × va_E) H := by
  obtain rfl : c = (.inl (.inl 8)) := Option.some.inj (hc.symm.trans (show layR[8]? = some (.inl (.inl 8)) from rfl))
  rw [meR_8]
  exact hP 8 _ rfl
theorem pR_9 {l : Launch} {D : va_G} {cA : Nat → ClassId} {io : Nat → Nat} {h0 : Nat} {u : Nat → Nat} {H : Heap} (hP : va_P D vwCl (wsc_X9 (l, D, cA, io) h0 u) H) (c : my_L) (hc : layR[9]? = some c) : va_at D vwCl ((my_i h0 u 9, my_e (l, D, cA, my_i h0 u) my_r0 9 c) : Nat × va_E) H := by
  obtain rfl : c = (.inl (.inl 8)) := Option.some.inj (hc.symm.trans (show layR[9]? = some (.inl (.inl 8)) from rfl))
  rw [meR_9]
  exact hP 9 _ rfl
theorem pR_10 {l : Launch} {D : va_G} {cA : Nat → ClassId} {io : Nat → Nat} {h0 : Nat} {u : Nat → Nat} {H : Heap} (hP : va_P D vwCl (wsc_X9 (l, D, cA, io) h0 u) H) (c : my_L) (hc : layR[10]? = some c) : va_at D vwCl ((my_i h0 u 10, my_e (l, D, cA, my_i h0 u) my_r0 10 c) : Nat × va_E) H := by
  obtain rfl : c = (.inl (.inl 8)) := Option.some.inj (hc.symm.trans (show layR[10]? = some (.inl (.inl 8)) from rfl))
  rw [meR_10]
  exact hP 10 _ rfl
theorem pR_11 {l : Launch} {D : va_G} {cA : Nat → ClassId} {io : Nat → Nat} {h0 : Nat} {u : Nat → Nat} {H : Heap} (hP : va_P D vwCl (wsc_X9 (l, D, cA, io) h0 u) H) (c : my_L) (hc : layR[11]? = some c) : va_at D vwCl ((my_i h0 u 11, my_e (l, D, cA, my_i h0 u) my_r0 11 c) : Nat × va_E) H := by
  obtain rfl : c = (.inl (.inl 8)) := Option.some.inj (hc.symm.trans (show layR[11]? = some (.inl (.inl 8)) from rfl))
  rw [meR_11]
  exact hP 11 _ rfl
theorem pR_12 {l : Launch} {D : va_G} {cA : Nat → ClassId} {io : Nat → Nat} {h0 : Nat} {u : Nat → Nat} {H : Heap} (hP : va_P D vwCl (wsc_X9 (l, D, cA, io) h0 u) H) (c : my_L) (hc : layR[12]? = some c) : va_at D vwCl ((my_i h0 u 12, my_e (l, D, cA, my_i h0 u) my_r0 12 c) : Nat × va_E) H := by
  obtain rfl : c = (.inl (.inl 8)) := Option.some.inj (hc.symm.trans (show layR[12]? = some (.inl (.inl 8)) from rfl))
  rw [meR_12]
  exact hP 12 _ rfl
theorem pR_13 {l : Launch} {D : va_G} {cA : Nat → ClassId} {io : Nat → Nat} {h0 : Nat} {u : Nat → Nat} {H : Heap} (hP : va_P D vwCl (wsc_X9 (l, D, cA, io) h0 u) H) (c : my_L) (hc : layR[13]? = some c) : va_at D vwCl ((my_i h0 u 13, my_e (l, D, cA, my_i h0 u) my_r0 13 c) : Nat × va_E) H := by
  obtain rfl : c = (.inl (.inl 8)) := Option.some.inj (hc.symm.trans (show layR[13]? = some (.inl (.inl 8)) from rfl))
  rw [meR_13]
  exact hP 13 _ rfl
theorem pR_14 {l : Launch} {D : va_G} {cA : Nat → ClassId} {io : Nat → Nat} {h0 : Nat} {u : Nat → Nat} {H : Heap} (hP : va_P D vwCl (wsc_X9 (l, D, cA, io) h0 u) H) (c : my_L) (hc : layR[14]? = some c) : va_at D vwCl ((my_i h0 u 14, my_e (l, D, cA, my_i h0 u) my_r0 14 c) : Nat × va_E) H := by
  obtain rfl : c = (.inl (.inl 8)) := Option.some.inj (hc.symm.trans (show layR[14]? = some (.inl (.inl 8)) from rfl))
  rw [meR_14]
  exact hP 14 _ rfl
theorem pR_15 {l : Launch} {D : va_G} {cA : Nat → ClassId} {io : Nat → Nat} {h0 : Nat} {u : Nat → Nat} {H : Heap} (hP : va_P D vwCl (wsc_X9 (l, D, cA, io) h0 u) H) (c : my_L) (hc : layR[15]? = some c) : va_at D vwCl ((my_i h0 u 15, my_e (l, D, cA, my_i h0 u) my_r0 15 c) : Nat × va_E) H := by
  obtain rfl : c = (.inl (.inl 8)) := Option.some.inj (hc.symm.trans (show layR[15]? = some (.inl (.inl 8)) from rfl))
  rw [meR_15]
  exact hP 15 _ rfl
theorem pR_16 {l : Launch} {D : va_G} {cA : Nat → ClassId} {io : Nat → Nat} {h0 : Nat} {u : Nat → Nat} {H : Heap} (hP : va_P D vwCl (wsc_X9 (l, D, cA, io) h0 u) H) (c : my_L) (hc : layR[16]? = some c) : va_at D vwCl ((my_i h0 u 16, my_e (l, D, cA, my_i h0 u) my_r0 16 c) : Nat × va_E) H := by
  obtain rfl : c = (.inl (.inl 8)) := Option.some.inj (hc.symm.trans (show layR[16]? = some (.inl (.inl 8)) from rfl))
  rw [meR_16]
  exact hP 16 _ rfl
theorem pR_17 {l : Launch} {D : va_G} {cA : Nat → ClassId} {io : Nat → Nat} {h0 : Nat} {u : Nat → Nat} {H : Heap} (hP : va_P D vwCl (wsc_X9 (l, D, cA, io) h0 u) H) (c : my_L) (hc : layR[17]? = some c) : va_at D vwCl ((my_i h0 u 17, my_e (l, D, cA, my_i h0 u) my_r0 17 c) : Nat × va_E) H := by
  obtain rfl : c = (.inl (.inl 4)) := Option.some.inj (hc.symm.trans (show layR[17]? = some (.inl (.inl 4)) from rfl))
  rw [meR_17]
  exact hP 17 _ rfl
theorem pR_18 {l : Launch} {D : va_G} {cA : Nat → ClassId} {io : Nat → Nat} {h0 : Nat} {u : Nat → Nat} {H : Heap} (hP : va_P D vwCl (wsc_X9 (l, D, cA, io) h0 u) H) (c : my_L) (hc : layR[18]? = some c) : va_at D vwCl ((my_i h0 u 18, my_e (l, D, cA, my_i h0 u) my_r0 18 c) : Nat × va_E) H := by
  obtain rfl : c = (.inl (.inl 4)) := Option.some.inj (hc.symm.trans (show layR[18]? = some (.inl (.inl 4)) from rfl))
  rw [meR_18]
  exact hP 18 _ rfl
theorem pR_19 {l : Launch} {D : va_G} {cA : Nat → ClassId} {io : Nat → Nat} {h0 : Nat} {u : Nat → Nat} {H : Heap} (hP : va_P D vwCl (wsc_X9 (l, D, cA, io) h0 u) H) (c : my_L) (hc : layR[19]? = some c) : va_at D vwCl ((my_i h0 u 19, my_e (l, D, cA, my_i h0 u) my_r0 19 c) : Nat × va_E) H := by
  obtain rfl : c = (.inl (.inl 240)) := Option.some.inj (hc.symm.trans (show layR[19]? = some (.inl (.inl 240)) from rfl))
  rw [meR_19]
  exact hP 19 _ rfl
theorem pR_20 {l : Launch} {D : va_G} {cA : Nat → ClassId} {io : Nat → Nat} {h0 : Nat} {u : Nat → Nat} {H : Heap} (hP : va_P D vwCl (wsc_X9 (l, D, cA, io) h0 u) H) (c : my_L) (hc : layR[20]? = some c) : va_at D vwCl ((my_i h0 u 20, my_e (l, D, cA, my_i h0 u) my_r0 20 c) : Nat × va_E) H := by
  obtain rfl : c = (.inl (.inl 60)) := Option.some.inj (hc.symm.trans (show layR[20]? = some (.inl (.inl 60)) from rfl))
  rw [meR_20]
  exact hP 20 _ rfl
theorem pR_all {l : Launch} {D : va_G} {cA : Nat → ClassId} {io : Nat → Nat} {h0 : Nat} {u : Nat → Nat} {H : Heap} (hP : va_P D vwCl (wsc_X9 (l, D, cA, io) h0 u) H) : ∀ (k : Nat) (c : my_L), k < 21 → layR[k]? = some c → va_at D vwCl ((my_i h0 u k, my_e (l, D, cA, my_i h0 u) my_r0 k c) : Nat × va_E) H
  | 0, c, _, hc => pR_0 hP c hc
  | 1, c, _, hc => pR_1 hP c hc
  | 2, c, _, hc => pR_2 hP c hc
  | 3, c, _, hc => pR_3 hP c hc
  | 4, c, _, hc => pR_4 hP c hc
  | 5, c, _, hc => pR_5 hP c hc
  | 6, c, _, hc => pR_6 hP c hc
  | 7, c, _, hc => pR_7 hP c hc
  | 8, c, _, hc => pR_8 hP c hc
  | 9, c, _, hc => pR_9 hP c hc
  | 10, c, _, hc => pR_10 hP c hc
  | 11, c, _, hc => pR_11 hP c hc
  | 12, c, _, hc => pR_12 hP c hc
  | 13, c, _, hc => pR_13 hP c hc
  | 14, c, _, hc => pR_14 hP c hc
  | 15, c, _, hc => pR_15 hP c hc
  | 16, c, _, hc => pR_16 hP c hc
  | 17, c, _, hc => pR_17 hP c hc
  | 18, c, _, hc => pR_18 hP c hc
  | 19, c, _, hc => pR_19 hP c hc
  | 20, c, _, hc => pR_20 hP c hc
  | k + 21, _, h, _ => absurd h (by omega)
theorem my_P0R {l : Launch} {D : va_G} {cA : Nat → ClassId} {io : Nat → Nat} {h0 : Nat} {u : Nat → Nat} {H : Heap} (hP : va_P D vwCl (wsc_X9 (l, D, cA, io) h0 u) H) : my_P (l, D, cA, my_i h0 u) layR my_r0 H := by
  intro k q hk
  have hl : k < layR.length := by
    have := (List.getElem?_eq_some_iff.mp hk).1
    rw [my_ws, List.length_mapIdx] at this
    exact this
  have hc := List.getElem?_eq_getElem hl
  have e := (my_ws_at hc).symm.trans hk
  have e := Option.some.inj e
  rw [← e]
  exact pR_all hP k _ hl hc
theorem my_I0R {l : Launch} {D : va_G} {cA : Nat → ClassId} {io : Nat → Nat} {h0 : Nat} {u : Nat → Nat} {A : Nat → Prop} (hD : va_D A (wsc_X9 (l, D, cA, io) h0 u)) : my_I (l, D, cA, my_i h0 u) layR ∧ ∀ q, my_A (l, D, cA, my_i h0 u) layR q → A q ∧ ∃ (j : Nat) (e : va_E), (wsc_X9 (l, D, cA, io) h0 u)[j]? = some (q, e) := by
  refine ⟨fun i j hi hj e => ?_, fun q hq => ?_⟩
  · obtain ⟨e1, h1⟩ := wsc_X9_at (w := (l, D, cA, io)) (h0 := h0) (u := u) i hi
    obtain ⟨e2, h2⟩ := wsc_X9_at (w := (l, D, cA, io)) (h0 := h0) (u := u) j hj
    exact hD.1 i j _ _ h1 h2 e
  · obtain ⟨j, hj, rfl⟩ := hq
    obtain ⟨e1, h1⟩ := wsc_X9_at (w := (l, D, cA, io)) (h0 := h0) (u := u) j hj
    exact ⟨hD.2 j _ h1, j, e1, h1⟩
set_option maxRecDepth 100000 in
set_option maxHeartbeats 4000000 in
theorem whole_start {p : Program} {e : Env} {s : State} {m : MethodId} {below : List Frame} {meth : Method} {c : Code} (l : Launch) (hflags : l.flags = flags0) {b L : Nat} {xs : Nat → Int32} (hL : L ≤ 3072) (C0 : lw_At p s m meth c b L xs) : W p l e room_1 s m #[Value.ref b] below meth c s.heap [] 0 0 (lw_Z below #[Value.ref b] s) (entryFrame m ([Value.ref b] : List Value).toArray 4) := by
  obtain ⟨hx, hb, hr, hml, hown, hts0, hX, hbl, hlocks, hgv⟩ := id C0
  have hown : s.vm.findClass RL = some m.cls := hown
  have hts : ∀ u ∈ tblG, u.before #[Value.ref b] s = true := fun u hu => hts0 u (tblG_lw hu)
  have hNW : my_N s := fun q hq => va_Nw.of rfl (hts0 _ (List.mem_append_right _ (lw_nestT_in q hq)))
  obtain ⟨c0, i0, k0⟩ := u_known (C := RX0) (T := TX0) (N := 5) (n := 5) hts inU_X0 (hts _ tw_ia_X0)
  obtain ⟨c1, i1, k1⟩ := u_known (C := RX1) (T := TX1) (N := 2) (n := 2) hts inU_X1 (hts _ tw_ia_X1)
  obtain ⟨c2, i2, k2⟩ := u_known (C := RX2) (T := TX2) (N := 3) (n := 3) hts inU_X2 (hts _ tw_ia_X2)
  obtain ⟨c3, i3, k3⟩ := u_known (C := RX3) (T := TX3) (N := 4) (n := 4) hts inU_X3 (hts _ tw_ia_X3)
  obtain ⟨c4, i4, k4⟩ := u_known (C := RX5) (T := TX5) (N := 6) (n := 6) hts inU_X5 (hts _ tw_ia_X5)
  obtain ⟨c5, i5, k5⟩ := u_known (C := RX6) (T := TX6) (N := 4) (n := 4) hts inU_X6 (hts _ tw_ia_X6)
  obtain ⟨c6, i6, k6⟩ := u_known (C := RX7) (T := TX7) (N := 4) (n := 4) hts inU_X7 (hts _ tw_ia_X7)
  obtain ⟨c7, i7, k7⟩ := u_known (C := RX8) (T := TX8) (N := 9) (n := 9) hts inU_X8 (hts _ tw_ia_X8)
  obtain ⟨c8, i8, k8⟩ := u_known (C := RX9) (T := TX9) (N := 33) (n := 33) hts inU_X9 (hts _ tw_ia_X9)
  obtain ⟨dC, dI, hKc⟩ : ∃ (dC : Nat → ClassId) (dI : Nat → Nat → Nat), ∀ (k : Nat) (q : vw_C), vwCl[k]? = some q → u_Kn s q.1 q.2.1 q.2.2 (dC k) (dI k) := by
    refine ⟨fun k => match k with | 0 => c0 | 1 => c1 | 2 => c2 | 3 => c3 | 4 => c4 | 5 => c5 | 6 => c6 | 7 => c7 | _ => c8, fun k => match k with | 0 => i0 | 1 => i1 | 2 => i2 | 3 => i3 | 4 => i4 | 5 => i5 | 6 => i6 | 7 => i7 | _ => i8, ?_⟩
    intro k q hq
    match k, hq with
    | 0, hq => cases hq; exact k0
    | 1, hq => cases hq; exact k1
    | 2, hq => cases hq; exact k2
    | 3, hq => cases hq; exact k3
    | 4, hq => cases hq; exact k4
    | 5, hq => cases hq; exact k5
    | 6, hq => cases hq; exact k6
    | 7, hq => cases hq; exact k7
    | 8, hq => cases hq; exact k8
    | k + 9, hq => simp [vwCl] at hq
  obtain ⟨cI, kI, compI, e1, e2, e3⟩ := Cond.arrayClass_spec (hts _ tw_ac_48)
  have ho1 : va_AO "PitchRows$Caller" s := va_AO.of (hts0 _ (List.mem_append_right _ (List.mem_of_getElem? (i := 30) (by decide +kernel))))
  have ho2 : va_AO "PitchRows$Sheet" s := va_AO.of (hts0 _ (List.mem_append_right _ (List.mem_of_getElem? (i := 161) (by decide +kernel))))
  obtain ⟨comp1, cC1, kC1, f11, f12, f13, f14, f15⟩ := Cond.arrayOver_spec ho1
  obtain ⟨comp2, cC2, kC2, f21, f22, f23, f24, f25⟩ := Cond.arrayOver_spec ho2
  obtain ⟨cA, hA0, hA1, hA2⟩ : ∃ cA : Nat → ClassId, cA 0 = cI ∧ cA 1 = cC1 ∧ cA 2 = cC2 := ⟨fun k => match k with | 0 => cI | 1 => cC1 | _ => cC2, rfl, rfl, rfl⟩
  subst hA0; subst hA1; subst hA2
  have hKs : ∀ io : Nat → Nat, my_Kc (l, (dC, dI), cA, io) s := by
    intro io
    refine ⟨⟨⟨hKc, fun k q hk => ?_⟩, hNW⟩, ho1, ho2⟩
    match k, hk with
    | 0, hk => cases hk; exact ⟨fun n z => ⟨fun k h => (by cases h), kI, e2, compI, e3⟩, e1⟩
    | 1, hk => cases hk; exact ⟨fun n z => ⟨fun k h => (by cases h), kC1, f13, comp1, f14⟩, kC1, comp1, f13, f14, f11, f15⟩
    | 2, hk => cases hk; exact ⟨fun n z => ⟨fun k h => (by cases h), kC2, f23, comp2, f24⟩, kC2, comp2, f23, f24, f21, f25⟩
    | k + 3, hk => simp [my_ty] at hk
  have hKn := hKs (fun _ => 0)
  have hK := hKn.1.1
  have hA : ∀ q : Nat, s.heap.size ≤ q → (fun q : Nat => s.heap.size ≤ q) q := fun _ h => h
  have hS : va_S (fun q : Nat => s.heap.size ≤ q) s.heap s.heap [] := va_S.rf
  have hP : va_P (dC, dI) vwCl [] s.heap := fun k q h => by simp at h
  have hD : va_D (fun q : Nat => s.heap.size ≤ q) [] := ⟨fun i j p q h => by simp at h, fun k q h => by simp at h⟩
  have hl := lv_entry ([.ref b]) (n := 4) (Nat.le_of_ble_eq_true rfl)
  rw [lg_entry_eq]
  generalize (lg_sl ([.ref b]) ++ List.replicate (4 - (lg_sl ([.ref b])).length) Slot.unset).toArray = ls at hl ⊢
  have hl : lv_has ls 4 [(0, .ref b)] := hl
  refine va_new (ci := 7) (fs := [.null, .null, .null, .null, .null, .null, .null, .int 0, .int 0]) (C := RX8) (T := TX8) (N := 9) hx hb hts inU_X8 tyX8 tyX8_ok hown (hts _ tw_kc_L_7) (hts _ tw_ia_X8) (hts _ tw_in_X8) hK hP hD hS hA rfl (df_X8 tyX8 tyX8_ok) (Nat.le_of_ble_eq_true rfl) (Nat.le_of_ble_eq_true rfl) dL_law_0 (fun q0 H hP hD hS => ?_)
  have hP := my_Pswap hP
  have hD := my_Dswap hD
  refine lv_dup hx hb dL_law_3 rfl ?_
  refine my_W_ctor (w := (l, (dC, dI), cA, fun _ => 0)) (a := (Value.ref q0 :: []).toArray) (va_runI (As := []) ⟨hx, hb, hml, hown, hts⟩ (cn_X8_init (l, (dC, dI), cA, fun _ => 0) q0 H.size) (cwI 0 hts (my_good cd_X8_init) rfl rfl rfl (hts _ tw_in_X8) (hts _ tw_ml_L_9) (hts _ tw_im_X8_init) rfl ⟨by decide, by decide, by decide +kernel⟩ ⟨Nat.le_of_ble_eq_true rfl, Nat.le_of_ble_eq_true rfl⟩) ⟨my_blindN, fun U hU hW => ⟨rfl, by rw [hU], by rw [hU]; exact hP.sub [0] rfl, my_Kc_warm hW hKn⟩⟩ rfl rfl hl.1 rfl (lv_room (Nat.le_of_ble_eq_true rfl)) dL_law_4 ⟨Nat.le_of_ble_eq_true rfl, Nat.le_of_ble_eq_true rfl⟩) hP hD hS (fun _ h => h) (fun u0 H locs hP hD hS => ?_)
  refine lv_astore_n (lv' := [(1, .ref q0), (0, .ref b)]) hx hb dL_law_7 rfl hl (by decide) rfl (fun ls hl => ?_)
  refine va_new (ci := 8) (fs := [.int 0, .int 0, .int 0, .null, .null, .int 0, .int 0, .int 0, .null, .null, .null, .int 0, .null, .null, .null, .int 0, .null, .null, .null, .int 0, .int 0, .int 0, .int 0, .null, .null, .null, .null, .null, .null, .null, .null, .null, .int 0]) (C := RX9) (T := TX9) (N := 33) hx hb hts inU_X9 tyX9 tyX9_ok hown (hts _ tw_kc_L_10) (hts _ tw_ia_X9) (hts _ tw_in_X9) hK hP hD hS hA rfl (df_X9 tyX9 tyX9_ok) (Nat.le_of_ble_eq_true rfl) (Nat.le_of_ble_eq_true rfl) dL_law_8 (fun q1 H hP hD hS => ?_)
  have hP := my_Pswap hP
  have hD := my_Dswap hD
  refine lv_dup hx hb dL_law_11 rfl ?_
  refine my_W_ctor (w := (l, (dC, dI), cA, fun _ => 0)) (a := (Value.ref q1 :: []).toArray) (va_runI (As := []) ⟨hx, hb, hml, hown, hts⟩ (cn_X9_init (l, (dC, dI), cA, fun _ => 0) q1 H.size) (cwI 0 hts (my_good cd_X9_init) rfl rfl rfl (hts _ tw_in_X9) (hts _ tw_ml_L_12) (hts _ tw_im_X9_init) rfl ⟨by decide, by decide, by decide +kernel⟩ ⟨Nat.le_of_ble_eq_true rfl, Nat.le_of_ble_eq_true rfl⟩) ⟨my_blindN, fun U hU hW => ⟨rfl, by rw [hU], by rw [hU]; exact hP.sub [0] rfl, my_Kc_warm hW hKn⟩⟩ rfl rfl hl.1 rfl (lv_room (Nat.le_of_ble_eq_true rfl)) dL_law_12 ⟨Nat.le_of_ble_eq_true rfl, Nat.le_of_ble_eq_true rfl⟩) hP hD hS (fun _ h => h) (fun u1 H locs hP hD hS => ?_)
  refine lv_astore_n (lv' := [(2, .ref q1), (1, .ref q0), (0, .ref b)]) hx hb dL_law_15 rfl hl (by decide) rfl (fun ls hl => ?_)
  refine lv_iconst (v := 0) hx hb dL_law_16 (by decide) ?_
  refine lv_istore_n (lv' := [(3, .int 0), (2, .ref q1), (1, .ref q0), (0, .ref b)]) hx hb dL_law_17 rfl hl (by decide) rfl (fun ls hl => ?_)
  obtain ⟨hDR, hD2, hap⟩ := my_Dapp hD
  obtain ⟨hDC, -, -⟩ := my_Dapp hD2
  obtain ⟨hIC, hAC⟩ := my_I0C hDC
  obtain ⟨hIR, hAR⟩ := my_I0R hDR
  have hPR : va_P (dC, dI) vwCl (wsc_X9 (l, (dC, dI), cA, fun _ => 0) q1 u1) H := fun k q hk => hP k q (by rw [List.getElem?_append_left (List.getElem?_eq_some_iff.mp hk).1]; exact hk)
  have hPC : va_P (dC, dI) vwCl (wsc_X8 (l, (dC, dI), cA, fun _ => 0) q0 u0) H := by
    intro k q hk
    have hm : q ∈ wsc_X9 (l, (dC, dI), cA, fun _ => 0) q1 u1 ++ (wsc_X8 (l, (dC, dI), cA, fun _ => 0) q0 u0 ++ []) := List.mem_append_right _ (List.mem_append_left _ (List.mem_of_getElem? hk))
    obtain ⟨i, hi⟩ := List.getElem?_of_mem hm
    exact hP i q hi
  refine W.widen (k := 61) (n := 1085) (Nat.le_of_ble_eq_true rfl) (Nat.le_of_ble_eq_true rfl) ?_
  refine lc_loop (X := (p, e, s, m, #[Value.ref b], below, meth, c)) (l := l) (D := (dC, dI)) (cA := cA) (iC := my_i q0 u0) (iR := my_i q1 u1) (b := b) (L := L) (xs := xs) ⟨hx, hb, hml, hown, hts, (hKs _).1, hIC, hIR, ?_, fun q hq => (hAC q hq).1, fun q hq => (hAR q hq).1, hX, hbl, hlocks, hr, rfl⟩ hL (L + 1) 0 my_s0 my_r0 (Nat.zero_le _) (by omega) rel_init H locs ls (my_P0C hPC) (my_P0R hPR) hS ⟨hl.1, hl.2.1, ?_⟩
  · intro q hq hq2
    obtain ⟨-, j, e1, h1⟩ := hAC q hq
    obtain ⟨-, j2, e2, h2⟩ := hAR q hq2
    exact hap j2 j (q, e2) (q, e1) h2 (by rw [List.append_nil]; exact h1) rfl
  · intro i v hi
    refine hl.2.2 (i, v) ?_
    match i, hi with
    | 0, hi => cases hi; simp [my_i]
    | 1, hi => cases hi; simp [my_i]
    | 2, hi => cases hi; simp [my_i]
    | 3, hi => cases hi; simp [my_i]; rfl
    | i + 4, hi => simp at hi
