def f_J6_bitCount_0f7a4 (σ : my_M) (x0 : Int32) : Option (Int32 × my_M) :=
some (((((((((x0 - ((Int32.toUInt32 x0 >>> (Int32.toUInt32 1 &&& Int32.toUInt32 31)).toInt32 &&& 1431655765)) &&& 858993459) + ((Int32.toUInt32 (x0 - ((Int32.toUInt32 x0 >>> (Int32.toUInt32 1 &&& Int32.toUInt32 31)).toInt32 &&& 1431655765)) >>> (Int32.toUInt32 2 &&& Int32.toUInt32 31)).toInt32 &&& 858993459)) + (Int32.toUInt32 (((x0 - ((Int32.toUInt32 x0 >>> (Int32.toUInt32 1 &&& Int32.toUInt32 31)).toInt32 &&& 1431655765)) &&& 858993459) + ((Int32.toUInt32 (x0 - ((Int32.toUInt32 x0 >>> (Int32.toUInt32 1 &&& Int32.toUInt32 31)).toInt32 &&& 1431655765)) >>> (Int32.toUInt32 2 &&& Int32.toUInt32 31)).toInt32 &&& 858993459)) >>> (Int32.toUInt32 4 &&& Int32.toUInt32 31)).toInt32) &&& 252645135) + (Int32.toUInt32 (((((x0 - ((Int32.toUInt32 x0 >>> (Int32.toUInt32 1 &&& Int32.toUInt32 31)).toInt32 &&& 1431655765)) &&& 858993459) + ((Int32.toUInt32 (x0 - ((Int32.toUInt32 x0 >>> (Int32.toUInt32 1 &&& Int32.toUInt32 31)).toInt32 &&& 1431655765)) >>> (Int32.toUInt32 2 &&& Int32.toUInt32 31)).toInt32 &&& 858993459)) + (Int32.toUInt32 (((x0 - ((Int32.toUInt32 x0 >>> (Int32.toUInt32 1 &&& Int32.toUInt32 31)).toInt32 &&& 1431655765)) &&& 858993459) + ((Int32.toUInt32 (x0 - ((Int32.toUInt32 x0 >>> (Int32.toUInt32 1 &&& Int32.toUInt32 31)).toInt32 &&& 1431655765)) >>> (Int32.toUInt32 2 &&& Int32.toUInt32 31)).toInt32 &&& 858993459)) >>> (Int32.toUInt32 4 &&& Int32.toUInt32 31)).toInt32) &&& 252645135) >>> (Int32.toUInt32 8 &&& Int32.toUInt32 31)).toInt32) + (Int32.toUInt32 ((((((x0 - ((Int32.toUInt32 x0 >>> (Int32.toUInt32 1 &&& Int32.toUInt32 31)).toInt32 &&& 1431655765)) &&& 858993459) + ((Int32.toUInt32 (x0 - ((Int32.toUInt32 x0 >>> (Int32.toUInt32 1 &&& Int32.toUInt32 31)).toInt32 &&& 1431655765)) >>> (Int32.toUInt32 2 &&& Int32.toUInt32 31)).toInt32 &&& 858993459)) + (Int32.toUInt32 (((x0 - ((Int32.toUInt32 x0 >>> (Int32.toUInt32 1 &&& Int32.toUInt32 31)).toInt32 &&& 1431655765)) &&& 858993459) + ((Int32.toUInt32 (x0 - ((Int32.toUInt32 x0 >>> (Int32.toUInt32 1 &&& Int32.toUInt32 31)).toInt32 &&& 1431655765)) >>> (Int32.toUInt32 2 &&& Int32.toUInt32 31)).toInt32 &&& 858993459)) >>> (Int32.toUInt32 4 &&& Int32.toUInt32 31)).toInt32) &&& 252645135) + (Int32.toUInt32 (((((x0 - ((Int32.toUInt32 x0 >>> (Int32.toUInt32 1 &&& Int32.toUInt32 31)).toInt32 &&& 1431655765)) &&& 858993459) + ((Int32.toUInt32 (x0 - ((Int32.toUInt32 x0 >>> (Int32.toUInt32 1 &&& Int32.toUInt32 31)).toInt32 &&& 1431655765)) >>> (Int32.toUInt32 2 &&& Int32.toUInt32 31)).toInt32 &&& 858993459)) + (Int32.toUInt32 (((x0 - ((Int32.toUInt32 x0 >>> (Int32.toUInt32 1 &&& Int32.toUInt32 31)).toInt32 &&& 1431655765)) &&& 858993459) + ((Int32.toUInt32 (x0 - ((Int32.toUInt32 x0 >>> (Int32.toUInt32 1 &&& Int32.toUInt32 31)).toInt32 &&& 1431655765)) >>> (Int32.toUInt32 2 &&& Int32.toUInt32 31)).toInt32 &&& 858993459)) >>> (Int32.toUInt32 4 &&& Int32.toUInt32 31)).toInt32) &&& 252645135) >>> (Int32.toUInt32 8 &&& Int32.toUInt32 31)).toInt32) >>> (Int32.toUInt32 16 &&& Int32.toUInt32 31)).toInt32) &&& 63), σ)
set_option maxRecDepth 100000 in
set_option maxHeartbeats 4000000 in
theorem ct_J6_bitCount_0f7a4 (w : my_V) {σ : my_M} {x0 : Int32} {r : Int32} {τ : my_M} (hf : f_J6_bitCount_0f7a4 σ x0 = some (r, τ)) : Ct w layC mJ6_bitCount_0f7a4 1 [.int x0] σ (some (.int r)) τ := by
  refine my_met RJ6 [some (.int x0)] 0 (by decide) rfl (Nat.le_of_ble_eq_true rfl) rfl (fun X h => ?_)
  unfold f_J6_bitCount_0f7a4 at hf
  refine g_il0 h 1 dJ6_bitCount_0f7a4_0 rfl ?_
  refine g_il0 h 2 dJ6_bitCount_0f7a4_1 rfl ?_
  refine g_iconst h 3 ic_1 dJ6_bitCount_0f7a4_2 rfl ?_
  refine g_iushr h 4 dJ6_bitCount_0f7a4_3 rfl ?_
  refine g_ldcw h 7 tw_ki_J6_265 dJ6_bitCount_0f7a4_4 rfl ?_
  refine g_iand h 8 dJ6_bitCount_0f7a4_7 rfl ?_
  refine g_isub h 9 dJ6_bitCount_0f7a4_8 rfl ?_
  refine g_is0 h 10 (Nat.le_of_ble_eq_true rfl) dJ6_bitCount_0f7a4_9 rfl ?_
  refine g_il0 h 11 dJ6_bitCount_0f7a4_10 rfl ?_
  refine g_ldcw h 14 tw_ki_J6_266 dJ6_bitCount_0f7a4_11 rfl ?_
  refine g_iand h 15 dJ6_bitCount_0f7a4_14 rfl ?_
  refine g_il0 h 16 dJ6_bitCount_0f7a4_15 rfl ?_
  refine g_iconst h 17 ic_2 dJ6_bitCount_0f7a4_16 rfl ?_
  refine g_iushr h 18 dJ6_bitCount_0f7a4_17 rfl ?_
  refine g_ldcw h 21 tw_ki_J6_266 dJ6_bitCount_0f7a4_18 rfl ?_
  refine g_iand h 22 dJ6_bitCount_0f7a4_21 rfl ?_
  refine g_iadd h 23 dJ6_bitCount_0f7a4_22 rfl ?_
  refine g_is0 h 24 (Nat.le_of_ble_eq_true rfl) dJ6_bitCount_0f7a4_23 rfl ?_
  refine g_il0 h 25 dJ6_bitCount_0f7a4_24 rfl ?_
  refine g_il0 h 26 dJ6_bitCount_0f7a4_25 rfl ?_
  refine g_iconst h 27 ic_4 dJ6_bitCount_0f7a4_26 rfl ?_
  refine g_iushr h 28 dJ6_bitCount_0f7a4_27 rfl ?_
  refine g_iadd h 29 dJ6_bitCount_0f7a4_28 rfl ?_
  refine g_ldcw h 32 tw_ki_J6_267 dJ6_bitCount_0f7a4_29 rfl ?_
  refine g_iand h 33 dJ6_bitCount_0f7a4_32 rfl ?_
  refine g_is0 h 34 (Nat.le_of_ble_eq_true rfl) dJ6_bitCount_0f7a4_33 rfl ?_
  refine g_il0 h 35 dJ6_bitCount_0f7a4_34 rfl ?_
  refine g_il0 h 36 dJ6_bitCount_0f7a4_35 rfl ?_
  refine g_bipush h 38 bp_8 dJ6_bitCount_0f7a4_36 rfl ?_
  refine g_iushr h 39 dJ6_bitCount_0f7a4_38 rfl ?_
  refine g_iadd h 40 dJ6_bitCount_0f7a4_39 rfl ?_
  refine g_is0 h 41 (Nat.le_of_ble_eq_true rfl) dJ6_bitCount_0f7a4_40 rfl ?_
  refine g_il0 h 42 dJ6_bitCount_0f7a4_41 rfl ?_
  refine g_il0 h 43 dJ6_bitCount_0f7a4_42 rfl ?_
  refine g_bipush h 45 bp_16 dJ6_bitCount_0f7a4_43 rfl ?_
  refine g_iushr h 46 dJ6_bitCount_0f7a4_45 rfl ?_
  refine g_iadd h 47 dJ6_bitCount_0f7a4_46 rfl ?_
  refine g_is0 h 48 (Nat.le_of_ble_eq_true rfl) dJ6_bitCount_0f7a4_47 rfl ?_
  refine g_il0 h 49 dJ6_bitCount_0f7a4_48 rfl ?_
  refine g_bipush h 51 bp_63 dJ6_bitCount_0f7a4_49 rfl ?_
  refine g_iand h 52 dJ6_bitCount_0f7a4_51 rfl ?_
  exact g_iret h dJ6_bitCount_0f7a4_52 (my_r1 hf) (my_r2 hf)
def b_J7_fill_53178_0 (k0 : my_M → Nat → Int32 → Int32 → Int32 → Option (Unit × my_M)) (σ : my_M) (a0 : Nat) (x1 : Int32) (x2 : Int32) (x3 : Int32) : Option (Unit × my_M) :=
(if x3 ≤ x2 then
some ((), σ)
else
(if my_ix x2 (my_len layC a0) then
k0 (my_up σ a0 (Int32.toNatClampNeg x2) x1) a0 x1 ((x2 + 1)) x3
else none))
def g_J7_fill_53178 : Nat → my_M → Nat → Int32 → Int32 → Int32 → Option (Unit × my_M)
  | 0 => fun _ _ _ _ _ => none
  | n + 1 => b_J7_fill_53178_0 (g_J7_fill_53178 n)
def f_J7_fill_53178 (σ : my_M) (a0 : Nat) (x1 : Int32) : Option (Unit × my_M) :=
(if 0 < my_len layC a0 then
(g_J7_fill_53178 my_NF) σ a0 x1 0 ((nI (my_len layC a0)))
else none)
set_option maxRecDepth 100000 in
set_option maxHeartbeats 4000000 in
theorem lp_J7_fill_53178 (w : my_V) {X : my_X} {r : Unit} {τ : my_M} (h : my_OK X w layC cJ7_fill_53178 RJ7 4 (none)) : ∀ n : Nat, (∀ (σ : my_M) (a0 : Nat) (x1 : Int32) (x2 : Int32) (x3 : Int32), (g_J7_fill_53178 n) σ a0 x1 x2 x3 = some (r, τ) → Go X w layC 1 4 none τ σ 5 [some (.ref (w.2.2.2 a0)), some (.int x1), some (.int x2), some (.int x3)] []) := by
  intro n
  induction n with
  | zero => exact fun _ _ _ _ _ hf => (my_nn hf).elim
  | succ n ih =>
    intro σ a0 x1 x2 x3 hf
    replace hf : b_J7_fill_53178_0 (g_J7_fill_53178 n) σ a0 x1 x2 x3 = some (r, τ) := hf
    unfold b_J7_fill_53178_0 at hf
    refine g_il2 h 6 dJ7_fill_53178_5 rfl ?_
    refine g_il3 h 7 dJ7_fill_53178_6 rfl ?_
    refine g_icge h 20 10 dJ7_fill_53178_7 (by decide) rfl (fun hc => ?_) (fun hc => ?_)
    · have hf := my_ifT hc hf
      exact g_vret h dJ7_fill_53178_20 rfl (my_r2 hf)
    · have hf := my_ifF hc hf
      refine g_al0 h 11 dJ7_fill_53178_10 rfl ?_
      refine g_il2 h 12 dJ7_fill_53178_11 rfl ?_
      refine g_il1 h 13 dJ7_fill_53178_12 rfl ?_
      obtain ⟨hq1, hf⟩ := my_chk hf
      refine g_iast h 14 dJ7_fill_53178_13 rfl hq1 ?_
      refine g_inc2 h 17 (my_inc ic_1 _) (Nat.le_of_ble_eq_true rfl) rfl dJ7_fill_53178_14 rfl ?_
      refine g_goto h 5 dJ7_fill_53178_17 (by decide) ?_
      exact g_weak (ih _ _ _ _ _ hf) (w_s (w_s (w_s (w_s w_0))))
set_option maxRecDepth 100000 in
set_option maxHeartbeats 4000000 in
theorem ct_J7_fill_53178 (w : my_V) {σ : my_M} {a0 : Nat} {x1 : Int32} {r : Unit} {τ : my_M} (hf : f_J7_fill_53178 σ a0 x1 = some (r, τ)) : Ct w layC mJ7_fill_53178 1 [.ref (w.2.2.2 a0), .int x1] σ none τ := by
  refine my_met RJ7 [some (.ref (w.2.2.2 a0)), some (.int x1), none, none] 2 (by decide) rfl (Nat.le_of_ble_eq_true rfl) rfl (fun X h => ?_)
  unfold f_J7_fill_53178 at hf
  refine g_iconst h 1 ic_0 dJ7_fill_53178_0 rfl ?_
  refine g_is2 h 2 (Nat.le_of_ble_eq_true rfl) rfl dJ7_fill_53178_1 rfl ?_
  refine g_al0 h 3 dJ7_fill_53178_2 rfl ?_
  obtain ⟨hq1, hf⟩ := my_chk hf
  refine g_alen h 4 dJ7_fill_53178_3 rfl hq1 ?_
  refine g_is3 h 5 (Nat.le_of_ble_eq_true rfl) rfl dJ7_fill_53178_4 rfl ?_
  exact g_weak ((lp_J7_fill_53178 w h my_NF) _ _ _ _ _ hf) (w_s (w_s (w_s (w_s w_0))))
def f_X0_add (σ : my_M) (e0 : Nat) (x1 : Int32) (x2 : Int32) (x3 : Int32) : Option (Int32 × my_M) :=
(if e0 < 2 then
(if (σ (11 + 5 * e0) 0) < 8 then
(if my_ix (σ (11 + 5 * e0) 0) (my_len layC (12 + 5 * e0)) then
(if my_ix ((my_up σ (12 + 5 * e0) (Int32.toNatClampNeg (σ (11 + 5 * e0) 0)) x1) (11 + 5 * e0) 0) (my_len layC (13 + 5 * e0)) then
(if my_ix ((my_up (my_up σ (12 + 5 * e0) (Int32.toNatClampNeg (σ (11 + 5 * e0) 0)) x1) (13 + 5 * e0) (Int32.toNatClampNeg ((my_up σ (12 + 5 * e0) (Int32.toNatClampNeg (σ (11 + 5 * e0) 0)) x1) (11 + 5 * e0) 0)) x2) (11 + 5 * e0) 0) (my_len layC (14 + 5 * e0)) then
some (1, (my_up (my_up (my_up (my_up σ (12 + 5 * e0) (Int32.toNatClampNeg (σ (11 + 5 * e0) 0)) x1) (13 + 5 * e0) (Int32.toNatClampNeg ((my_up σ (12 + 5 * e0) (Int32.toNatClampNeg (σ (11 + 5 * e0) 0)) x1) (11 + 5 * e0) 0)) x2) (14 + 5 * e0) (Int32.toNatClampNeg ((my_up (my_up σ (12 + 5 * e0) (Int32.toNatClampNeg (σ (11 + 5 * e0) 0)) x1) (13 + 5 * e0) (Int32.toNatClampNeg ((my_up σ (12 + 5 * e0) (Int32.toNatClampNeg (σ (11 + 5 * e0) 0)) x1) (11 + 5 * e0) 0)) x2) (11 + 5 * e0) 0)) x3) (11 + 5 * e0) 0 (((my_up (my_up (my_up σ (12 + 5 * e0) (Int32.toNatClampNeg (σ (11 + 5 * e0) 0)) x1) (13 + 5 * e0) (Int32.toNatClampNeg ((my_up σ (12 + 5 * e0) (Int32.toNatClampNeg (σ (11 + 5 * e0) 0)) x1) (11 + 5 * e0) 0)) x2) (14 + 5 * e0) (Int32.toNatClampNeg ((my_up (my_up σ (12 + 5 * e0) (Int32.toNatClampNeg (σ (11 + 5 * e0) 0)) x1) (13 + 5 * e0) (Int32.toNatClampNeg ((my_up σ (12 + 5 * e0) (Int32.toNatClampNeg (σ (11 + 5 * e0) 0)) x1) (11 + 5 * e0) 0)) x2) (11 + 5 * e0) 0)) x3) (11 + 5 * e0) 0) + 1)))
else none)
else none)
else none)
else
some (0, σ))
else none)
set_option maxRecDepth 100000 in
set_option maxHeartbeats 4000000 in
theorem ct_X0_add (w : my_V) {σ : my_M} {e0 : Nat} {x1 : Int32} {x2 : Int32} {x3 : Int32} {r : Int32} {τ : my_M} (hf : f_X0_add σ e0 x1 x2 x3 = some (r, τ)) : Ct w layC mX0_add 1 [.ref (w.2.2.2 (11 + 5 * e0)), .int x1, .int x2, .int x3] σ (some (.int r)) τ := by
  refine my_met RX0 [some (.ref (w.2.2.2 (11 + 5 * e0))), some (.int x1), some (.int x2), some (.int x3)] 0 (by decide) rfl (Nat.le_of_ble_eq_true rfl) rfl (fun X h => ?_)
  unfold f_X0_add at hf
  obtain ⟨hb0, hf⟩ := my_chk hf
  refine g_al0 h 1 dX0_add_0 rfl ?_
  refine g_geti h 4 fF_X0_24_X0 (lyC_X0 hb0) rfl dX0_add_1 rfl ?_
  refine g_bipush h 6 bp_8 dX0_add_4 rfl ?_
  refine g_iclt h 11 9 dX0_add_6 (by decide) rfl (fun hc => ?_) (fun hc => ?_)
  · have hf := my_ifT hc hf
    refine g_al0 h 12 dX0_add_11 rfl ?_
    refine g_geta h 15 fF_X0_9_X0 (lyC_X0 hb0) rfl dX0_add_12 rfl ?_
    refine g_al0 h 16 dX0_add_15 rfl ?_
    refine g_geti h 19 fF_X0_24_X0 (lyC_X0 hb0) rfl dX0_add_16 rfl ?_
    refine g_il1 h 20 dX0_add_19 rfl ?_
    obtain ⟨hq1, hf⟩ := my_chk hf
    refine g_iast h 21 dX0_add_20 rfl hq1 ?_
    refine g_al0 h 22 dX0_add_21 rfl ?_
    refine g_geta h 25 fF_X0_15_X0 (lyC_X0 hb0) rfl dX0_add_22 rfl ?_
    refine g_al0 h 26 dX0_add_25 rfl ?_
    refine g_geti h 29 fF_X0_24_X0 (lyC_X0 hb0) rfl dX0_add_26 rfl ?_
    refine g_il2 h 30 dX0_add_29 rfl ?_
    obtain ⟨hq2, hf⟩ := my_chk hf
    refine g_iast h 31 dX0_add_30 rfl hq2 ?_
    refine g_al0 h 32 dX0_add_31 rfl ?_
    refine g_geta h 35 fF_X0_18_X0 (lyC_X0 hb0) rfl dX0_add_32 rfl ?_
    refine g_al0 h 36 dX0_add_35 rfl ?_
    refine g_geti h 39 fF_X0_24_X0 (lyC_X0 hb0) rfl dX0_add_36 rfl ?_
    refine g_il3 h 40 dX0_add_39 rfl ?_
    obtain ⟨hq3, hf⟩ := my_chk hf
    refine g_iast h 41 dX0_add_40 rfl hq3 ?_
    refine g_al0 h 42 dX0_add_41 rfl ?_
    refine g_dup h 43 rfl dX0_add_42 rfl ?_
    refine g_geti h 46 fF_X0_24_X0 (lyC_X0 hb0) rfl dX0_add_43 rfl ?_
    refine g_iconst h 47 ic_1 dX0_add_46 rfl ?_
    refine g_iadd h 48 dX0_add_47 rfl ?_
    refine g_puti h 51 fP_X0_24_X0 (lyC_X0 hb0) rfl dX0_add_48 rfl ?_
    refine g_iconst h 52 ic_1 dX0_add_51 rfl ?_
    exact g_zret h dX0_add_52 (Or.inr rfl) (my_r1 hf) (my_r2 hf)
  · have hf := my_ifF hc hf
    refine g_iconst h 10 ic_0 dX0_add_9 rfl ?_
    exact g_zret h dX0_add_10 (Or.inl rfl) (my_r1 hf) (my_r2 hf)
def f_X0_becomeLike (σ : my_M) (e0 : Nat) (e1 : Nat) : Option (Unit × my_M) :=
(if e0 < 2 then
(if e1 < 2 then
(if my_cpok layC (12 + 5 * e1) (12 + 5 * e0) 0 0 ((my_up σ (11 + 5 * e0) 0 (σ (11 + 5 * e1) 0)) (11 + 5 * e0) 0) then
(if my_cpok layC (13 + 5 * e1) (13 + 5 * e0) 0 0 ((my_cp (my_up σ (11 + 5 * e0) 0 (σ (11 + 5 * e1) 0)) (12 + 5 * e1) (12 + 5 * e0) 0 0 ((my_up σ (11 + 5 * e0) 0 (σ (11 + 5 * e1) 0)) (11 + 5 * e0) 0)) (11 + 5 * e0) 0) then
(if my_cpok layC (14 + 5 * e1) (14 + 5 * e0) 0 0 ((my_cp (my_cp (my_up σ (11 + 5 * e0) 0 (σ (11 + 5 * e1) 0)) (12 + 5 * e1) (12 + 5 * e0) 0 0 ((my_up σ (11 + 5 * e0) 0 (σ (11 + 5 * e1) 0)) (11 + 5 * e0) 0)) (13 + 5 * e1) (13 + 5 * e0) 0 0 ((my_cp (my_up σ (11 + 5 * e0) 0 (σ (11 + 5 * e1) 0)) (12 + 5 * e1) (12 + 5 * e0) 0 0 ((my_up σ (11 + 5 * e0) 0 (σ (11 + 5 * e1) 0)) (11 + 5 * e0) 0)) (11 + 5 * e0) 0)) (11 + 5 * e0) 0) then
some ((), (my_cp (my_cp (my_cp (my_up σ (11 + 5 * e0) 0 (σ (11 + 5 * e1) 0)) (12 + 5 * e1) (12 + 5 * e0) 0 0 ((my_up σ (11 + 5 * e0) 0 (σ (11 + 5 * e1) 0)) (11 + 5 * e0) 0)) (13 + 5 * e1) (13 + 5 * e0) 0 0 ((my_cp (my_up σ (11 + 5 * e0) 0 (σ (11 + 5 * e1) 0)) (12 + 5 * e1) (12 + 5 * e0) 0 0 ((my_up σ (11 + 5 * e0) 0 (σ (11 + 5 * e1) 0)) (11 + 5 * e0) 0)) (11 + 5 * e0) 0)) (14 + 5 * e1) (14 + 5 * e0) 0 0 ((my_cp (my_cp (my_up σ (11 + 5 * e0) 0 (σ (11 + 5 * e1) 0)) (12 + 5 * e1) (12 + 5 * e0) 0 0 ((my_up σ (11 + 5 * e0) 0 (σ (11 + 5 * e1) 0)) (11 + 5 * e0) 0)) (13 + 5 * e1) (13 + 5 * e0) 0 0 ((my_cp (my_up σ (11 + 5 * e0) 0 (σ (11 + 5 * e1) 0)) (12 + 5 * e1) (12 + 5 * e0) 0 0 ((my_up σ (11 + 5 * e0) 0 (σ (11 + 5 * e1) 0)) (11 + 5 * e0) 0)) (11 + 5 * e0) 0)) (11 + 5 * e0) 0)))
else none)
else none)
else none)
else none)
else none)
set_option maxRecDepth 100000 in
set_option maxHeartbeats 4000000 in
theorem ct_X0_becomeLike (w : my_V) {σ : my_M} {e0 : Nat} {e1 : Nat} {r : Unit} {τ : my_M} (hf : f_X0_becomeLike σ e0 e1 = some (r, τ)) : Ct w layC mX0_becomeLike 1 [.ref (w.2.2.2 (11 + 5 * e0)), .ref (w.2.2.2 (11 + 5 * e1))] σ none τ := by
  refine my_met RX0 [some (.ref (w.2.2.2 (11 + 5 * e0))), some (.ref (w.2.2.2 (11 + 5 * e1)))] 0 (by decide) rfl (Nat.le_of_ble_eq_true rfl) rfl (fun X h => ?_)
  unfold f_X0_becomeLike at hf
  obtain ⟨hb0, hf⟩ := my_chk hf
  obtain ⟨hb1, hf⟩ := my_chk hf
  refine g_al0 h 1 dX0_becomeLike_0 rfl ?_
  refine g_al1 h 2 dX0_becomeLike_1 rfl ?_
  refine g_geti h 5 fF_X0_24_X0 (lyC_X0 hb1) rfl dX0_becomeLike_2 rfl ?_
  refine g_puti h 8 fP_X0_24_X0 (lyC_X0 hb0) rfl dX0_becomeLike_5 rfl ?_
  refine g_al1 h 9 dX0_becomeLike_8 rfl ?_
  refine g_geta h 12 fF_X0_9_X0 (lyC_X0 hb1) rfl dX0_becomeLike_9 rfl ?_
  refine g_iconst h 13 ic_0 dX0_becomeLike_12 rfl ?_
  refine g_al0 h 14 dX0_becomeLike_13 rfl ?_
  refine g_geta h 17 fF_X0_9_X0 (lyC_X0 hb0) rfl dX0_becomeLike_14 rfl ?_
  refine g_iconst h 18 ic_0 dX0_becomeLike_17 rfl ?_
  refine g_al0 h 19 dX0_becomeLike_18 rfl ?_
  refine g_geti h 22 fF_X0_24_X0 (lyC_X0 hb0) rfl dX0_becomeLike_19 rfl ?_
  obtain ⟨hq1, hf⟩ := my_chk hf
  refine g_copy h 25 tw_ml_X0_28 (Nat.le_of_ble_eq_true rfl) dX0_becomeLike_22 rfl (Nat.le_of_ble_eq_true rfl) hq1 ?_
  refine g_al1 h 26 dX0_becomeLike_25 rfl ?_
  refine g_geta h 29 fF_X0_15_X0 (lyC_X0 hb1) rfl dX0_becomeLike_26 rfl ?_
  refine g_iconst h 30 ic_0 dX0_becomeLike_29 rfl ?_
  refine g_al0 h 31 dX0_becomeLike_30 rfl ?_
  refine g_geta h 34 fF_X0_15_X0 (lyC_X0 hb0) rfl dX0_becomeLike_31 rfl ?_
  refine g_iconst h 35 ic_0 dX0_becomeLike_34 rfl ?_
  refine g_al0 h 36 dX0_becomeLike_35 rfl ?_
  refine g_geti h 39 fF_X0_24_X0 (lyC_X0 hb0) rfl dX0_becomeLike_36 rfl ?_
  obtain ⟨hq2, hf⟩ := my_chk hf
  refine g_copy h 42 tw_ml_X0_28 (Nat.le_of_ble_eq_true rfl) dX0_becomeLike_39 rfl (Nat.le_of_ble_eq_true rfl) hq2 ?_
  refine g_al1 h 43 dX0_becomeLike_42 rfl ?_
  refine g_geta h 46 fF_X0_18_X0 (lyC_X0 hb1) rfl dX0_becomeLike_43 rfl ?_
  refine g_iconst h 47 ic_0 dX0_becomeLike_46 rfl ?_
  refine g_al0 h 48 dX0_becomeLike_47 rfl ?_
  refine g_geta h 51 fF_X0_18_X0 (lyC_X0 hb0) rfl dX0_becomeLike_48 rfl ?_
  refine g_iconst h 52 ic_0 dX0_becomeLike_51 rfl ?_
  refine g_al0 h 53 dX0_becomeLike_52 rfl ?_
  refine g_geti h 56 fF_X0_24_X0 (lyC_X0 hb0) rfl dX0_becomeLike_53 rfl ?_
  obtain ⟨hq3, hf⟩ := my_chk hf
  refine g_copy h 59 tw_ml_X0_28 (Nat.le_of_ble_eq_true rfl) dX0_becomeLike_56 rfl (Nat.le_of_ble_eq_true rfl) hq3 ?_
  exact g_vret h dX0_becomeLike_59 rfl (my_r2 hf)
def b_X0_firstOfTwo_0 (k0 : my_M → Nat → Int32 → Option (Int32 × my_M)) (σ : my_M) (e0 : Nat) (x1 : Int32) : Option (Int32 × my_M) :=
(if e0 < 2 then
(if 25 < x1 then
some ((-9), σ)
else
(if my_ix x1 (my_len layC (15 + 5 * e0)) then
(my_bnd (f_J6_bitCount_0f7a4 σ (σ (15 + 5 * e0) (Int32.toNatClampNeg x1))) fun r2 σ2 =>
(if r2 < 2 then
k0 σ2 e0 ((x1 + 1))
else
some (x1, σ2)))
else none))
else none)
def g_X0_firstOfTwo : Nat → my_M → Nat → Int32 → Option (Int32 × my_M)
  | 0 => fun _ _ _ => none
  | n + 1 => b_X0_firstOfTwo_0 (g_X0_firstOfTwo n)
def f_X0_firstOfTwo (σ : my_M) (e0 : Nat) : Option (Int32 × my_M) :=
(if e0 < 2 then
(g_X0_firstOfTwo my_NF) σ e0 0
else none)
set_option maxRecDepth 100000 in
set_option maxHeartbeats 4000000 in
theorem lp_X0_firstOfTwo (w : my_V) {X : my_X} {r : Int32} {τ : my_M} (h : my_OK X w layC cX0_firstOfTwo RX0 2 (some .int)) : ∀ n : Nat, (∀ (σ : my_M) (e0 : Nat) (x1 : Int32), (g_X0_firstOfTwo n) σ e0 x1 = some (r, τ) → Go X w layC 2 2 (some (.int r)) τ σ 2 [some (.ref (w.2.2.2 (11 + 5 * e0))), some (.int x1)] []) := by
  intro n
  induction n with
  | zero => exact fun _ _ _ hf => (my_nn hf).elim
  | succ n ih =>
    intro σ e0 x1 hf
    replace hf : b_X0_firstOfTwo_0 (g_X0_firstOfTwo n) σ e0 x1 = some (r, τ) := hf
    unfold b_X0_firstOfTwo_0 at hf
    obtain ⟨hb0, hf⟩ := my_chk hf
    refine g_il1 h 3 dX0_firstOfTwo_2 rfl ?_
    refine g_bipush h 5 bp_25 dX0_firstOfTwo_3 rfl ?_
    refine g_icgt h 29 8 dX0_firstOfTwo_5 (by decide) rfl (fun hc => ?_) (fun hc => ?_)
    · have hf := my_ifT hc hf
      refine g_bipush h 31 bp_m9 dX0_firstOfTwo_29 rfl ?_
      exact g_iret h dX0_firstOfTwo_31 (my_r1 hf) (my_r2 hf)
    · have hf := my_ifF hc hf
      refine g_al0 h 9 dX0_firstOfTwo_8 rfl ?_
      refine g_geta h 12 fF_X0_21_X0 (lyC_X0 hb0) rfl dX0_firstOfTwo_9 rfl ?_
      refine g_il1 h 13 dX0_firstOfTwo_12 rfl ?_
      obtain ⟨hq1, hf⟩ := my_chk hf
      refine g_iald h 14 dX0_firstOfTwo_13 rfl hq1 ?_
      obtain ⟨r2, σ2, hc2, hf⟩ := my_ofb hf
      refine g_callSi h 17 cs_X0_54 (ct_J6_bitCount_0f7a4 w hc2) rfl rfl (Nat.le_of_ble_eq_true rfl) ⟨Nat.le_of_ble_eq_true rfl, Nat.le_of_ble_eq_true rfl⟩ dX0_firstOfTwo_14 rfl ?_
      refine g_iconst h 18 ic_2 dX0_firstOfTwo_17 rfl ?_
      refine g_iclt h 23 21 dX0_firstOfTwo_18 (by decide) rfl (fun hc => ?_) (fun hc => ?_)
      · have hf := my_ifT hc hf
        refine g_inc1 h 26 (my_inc ic_1 _) (Nat.le_of_ble_eq_true rfl) rfl dX0_firstOfTwo_23 rfl ?_
        refine g_goto h 2 dX0_firstOfTwo_26 (by decide) ?_
        exact g_weak (ih _ _ _ hf) (w_s (w_s w_0))
      · have hf := my_ifF hc hf
        refine g_il1 h 22 dX0_firstOfTwo_21 rfl ?_
        exact g_iret h dX0_firstOfTwo_22 (my_r1 hf) (my_r2 hf)
set_option maxRecDepth 100000 in
set_option maxHeartbeats 4000000 in
theorem ct_X0_firstOfTwo (w : my_V) {σ : my_M} {e0 : Nat} {r : Int32} {τ : my_M} (hf : f_X0_firstOfTwo σ e0 = some (r, τ)) : Ct w layC mX0_firstOfTwo 2 [.ref (w.2.2.2 (11 + 5 * e0))] σ (some (.int r)) τ := by
  refine my_met RX0 [some (.ref (w.2.2.2 (11 + 5 * e0))), none] 1 (by decide) rfl (Nat.le_of_ble_eq_true rfl) rfl (fun X h => ?_)
  unfold f_X0_firstOfTwo at hf
  obtain ⟨hb0, hf⟩ := my_chk hf
  refine g_iconst h 1 ic_0 dX0_firstOfTwo_0 rfl ?_
  refine g_is1 h 2 (Nat.le_of_ble_eq_true rfl) rfl dX0_firstOfTwo_1 rfl ?_
  exact g_weak ((lp_X0_firstOfTwo w h my_NF) _ _ _ hf) (w_s (w_s w_0))
def b_X0_lastSounding_0 (k0 : my_M → Nat → Int32 → Option (Int32 × my_M)) (σ : my_M) (e0 : Nat) (x1 : Int32) : Option (Int32 × my_M) :=
(if e0 < 2 then
(if x1 < 0 then
some ((-9), σ)
else
(if my_ix x1 (my_len layC (15 + 5 * e0)) then
(if (σ (15 + 5 * e0) (Int32.toNatClampNeg x1)) = 0 then
k0 σ e0 ((x1 + (-1)))
else
some (x1, σ))
else none))
else none)
def g_X0_lastSounding : Nat → my_M → Nat → Int32 → Option (Int32 × my_M)
  | 0 => fun _ _ _ => none
  | n + 1 => b_X0_lastSounding_0 (g_X0_lastSounding n)
def f_X0_lastSounding (σ : my_M) (e0 : Nat) : Option (Int32 × my_M) :=
(if e0 < 2 then
(g_X0_lastSounding my_NF) σ e0 25
else none)
set_option maxRecDepth 100000 in
set_option maxHeartbeats 4000000 in
theorem lp_X0_lastSounding (w : my_V) {X : my_X} {r : Int32} {τ : my_M} (h : my_OK X w layC cX0_lastSounding RX0 2 (some .int)) : ∀ n : Nat, (∀ (σ : my_M) (e0 : Nat) (x1 : Int32), (g_X0_lastSounding n) σ e0 x1 = some (r, τ) → Go X w layC 1 2 (some (.int r)) τ σ 3 [some (.ref (w.2.2.2 (11 + 5 * e0))), some (.int x1)] []) := by
  intro n
  induction n with
  | zero => exact fun _ _ _ hf => (my_nn hf).elim
  | succ n ih =>
    intro σ e0 x1 hf
    replace hf : b_X0_lastSounding_0 (g_X0_lastSounding n) σ e0 x1 = some (r, τ) := hf
    unfold b_X0_lastSounding_0 at hf
    obtain ⟨hb0, hf⟩ := my_chk hf
    refine g_il1 h 4 dX0_lastSounding_3 rfl ?_
    refine g_iflt h 24 7 dX0_lastSounding_4 (by decide) rfl (fun hc => ?_) (fun hc => ?_)
    · have hf := my_ifT hc hf
      refine g_bipush h 26 bp_m9 dX0_lastSounding_24 rfl ?_
      exact g_iret h dX0_lastSounding_26 (my_r1 hf) (my_r2 hf)
    · have hf := my_ifF hc hf
      refine g_al0 h 8 dX0_lastSounding_7 rfl ?_
      refine g_geta h 11 fF_X0_21_X0 (lyC_X0 hb0) rfl dX0_lastSounding_8 rfl ?_
      refine g_il1 h 12 dX0_lastSounding_11 rfl ?_
      obtain ⟨hq1, hf⟩ := my_chk hf
      refine g_iald h 13 dX0_lastSounding_12 rfl hq1 ?_
      refine g_ifeq h 18 16 dX0_lastSounding_13 (by decide) rfl (fun hc => ?_) (fun hc => ?_)
      · have hf := my_ifT hc hf
        refine g_inc1 h 21 (my_inc ic_m1 _) (Nat.le_of_ble_eq_true rfl) rfl dX0_lastSounding_18 rfl ?_
        refine g_goto h 3 dX0_lastSounding_21 (by decide) ?_
        exact g_weak (ih _ _ _ hf) (w_s (w_s w_0))
      · have hf := my_ifF hc hf
        refine g_il1 h 17 dX0_lastSounding_16 rfl ?_
        exact g_iret h dX0_lastSounding_17 (my_r1 hf) (my_r2 hf)
set_option maxRecDepth 100000 in
set_option maxHeartbeats 4000000 in
theorem ct_X0_lastSounding (w : my_V) {σ : my_M} {e0 : Nat} {r : Int32} {τ : my_M} (hf : f_X0_lastSounding σ e0 = some (r, τ)) : Ct w layC mX0_lastSounding 1 [.ref (w.2.2.2 (11 + 5 * e0))] σ (some (.int r)) τ := by
  refine my_met RX0 [some (.ref (w.2.2.2 (11 + 5 * e0))), none] 1 (by decide) rfl (Nat.le_of_ble_eq_true rfl) rfl (fun X h => ?_)
  unfold f_X0_lastSounding at hf
  obtain ⟨hb0, hf⟩ := my_chk hf
  refine g_bipush h 2 bp_25 dX0_lastSounding_0 rfl ?_
  refine g_is1 h 3 (Nat.le_of_ble_eq_true rfl) rfl dX0_lastSounding_2 rfl ?_
  exact g_weak ((lp_X0_lastSounding w h my_NF) _ _ _ hf) (w_s (w_s w_0))
def b_X0_sound_0 (k0 : my_M → Nat → Int32 → Option (Unit × my_M)) (k1 : my_M → Nat → Int32 → Nat → Int32 → Option (Unit × my_M)) (σ : my_M) (e0 : Nat) (x2 : Int32) : Option (Unit × my_M) :=
(if e0 < 2 then
(if (σ (11 + 5 * e0) 0) ≤ x2 then
some ((), σ)
else
(if my_ix x2 (my_len layC (12 + 5 * e0)) then
(if my_ix (σ (12 + 5 * e0) (Int32.toNatClampNeg x2)) 4 then
k1 σ e0 x2 ((7 + (Int32.toNatClampNeg (σ (12 + 5 * e0) (Int32.toNatClampNeg x2))))) 0
else none)
else none))
else none)
def b_X0_sound_1 (k0 : my_M → Nat → Int32 → Option (Unit × my_M)) (k1 : my_M → Nat → Int32 → Nat → Int32 → Option (Unit × my_M)) (σ : my_M) (e0 : Nat) (x2 : Int32) (a3 : Nat) (x4 : Int32) : Option (Unit × my_M) :=
(if e0 < 2 then
(if (σ 1 2) ≤ x4 then
k0 σ e0 ((x2 + 1))
else
(if my_ix x4 (my_len layC a3) then
(if (σ a3 (Int32.toNatClampNeg x4)) = (-1) then
k1 σ e0 x2 a3 ((x4 + 1))
else
(if my_ix x2 (my_len layC (13 + 5 * e0)) then
(if my_ix ((σ (13 + 5 * e0) (Int32.toNatClampNeg x2)) + x4) (my_len layC (15 + 5 * e0)) then
(if my_ix x4 (my_len layC a3) then
(if my_ix x2 (my_len layC (14 + 5 * e0)) then
(if my_ix ((σ (13 + 5 * e0) (Int32.toNatClampNeg x2)) + x4) (my_len layC (15 + 5 * e0)) then
k1 (my_up σ (15 + 5 * e0) (Int32.toNatClampNeg ((σ (13 + 5 * e0) (Int32.toNatClampNeg x2)) + x4)) ((σ (15 + 5 * e0) (Int32.toNatClampNeg ((σ (13 + 5 * e0) (Int32.toNatClampNeg x2)) + x4))) ||| (1 <<< (((σ a3 (Int32.toNatClampNeg x4)) + (σ (14 + 5 * e0) (Int32.toNatClampNeg x2))) &&& 31)))) e0 x2 a3 ((x4 + 1))
else none)
else none)
else none)
else none)
else none))
else none))
else none)
def g_X0_sound : Nat → (my_M → Nat → Int32 → Option (Unit × my_M)) × (my_M → Nat → Int32 → Nat → Int32 → Option (Unit × my_M))
  | 0 => (fun _ _ _ => none, fun _ _ _ _ _ => none)
  | n + 1 => (b_X0_sound_0 (g_X0_sound n).1 (g_X0_sound n).2, b_X0_sound_1 (g_X0_sound n).1 (g_X0_sound n).2)
def f_X0_sound (σ : my_M) (e0 : Nat) : Option (Unit × my_M) :=
(if e0 < 2 then
(my_bnd (f_J7_fill_53178 σ (15 + 5 * e0) 0) fun r1 σ1 =>
(g_X0_sound my_NF).1 σ1 e0 0)
else none)
set_option maxRecDepth 100000 in
set_option maxHeartbeats 4000000 in
theorem lp_X0_sound (w : my_V) {X : my_X} {r : Unit} {τ : my_M} (h : my_OK X w layC cX0_sound RX0 5 (none)) : ∀ n : Nat, (∀ (σ : my_M) (e0 : Nat) (x2 : Int32), (g_X0_sound n).1 σ e0 x2 = some (r, τ) → Go X w layC 2 5 none τ σ 10 [some (.ref (w.2.2.2 (11 + 5 * e0))), some (.ref (w.2.2.2 1)), some (.int x2), none, none] []) ∧ (∀ (σ : my_M) (e0 : Nat) (x2 : Int32) (a3 : Nat) (x4 : Int32), (g_X0_sound n).2 σ e0 x2 a3 x4 = some (r, τ) → Go X w layC 2 5 none τ σ 36 [some (.ref (w.2.2.2 (11 + 5 * e0))), some (.ref (w.2.2.2 1)), some (.int x2), some (.ref (w.2.2.2 a3)), some (.int x4)] []) := by
  intro n
  induction n with
  | zero => exact ⟨fun _ _ _ hf => (my_nn hf).elim, fun _ _ _ _ _ hf => (my_nn hf).elim⟩
  | succ n ih =>
    refine ⟨?_, ?_⟩
    · intro σ e0 x2 hf
      replace hf : b_X0_sound_0 (g_X0_sound n).1 (g_X0_sound n).2 σ e0 x2 = some (r, τ) := hf
      unfold b_X0_sound_0 at hf
      obtain ⟨hb0, hf⟩ := my_chk hf
      refine g_il2 h 11 dX0_sound_10 rfl ?_
      refine g_al0 h 12 dX0_sound_11 rfl ?_
      refine g_geti h 15 fF_X0_24_X0 (lyC_X0 hb0) rfl dX0_sound_12 rfl ?_
      refine g_icge h 95 18 dX0_sound_15 (by decide) rfl (fun hc => ?_) (fun hc => ?_)
      · have hf := my_ifT hc hf
        exact g_vret h dX0_sound_95 rfl (my_r2 hf)
      · have hf := my_ifF hc hf
        refine g_al1 h 19 dX0_sound_18 rfl ?_
        refine g_geta h 22 fF_X0_40_X2 lyC_1 rfl dX0_sound_19 rfl ?_
        refine g_al0 h 23 dX0_sound_22 rfl ?_
        refine g_geta h 26 fF_X0_9_X0 (lyC_X0 hb0) rfl dX0_sound_23 rfl ?_
        refine g_il2 h 27 dX0_sound_26 rfl ?_
        obtain ⟨hq1, hf⟩ := my_chk hf
        refine g_iald h 28 dX0_sound_27 rfl hq1 ?_
        obtain ⟨hq2, hf⟩ := my_chk hf
        refine g_aald h 29 lyC_2 rfl dX0_sound_28 rfl hq2 ?_
        refine g_geta h 32 fF_X0_46_X1 (lyC_X1 (my_ixlt hq2)) rfl dX0_sound_29 rfl ?_
        refine g_as3 h 33 (Nat.le_of_ble_eq_true rfl) rfl dX0_sound_32 rfl ?_
        refine g_iconst h 34 ic_0 dX0_sound_33 rfl ?_
        refine g_is4 h 36 (Nat.le_of_ble_eq_true rfl) rfl dX0_sound_34 rfl ?_
        exact g_weak (ih.2 _ _ _ _ _ hf) (w_s (w_s (w_s (w_s (w_s w_0)))))
    · intro σ e0 x2 a3 x4 hf
      replace hf : b_X0_sound_1 (g_X0_sound n).1 (g_X0_sound n).2 σ e0 x2 a3 x4 = some (r, τ) := hf
      unfold b_X0_sound_1 at hf
      obtain ⟨hb0, hf⟩ := my_chk hf
      refine g_il4 h 38 dX0_sound_36 rfl ?_
      refine g_al1 h 39 dX0_sound_38 rfl ?_
      refine g_geti h 42 fF_X0_51_X2 lyC_1 rfl dX0_sound_39 rfl ?_
      refine g_icge h 89 45 dX0_sound_42 (by decide) rfl (fun hc => ?_) (fun hc => ?_)
      · have hf := my_ifT hc hf
        refine g_inc2 h 92 (my_inc ic_1 _) (Nat.le_of_ble_eq_true rfl) rfl dX0_sound_89 rfl ?_
        refine g_goto h 10 dX0_sound_92 (by decide) ?_
        exact g_weak (ih.1 _ _ _ hf) (w_s (w_s (w_s (w_n (w_n w_0)))))
      · have hf := my_ifF hc hf
        refine g_al3 h 46 dX0_sound_45 rfl ?_
        refine g_il4 h 48 dX0_sound_46 rfl ?_
        obtain ⟨hq1, hf⟩ := my_chk hf
        refine g_iald h 49 dX0_sound_48 rfl hq1 ?_
        refine g_iconst h 50 ic_m1 dX0_sound_49 rfl ?_
        refine g_iceq h 83 53 dX0_sound_50 (by decide) rfl (fun hc => ?_) (fun hc => ?_)
        · have hf := my_ifT hc hf
          refine g_inc4 h 86 (my_inc ic_1 _) (Nat.le_of_ble_eq_true rfl) rfl dX0_sound_83 rfl ?_
          refine g_goto h 36 dX0_sound_86 (by decide) ?_
          exact g_weak (ih.2 _ _ _ _ _ hf) (w_s (w_s (w_s (w_s (w_s w_0)))))
        · have hf := my_ifF hc hf
          refine g_al0 h 54 dX0_sound_53 rfl ?_
          refine g_geta h 57 fF_X0_21_X0 (lyC_X0 hb0) rfl dX0_sound_54 rfl ?_
          refine g_al0 h 58 dX0_sound_57 rfl ?_
          refine g_geta h 61 fF_X0_15_X0 (lyC_X0 hb0) rfl dX0_sound_58 rfl ?_
          refine g_il2 h 62 dX0_sound_61 rfl ?_
          obtain ⟨hq2, hf⟩ := my_chk hf
          refine g_iald h 63 dX0_sound_62 rfl hq2 ?_
          refine g_il4 h 65 dX0_sound_63 rfl ?_
          refine g_iadd h 66 dX0_sound_65 rfl ?_
          refine g_dup2 h 67 rfl rfl dX0_sound_66 rfl ?_
          obtain ⟨hq3, hf⟩ := my_chk hf
          refine g_iald h 68 dX0_sound_67 rfl hq3 ?_
          refine g_iconst h 69 ic_1 dX0_sound_68 rfl ?_
          refine g_al3 h 70 dX0_sound_69 rfl ?_
          refine g_il4 h 72 dX0_sound_70 rfl ?_
          obtain ⟨hq4, hf⟩ := my_chk hf
          refine g_iald h 73 dX0_sound_72 rfl hq4 ?_
          refine g_al0 h 74 dX0_sound_73 rfl ?_
          refine g_geta h 77 fF_X0_18_X0 (lyC_X0 hb0) rfl dX0_sound_74 rfl ?_
          refine g_il2 h 78 dX0_sound_77 rfl ?_
          obtain ⟨hq5, hf⟩ := my_chk hf
          refine g_iald h 79 dX0_sound_78 rfl hq5 ?_
          refine g_iadd h 80 dX0_sound_79 rfl ?_
          refine g_ishl h 81 dX0_sound_80 rfl ?_
          refine g_ior h 82 dX0_sound_81 rfl ?_
          obtain ⟨hq6, hf⟩ := my_chk hf
          refine g_iast h 83 dX0_sound_82 rfl hq6 ?_
          refine g_inc4 h 86 (my_inc ic_1 _) (Nat.le_of_ble_eq_true rfl) rfl dX0_sound_83 rfl ?_
          refine g_goto h 36 dX0_sound_86 (by decide) ?_
          exact g_weak (ih.2 _ _ _ _ _ hf) (w_s (w_s (w_s (w_s (w_s w_0)))))
set_option maxRecDepth 100000 in
set_option maxHeartbeats 4000000 in
theorem ct_X0_sound (w : my_V) {σ : my_M} {e0 : Nat} {r : Unit} {τ : my_M} (hf : f_X0_sound σ e0 = some (r, τ)) : Ct w layC mX0_sound 2 [.ref (w.2.2.2 (11 + 5 * e0)), .ref (w.2.2.2 1)] σ none τ := by
  refine my_met RX0 [some (.ref (w.2.2.2 (11 + 5 * e0))), some (.ref (w.2.2.2 1)), none, none, none] 3 (by decide) rfl (Nat.le_of_ble_eq_true rfl) rfl (fun X h => ?_)
  unfold f_X0_sound at hf
  obtain ⟨hb0, hf⟩ := my_chk hf
  refine g_al0 h 1 dX0_sound_0 rfl ?_
  refine g_geta h 4 fF_X0_21_X0 (lyC_X0 hb0) rfl dX0_sound_1 rfl ?_
  refine g_iconst h 5 ic_0 dX0_sound_4 rfl ?_
  obtain ⟨r1, σ1, hc1, hf⟩ := my_ofb hf
  refine g_callSv h 8 cs_X0_34 (ct_J7_fill_53178 w hc1) rfl rfl (Nat.le_of_ble_eq_true rfl) ⟨Nat.le_of_ble_eq_true rfl, Nat.le_of_ble_eq_true rfl⟩ dX0_sound_5 rfl ?_
  refine g_iconst h 9 ic_0 dX0_sound_8 rfl ?_
  refine g_is2 h 10 (Nat.le_of_ble_eq_true rfl) rfl dX0_sound_9 rfl ?_
  exact g_weak ((lp_X0_sound w h my_NF).1 _ _ _ hf) (w_s (w_s (w_s (w_s (w_s w_0)))))
def b_X0_soundingMoments_0 (k0 : my_M → Int32 → Nat → Int32 → Int32 → Option (Int32 × my_M)) (σ : my_M) (x1 : Int32) (a2 : Nat) (x3 : Int32) (x4 : Int32) : Option (Int32 × my_M) :=
(if x3 ≤ x4 then
some (x1, σ)
else
(if my_ix x4 (my_len layC a2) then
(if (σ a2 (Int32.toNatClampNeg x4)) = 0 then
k0 σ x1 a2 x3 ((x4 + 1))
else
k0 σ ((x1 + 1)) a2 x3 ((x4 + 1)))
else none))
def g_X0_soundingMoments : Nat → my_M → Int32 → Nat → Int32 → Int32 → Option (Int32 × my_M)
  | 0 => fun _ _ _ _ _ => none
  | n + 1 => b_X0_soundingMoments_0 (g_X0_soundingMoments n)
def f_X0_soundingMoments (σ : my_M) (e0 : Nat) : Option (Int32 × my_M) :=
(if e0 < 2 then
(if 0 < my_len layC (15 + 5 * e0) then
(g_X0_soundingMoments my_NF) σ 0 ((15 + 5 * e0)) ((nI (my_len layC (15 + 5 * e0)))) 0
else none)
else none)
set_option maxRecDepth 100000 in
set_option maxHeartbeats 4000000 in
theorem lp_X0_soundingMoments (w : my_V) {X : my_X} {r : Int32} {τ : my_M} (h : my_OK X w layC cX0_soundingMoments RX0 6 (some .int)) : ∀ n : Nat, (∀ (σ : my_M) (x1 : Int32) (a2 : Nat) (x3 : Int32) (x4 : Int32), (g_X0_soundingMoments n) σ x1 a2 x3 x4 = some (r, τ) → Go X w layC 1 6 (some (.int r)) τ σ 13 [none, some (.int x1), some (.ref (w.2.2.2 a2)), some (.int x3), some (.int x4), none] []) := by
  intro n
  induction n with
  | zero => exact fun _ _ _ _ _ hf => (my_nn hf).elim
  | succ n ih =>
    intro σ x1 a2 x3 x4 hf
    replace hf : b_X0_soundingMoments_0 (g_X0_soundingMoments n) σ x1 a2 x3 x4 = some (r, τ) := hf
    unfold b_X0_soundingMoments_0 at hf
    refine g_il4 h 15 dX0_soundingMoments_13 rfl ?_
    refine g_il3 h 16 dX0_soundingMoments_15 rfl ?_
    refine g_icge h 39 19 dX0_soundingMoments_16 (by decide) rfl (fun hc => ?_) (fun hc => ?_)
    · have hf := my_ifT hc hf
      refine g_il1 h 40 dX0_soundingMoments_39 rfl ?_
      exact g_iret h dX0_soundingMoments_40 (my_r1 hf) (my_r2 hf)
    · have hf := my_ifF hc hf
      refine g_al2 h 20 dX0_soundingMoments_19 rfl ?_
      refine g_il4 h 22 dX0_soundingMoments_20 rfl ?_
      obtain ⟨hq1, hf⟩ := my_chk hf
      refine g_iald h 23 dX0_soundingMoments_22 rfl hq1 ?_
      refine g_is5 h 25 (Nat.le_of_ble_eq_true rfl) rfl dX0_soundingMoments_23 rfl ?_
      refine g_il5 h 27 dX0_soundingMoments_25 rfl ?_
      refine g_ifeq h 33 30 dX0_soundingMoments_27 (by decide) rfl (fun hc => ?_) (fun hc => ?_)
      · have hf := my_ifT hc hf
        refine g_inc4 h 36 (my_inc ic_1 _) (Nat.le_of_ble_eq_true rfl) rfl dX0_soundingMoments_33 rfl ?_
        refine g_goto h 13 dX0_soundingMoments_36 (by decide) ?_
        exact g_weak (ih _ _ _ _ _ hf) (w_s (w_s (w_s (w_s (w_s (w_n w_0))))))
      · have hf := my_ifF hc hf
        refine g_inc1 h 33 (my_inc ic_1 _) (Nat.le_of_ble_eq_true rfl) rfl dX0_soundingMoments_30 rfl ?_
        refine g_inc4 h 36 (my_inc ic_1 _) (Nat.le_of_ble_eq_true rfl) rfl dX0_soundingMoments_33 rfl ?_
        refine g_goto h 13 dX0_soundingMoments_36 (by decide) ?_
        exact g_weak (ih _ _ _ _ _ hf) (w_s (w_s (w_s (w_s (w_s (w_n w_0))))))
set_option maxRecDepth 100000 in
set_option maxHeartbeats 4000000 in
theorem ct_X0_soundingMoments (w : my_V) {σ : my_M} {e0 : Nat} {r : Int32} {τ : my_M} (hf : f_X0_soundingMoments σ e0 = some (r, τ)) : Ct w layC mX0_soundingMoments 1 [.ref (w.2.2.2 (11 + 5 * e0))] σ (some (.int r)) τ := by
  refine my_met RX0 [some (.ref (w.2.2.2 (11 + 5 * e0))), none, none, none, none, none] 5 (by decide) rfl (Nat.le_of_ble_eq_true rfl) rfl (fun X h => ?_)
  unfold f_X0_soundingMoments at hf
  obtain ⟨hb0, hf⟩ := my_chk hf
  refine g_iconst h 1 ic_0 dX0_soundingMoments_0 rfl ?_
  refine g_is1 h 2 (Nat.le_of_ble_eq_true rfl) rfl dX0_soundingMoments_1 rfl ?_
  refine g_al0 h 3 dX0_soundingMoments_2 rfl ?_
  refine g_geta h 6 fF_X0_21_X0 (lyC_X0 hb0) rfl dX0_soundingMoments_3 rfl ?_
  refine g_as2 h 7 (Nat.le_of_ble_eq_true rfl) rfl dX0_soundingMoments_6 rfl ?_
  refine g_al2 h 8 dX0_soundingMoments_7 rfl ?_
  obtain ⟨hq1, hf⟩ := my_chk hf
  refine g_alen h 9 dX0_soundingMoments_8 rfl hq1 ?_
  refine g_is3 h 10 (Nat.le_of_ble_eq_true rfl) rfl dX0_soundingMoments_9 rfl ?_
  refine g_iconst h 11 ic_0 dX0_soundingMoments_10 rfl ?_
  refine g_is4 h 13 (Nat.le_of_ble_eq_true rfl) rfl dX0_soundingMoments_11 rfl ?_
  exact g_weak ((lp_X0_soundingMoments w h my_NF) _ _ _ _ _ hf) (w_n (w_s (w_s (w_s (w_s (w_s w_0))))))
def f_X1_counted (σ : my_M) (e0 : Nat) (x1 : Int32) (x2 : Int32) : Option (Int32 × my_M) :=
(if e0 < 4 then
(if x1 = 0 then
(if (σ (3 + e0) 0) = 0 then
some ((if x1 = 0 then 0 else 1 : Int32), σ)
else
(if (σ (3 + e0) 0) = 1 then
some ((if x2 = 0 then 0 else 1 : Int32), σ)
else
some (((if x2 = 0 then 0 else 1 : Int32) + (if x1 = 0 then 0 else 1 : Int32)), σ)))
else
(if (σ (3 + e0) 0) = 0 then
some ((if x1 = 0 then 0 else 1 : Int32), σ)
else
(if (σ (3 + e0) 0) = 1 then
some (1, σ)
else
some ((1 + (if x1 = 0 then 0 else 1 : Int32)), σ))))
else none)
set_option maxRecDepth 100000 in
set_option maxHeartbeats 4000000 in
theorem ct_X1_counted (w : my_V) {σ : my_M} {e0 : Nat} {x1 : Int32} {x2 : Int32} {r : Int32} {τ : my_M} (hf : f_X1_counted σ e0 x1 x2 = some (r, τ)) : Ct w layC mX1_counted 1 [.ref (w.2.2.2 (3 + e0)), .int x1, .int x2] σ (some (.int r)) τ := by
  refine my_met RX1 [some (.ref (w.2.2.2 (3 + e0))), some (.int x1), some (.int x2), none, none] 2 (by decide) rfl (Nat.le_of_ble_eq_true rfl) rfl (fun X h => ?_)
  unfold f_X1_counted at hf
  obtain ⟨hb0, hf⟩ := my_chk hf
  refine g_il1 h 1 dX1_counted_0 rfl ?_
  refine g_ifeq_sel h 8 9 dX1_counted_1 (by decide) dX1_counted_4 ic_1 dX1_counted_5 (by decide) dX1_counted_8 ic_0 rfl ?_
  refine g_is3 h 10 (Nat.le_of_ble_eq_true rfl) rfl dX1_counted_9 rfl ?_
  refine g_il1 h 11 dX1_counted_10 rfl ?_
  refine g_ifne h 18 14 dX1_counted_11 (by decide) rfl (fun hc => ?_) (fun hc => ?_)
  · have hf := my_ifF hc hf
    refine g_iconst h 19 ic_1 dX1_counted_18 rfl ?_
    refine g_goto h 23 dX1_counted_19 (by decide) ?_
    refine g_is4 h 25 (Nat.le_of_ble_eq_true rfl) rfl dX1_counted_23 rfl ?_
    refine g_al0 h 26 dX1_counted_25 rfl ?_
    refine g_geti h 29 fF_X1_15_X1 (lyC_X1 hb0) rfl dX1_counted_26 rfl ?_
    refine g_ifne h 34 32 dX1_counted_29 (by decide) rfl (fun hc => ?_) (fun hc => ?_)
    · have hf := my_ifF hc hf
      refine g_al0 h 35 dX1_counted_34 rfl ?_
      refine g_geti h 38 fF_X1_15_X1 (lyC_X1 hb0) rfl dX1_counted_35 rfl ?_
      refine g_iconst h 39 ic_1 dX1_counted_38 rfl ?_
      refine g_icne h 47 42 dX1_counted_39 (by decide) rfl (fun hc => ?_) (fun hc => ?_)
      · have hf := my_ifF hc hf
        refine g_il4 h 49 dX1_counted_47 rfl ?_
        refine g_il3 h 50 dX1_counted_49 rfl ?_
        refine g_iadd h 51 dX1_counted_50 rfl ?_
        exact g_iret h dX1_counted_51 (my_r1 hf) (my_r2 hf)
      · have hf := my_ifT hc hf
        refine g_il4 h 44 dX1_counted_42 rfl ?_
        refine g_goto h 51 dX1_counted_44 (by decide) ?_
        exact g_iret h dX1_counted_51 (my_r1 hf) (my_r2 hf)
    · have hf := my_ifT hc hf
      refine g_il3 h 33 dX1_counted_32 rfl ?_
      exact g_iret h dX1_counted_33 (my_r1 hf) (my_r2 hf)
  · have hf := my_ifT hc hf
    refine g_il2 h 15 dX1_counted_14 rfl ?_
    refine g_ifeq_sel h 22 23 dX1_counted_15 (by decide) dX1_counted_18 ic_1 dX1_counted_19 (by decide) dX1_counted_22 ic_0 rfl ?_
    refine g_is4 h 25 (Nat.le_of_ble_eq_true rfl) rfl dX1_counted_23 rfl ?_
    refine g_al0 h 26 dX1_counted_25 rfl ?_
    refine g_geti h 29 fF_X1_15_X1 (lyC_X1 hb0) rfl dX1_counted_26 rfl ?_
    refine g_ifne h 34 32 dX1_counted_29 (by decide) rfl (fun hc => ?_) (fun hc => ?_)
    · have hf := my_ifF hc hf
      refine g_al0 h 35 dX1_counted_34 rfl ?_
      refine g_geti h 38 fF_X1_15_X1 (lyC_X1 hb0) rfl dX1_counted_35 rfl ?_
      refine g_iconst h 39 ic_1 dX1_counted_38 rfl ?_
      refine g_icne h 47 42 dX1_counted_39 (by decide) rfl (fun hc => ?_) (fun hc => ?_)
      · have hf := my_ifF hc hf
        refine g_il4 h 49 dX1_counted_47 rfl ?_
        refine g_il3 h 50 dX1_counted_49 rfl ?_
        refine g_iadd h 51 dX1_counted_50 rfl ?_
        exact g_iret h dX1_counted_51 (my_r1 hf) (my_r2 hf)
      · have hf := my_ifT hc hf
        refine g_il4 h 44 dX1_counted_42 rfl ?_
        refine g_goto h 51 dX1_counted_44 (by decide) ?_
        exact g_iret h dX1_counted_51 (my_r1 hf) (my_r2 hf)
    · have hf := my_ifT hc hf
      refine g_il3 h 33 dX1_counted_32 rfl ?_
      exact g_iret h dX1_counted_33 (my_r1 hf) (my_r2 hf)
def b_X1_freeBeats_0 (k0 : my_M → Nat → Int32 → Int32 → Int32 → Option (Int32 × my_M)) (σ : my_M) (e0 : Nat) (x1 : Int32) (x2 : Int32) (x3 : Int32) : Option (Int32 × my_M) :=
(if e0 < 4 then
(if x1 ≤ x3 then
some (x2, σ)
else
(if my_ix x3 (my_len layC (7 + e0)) then
(if (σ (7 + e0) (Int32.toNatClampNeg x3)) = (-1) then
k0 σ e0 x1 ((x2 + 1)) ((x3 + 1))
else
k0 σ e0 x1 x2 ((x3 + 1)))
else none))
else none)
def g_X1_freeBeats : Nat → my_M → Nat → Int32 → Int32 → Int32 → Option (Int32 × my_M)
  | 0 => fun _ _ _ _ _ => none
  | n + 1 => b_X1_freeBeats_0 (g_X1_freeBeats n)
def f_X1_freeBeats (σ : my_M) (e0 : Nat) (x1 : Int32) : Option (Int32 × my_M) :=
(if e0 < 4 then
(g_X1_freeBeats my_NF) σ e0 x1 0 0
else none)
set_option maxRecDepth 100000 in
set_option maxHeartbeats 4000000 in
theorem lp_X1_freeBeats (w : my_V) {X : my_X} {r : Int32} {τ : my_M} (h : my_OK X w layC cX1_freeBeats RX1 4 (some .int)) : ∀ n : Nat, (∀ (σ : my_M) (e0 : Nat) (x1 : Int32) (x2 : Int32) (x3 : Int32), (g_X1_freeBeats n) σ e0 x1 x2 x3 = some (r, τ) → Go X w layC 1 4 (some (.int r)) τ σ 4 [some (.ref (w.2.2.2 (3 + e0))), some (.int x1), some (.int x2), some (.int x3)] []) := by
  intro n
  induction n with
  | zero => exact fun _ _ _ _ _ hf => (my_nn hf).elim
  | succ n ih =>
    intro σ e0 x1 x2 x3 hf
    replace hf : b_X1_freeBeats_0 (g_X1_freeBeats n) σ e0 x1 x2 x3 = some (r, τ) := hf
    unfold b_X1_freeBeats_0 at hf
    obtain ⟨hb0, hf⟩ := my_chk hf
    refine g_il3 h 5 dX1_freeBeats_4 rfl ?_
    refine g_il1 h 6 dX1_freeBeats_5 rfl ?_
    refine g_icge h 28 9 dX1_freeBeats_6 (by decide) rfl (fun hc => ?_) (fun hc => ?_)
    · have hf := my_ifT hc hf
      refine g_il2 h 29 dX1_freeBeats_28 rfl ?_
      exact g_iret h dX1_freeBeats_29 (my_r1 hf) (my_r2 hf)
    · have hf := my_ifF hc hf
      refine g_al0 h 10 dX1_freeBeats_9 rfl ?_
      refine g_geta h 13 fF_X1_9_X1 (lyC_X1 hb0) rfl dX1_freeBeats_10 rfl ?_
      refine g_il3 h 14 dX1_freeBeats_13 rfl ?_
      obtain ⟨hq1, hf⟩ := my_chk hf
      refine g_iald h 15 dX1_freeBeats_14 rfl hq1 ?_
      refine g_iconst h 16 ic_m1 dX1_freeBeats_15 rfl ?_
      refine g_icne h 22 19 dX1_freeBeats_16 (by decide) rfl (fun hc => ?_) (fun hc => ?_)
      · have hf := my_ifF hc hf
        refine g_inc3 h 25 (my_inc ic_1 _) (Nat.le_of_ble_eq_true rfl) rfl dX1_freeBeats_22 rfl ?_
        refine g_goto h 4 dX1_freeBeats_25 (by decide) ?_
        exact g_weak (ih _ _ _ _ _ hf) (w_s (w_s (w_s (w_s w_0))))
      · have hf := my_ifT hc hf
        refine g_inc2 h 22 (my_inc ic_1 _) (Nat.le_of_ble_eq_true rfl) rfl dX1_freeBeats_19 rfl ?_
        refine g_inc3 h 25 (my_inc ic_1 _) (Nat.le_of_ble_eq_true rfl) rfl dX1_freeBeats_22 rfl ?_
        refine g_goto h 4 dX1_freeBeats_25 (by decide) ?_
        exact g_weak (ih _ _ _ _ _ hf) (w_s (w_s (w_s (w_s w_0))))
set_option maxRecDepth 100000 in
set_option maxHeartbeats 4000000 in
theorem ct_X1_freeBeats (w : my_V) {σ : my_M} {e0 : Nat} {x1 : Int32} {r : Int32} {τ : my_M} (hf : f_X1_freeBeats σ e0 x1 = some (r, τ)) : Ct w layC mX1_freeBeats 1 [.ref (w.2.2.2 (3 + e0)), .int x1] σ (some (.int r)) τ := by
  refine my_met RX1 [some (.ref (w.2.2.2 (3 + e0))), some (.int x1), none, none] 2 (by decide) rfl (Nat.le_of_ble_eq_true rfl) rfl (fun X h => ?_)
  unfold f_X1_freeBeats at hf
  obtain ⟨hb0, hf⟩ := my_chk hf
  refine g_iconst h 1 ic_0 dX1_freeBeats_0 rfl ?_
  refine g_is2 h 2 (Nat.le_of_ble_eq_true rfl) rfl dX1_freeBeats_1 rfl ?_
  refine g_iconst h 3 ic_0 dX1_freeBeats_2 rfl ?_
  refine g_is3 h 4 (Nat.le_of_ble_eq_true rfl) rfl dX1_freeBeats_3 rfl ?_
  exact g_weak ((lp_X1_freeBeats w h my_NF) _ _ _ _ _ hf) (w_s (w_s (w_s (w_s w_0))))
def b_X2_freeBeatsOfAll_0 (k0 : my_M → Int32 → Int32 → Option (Int32 × my_M)) (σ : my_M) (x1 : Int32) (x2 : Int32) : Option (Int32 × my_M) :=
(if (σ 1 1) ≤ x2 then
some (x1, σ)
else
(if my_ix x2 4 then
(my_bnd (f_X1_freeBeats σ (Int32.toNatClampNeg x2) (σ 1 2)) fun r2 σ2 =>
k0 σ2 ((x1 + r2)) ((x2 + 1)))
else none))
def g_X2_freeBeatsOfAll : Nat → my_M → Int32 → Int32 → Option (Int32 × my_M)
  | 0 => fun _ _ _ => none
  | n + 1 => b_X2_freeBeatsOfAll_0 (g_X2_freeBeatsOfAll n)
def f_X2_freeBeatsOfAll (σ : my_M) : Option (Int32 × my_M) :=
(g_X2_freeBeatsOfAll my_NF) σ 0 0
set_option maxRecDepth 100000 in
set_option maxHeartbeats 4000000 in
theorem lp_X2_freeBeatsOfAll (w : my_V) {X : my_X} {r : Int32} {τ : my_M} (h : my_OK X w layC cX2_freeBeatsOfAll RX2 3 (some .int)) : ∀ n : Nat, (∀ (σ : my_M) (x1 : Int32) (x2 : Int32), (g_X2_freeBeatsOfAll n) σ x1 x2 = some (r, τ) → Go X w layC 2 3 (some (.int r)) τ σ 4 [some (.ref (w.2.2.2 1)), some (.int x1), some (.int x2)] []) := by
  intro n
  induction n with
  | zero => exact fun _ _ _ hf => (my_nn hf).elim
  | succ n ih =>
    intro σ x1 x2 hf
    replace hf : b_X2_freeBeatsOfAll_0 (g_X2_freeBeatsOfAll n) σ x1 x2 = some (r, τ) := hf
    unfold b_X2_freeBeatsOfAll_0 at hf
    refine g_il2 h 5 dX2_freeBeatsOfAll_4 rfl ?_
    refine g_al0 h 6 dX2_freeBeatsOfAll_5 rfl ?_
    refine g_geti h 9 fF_X2_18_X2 lyC_1 rfl dX2_freeBeatsOfAll_6 rfl ?_
    refine g_icge h 34 12 dX2_freeBeatsOfAll_9 (by decide) rfl (fun hc => ?_) (fun hc => ?_)
    · have hf := my_ifT hc hf
      refine g_il1 h 35 dX2_freeBeatsOfAll_34 rfl ?_
      exact g_iret h dX2_freeBeatsOfAll_35 (my_r1 hf) (my_r2 hf)
    · have hf := my_ifF hc hf
      refine g_il1 h 13 dX2_freeBeatsOfAll_12 rfl ?_
      refine g_al0 h 14 dX2_freeBeatsOfAll_13 rfl ?_
      refine g_geta h 17 fF_X2_11_X2 lyC_1 rfl dX2_freeBeatsOfAll_14 rfl ?_
      refine g_il2 h 18 dX2_freeBeatsOfAll_17 rfl ?_
      obtain ⟨hq1, hf⟩ := my_chk hf
      refine g_aald h 19 lyC_2 rfl dX2_freeBeatsOfAll_18 rfl hq1 ?_
      refine g_al0 h 20 dX2_freeBeatsOfAll_19 rfl ?_
      refine g_geti h 23 fF_X2_26_X2 lyC_1 rfl dX2_freeBeatsOfAll_20 rfl ?_
      obtain ⟨r2, σ2, hc2, hf⟩ := my_ofb hf
      refine g_callVi h 26 cs_X2_29 rfl (lyC_X1 (my_ixlt hq1)) (ct_X1_freeBeats w hc2) rfl rfl (Nat.le_of_ble_eq_true rfl) ⟨Nat.le_of_ble_eq_true rfl, Nat.le_of_ble_eq_true rfl⟩ dX2_freeBeatsOfAll_23 rfl ?_
      refine g_iadd h 27 dX2_freeBeatsOfAll_26 rfl ?_
      refine g_is1 h 28 (Nat.le_of_ble_eq_true rfl) rfl dX2_freeBeatsOfAll_27 rfl ?_
      refine g_inc2 h 31 (my_inc ic_1 _) (Nat.le_of_ble_eq_true rfl) rfl dX2_freeBeatsOfAll_28 rfl ?_
      refine g_goto h 4 dX2_freeBeatsOfAll_31 (by decide) ?_
      exact g_weak (ih _ _ _ hf) (w_s (w_s (w_s w_0)))
set_option maxRecDepth 100000 in
set_option maxHeartbeats 4000000 in
theorem ct_X2_freeBeatsOfAll (w : my_V) {σ : my_M} {r : Int32} {τ : my_M} (hf : f_X2_freeBeatsOfAll σ = some (r, τ)) : Ct w layC mX2_freeBeatsOfAll 2 [.ref (w.2.2.2 1)] σ (some (.int r)) τ := by
  refine my_met RX2 [some (.ref (w.2.2.2 1)), none, none] 2 (by decide) rfl (Nat.le_of_ble_eq_true rfl) rfl (fun X h => ?_)
  unfold f_X2_freeBeatsOfAll at hf
  refine g_iconst h 1 ic_0 dX2_freeBeatsOfAll_0 rfl ?_
  refine g_is1 h 2 (Nat.le_of_ble_eq_true rfl) rfl dX2_freeBeatsOfAll_1 rfl ?_
  refine g_iconst h 3 ic_0 dX2_freeBeatsOfAll_2 rfl ?_
  refine g_is2 h 4 (Nat.le_of_ble_eq_true rfl) rfl dX2_freeBeatsOfAll_3 rfl ?_
  exact g_weak ((lp_X2_freeBeatsOfAll w h my_NF) _ _ _ hf) (w_s (w_s (w_s w_0)))
def f_X8_isWithin (σ : my_M) (x0 : Int32) (x1 : Int32) (x2 : Int32) : Option (Int32 × my_M) :=
(if x0 < x1 then
some (0, σ)
else
(if my_b (if x2 < x0 then 0 else 1 : Int32) then some ((if x2 < x0 then 0 else 1 : Int32), σ) else none))
set_option maxRecDepth 100000 in
set_option maxHeartbeats 4000000 in
theorem ct_X8_isWithin (w : my_V) {σ : my_M} {x0 : Int32} {x1 : Int32} {x2 : Int32} {r : Int32} {τ : my_M} (hf : f_X8_isWithin σ x0 x1 x2 = some (r, τ)) : Ct w layC mX8_isWithin 1 [.int x0, .int x1, .int x2] σ (some (.int r)) τ := by
  refine my_met RX8 [some (.int x0), some (.int x1), some (.int x2)] 0 (by decide) rfl (Nat.le_of_ble_eq_true rfl) rfl (fun X h => ?_)
  unfold f_X8_isWithin at hf
  refine g_il0 h 1 dX8_isWithin_0 rfl ?_
  refine g_il1 h 2 dX8_isWithin_1 rfl ?_
  refine g_iclt h 14 5 dX8_isWithin_2 (by decide) rfl (fun hc => ?_) (fun hc => ?_)
  · have hf := my_ifT hc hf
    refine g_iconst h 15 ic_0 dX8_isWithin_14 rfl ?_
    exact g_zret h dX8_isWithin_15 (Or.inl rfl) (my_r1 hf) (my_r2 hf)
  · have hf := my_ifF hc hf
    refine g_il0 h 6 dX8_isWithin_5 rfl ?_
    refine g_il2 h 7 dX8_isWithin_6 rfl ?_
    refine g_icgt_sel h 14 15 dX8_isWithin_7 (by decide) dX8_isWithin_10 ic_1 dX8_isWithin_11 (by decide) dX8_isWithin_14 ic_0 rfl ?_
    obtain ⟨hqz, hf⟩ := my_chk hf
    exact g_zret h dX8_isWithin_15 hqz (my_r1 hf) (my_r2 hf)
def f_X2_has (σ : my_M) (x1 : Int32) : Option (Int32 × my_M) :=
(my_bnd (f_X8_isWithin σ x1 0 ((σ 1 1) - 1)) fun r1 σ1 =>
(if my_b r1 then some (r1, σ1) else none))
set_option maxRecDepth 100000 in
set_option maxHeartbeats 4000000 in
theorem ct_X2_has (w : my_V) {σ : my_M} {x1 : Int32} {r : Int32} {τ : my_M} (hf : f_X2_has σ x1 = some (r, τ)) : Ct w layC mX2_has 2 [.ref (w.2.2.2 1), .int x1] σ (some (.int r)) τ := by
  refine my_met RX2 [some (.ref (w.2.2.2 1)), some (.int x1)] 0 (by decide) rfl (Nat.le_of_ble_eq_true rfl) rfl (fun X h => ?_)
  unfold f_X2_has at hf
  refine g_il1 h 1 dX2_has_0 rfl ?_
  refine g_iconst h 2 ic_0 dX2_has_1 rfl ?_
  refine g_al0 h 3 dX2_has_2 rfl ?_
  refine g_geti h 6 fF_X2_18_X2 lyC_1 rfl dX2_has_3 rfl ?_
  refine g_iconst h 7 ic_1 dX2_has_6 rfl ?_
  refine g_isub h 8 dX2_has_7 rfl ?_
  obtain ⟨r1, σ1, hc1, hf⟩ := my_ofb hf
  refine g_callNi h 11 cs_X2_22 (ct_X8_isWithin w hc1) rfl rfl (Nat.le_of_ble_eq_true rfl) ⟨Nat.le_of_ble_eq_true rfl, Nat.le_of_ble_eq_true rfl⟩ dX2_has_8 rfl ?_
  obtain ⟨hqz, hf⟩ := my_chk hf
  exact g_zret h dX2_has_11 hqz (my_r1 hf) (my_r2 hf)
def f_X2_hasBeat (σ : my_M) (x1 : Int32) : Option (Int32 × my_M) :=
(my_bnd (f_X8_isWithin σ x1 0 ((σ 1 2) - 1)) fun r1 σ1 =>
(if my_b r1 then some (r1, σ1) else none))
set_option maxRecDepth 100000 in
set_option maxHeartbeats 4000000 in
theorem ct_X2_hasBeat (w : my_V) {σ : my_M} {x1 : Int32} {r : Int32} {τ : my_M} (hf : f_X2_hasBeat σ x1 = some (r, τ)) : Ct w layC mX2_hasBeat 2 [.ref (w.2.2.2 1), .int x1] σ (some (.int r)) τ := by
  refine my_met RX2 [some (.ref (w.2.2.2 1)), some (.int x1)] 0 (by decide) rfl (Nat.le_of_ble_eq_true rfl) rfl (fun X h => ?_)
  unfold f_X2_hasBeat at hf
  refine g_il1 h 1 dX2_hasBeat_0 rfl ?_
  refine g_iconst h 2 ic_0 dX2_hasBeat_1 rfl ?_
  refine g_al0 h 3 dX2_hasBeat_2 rfl ?_
  refine g_geti h 6 fF_X2_26_X2 lyC_1 rfl dX2_hasBeat_3 rfl ?_
  refine g_iconst h 7 ic_1 dX2_hasBeat_6 rfl ?_
  refine g_isub h 8 dX2_hasBeat_7 rfl ?_
  obtain ⟨r1, σ1, hc1, hf⟩ := my_ofb hf
  refine g_callNi h 11 cs_X2_22 (ct_X8_isWithin w hc1) rfl rfl (Nat.le_of_ble_eq_true rfl) ⟨Nat.le_of_ble_eq_true rfl, Nat.le_of_ble_eq_true rfl⟩ dX2_hasBeat_8 rfl ?_
  obtain ⟨hqz, hf⟩ := my_chk hf
  exact g_zret h dX2_hasBeat_11 hqz (my_r1 hf) (my_r2 hf)
def b_X2_heard_0 (k0 : my_M → Int32 → Int32 → Nat → Nat → Int32 → Int32 → Option (Int32 × my_M)) (σ : my_M) (x3 : Int32) (x4 : Int32) (e5 : Nat) (a6 : Nat) (x7 : Int32) (x8 : Int32) : Option (Int32 × my_M) :=
(if e5 < 4 then
(if (σ 1 2) ≤ x8 then
some (x7, σ)
else
(my_bnd (f_X2_hasBeat σ (x8 + x3)) fun r1 σ1 =>
(if r1 = 0 then
k0 σ1 x3 x4 e5 a6 x7 ((x8 + 1))
else
(if my_ix x8 (my_len layC a6) then
(if (σ1 a6 (Int32.toNatClampNeg x8)) = (-1) then
k0 σ1 x3 x4 e5 a6 x7 ((x8 + 1))
else
(if my_ix (x8 + x3) (my_len layC (7 + e5)) then
(if (σ1 (7 + e5) (Int32.toNatClampNeg (x8 + x3))) = (-1) then
k0 σ1 x3 x4 e5 a6 x7 ((x8 + 1))
else
(if my_ix (x8 + x3) (my_len layC (7 + e5)) then
(if my_ix x8 (my_len layC a6) then
(if ((σ1 (7 + e5) (Int32.toNatClampNeg (x8 + x3))) - ((σ1 a6 (Int32.toNatClampNeg x8)) + x4)) = 1 then
(my_bnd (f_X1_counted σ1 e5 (if ((σ1 (7 + e5) (Int32.toNatClampNeg (x8 + x3))) - ((σ1 a6 (Int32.toNatClampNeg x8)) + x4)) = 0 then 1 else 0 : Int32) 1) fun r6 σ6 =>
k0 σ6 x3 x4 e5 a6 ((x7 + r6)) ((x8 + 1)))
else
(my_bnd (f_X1_counted σ1 e5 (if ((σ1 (7 + e5) (Int32.toNatClampNeg (x8 + x3))) - ((σ1 a6 (Int32.toNatClampNeg x8)) + x4)) = 0 then 1 else 0 : Int32) (if ((σ1 (7 + e5) (Int32.toNatClampNeg (x8 + x3))) - ((σ1 a6 (Int32.toNatClampNeg x8)) + x4)) = (-1) then 1 else 0 : Int32)) fun r7 σ7 =>
k0 σ7 x3 x4 e5 a6 ((x7 + r7)) ((x8 + 1))))
else none)
else none))
else none))
else none))))
else none)
def g_X2_heard : Nat → my_M → Int32 → Int32 → Nat → Nat → Int32 → Int32 → Option (Int32 × my_M)
  | 0 => fun _ _ _ _ _ _ _ => none
  | n + 1 => b_X2_heard_0 (g_X2_heard n)
def f_X2_heard (σ : my_M) (x1 : Int32) (x2 : Int32) (x3 : Int32) (x4 : Int32) : Option (Int32 × my_M) :=
(if my_ix x1 4 then
(if my_ix x2 4 then
(g_X2_heard my_NF) σ x3 x4 ((Int32.toNatClampNeg x1)) ((7 + (Int32.toNatClampNeg x2))) 0 0
else none)
else none)
set_option maxRecDepth 100000 in
set_option maxHeartbeats 4000000 in
theorem lp_X2_heard (w : my_V) {X : my_X} {r : Int32} {τ : my_M} (h : my_OK X w layC cX2_heard RX2 11 (some .int)) : ∀ n : Nat, (∀ (σ : my_M) (x3 : Int32) (x4 : Int32) (e5 : Nat) (a6 : Nat) (x7 : Int32) (x8 : Int32), (g_X2_heard n) σ x3 x4 e5 a6 x7 x8 = some (r, τ) → Go X w layC 3 11 (some (.int r)) τ σ 25 [some (.ref (w.2.2.2 1)), none, none, some (.int x3), some (.int x4), some (.ref (w.2.2.2 (3 + e5))), some (.ref (w.2.2.2 a6)), some (.int x7), some (.int x8), none, none] []) := by
  intro n
  induction n with
  | zero => exact fun _ _ _ _ _ _ _ hf => (my_nn hf).elim
  | succ n ih =>
    intro σ x3 x4 e5 a6 x7 x8 hf
    replace hf : b_X2_heard_0 (g_X2_heard n) σ x3 x4 e5 a6 x7 x8 = some (r, τ) := hf
    unfold b_X2_heard_0 at hf
    obtain ⟨hb5, hf⟩ := my_chk hf
    refine g_il8 h 27 dX2_heard_25 rfl ?_
    refine g_al0 h 28 dX2_heard_27 rfl ?_
    refine g_geti h 31 fF_X2_26_X2 lyC_1 rfl dX2_heard_28 rfl ?_
    refine g_icge h 132 34 dX2_heard_31 (by decide) rfl (fun hc => ?_) (fun hc => ?_)
    · have hf := my_ifT hc hf
      refine g_il7 h 134 dX2_heard_132 rfl ?_
      exact g_iret h dX2_heard_134 (my_r1 hf) (my_r2 hf)
    · have hf := my_ifF hc hf
      refine g_il8 h 36 dX2_heard_34 rfl ?_
      refine g_il3 h 37 dX2_heard_36 rfl ?_
      refine g_iadd h 38 dX2_heard_37 rfl ?_
      refine g_is9 h 40 (Nat.le_of_ble_eq_true rfl) rfl dX2_heard_38 rfl ?_
      refine g_al0 h 41 dX2_heard_40 rfl ?_
      refine g_il9 h 43 dX2_heard_41 rfl ?_
      obtain ⟨r1, σ1, hc1, hf⟩ := my_ofb hf
      refine g_callVi h 46 cs_X2_50 rfl lyC_1 (ct_X2_hasBeat w hc1) rfl rfl (Nat.le_of_ble_eq_true rfl) ⟨Nat.le_of_ble_eq_true rfl, Nat.le_of_ble_eq_true rfl⟩ dX2_heard_43 rfl ?_
      refine g_ifeq h 126 49 dX2_heard_46 (by decide) rfl (fun hc => ?_) (fun hc => ?_)
      · have hf := my_ifT hc hf
        refine g_inc8 h 129 (my_inc ic_1 _) (Nat.le_of_ble_eq_true rfl) rfl dX2_heard_126 rfl ?_
        refine g_goto h 25 dX2_heard_129 (by decide) ?_
        exact g_weak (ih _ _ _ _ _ _ _ hf) (w_s (w_s (w_s (w_s (w_s (w_s (w_s (w_s (w_s (w_n (w_s w_0)))))))))))
      · have hf := my_ifF hc hf
        refine g_al6 h 51 dX2_heard_49 rfl ?_
        refine g_il8 h 53 dX2_heard_51 rfl ?_
        obtain ⟨hq2, hf⟩ := my_chk hf
        refine g_iald h 54 dX2_heard_53 rfl hq2 ?_
        refine g_iconst h 55 ic_m1 dX2_heard_54 rfl ?_
        refine g_iceq h 126 58 dX2_heard_55 (by decide) rfl (fun hc => ?_) (fun hc => ?_)
        · have hf := my_ifT hc hf
          refine g_inc8 h 129 (my_inc ic_1 _) (Nat.le_of_ble_eq_true rfl) rfl dX2_heard_126 rfl ?_
          refine g_goto h 25 dX2_heard_129 (by decide) ?_
          exact g_weak (ih _ _ _ _ _ _ _ hf) (w_s (w_s (w_s (w_s (w_s (w_s (w_s (w_s (w_s (w_n (w_s w_0)))))))))))
        · have hf := my_ifF hc hf
          refine g_al5 h 60 dX2_heard_58 rfl ?_
          refine g_geta h 63 fF_X2_47_X1 (lyC_X1 hb5) rfl dX2_heard_60 rfl ?_
          refine g_il9 h 65 dX2_heard_63 rfl ?_
          obtain ⟨hq3, hf⟩ := my_chk hf
          refine g_iald h 66 dX2_heard_65 rfl hq3 ?_
          refine g_iconst h 67 ic_m1 dX2_heard_66 rfl ?_
          refine g_iceq h 126 70 dX2_heard_67 (by decide) rfl (fun hc => ?_) (fun hc => ?_)
          · have hf := my_ifT hc hf
            refine g_inc8 h 129 (my_inc ic_1 _) (Nat.le_of_ble_eq_true rfl) rfl dX2_heard_126 rfl ?_
            refine g_goto h 25 dX2_heard_129 (by decide) ?_
            exact g_weak (ih _ _ _ _ _ _ _ hf) (w_s (w_s (w_s (w_s (w_s (w_s (w_s (w_s (w_s (w_n (w_s w_0)))))))))))
          · have hf := my_ifF hc hf
            refine g_al5 h 72 dX2_heard_70 rfl ?_
            refine g_geta h 75 fF_X2_47_X1 (lyC_X1 hb5) rfl dX2_heard_72 rfl ?_
            refine g_il9 h 77 dX2_heard_75 rfl ?_
            obtain ⟨hq4, hf⟩ := my_chk hf
            refine g_iald h 78 dX2_heard_77 rfl hq4 ?_
            refine g_al6 h 80 dX2_heard_78 rfl ?_
            refine g_il8 h 82 dX2_heard_80 rfl ?_
            obtain ⟨hq5, hf⟩ := my_chk hf
            refine g_iald h 83 dX2_heard_82 rfl hq5 ?_
            refine g_il4 h 85 dX2_heard_83 rfl ?_
            refine g_iadd h 86 dX2_heard_85 rfl ?_
            refine g_isub h 87 dX2_heard_86 rfl ?_
            refine g_is10 h 89 (Nat.le_of_ble_eq_true rfl) rfl dX2_heard_87 rfl ?_
            refine g_il7 h 91 dX2_heard_89 rfl ?_
            refine g_al5 h 93 dX2_heard_91 rfl ?_
            refine g_il10 h 95 dX2_heard_93 rfl ?_
            refine g_ifne_sel h 102 103 dX2_heard_95 (by decide) dX2_heard_98 ic_1 dX2_heard_99 (by decide) dX2_heard_102 ic_0 rfl ?_
            refine g_il10 h 105 dX2_heard_103 rfl ?_
            refine g_iconst h 106 ic_1 dX2_heard_105 rfl ?_
            refine g_iceq h 115 109 dX2_heard_106 (by decide) rfl (fun hc => ?_) (fun hc => ?_)
            · have hf := my_ifT hc hf
              refine g_iconst h 116 ic_1 dX2_heard_115 rfl ?_
              refine g_goto h 120 dX2_heard_116 (by decide) ?_
              obtain ⟨r6, σ6, hc6, hf⟩ := my_ofb hf
              refine g_callVi h 123 cs_X2_54 rfl (lyC_X1 hb5) (ct_X1_counted w hc6) rfl rfl (Nat.le_of_ble_eq_true rfl) ⟨Nat.le_of_ble_eq_true rfl, Nat.le_of_ble_eq_true rfl⟩ dX2_heard_120 rfl ?_
              refine g_iadd h 124 dX2_heard_123 rfl ?_
              refine g_is7 h 126 (Nat.le_of_ble_eq_true rfl) rfl dX2_heard_124 rfl ?_
              refine g_inc8 h 129 (my_inc ic_1 _) (Nat.le_of_ble_eq_true rfl) rfl dX2_heard_126 rfl ?_
              refine g_goto h 25 dX2_heard_129 (by decide) ?_
              exact g_weak (ih _ _ _ _ _ _ _ hf) (w_s (w_s (w_s (w_s (w_s (w_s (w_s (w_s (w_s (w_n (w_n w_0)))))))))))
            · have hf := my_ifF hc hf
              refine g_il10 h 111 dX2_heard_109 rfl ?_
              refine g_iconst h 112 ic_m1 dX2_heard_111 rfl ?_
              refine g_icne_sel h 119 120 dX2_heard_112 (by decide) dX2_heard_115 ic_1 dX2_heard_116 (by decide) dX2_heard_119 ic_0 rfl ?_
              obtain ⟨r7, σ7, hc7, hf⟩ := my_ofb hf
              refine g_callVi h 123 cs_X2_54 rfl (lyC_X1 hb5) (ct_X1_counted w hc7) rfl rfl (Nat.le_of_ble_eq_true rfl) ⟨Nat.le_of_ble_eq_true rfl, Nat.le_of_ble_eq_true rfl⟩ dX2_heard_120 rfl ?_
              refine g_iadd h 124 dX2_heard_123 rfl ?_
              refine g_is7 h 126 (Nat.le_of_ble_eq_true rfl) rfl dX2_heard_124 rfl ?_
              refine g_inc8 h 129 (my_inc ic_1 _) (Nat.le_of_ble_eq_true rfl) rfl dX2_heard_126 rfl ?_
              refine g_goto h 25 dX2_heard_129 (by decide) ?_
              exact g_weak (ih _ _ _ _ _ _ _ hf) (w_s (w_s (w_s (w_s (w_s (w_s (w_s (w_s (w_s (w_n (w_n w_0)))))))))))
set_option maxRecDepth 100000 in
set_option maxHeartbeats 4000000 in
theorem ct_X2_heard (w : my_V) {σ : my_M} {x1 : Int32} {x2 : Int32} {x3 : Int32} {x4 : Int32} {r : Int32} {τ : my_M} (hf : f_X2_heard σ x1 x2 x3 x4 = some (r, τ)) : Ct w layC mX2_heard 3 [.ref (w.2.2.2 1), .int x1, .int x2, .int x3, .int x4] σ (some (.int r)) τ := by
  refine my_met RX2 [some (.ref (w.2.2.2 1)), some (.int x1), some (.int x2), some (.int x3), some (.int x4), none, none, none, none, none, none] 6 (by decide) rfl (Nat.le_of_ble_eq_true rfl) rfl (fun X h => ?_)
  unfold f_X2_heard at hf
  refine g_al0 h 1 dX2_heard_0 rfl ?_
  refine g_geta h 4 fF_X2_11_X2 lyC_1 rfl dX2_heard_1 rfl ?_
  refine g_il1 h 5 dX2_heard_4 rfl ?_
  obtain ⟨hq1, hf⟩ := my_chk hf
  refine g_aald h 6 lyC_2 rfl dX2_heard_5 rfl hq1 ?_
  refine g_as5 h 8 (Nat.le_of_ble_eq_true rfl) rfl dX2_heard_6 rfl ?_
  refine g_al0 h 9 dX2_heard_8 rfl ?_
  refine g_geta h 12 fF_X2_11_X2 lyC_1 rfl dX2_heard_9 rfl ?_
  refine g_il2 h 13 dX2_heard_12 rfl ?_
  obtain ⟨hq2, hf⟩ := my_chk hf
  refine g_aald h 14 lyC_2 rfl dX2_heard_13 rfl hq2 ?_
  refine g_geta h 17 fF_X2_47_X1 (lyC_X1 (my_ixlt hq2)) rfl dX2_heard_14 rfl ?_
  refine g_as6 h 19 (Nat.le_of_ble_eq_true rfl) rfl dX2_heard_17 rfl ?_
  refine g_iconst h 20 ic_0 dX2_heard_19 rfl ?_
  refine g_is7 h 22 (Nat.le_of_ble_eq_true rfl) rfl dX2_heard_20 rfl ?_
  refine g_iconst h 23 ic_0 dX2_heard_22 rfl ?_
  refine g_is8 h 25 (Nat.le_of_ble_eq_true rfl) rfl dX2_heard_23 rfl ?_
  exact g_weak ((lp_X2_heard w h my_NF) _ _ _ _ _ _ _ hf) (w_s (w_n (w_n (w_s (w_s (w_s (w_s (w_s (w_s (w_s (w_s w_0)))))))))))
def b_X2_listened_0 (k0 : my_M → Nat → Int32 → Nat → Int32 → Int32 → Option (Int32 × my_M)) (σ : my_M) (a2 : Nat) (x3 : Int32) (e4 : Nat) (x5 : Int32) (x6 : Int32) : Option (Int32 × my_M) :=
(if e4 < 4 then
(if (σ 1 2) ≤ x6 then
some (x5, σ)
else
(if 25 < (x3 + x6) then
some (x5, σ)
else
(if my_ix x6 (my_len layC (7 + e4)) then
(if (σ (7 + e4) (Int32.toNatClampNeg x6)) = (-1) then
k0 σ a2 x3 e4 x5 ((x6 + 1))
else
(if my_ix (x3 + x6) (my_len layC a2) then
(my_bnd (f_X1_counted σ e4 (if (((σ a2 (Int32.toNatClampNeg (x3 + x6))) >>> ((σ (7 + e4) (Int32.toNatClampNeg x6)) &&& 31)) &&& 1) = 1 then 1 else 0 : Int32) (if (((((σ a2 (Int32.toNatClampNeg (x3 + x6))) <<< (1 &&& 31)) ||| ((σ a2 (Int32.toNatClampNeg (x3 + x6))) >>> (1 &&& 31))) >>> ((σ (7 + e4) (Int32.toNatClampNeg x6)) &&& 31)) &&& 1) = 1 then 1 else 0 : Int32)) fun r3 σ3 =>
k0 σ3 a2 x3 e4 ((x5 + r3)) ((x6 + 1)))
else none))
else none)))
else none)
def g_X2_listened : Nat → my_M → Nat → Int32 → Nat → Int32 → Int32 → Option (Int32 × my_M)
  | 0 => fun _ _ _ _ _ _ => none
  | n + 1 => b_X2_listened_0 (g_X2_listened n)
def f_X2_listened (σ : my_M) (x1 : Int32) (a2 : Nat) (x3 : Int32) : Option (Int32 × my_M) :=
(if my_ix x1 4 then
(g_X2_listened my_NF) σ a2 x3 ((Int32.toNatClampNeg x1)) 0 0
else none)
set_option maxRecDepth 100000 in
set_option maxHeartbeats 4000000 in
theorem lp_X2_listened (w : my_V) {X : my_X} {r : Int32} {τ : my_M} (h : my_OK X w layC cX2_listened RX2 10 (some .int)) : ∀ n : Nat, (∀ (σ : my_M) (a2 : Nat) (x3 : Int32) (e4 : Nat) (x5 : Int32) (x6 : Int32), (g_X2_listened n) σ a2 x3 e4 x5 x6 = some (r, τ) → Go X w layC 2 10 (some (.int r)) τ σ 14 [some (.ref (w.2.2.2 1)), none, some (.ref (w.2.2.2 a2)), some (.int x3), some (.ref (w.2.2.2 (3 + e4))), some (.int x5), some (.int x6), none, none, none] []) := by
  intro n
  induction n with
  | zero => exact fun _ _ _ _ _ _ hf => (my_nn hf).elim
  | succ n ih =>
    intro σ a2 x3 e4 x5 x6 hf
    replace hf : b_X2_listened_0 (g_X2_listened n) σ a2 x3 e4 x5 x6 = some (r, τ) := hf
    unfold b_X2_listened_0 at hf
    obtain ⟨hb4, hf⟩ := my_chk hf
    refine g_il6 h 16 dX2_listened_14 rfl ?_
    refine g_al0 h 17 dX2_listened_16 rfl ?_
    refine g_geti h 20 fF_X2_26_X2 lyC_1 rfl dX2_listened_17 rfl ?_
    refine g_icge h 115 23 dX2_listened_20 (by decide) rfl (fun hc => ?_) (fun hc => ?_)
    · have hf := my_ifT hc hf
      refine g_il5 h 117 dX2_listened_115 rfl ?_
      exact g_iret h dX2_listened_117 (my_r1 hf) (my_r2 hf)
    · have hf := my_ifF hc hf
      refine g_il3 h 24 dX2_listened_23 rfl ?_
      refine g_il6 h 26 dX2_listened_24 rfl ?_
      refine g_iadd h 27 dX2_listened_26 rfl ?_
      refine g_bipush h 29 bp_25 dX2_listened_27 rfl ?_
      refine g_icgt h 115 32 dX2_listened_29 (by decide) rfl (fun hc => ?_) (fun hc => ?_)
      · have hf := my_ifT hc hf
        refine g_il5 h 117 dX2_listened_115 rfl ?_
        exact g_iret h dX2_listened_117 (my_r1 hf) (my_r2 hf)
      · have hf := my_ifF hc hf
        refine g_al4 h 34 dX2_listened_32 rfl ?_
        refine g_geta h 37 fF_X2_47_X1 (lyC_X1 hb4) rfl dX2_listened_34 rfl ?_
        refine g_il6 h 39 dX2_listened_37 rfl ?_
        obtain ⟨hq1, hf⟩ := my_chk hf
        refine g_iald h 40 dX2_listened_39 rfl hq1 ?_
        refine g_is7 h 42 (Nat.le_of_ble_eq_true rfl) rfl dX2_listened_40 rfl ?_
        refine g_il7 h 44 dX2_listened_42 rfl ?_
        refine g_iconst h 45 ic_m1 dX2_listened_44 rfl ?_
        refine g_iceq h 109 48 dX2_listened_45 (by decide) rfl (fun hc => ?_) (fun hc => ?_)
        · have hf := my_ifT hc hf
          refine g_inc6 h 112 (my_inc ic_1 _) (Nat.le_of_ble_eq_true rfl) rfl dX2_listened_109 rfl ?_
          refine g_goto h 14 dX2_listened_112 (by decide) ?_
          exact g_weak (ih _ _ _ _ _ _ hf) (w_s (w_s (w_s (w_s (w_s (w_s (w_s (w_n (w_s (w_s w_0))))))))))
        · have hf := my_ifF hc hf
          refine g_al2 h 49 dX2_listened_48 rfl ?_
          refine g_il3 h 50 dX2_listened_49 rfl ?_
          refine g_il6 h 52 dX2_listened_50 rfl ?_
          refine g_iadd h 53 dX2_listened_52 rfl ?_
          obtain ⟨hq2, hf⟩ := my_chk hf
          refine g_iald h 54 dX2_listened_53 rfl hq2 ?_
          refine g_is8 h 56 (Nat.le_of_ble_eq_true rfl) rfl dX2_listened_54 rfl ?_
          refine g_il8 h 58 dX2_listened_56 rfl ?_
          refine g_iconst h 59 ic_1 dX2_listened_58 rfl ?_
          refine g_ishl h 60 dX2_listened_59 rfl ?_
          refine g_il8 h 62 dX2_listened_60 rfl ?_
          refine g_iconst h 63 ic_1 dX2_listened_62 rfl ?_
          refine g_ishr h 64 dX2_listened_63 rfl ?_
          refine g_ior h 65 dX2_listened_64 rfl ?_
          refine g_is9 h 67 (Nat.le_of_ble_eq_true rfl) rfl dX2_listened_65 rfl ?_
          refine g_il5 h 69 dX2_listened_67 rfl ?_
          refine g_al4 h 71 dX2_listened_69 rfl ?_
          refine g_il8 h 73 dX2_listened_71 rfl ?_
          refine g_il7 h 75 dX2_listened_73 rfl ?_
          refine g_ishr h 76 dX2_listened_75 rfl ?_
          refine g_iconst h 77 ic_1 dX2_listened_76 rfl ?_
          refine g_iand h 78 dX2_listened_77 rfl ?_
          refine g_iconst h 79 ic_1 dX2_listened_78 rfl ?_
          refine g_icne_sel h 86 87 dX2_listened_79 (by decide) dX2_listened_82 ic_1 dX2_listened_83 (by decide) dX2_listened_86 ic_0 rfl ?_
          refine g_il9 h 89 dX2_listened_87 rfl ?_
          refine g_il7 h 91 dX2_listened_89 rfl ?_
          refine g_ishr h 92 dX2_listened_91 rfl ?_
          refine g_iconst h 93 ic_1 dX2_listened_92 rfl ?_
          refine g_iand h 94 dX2_listened_93 rfl ?_
          refine g_iconst h 95 ic_1 dX2_listened_94 rfl ?_
          refine g_icne_sel h 102 103 dX2_listened_95 (by decide) dX2_listened_98 ic_1 dX2_listened_99 (by decide) dX2_listened_102 ic_0 rfl ?_
          obtain ⟨r3, σ3, hc3, hf⟩ := my_ofb hf
          refine g_callVi h 106 cs_X2_54 rfl (lyC_X1 hb4) (ct_X1_counted w hc3) rfl rfl (Nat.le_of_ble_eq_true rfl) ⟨Nat.le_of_ble_eq_true rfl, Nat.le_of_ble_eq_true rfl⟩ dX2_listened_103 rfl ?_
          refine g_iadd h 107 dX2_listened_106 rfl ?_
          refine g_is5 h 109 (Nat.le_of_ble_eq_true rfl) rfl dX2_listened_107 rfl ?_
          refine g_inc6 h 112 (my_inc ic_1 _) (Nat.le_of_ble_eq_true rfl) rfl dX2_listened_109 rfl ?_
          refine g_goto h 14 dX2_listened_112 (by decide) ?_
          exact g_weak (ih _ _ _ _ _ _ hf) (w_s (w_s (w_s (w_s (w_s (w_s (w_s (w_n (w_n (w_n w_0))))))))))
set_option maxRecDepth 100000 in
set_option maxHeartbeats 4000000 in
theorem ct_X2_listened (w : my_V) {σ : my_M} {x1 : Int32} {a2 : Nat} {x3 : Int32} {r : Int32} {τ : my_M} (hf : f_X2_listened σ x1 a2 x3 = some (r, τ)) : Ct w layC mX2_listened 2 [.ref (w.2.2.2 1), .int x1, .ref (w.2.2.2 a2), .int x3] σ (some (.int r)) τ := by
  refine my_met RX2 [some (.ref (w.2.2.2 1)), some (.int x1), some (.ref (w.2.2.2 a2)), some (.int x3), none, none, none, none, none, none] 6 (by decide) rfl (Nat.le_of_ble_eq_true rfl) rfl (fun X h => ?_)
  unfold f_X2_listened at hf
  refine g_al0 h 1 dX2_listened_0 rfl ?_
  refine g_geta h 4 fF_X2_11_X2 lyC_1 rfl dX2_listened_1 rfl ?_
  refine g_il1 h 5 dX2_listened_4 rfl ?_
  obtain ⟨hq1, hf⟩ := my_chk hf
  refine g_aald h 6 lyC_2 rfl dX2_listened_5 rfl hq1 ?_
  refine g_as4 h 8 (Nat.le_of_ble_eq_true rfl) rfl dX2_listened_6 rfl ?_
  refine g_iconst h 9 ic_0 dX2_listened_8 rfl ?_
  refine g_is5 h 11 (Nat.le_of_ble_eq_true rfl) rfl dX2_listened_9 rfl ?_
  refine g_iconst h 12 ic_0 dX2_listened_11 rfl ?_
  refine g_is6 h 14 (Nat.le_of_ble_eq_true rfl) rfl dX2_listened_12 rfl ?_
  exact g_weak ((lp_X2_listened w h my_NF) _ _ _ _ _ _ hf) (w_s (w_n (w_s (w_s (w_s (w_s (w_s (w_s (w_s (w_s w_0))))))))))
def b_X2_loudestMoment_0 (k0 : my_M → Int32 → Nat → Int32 → Int32 → Int32 → Option (Int32 × my_M)) (σ : my_M) (x1 : Int32) (a2 : Nat) (x3 : Int32) (x4 : Int32) (x5 : Int32) : Option (Int32 × my_M) :=
(if 25 < x5 then
some (x4, σ)
else
(my_bnd (f_X2_listened σ x1 a2 x5) fun r1 σ1 =>
(if r1 ≤ x3 then
k0 σ1 x1 a2 x3 x4 ((x5 + 1))
else
k0 σ1 x1 a2 r1 x5 ((x5 + 1)))))
def g_X2_loudestMoment : Nat → my_M → Int32 → Nat → Int32 → Int32 → Int32 → Option (Int32 × my_M)
  | 0 => fun _ _ _ _ _ _ => none
  | n + 1 => b_X2_loudestMoment_0 (g_X2_loudestMoment n)
def f_X2_loudestMoment (σ : my_M) (x1 : Int32) (a2 : Nat) : Option (Int32 × my_M) :=
(g_X2_loudestMoment my_NF) σ x1 a2 ((-1)) 0 0
set_option maxRecDepth 100000 in
set_option maxHeartbeats 4000000 in
theorem lp_X2_loudestMoment (w : my_V) {X : my_X} {r : Int32} {τ : my_M} (h : my_OK X w layC cX2_loudestMoment RX2 7 (some .int)) : ∀ n : Nat, (∀ (σ : my_M) (x1 : Int32) (a2 : Nat) (x3 : Int32) (x4 : Int32) (x5 : Int32), (g_X2_loudestMoment n) σ x1 a2 x3 x4 x5 = some (r, τ) → Go X w layC 3 7 (some (.int r)) τ σ 8 [some (.ref (w.2.2.2 1)), some (.int x1), some (.ref (w.2.2.2 a2)), some (.int x3), some (.int x4), some (.int x5), none] []) := by
  intro n
  induction n with
  | zero => exact fun _ _ _ _ _ _ hf => (my_nn hf).elim
  | succ n ih =>
    intro σ x1 a2 x3 x4 x5 hf
    replace hf : b_X2_loudestMoment_0 (g_X2_loudestMoment n) σ x1 a2 x3 x4 x5 = some (r, τ) := hf
    unfold b_X2_loudestMoment_0 at hf
    refine g_il5 h 10 dX2_loudestMoment_8 rfl ?_
    refine g_bipush h 12 bp_25 dX2_loudestMoment_10 rfl ?_
    refine g_icgt h 44 15 dX2_loudestMoment_12 (by decide) rfl (fun hc => ?_) (fun hc => ?_)
    · have hf := my_ifT hc hf
      refine g_il4 h 46 dX2_loudestMoment_44 rfl ?_
      exact g_iret h dX2_loudestMoment_46 (my_r1 hf) (my_r2 hf)
    · have hf := my_ifF hc hf
      refine g_al0 h 16 dX2_loudestMoment_15 rfl ?_
      refine g_il1 h 17 dX2_loudestMoment_16 rfl ?_
      refine g_al2 h 18 dX2_loudestMoment_17 rfl ?_
      refine g_il5 h 20 dX2_loudestMoment_18 rfl ?_
      obtain ⟨r1, σ1, hc1, hf⟩ := my_ofb hf
      refine g_callVi h 23 cs_X2_58 rfl lyC_1 (ct_X2_listened w hc1) rfl rfl (Nat.le_of_ble_eq_true rfl) ⟨Nat.le_of_ble_eq_true rfl, Nat.le_of_ble_eq_true rfl⟩ dX2_loudestMoment_20 rfl ?_
      refine g_is6 h 25 (Nat.le_of_ble_eq_true rfl) rfl dX2_loudestMoment_23 rfl ?_
      refine g_il6 h 27 dX2_loudestMoment_25 rfl ?_
      refine g_il3 h 28 dX2_loudestMoment_27 rfl ?_
      refine g_icle h 38 31 dX2_loudestMoment_28 (by decide) rfl (fun hc => ?_) (fun hc => ?_)
      · have hf := my_ifT hc hf
        refine g_inc5 h 41 (my_inc ic_1 _) (Nat.le_of_ble_eq_true rfl) rfl dX2_loudestMoment_38 rfl ?_
        refine g_goto h 8 dX2_loudestMoment_41 (by decide) ?_
        exact g_weak (ih _ _ _ _ _ _ hf) (w_s (w_s (w_s (w_s (w_s (w_s (w_n w_0)))))))
      · have hf := my_ifF hc hf
        refine g_il6 h 33 dX2_loudestMoment_31 rfl ?_
        refine g_is3 h 34 (Nat.le_of_ble_eq_true rfl) rfl dX2_loudestMoment_33 rfl ?_
        refine g_il5 h 36 dX2_loudestMoment_34 rfl ?_
        refine g_is4 h 38 (Nat.le_of_ble_eq_true rfl) rfl dX2_loudestMoment_36 rfl ?_
        refine g_inc5 h 41 (my_inc ic_1 _) (Nat.le_of_ble_eq_true rfl) rfl dX2_loudestMoment_38 rfl ?_
        refine g_goto h 8 dX2_loudestMoment_41 (by decide) ?_
        exact g_weak (ih _ _ _ _ _ _ hf) (w_s (w_s (w_s (w_s (w_s (w_s (w_n w_0)))))))
set_option maxRecDepth 100000 in
set_option maxHeartbeats 4000000 in
theorem ct_X2_loudestMoment (w : my_V) {σ : my_M} {x1 : Int32} {a2 : Nat} {r : Int32} {τ : my_M} (hf : f_X2_loudestMoment σ x1 a2 = some (r, τ)) : Ct w layC mX2_loudestMoment 3 [.ref (w.2.2.2 1), .int x1, .ref (w.2.2.2 a2)] σ (some (.int r)) τ := by
  refine my_met RX2 [some (.ref (w.2.2.2 1)), some (.int x1), some (.ref (w.2.2.2 a2)), none, none, none, none] 4 (by decide) rfl (Nat.le_of_ble_eq_true rfl) rfl (fun X h => ?_)
  unfold f_X2_loudestMoment at hf
  refine g_iconst h 1 ic_m1 dX2_loudestMoment_0 rfl ?_
  refine g_is3 h 2 (Nat.le_of_ble_eq_true rfl) rfl dX2_loudestMoment_1 rfl ?_
  refine g_iconst h 3 ic_0 dX2_loudestMoment_2 rfl ?_
  refine g_is4 h 5 (Nat.le_of_ble_eq_true rfl) rfl dX2_loudestMoment_3 rfl ?_
  refine g_iconst h 6 ic_0 dX2_loudestMoment_5 rfl ?_
  refine g_is5 h 8 (Nat.le_of_ble_eq_true rfl) rfl dX2_loudestMoment_6 rfl ?_
  exact g_weak ((lp_X2_loudestMoment w h my_NF) _ _ _ _ _ _ hf) (w_s (w_s (w_s (w_s (w_s (w_s (w_s w_0)))))))
def f_X7_kindOf (σ : my_M) (x0 : Int32) : Option (Int32 × my_M) :=
(if x0 = 98 then
some (1, σ)
else
(if x0 = 107 then
some (2, σ)
else
(if x0 = 112 then
some (0, σ)
else
some ((-9), σ))))
set_option maxRecDepth 100000 in
set_option maxHeartbeats 4000000 in
theorem ct_X7_kindOf (w : my_V) {σ : my_M} {x0 : Int32} {r : Int32} {τ : my_M} (hf : f_X7_kindOf σ x0 = some (r, τ)) : Ct w layC mX7_kindOf 1 [.int x0] σ (some (.int r)) τ := by
  refine my_met RX7 [some (.int x0)] 0 (by decide) rfl (Nat.le_of_ble_eq_true rfl) rfl (fun X h => ?_)
  unfold f_X7_kindOf at hf
  refine g_il0 h 1 dX7_kindOf_0 rfl ?_
  by_cases hs1 : x0 = 98
  · have hf := my_ifT hs1 hf
    refine g_lsw (off := 37) h 38 dX7_kindOf_1 (by decide) (by rw [hs1]; rfl) (by decide) ?_
    refine g_iconst h 39 ic_1 dX7_kindOf_38 rfl ?_
    exact g_iret h dX7_kindOf_39 (my_r1 hf) (my_r2 hf)
  · have hf := my_ifF hs1 hf
    by_cases hs2 : x0 = 107
    · have hf := my_ifT hs2 hf
      refine g_lsw (off := 39) h 40 dX7_kindOf_1 (by decide) (by rw [hs2]; rfl) (by decide) ?_
      refine g_iconst h 41 ic_2 dX7_kindOf_40 rfl ?_
      exact g_iret h dX7_kindOf_41 (my_r1 hf) (my_r2 hf)
    · have hf := my_ifF hs2 hf
      by_cases hs3 : x0 = 112
      · have hf := my_ifT hs3 hf
        refine g_lsw (off := 35) h 36 dX7_kindOf_1 (by decide) (by rw [hs3]; rfl) (by decide) ?_
        refine g_iconst h 37 ic_0 dX7_kindOf_36 rfl ?_
        exact g_iret h dX7_kindOf_37 (my_r1 hf) (my_r2 hf)
      · have hf := my_ifF hs3 hf
        refine g_lsw (off := 41) h 42 dX7_kindOf_1 (by decide) (by simp only [List.toList_toArray]; rw [lv_osw (a := 98) hs1 (by decide), lv_osw (a := 107) hs2 (by decide), lv_osw (a := 112) hs3 (by decide)]; rfl) (by decide) ?_
        refine g_bipush h 44 bp_m9 dX7_kindOf_42 rfl ?_
        exact g_iret h dX7_kindOf_44 (my_r1 hf) (my_r2 hf)
def b_X2_take_0 (k0 : my_M → Nat → Int32 → Int32 → Option (Unit × my_M)) (k1 : my_M → Nat → Int32 → Int32 → Int32 → Option (Unit × my_M)) (σ : my_M) (e1 : Nat) (x4 : Int32) (x5 : Int32) : Option (Unit × my_M) :=
(if e1 < 4 then
(if (σ 1 1) ≤ x5 then
some ((), σ)
else
(if my_ix x5 4 then
(if my_ix (x4 + 1) (my_len layC (36 + e1)) then
(my_bnd (f_X7_kindOf σ (σ (36 + e1) (Int32.toNatClampNeg (x4 + 1)))) fun r3 σ3 =>
k1 (my_up σ3 (3 + (Int32.toNatClampNeg x5)) 0 r3) e1 ((x4 + 2)) x5 0)
else none)
else none))
else none)
def b_X2_take_1 (k0 : my_M → Nat → Int32 → Int32 → Option (Unit × my_M)) (k1 : my_M → Nat → Int32 → Int32 → Int32 → Option (Unit × my_M)) (σ : my_M) (e1 : Nat) (x4 : Int32) (x5 : Int32) (x6 : Int32) : Option (Unit × my_M) :=
(if e1 < 4 then
(if (σ 1 2) ≤ x6 then
k0 σ e1 x4 ((x5 + 1))
else
(if my_ix x4 (my_len layC (36 + e1)) then
(if my_ix x5 4 then
(if (σ (36 + e1) (Int32.toNatClampNeg x4)) = 45 then
(if my_ix x6 (my_len layC (7 + (Int32.toNatClampNeg x5))) then
k1 (my_up σ (7 + (Int32.toNatClampNeg x5)) (Int32.toNatClampNeg x6) (-1)) e1 ((x4 + 1)) x5 ((x6 + 1))
else none)
else
(if my_ix x6 (my_len layC (7 + (Int32.toNatClampNeg x5))) then
k1 (my_up σ (7 + (Int32.toNatClampNeg x5)) (Int32.toNatClampNeg x6) ((σ (36 + e1) (Int32.toNatClampNeg x4)) - 48)) e1 ((x4 + 1)) x5 ((x6 + 1))
else none))
else none)
else none))
else none)
def g_X2_take : Nat → (my_M → Nat → Int32 → Int32 → Option (Unit × my_M)) × (my_M → Nat → Int32 → Int32 → Int32 → Option (Unit × my_M))
  | 0 => (fun _ _ _ _ => none, fun _ _ _ _ _ => none)
  | n + 1 => (b_X2_take_0 (g_X2_take n).1 (g_X2_take n).2, b_X2_take_1 (g_X2_take n).1 (g_X2_take n).2)
def f_X2_take (σ : my_M) (e1 : Nat) (x2 : Int32) (x3 : Int32) : Option (Unit × my_M) :=
(if e1 < 4 then
(if my_ix (x2 + 1) (my_len layC (36 + e1)) then
(g_X2_take my_NF).1 (my_up (my_up σ 1 2 ((σ (36 + e1) (Int32.toNatClampNeg (x2 + 1))) - 48)) 1 1 x3) e1 ((x2 + 2)) 0
else none)
else none)
set_option maxRecDepth 100000 in
set_option maxHeartbeats 4000000 in
theorem lp_X2_take (w : my_V) {X : my_X} {r : Unit} {τ : my_M} (h : my_OK X w layC cX2_take RX2 8 (none)) : ∀ n : Nat, (∀ (σ : my_M) (e1 : Nat) (x4 : Int32) (x5 : Int32), (g_X2_take n).1 σ e1 x4 x5 = some (r, τ) → Go X w layC 2 8 none τ σ 28 [some (.ref (w.2.2.2 1)), some (.ref (w.2.2.2 (32 + e1))), none, none, some (.int x4), some (.int x5), none, none] []) ∧ (∀ (σ : my_M) (e1 : Nat) (x4 : Int32) (x5 : Int32) (x6 : Int32), (g_X2_take n).2 σ e1 x4 x5 x6 = some (r, τ) → Go X w layC 2 8 none τ σ 65 [some (.ref (w.2.2.2 1)), some (.ref (w.2.2.2 (32 + e1))), none, none, some (.int x4), some (.int x5), some (.int x6), none] []) := by
  intro n
  induction n with
  | zero => exact ⟨fun _ _ _ _ hf => (my_nn hf).elim, fun _ _ _ _ _ hf => (my_nn hf).elim⟩
  | succ n ih =>
    refine ⟨?_, ?_⟩
    · intro σ e1 x4 x5 hf
      replace hf : b_X2_take_0 (g_X2_take n).1 (g_X2_take n).2 σ e1 x4 x5 = some (r, τ) := hf
      unfold b_X2_take_0 at hf
      obtain ⟨hb1, hf⟩ := my_chk hf
      refine g_il5 h 30 dX2_take_28 rfl ?_
      refine g_al0 h 31 dX2_take_30 rfl ?_
      refine g_geti h 34 fF_X2_18_X2 lyC_1 rfl dX2_take_31 rfl ?_
      refine g_icge h 127 37 dX2_take_34 (by decide) rfl (fun hc => ?_) (fun hc => ?_)
      · have hf := my_ifT hc hf
        exact g_vret h dX2_take_127 rfl (my_r2 hf)
      · have hf := my_ifF hc hf
        refine g_al0 h 38 dX2_take_37 rfl ?_
        refine g_geta h 41 fF_X2_11_X2 lyC_1 rfl dX2_take_38 rfl ?_
        refine g_il5 h 43 dX2_take_41 rfl ?_
        obtain ⟨hq1, hf⟩ := my_chk hf
        refine g_aald h 44 lyC_2 rfl dX2_take_43 rfl hq1 ?_
        refine g_al1 h 45 dX2_take_44 rfl ?_
        refine g_geta h 48 fF_X2_33_X6 (lyC_X6 hb1) rfl dX2_take_45 rfl ?_
        refine g_il4 h 50 dX2_take_48 rfl ?_
        refine g_iconst h 51 ic_1 dX2_take_50 rfl ?_
        refine g_iadd h 52 dX2_take_51 rfl ?_
        obtain ⟨hq2, hf⟩ := my_chk hf
        refine g_iald h 53 dX2_take_52 rfl hq2 ?_
        obtain ⟨r3, σ3, hc3, hf⟩ := my_ofb hf
        refine g_callSi h 56 cs_X2_39 (ct_X7_kindOf w hc3) rfl rfl (Nat.le_of_ble_eq_true rfl) ⟨Nat.le_of_ble_eq_true rfl, Nat.le_of_ble_eq_true rfl⟩ dX2_take_53 rfl ?_
        refine g_puti h 59 fP_X2_44_X1 (lyC_X1 (my_ixlt hq1)) rfl dX2_take_56 rfl ?_
        refine g_inc4 h 62 (my_inc ic_2 _) (Nat.le_of_ble_eq_true rfl) rfl dX2_take_59 rfl ?_
        refine g_iconst h 63 ic_0 dX2_take_62 rfl ?_
        refine g_is6 h 65 (Nat.le_of_ble_eq_true rfl) rfl dX2_take_63 rfl ?_
        exact g_weak (ih.2 _ _ _ _ _ hf) (w_s (w_s (w_s (w_s (w_s (w_s (w_s (w_s w_0))))))))
    · intro σ e1 x4 x5 x6 hf
      replace hf : b_X2_take_1 (g_X2_take n).1 (g_X2_take n).2 σ e1 x4 x5 x6 = some (r, τ) := hf
      unfold b_X2_take_1 at hf
      obtain ⟨hb1, hf⟩ := my_chk hf
      refine g_il6 h 67 dX2_take_65 rfl ?_
      refine g_al0 h 68 dX2_take_67 rfl ?_
      refine g_geti h 71 fF_X2_26_X2 lyC_1 rfl dX2_take_68 rfl ?_
      refine g_icge h 121 74 dX2_take_71 (by decide) rfl (fun hc => ?_) (fun hc => ?_)
      · have hf := my_ifT hc hf
        refine g_inc5 h 124 (my_inc ic_1 _) (Nat.le_of_ble_eq_true rfl) rfl dX2_take_121 rfl ?_
        refine g_goto h 28 dX2_take_124 (by decide) ?_
        exact g_weak (ih.1 _ _ _ _ hf) (w_s (w_s (w_s (w_s (w_s (w_s (w_n (w_s w_0))))))))
      · have hf := my_ifF hc hf
        refine g_al1 h 75 dX2_take_74 rfl ?_
        refine g_geta h 78 fF_X2_33_X6 (lyC_X6 hb1) rfl dX2_take_75 rfl ?_
        refine g_il4 h 80 dX2_take_78 rfl ?_
        obtain ⟨hq1, hf⟩ := my_chk hf
        refine g_iald h 81 dX2_take_80 rfl hq1 ?_
        refine g_is7 h 83 (Nat.le_of_ble_eq_true rfl) rfl dX2_take_81 rfl ?_
        refine g_al0 h 84 dX2_take_83 rfl ?_
        refine g_geta h 87 fF_X2_11_X2 lyC_1 rfl dX2_take_84 rfl ?_
        refine g_il5 h 89 dX2_take_87 rfl ?_
        obtain ⟨hq2, hf⟩ := my_chk hf
        refine g_aald h 90 lyC_2 rfl dX2_take_89 rfl hq2 ?_
        refine g_geta h 93 fF_X2_47_X1 (lyC_X1 (my_ixlt hq2)) rfl dX2_take_90 rfl ?_
        refine g_il6 h 95 dX2_take_93 rfl ?_
        refine g_il7 h 97 dX2_take_95 rfl ?_
        refine g_bipush h 99 bp_45 dX2_take_97 rfl ?_
        refine g_icne h 106 102 dX2_take_99 (by decide) rfl (fun hc => ?_) (fun hc => ?_)
        · have hf := my_ifF hc hf
          refine g_il7 h 108 dX2_take_106 rfl ?_
          refine g_bipush h 110 bp_48 dX2_take_108 rfl ?_
          refine g_isub h 111 dX2_take_110 rfl ?_
          obtain ⟨hq3, hf⟩ := my_chk hf
          refine g_iast h 112 dX2_take_111 rfl hq3 ?_
          refine g_inc4 h 115 (my_inc ic_1 _) (Nat.le_of_ble_eq_true rfl) rfl dX2_take_112 rfl ?_
          refine g_inc6 h 118 (my_inc ic_1 _) (Nat.le_of_ble_eq_true rfl) rfl dX2_take_115 rfl ?_
          refine g_goto h 65 dX2_take_118 (by decide) ?_
          exact g_weak (ih.2 _ _ _ _ _ hf) (w_s (w_s (w_s (w_s (w_s (w_s (w_s (w_n w_0))))))))
        · have hf := my_ifT hc hf
          refine g_iconst h 103 ic_m1 dX2_take_102 rfl ?_
          refine g_goto h 111 dX2_take_103 (by decide) ?_
          obtain ⟨hq4, hf⟩ := my_chk hf
          refine g_iast h 112 dX2_take_111 rfl hq4 ?_
          refine g_inc4 h 115 (my_inc ic_1 _) (Nat.le_of_ble_eq_true rfl) rfl dX2_take_112 rfl ?_
          refine g_inc6 h 118 (my_inc ic_1 _) (Nat.le_of_ble_eq_true rfl) rfl dX2_take_115 rfl ?_
          refine g_goto h 65 dX2_take_118 (by decide) ?_
          exact g_weak (ih.2 _ _ _ _ _ hf) (w_s (w_s (w_s (w_s (w_s (w_s (w_s (w_n w_0))))))))
set_option maxRecDepth 100000 in
set_option maxHeartbeats 4000000 in
theorem ct_X2_take (w : my_V) {σ : my_M} {e1 : Nat} {x2 : Int32} {x3 : Int32} {r : Unit} {τ : my_M} (hf : f_X2_take σ e1 x2 x3 = some (r, τ)) : Ct w layC mX2_take 2 [.ref (w.2.2.2 1), .ref (w.2.2.2 (32 + e1)), .int x2, .int x3] σ none τ := by
  refine my_met RX2 [some (.ref (w.2.2.2 1)), some (.ref (w.2.2.2 (32 + e1))), some (.int x2), some (.int x3), none, none, none, none] 4 (by decide) rfl (Nat.le_of_ble_eq_true rfl) rfl (fun X h => ?_)
  unfold f_X2_take at hf
  obtain ⟨hb1, hf⟩ := my_chk hf
  refine g_al0 h 1 dX2_take_0 rfl ?_
  refine g_al1 h 2 dX2_take_1 rfl ?_
  refine g_geta h 5 fF_X2_33_X6 (lyC_X6 hb1) rfl dX2_take_2 rfl ?_
  refine g_il2 h 6 dX2_take_5 rfl ?_
  refine g_iconst h 7 ic_1 dX2_take_6 rfl ?_
  refine g_iadd h 8 dX2_take_7 rfl ?_
  obtain ⟨hq1, hf⟩ := my_chk hf
  refine g_iald h 9 dX2_take_8 rfl hq1 ?_
  refine g_bipush h 11 bp_48 dX2_take_9 rfl ?_
  refine g_isub h 12 dX2_take_11 rfl ?_
  refine g_puti h 15 fP_X2_26_X2 lyC_1 rfl dX2_take_12 rfl ?_
  refine g_al0 h 16 dX2_take_15 rfl ?_
  refine g_il3 h 17 dX2_take_16 rfl ?_
  refine g_puti h 20 fP_X2_18_X2 lyC_1 rfl dX2_take_17 rfl ?_
  refine g_il2 h 21 dX2_take_20 rfl ?_
  refine g_iconst h 22 ic_2 dX2_take_21 rfl ?_
  refine g_iadd h 23 dX2_take_22 rfl ?_
  refine g_is4 h 25 (Nat.le_of_ble_eq_true rfl) rfl dX2_take_23 rfl ?_
  refine g_iconst h 26 ic_0 dX2_take_25 rfl ?_
  refine g_is5 h 28 (Nat.le_of_ble_eq_true rfl) rfl dX2_take_26 rfl ?_
  exact g_weak ((lp_X2_take w h my_NF).1 _ _ _ _ hf) (w_s (w_s (w_n (w_n (w_s (w_s (w_s (w_s w_0))))))))
def b_X3_codeOf_0 (k0 : my_M → Nat → Int32 → Int32 → Option (Int32 × my_M)) (σ : my_M) (a1 : Nat) (x2 : Int32) (x3 : Int32) : Option (Int32 × my_M) :=
(if (σ 27 0) ≤ x3 then
some (x2, σ)
else
(if my_ix x3 (my_len layC a1) then
k0 σ a1 (((x2 <<< (3 &&& 31)) ||| (σ a1 (Int32.toNatClampNeg x3)))) ((x3 + 1))
else none))
def g_X3_codeOf : Nat → my_M → Nat → Int32 → Int32 → Option (Int32 × my_M)
  | 0 => fun _ _ _ _ => none
  | n + 1 => b_X3_codeOf_0 (g_X3_codeOf n)
def f_X3_codeOf (σ : my_M) (a1 : Nat) : Option (Int32 × my_M) :=
(g_X3_codeOf my_NF) σ a1 0 0
set_option maxRecDepth 100000 in
set_option maxHeartbeats 4000000 in
theorem lp_X3_codeOf (w : my_V) {X : my_X} {r : Int32} {τ : my_M} (h : my_OK X w layC cX3_codeOf RX3 4 (some .int)) : ∀ n : Nat, (∀ (σ : my_M) (a1 : Nat) (x2 : Int32) (x3 : Int32), (g_X3_codeOf n) σ a1 x2 x3 = some (r, τ) → Go X w layC 1 4 (some (.int r)) τ σ 4 [some (.ref (w.2.2.2 27)), some (.ref (w.2.2.2 a1)), some (.int x2), some (.int x3)] []) := by
  intro n
  induction n with
  | zero => exact fun _ _ _ _ hf => (my_nn hf).elim
  | succ n ih =>
    intro σ a1 x2 x3 hf
    replace hf : b_X3_codeOf_0 (g_X3_codeOf n) σ a1 x2 x3 = some (r, τ) := hf
    unfold b_X3_codeOf_0 at hf
    refine g_il3 h 5 dX3_codeOf_4 rfl ?_
    refine g_al0 h 6 dX3_codeOf_5 rfl ?_
    refine g_geti h 9 fF_X3_18_X3 lyC_27 rfl dX3_codeOf_6 rfl ?_
    refine g_icge h 26 12 dX3_codeOf_9 (by decide) rfl (fun hc => ?_) (fun hc => ?_)
    · have hf := my_ifT hc hf
      refine g_il2 h 27 dX3_codeOf_26 rfl ?_
      exact g_iret h dX3_codeOf_27 (my_r1 hf) (my_r2 hf)
    · have hf := my_ifF hc hf
      refine g_il2 h 13 dX3_codeOf_12 rfl ?_
      refine g_iconst h 14 ic_3 dX3_codeOf_13 rfl ?_
      refine g_ishl h 15 dX3_codeOf_14 rfl ?_
      refine g_al1 h 16 dX3_codeOf_15 rfl ?_
      refine g_il3 h 17 dX3_codeOf_16 rfl ?_
      obtain ⟨hq1, hf⟩ := my_chk hf
      refine g_iald h 18 dX3_codeOf_17 rfl hq1 ?_
      refine g_ior h 19 dX3_codeOf_18 rfl ?_
      refine g_is2 h 20 (Nat.le_of_ble_eq_true rfl) rfl dX3_codeOf_19 rfl ?_
      refine g_inc3 h 23 (my_inc ic_1 _) (Nat.le_of_ble_eq_true rfl) rfl dX3_codeOf_20 rfl ?_
      refine g_goto h 4 dX3_codeOf_23 (by decide) ?_
      exact g_weak (ih _ _ _ _ hf) (w_s (w_s (w_s (w_s w_0))))
set_option maxRecDepth 100000 in
set_option maxHeartbeats 4000000 in
theorem ct_X3_codeOf (w : my_V) {σ : my_M} {a1 : Nat} {r : Int32} {τ : my_M} (hf : f_X3_codeOf σ a1 = some (r, τ)) : Ct w layC mX3_codeOf 1 [.ref (w.2.2.2 27), .ref (w.2.2.2 a1)] σ (some (.int r)) τ := by
  refine my_met RX3 [some (.ref (w.2.2.2 27)), some (.ref (w.2.2.2 a1)), none, none] 2 (by decide) rfl (Nat.le_of_ble_eq_true rfl) rfl (fun X h => ?_)
  unfold f_X3_codeOf at hf
  refine g_iconst h 1 ic_0 dX3_codeOf_0 rfl ?_
  refine g_is2 h 2 (Nat.le_of_ble_eq_true rfl) rfl dX3_codeOf_1 rfl ?_
  refine g_iconst h 3 ic_0 dX3_codeOf_2 rfl ?_
  refine g_is3 h 4 (Nat.le_of_ble_eq_true rfl) rfl dX3_codeOf_3 rfl ?_
  exact g_weak ((lp_X3_codeOf w h my_NF) _ _ _ _ hf) (w_s (w_s (w_s (w_s w_0))))
def f_X3_pitchOf (σ : my_M) (x1 : Int32) (x2 : Int32) : Option (Int32 × my_M) :=
(if x1 = (-9) then
some ((-9), σ)
else
(if x2 < (σ 27 0) then
some (((x1 >>> ((3 * (((σ 27 0) - 1) - x2)) &&& 31)) &&& 7), σ)
else
some ((-9), σ)))
set_option maxRecDepth 100000 in
set_option maxHeartbeats 4000000 in
theorem ct_X3_pitchOf (w : my_V) {σ : my_M} {x1 : Int32} {x2 : Int32} {r : Int32} {τ : my_M} (hf : f_X3_pitchOf σ x1 x2 = some (r, τ)) : Ct w layC mX3_pitchOf 1 [.ref (w.2.2.2 27), .int x1, .int x2] σ (some (.int r)) τ := by
  refine my_met RX3 [some (.ref (w.2.2.2 27)), some (.int x1), some (.int x2)] 0 (by decide) rfl (Nat.le_of_ble_eq_true rfl) rfl (fun X h => ?_)
  unfold f_X3_pitchOf at hf
  refine g_il1 h 1 dX3_pitchOf_0 rfl ?_
  refine g_bipush h 3 bp_m9 dX3_pitchOf_1 rfl ?_
  refine g_iceq h 14 6 dX3_pitchOf_3 (by decide) rfl (fun hc => ?_) (fun hc => ?_)
  · have hf := my_ifT hc hf
    refine g_bipush h 16 bp_m9 dX3_pitchOf_14 rfl ?_
    exact g_iret h dX3_pitchOf_16 (my_r1 hf) (my_r2 hf)
  · have hf := my_ifF hc hf
    refine g_il2 h 7 dX3_pitchOf_6 rfl ?_
    refine g_al0 h 8 dX3_pitchOf_7 rfl ?_
    refine g_geti h 11 fF_X3_18_X3 lyC_27 rfl dX3_pitchOf_8 rfl ?_
    refine g_iclt h 17 14 dX3_pitchOf_11 (by decide) rfl (fun hc => ?_) (fun hc => ?_)
    · have hf := my_ifT hc hf
      refine g_il1 h 18 dX3_pitchOf_17 rfl ?_
      refine g_iconst h 19 ic_3 dX3_pitchOf_18 rfl ?_
      refine g_al0 h 20 dX3_pitchOf_19 rfl ?_
      refine g_geti h 23 fF_X3_18_X3 lyC_27 rfl dX3_pitchOf_20 rfl ?_
      refine g_iconst h 24 ic_1 dX3_pitchOf_23 rfl ?_
      refine g_isub h 25 dX3_pitchOf_24 rfl ?_
      refine g_il2 h 26 dX3_pitchOf_25 rfl ?_
      refine g_isub h 27 dX3_pitchOf_26 rfl ?_
      refine g_imul h 28 dX3_pitchOf_27 rfl ?_
      refine g_ishr h 29 dX3_pitchOf_28 rfl ?_
      refine g_bipush h 31 bp_7 dX3_pitchOf_29 rfl ?_
      refine g_iand h 32 dX3_pitchOf_31 rfl ?_
      exact g_iret h dX3_pitchOf_32 (my_r1 hf) (my_r2 hf)
    · have hf := my_ifF hc hf
      refine g_bipush h 16 bp_m9 dX3_pitchOf_14 rfl ?_
      exact g_iret h dX3_pitchOf_16 (my_r1 hf) (my_r2 hf)
def b_X3_isLike_0 (k0 : my_M → Int32 → Nat → Int32 → Option (Int32 × my_M)) (σ : my_M) (x1 : Int32) (a2 : Nat) (x3 : Int32) : Option (Int32 × my_M) :=
(if (σ 27 0) ≤ x3 then
some (1, σ)
else
(if my_ix x3 (my_len layC a2) then
(if (σ a2 (Int32.toNatClampNeg x3)) = (-1) then
k0 σ x1 a2 ((x3 + 1))
else
(if my_ix x3 (my_len layC a2) then
(my_bnd (f_X3_pitchOf σ x1 x3) fun r3 σ3 =>
(if (σ a2 (Int32.toNatClampNeg x3)) = r3 then
k0 σ3 x1 a2 ((x3 + 1))
else
some (0, σ3)))
else none))
else none))
def g_X3_isLike : Nat → my_M → Int32 → Nat → Int32 → Option (Int32 × my_M)
  | 0 => fun _ _ _ _ => none
  | n + 1 => b_X3_isLike_0 (g_X3_isLike n)
def f_X3_isLike (σ : my_M) (x1 : Int32) (a2 : Nat) : Option (Int32 × my_M) :=
(g_X3_isLike my_NF) σ x1 a2 0
set_option maxRecDepth 100000 in
set_option maxHeartbeats 4000000 in
theorem lp_X3_isLike (w : my_V) {X : my_X} {r : Int32} {τ : my_M} (h : my_OK X w layC cX3_isLike RX3 4 (some .boolean)) : ∀ n : Nat, (∀ (σ : my_M) (x1 : Int32) (a2 : Nat) (x3 : Int32), (g_X3_isLike n) σ x1 a2 x3 = some (r, τ) → Go X w layC 2 4 (some (.int r)) τ σ 2 [some (.ref (w.2.2.2 27)), some (.int x1), some (.ref (w.2.2.2 a2)), some (.int x3)] []) := by
  intro n
  induction n with
  | zero => exact fun _ _ _ _ hf => (my_nn hf).elim
  | succ n ih =>
    intro σ x1 a2 x3 hf
    replace hf : b_X3_isLike_0 (g_X3_isLike n) σ x1 a2 x3 = some (r, τ) := hf
    unfold b_X3_isLike_0 at hf
    refine g_il3 h 3 dX3_isLike_2 rfl ?_
    refine g_al0 h 4 dX3_isLike_3 rfl ?_
    refine g_geti h 7 fF_X3_18_X3 lyC_27 rfl dX3_isLike_4 rfl ?_
    refine g_icge h 37 10 dX3_isLike_7 (by decide) rfl (fun hc => ?_) (fun hc => ?_)
    · have hf := my_ifT hc hf
      refine g_iconst h 38 ic_1 dX3_isLike_37 rfl ?_
      exact g_zret h dX3_isLike_38 (Or.inr rfl) (my_r1 hf) (my_r2 hf)
    · have hf := my_ifF hc hf
      refine g_al2 h 11 dX3_isLike_10 rfl ?_
      refine g_il3 h 12 dX3_isLike_11 rfl ?_
      obtain ⟨hq1, hf⟩ := my_chk hf
      refine g_iald h 13 dX3_isLike_12 rfl hq1 ?_
      refine g_iconst h 14 ic_m1 dX3_isLike_13 rfl ?_
      refine g_iceq h 31 17 dX3_isLike_14 (by decide) rfl (fun hc => ?_) (fun hc => ?_)
      · have hf := my_ifT hc hf
        refine g_inc3 h 34 (my_inc ic_1 _) (Nat.le_of_ble_eq_true rfl) rfl dX3_isLike_31 rfl ?_
        refine g_goto h 2 dX3_isLike_34 (by decide) ?_
        exact g_weak (ih _ _ _ _ hf) (w_s (w_s (w_s (w_s w_0))))
      · have hf := my_ifF hc hf
        refine g_al2 h 18 dX3_isLike_17 rfl ?_
        refine g_il3 h 19 dX3_isLike_18 rfl ?_
        obtain ⟨hq2, hf⟩ := my_chk hf
        refine g_iald h 20 dX3_isLike_19 rfl hq2 ?_
        refine g_al0 h 21 dX3_isLike_20 rfl ?_
        refine g_il1 h 22 dX3_isLike_21 rfl ?_
        refine g_il3 h 23 dX3_isLike_22 rfl ?_
        obtain ⟨r3, σ3, hc3, hf⟩ := my_ofb hf
        refine g_callVi h 26 cs_X3_40 rfl lyC_27 (ct_X3_pitchOf w hc3) rfl rfl (Nat.le_of_ble_eq_true rfl) ⟨Nat.le_of_ble_eq_true rfl, Nat.le_of_ble_eq_true rfl⟩ dX3_isLike_23 rfl ?_
        refine g_iceq h 31 29 dX3_isLike_26 (by decide) rfl (fun hc => ?_) (fun hc => ?_)
        · have hf := my_ifT hc hf
          refine g_inc3 h 34 (my_inc ic_1 _) (Nat.le_of_ble_eq_true rfl) rfl dX3_isLike_31 rfl ?_
          refine g_goto h 2 dX3_isLike_34 (by decide) ?_
          exact g_weak (ih _ _ _ _ hf) (w_s (w_s (w_s (w_s w_0))))
        · have hf := my_ifF hc hf
          refine g_iconst h 30 ic_0 dX3_isLike_29 rfl ?_
          exact g_zret h dX3_isLike_30 (Or.inl rfl) (my_r1 hf) (my_r2 hf)
set_option maxRecDepth 100000 in
set_option maxHeartbeats 4000000 in
theorem ct_X3_isLike (w : my_V) {σ : my_M} {x1 : Int32} {a2 : Nat} {r : Int32} {τ : my_M} (hf : f_X3_isLike σ x1 a2 = some (r, τ)) : Ct w layC mX3_isLike 2 [.ref (w.2.2.2 27), .int x1, .ref (w.2.2.2 a2)] σ (some (.int r)) τ := by
  refine my_met RX3 [some (.ref (w.2.2.2 27)), some (.int x1), some (.ref (w.2.2.2 a2)), none] 1 (by decide) rfl (Nat.le_of_ble_eq_true rfl) rfl (fun X h => ?_)
  unfold f_X3_isLike at hf
  refine g_iconst h 1 ic_0 dX3_isLike_0 rfl ?_
  refine g_is3 h 2 (Nat.le_of_ble_eq_true rfl) rfl dX3_isLike_1 rfl ?_
  exact g_weak ((lp_X3_isLike w h my_NF) _ _ _ _ hf) (w_s (w_s (w_s (w_s w_0))))
def b_X3_countLike_0 (k0 : my_M → Nat → Int32 → Int32 → Option (Int32 × my_M)) (σ : my_M) (a1 : Nat) (x2 : Int32) (x3 : Int32) : Option (Int32 × my_M) :=
(if (σ 27 1) ≤ x3 then
some (x2, σ)
else
(if my_ix x3 (my_len layC 28) then
(my_bnd (f_X3_isLike σ (σ 28 (Int32.toNatClampNeg x3)) a1) fun r2 σ2 =>
(if r2 = 0 then
k0 σ2 a1 x2 ((x3 + 1))
else
k0 σ2 a1 ((x2 + 1)) ((x3 + 1))))
else none))
def g_X3_countLike : Nat → my_M → Nat → Int32 → Int32 → Option (Int32 × my_M)
  | 0 => fun _ _ _ _ => none
  | n + 1 => b_X3_countLike_0 (g_X3_countLike n)
def f_X3_countLike (σ : my_M) (a1 : Nat) : Option (Int32 × my_M) :=
(g_X3_countLike my_NF) σ a1 0 0
set_option maxRecDepth 100000 in
set_option maxHeartbeats 4000000 in
theorem lp_X3_countLike (w : my_V) {X : my_X} {r : Int32} {τ : my_M} (h : my_OK X w layC cX3_countLike RX3 4 (some .int)) : ∀ n : Nat, (∀ (σ : my_M) (a1 : Nat) (x2 : Int32) (x3 : Int32), (g_X3_countLike n) σ a1 x2 x3 = some (r, τ) → Go X w layC 3 4 (some (.int r)) τ σ 4 [some (.ref (w.2.2.2 27)), some (.ref (w.2.2.2 a1)), some (.int x2), some (.int x3)] []) := by
  intro n
  induction n with
  | zero => exact fun _ _ _ _ hf => (my_nn hf).elim
  | succ n ih =>
    intro σ a1 x2 x3 hf
    replace hf : b_X3_countLike_0 (g_X3_countLike n) σ a1 x2 x3 = some (r, τ) := hf
    unfold b_X3_countLike_0 at hf
    refine g_il3 h 5 dX3_countLike_4 rfl ?_
    refine g_al0 h 6 dX3_countLike_5 rfl ?_
    refine g_geti h 9 fF_X3_22_X3 lyC_27 rfl dX3_countLike_6 rfl ?_
    refine g_icge h 35 12 dX3_countLike_9 (by decide) rfl (fun hc => ?_) (fun hc => ?_)
    · have hf := my_ifT hc hf
      refine g_il2 h 36 dX3_countLike_35 rfl ?_
      exact g_iret h dX3_countLike_36 (my_r1 hf) (my_r2 hf)
    · have hf := my_ifF hc hf
      refine g_al0 h 13 dX3_countLike_12 rfl ?_
      refine g_al0 h 14 dX3_countLike_13 rfl ?_
      refine g_geta h 17 fF_X3_9_X3 lyC_27 rfl dX3_countLike_14 rfl ?_
      refine g_il3 h 18 dX3_countLike_17 rfl ?_
      obtain ⟨hq1, hf⟩ := my_chk hf
      refine g_iald h 19 dX3_countLike_18 rfl hq1 ?_
      refine g_al1 h 20 dX3_countLike_19 rfl ?_
      obtain ⟨r2, σ2, hc2, hf⟩ := my_ofb hf
      refine g_callVi h 23 cs_X3_44 rfl lyC_27 (ct_X3_isLike w hc2) rfl rfl (Nat.le_of_ble_eq_true rfl) ⟨Nat.le_of_ble_eq_true rfl, Nat.le_of_ble_eq_true rfl⟩ dX3_countLike_20 rfl ?_
      refine g_ifeq h 29 26 dX3_countLike_23 (by decide) rfl (fun hc => ?_) (fun hc => ?_)
      · have hf := my_ifT hc hf
        refine g_inc3 h 32 (my_inc ic_1 _) (Nat.le_of_ble_eq_true rfl) rfl dX3_countLike_29 rfl ?_
        refine g_goto h 4 dX3_countLike_32 (by decide) ?_
        exact g_weak (ih _ _ _ _ hf) (w_s (w_s (w_s (w_s w_0))))
      · have hf := my_ifF hc hf
        refine g_inc2 h 29 (my_inc ic_1 _) (Nat.le_of_ble_eq_true rfl) rfl dX3_countLike_26 rfl ?_
        refine g_inc3 h 32 (my_inc ic_1 _) (Nat.le_of_ble_eq_true rfl) rfl dX3_countLike_29 rfl ?_
        refine g_goto h 4 dX3_countLike_32 (by decide) ?_
        exact g_weak (ih _ _ _ _ hf) (w_s (w_s (w_s (w_s w_0))))
set_option maxRecDepth 100000 in
set_option maxHeartbeats 4000000 in
theorem ct_X3_countLike (w : my_V) {σ : my_M} {a1 : Nat} {r : Int32} {τ : my_M} (hf : f_X3_countLike σ a1 = some (r, τ)) : Ct w layC mX3_countLike 3 [.ref (w.2.2.2 27), .ref (w.2.2.2 a1)] σ (some (.int r)) τ := by
  refine my_met RX3 [some (.ref (w.2.2.2 27)), some (.ref (w.2.2.2 a1)), none, none] 2 (by decide) rfl (Nat.le_of_ble_eq_true rfl) rfl (fun X h => ?_)
  unfold f_X3_countLike at hf
  refine g_iconst h 1 ic_0 dX3_countLike_0 rfl ?_
  refine g_is2 h 2 (Nat.le_of_ble_eq_true rfl) rfl dX3_countLike_1 rfl ?_
  refine g_iconst h 3 ic_0 dX3_countLike_2 rfl ?_
  refine g_is3 h 4 (Nat.le_of_ble_eq_true rfl) rfl dX3_countLike_3 rfl ?_
  exact g_weak ((lp_X3_countLike w h my_NF) _ _ _ _ hf) (w_s (w_s (w_s (w_s w_0))))
def b_X3_firstBehind_0 (k0 : my_M → Int32 → Int32 → Option (Int32 × my_M)) (σ : my_M) (x2 : Int32) (x3 : Int32) : Option (Int32 × my_M) :=
(if (σ 27 1) ≤ x3 then
some ((-9), σ)
else
(if my_ix x3 (my_len layC 28) then
(if (σ 28 (Int32.toNatClampNeg x3)) ≤ x2 then
k0 σ x2 ((x3 + 1))
else
(if my_ix x3 (my_len layC 28) then
some ((σ 28 (Int32.toNatClampNeg x3)), σ)
else none))
else none))
def g_X3_firstBehind : Nat → my_M → Int32 → Int32 → Option (Int32 × my_M)
  | 0 => fun _ _ _ => none
  | n + 1 => b_X3_firstBehind_0 (g_X3_firstBehind n)
def f_X3_firstBehind (σ : my_M) (a1 : Nat) : Option (Int32 × my_M) :=
(my_bnd (f_X3_codeOf σ a1) fun r1 σ1 =>
(g_X3_firstBehind my_NF) σ1 r1 0)
set_option maxRecDepth 100000 in
set_option maxHeartbeats 4000000 in
theorem lp_X3_firstBehind (w : my_V) {X : my_X} {r : Int32} {τ : my_M} (h : my_OK X w layC cX3_firstBehind RX3 4 (some .int)) : ∀ n : Nat, (∀ (σ : my_M) (x2 : Int32) (x3 : Int32), (g_X3_firstBehind n) σ x2 x3 = some (r, τ) → Go X w layC 2 4 (some (.int r)) τ σ 8 [some (.ref (w.2.2.2 27)), none, some (.int x2), some (.int x3)] []) := by
  intro n
  induction n with
  | zero => exact fun _ _ _ hf => (my_nn hf).elim
  | succ n ih =>
    intro σ x2 x3 hf
    replace hf : b_X3_firstBehind_0 (g_X3_firstBehind n) σ x2 x3 = some (r, τ) := hf
    unfold b_X3_firstBehind_0 at hf
    refine g_il3 h 9 dX3_firstBehind_8 rfl ?_
    refine g_al0 h 10 dX3_firstBehind_9 rfl ?_
    refine g_geti h 13 fF_X3_22_X3 lyC_27 rfl dX3_firstBehind_10 rfl ?_
    refine g_icge h 39 16 dX3_firstBehind_13 (by decide) rfl (fun hc => ?_) (fun hc => ?_)
    · have hf := my_ifT hc hf
      refine g_bipush h 41 bp_m9 dX3_firstBehind_39 rfl ?_
      exact g_iret h dX3_firstBehind_41 (my_r1 hf) (my_r2 hf)
    · have hf := my_ifF hc hf
      refine g_al0 h 17 dX3_firstBehind_16 rfl ?_
      refine g_geta h 20 fF_X3_9_X3 lyC_27 rfl dX3_firstBehind_17 rfl ?_
      refine g_il3 h 21 dX3_firstBehind_20 rfl ?_
      obtain ⟨hq1, hf⟩ := my_chk hf
      refine g_iald h 22 dX3_firstBehind_21 rfl hq1 ?_
      refine g_il2 h 23 dX3_firstBehind_22 rfl ?_
      refine g_icle h 33 26 dX3_firstBehind_23 (by decide) rfl (fun hc => ?_) (fun hc => ?_)
      · have hf := my_ifT hc hf
        refine g_inc3 h 36 (my_inc ic_1 _) (Nat.le_of_ble_eq_true rfl) rfl dX3_firstBehind_33 rfl ?_
        refine g_goto h 8 dX3_firstBehind_36 (by decide) ?_
        exact g_weak (ih _ _ _ hf) (w_s (w_s (w_s (w_s w_0))))
      · have hf := my_ifF hc hf
        refine g_al0 h 27 dX3_firstBehind_26 rfl ?_
        refine g_geta h 30 fF_X3_9_X3 lyC_27 rfl dX3_firstBehind_27 rfl ?_
        refine g_il3 h 31 dX3_firstBehind_30 rfl ?_
        obtain ⟨hq2, hf⟩ := my_chk hf
        refine g_iald h 32 dX3_firstBehind_31 rfl hq2 ?_
        exact g_iret h dX3_firstBehind_32 (my_r1 hf) (my_r2 hf)
set_option maxRecDepth 100000 in
set_option maxHeartbeats 4000000 in
theorem ct_X3_firstBehind (w : my_V) {σ : my_M} {a1 : Nat} {r : Int32} {τ : my_M} (hf : f_X3_firstBehind σ a1 = some (r, τ)) : Ct w layC mX3_firstBehind 2 [.ref (w.2.2.2 27), .ref (w.2.2.2 a1)] σ (some (.int r)) τ := by
  refine my_met RX3 [some (.ref (w.2.2.2 27)), some (.ref (w.2.2.2 a1)), none, none] 2 (by decide) rfl (Nat.le_of_ble_eq_true rfl) rfl (fun X h => ?_)
  unfold f_X3_firstBehind at hf
  refine g_al0 h 1 dX3_firstBehind_0 rfl ?_
  refine g_al1 h 2 dX3_firstBehind_1 rfl ?_
  obtain ⟨r1, σ1, hc1, hf⟩ := my_ofb hf
  refine g_callVi h 5 cs_X3_36 rfl lyC_27 (ct_X3_codeOf w hc1) rfl rfl (Nat.le_of_ble_eq_true rfl) ⟨Nat.le_of_ble_eq_true rfl, Nat.le_of_ble_eq_true rfl⟩ dX3_firstBehind_2 rfl ?_
  refine g_is2 h 6 (Nat.le_of_ble_eq_true rfl) rfl dX3_firstBehind_5 rfl ?_
  refine g_iconst h 7 ic_0 dX3_firstBehind_6 rfl ?_
  refine g_is3 h 8 (Nat.le_of_ble_eq_true rfl) rfl dX3_firstBehind_7 rfl ?_
  exact g_weak ((lp_X3_firstBehind w h my_NF) _ _ _ hf) (w_s (w_n (w_s (w_s w_0))))
def b_X3_firstLike_0 (k0 : my_M → Nat → Int32 → Option (Int32 × my_M)) (σ : my_M) (a1 : Nat) (x2 : Int32) : Option (Int32 × my_M) :=
(if (σ 27 1) ≤ x2 then
some ((-9), σ)
else
(if my_ix x2 (my_len layC 28) then
(my_bnd (f_X3_isLike σ (σ 28 (Int32.toNatClampNeg x2)) a1) fun r2 σ2 =>
(if r2 = 0 then
k0 σ2 a1 ((x2 + 1))
else
(if my_ix x2 (my_len layC 28) then
some ((σ2 28 (Int32.toNatClampNeg x2)), σ2)
else none)))
else none))
def g_X3_firstLike : Nat → my_M → Nat → Int32 → Option (Int32 × my_M)
  | 0 => fun _ _ _ => none
  | n + 1 => b_X3_firstLike_0 (g_X3_firstLike n)
def f_X3_firstLike (σ : my_M) (a1 : Nat) : Option (Int32 × my_M) :=
(g_X3_firstLike my_NF) σ a1 0
set_option maxRecDepth 100000 in
set_option maxHeartbeats 4000000 in
theorem lp_X3_firstLike (w : my_V) {X : my_X} {r : Int32} {τ : my_M} (h : my_OK X w layC cX3_firstLike RX3 3 (some .int)) : ∀ n : Nat, (∀ (σ : my_M) (a1 : Nat) (x2 : Int32), (g_X3_firstLike n) σ a1 x2 = some (r, τ) → Go X w layC 3 3 (some (.int r)) τ σ 2 [some (.ref (w.2.2.2 27)), some (.ref (w.2.2.2 a1)), some (.int x2)] []) := by
  intro n
  induction n with
  | zero => exact fun _ _ _ hf => (my_nn hf).elim
  | succ n ih =>
    intro σ a1 x2 hf
    replace hf : b_X3_firstLike_0 (g_X3_firstLike n) σ a1 x2 = some (r, τ) := hf
    unfold b_X3_firstLike_0 at hf
    refine g_il2 h 3 dX3_firstLike_2 rfl ?_
    refine g_al0 h 4 dX3_firstLike_3 rfl ?_
    refine g_geti h 7 fF_X3_22_X3 lyC_27 rfl dX3_firstLike_4 rfl ?_
    refine g_icge h 37 10 dX3_firstLike_7 (by decide) rfl (fun hc => ?_) (fun hc => ?_)
    · have hf := my_ifT hc hf
      refine g_bipush h 39 bp_m9 dX3_firstLike_37 rfl ?_
      exact g_iret h dX3_firstLike_39 (my_r1 hf) (my_r2 hf)
    · have hf := my_ifF hc hf
      refine g_al0 h 11 dX3_firstLike_10 rfl ?_
      refine g_al0 h 12 dX3_firstLike_11 rfl ?_
      refine g_geta h 15 fF_X3_9_X3 lyC_27 rfl dX3_firstLike_12 rfl ?_
      refine g_il2 h 16 dX3_firstLike_15 rfl ?_
      obtain ⟨hq1, hf⟩ := my_chk hf
      refine g_iald h 17 dX3_firstLike_16 rfl hq1 ?_
      refine g_al1 h 18 dX3_firstLike_17 rfl ?_
      obtain ⟨r2, σ2, hc2, hf⟩ := my_ofb hf
      refine g_callVi h 21 cs_X3_44 rfl lyC_27 (ct_X3_isLike w hc2) rfl rfl (Nat.le_of_ble_eq_true rfl) ⟨Nat.le_of_ble_eq_true rfl, Nat.le_of_ble_eq_true rfl⟩ dX3_firstLike_18 rfl ?_
      refine g_ifeq h 31 24 dX3_firstLike_21 (by decide) rfl (fun hc => ?_) (fun hc => ?_)
      · have hf := my_ifT hc hf
        refine g_inc2 h 34 (my_inc ic_1 _) (Nat.le_of_ble_eq_true rfl) rfl dX3_firstLike_31 rfl ?_
        refine g_goto h 2 dX3_firstLike_34 (by decide) ?_
        exact g_weak (ih _ _ _ hf) (w_s (w_s (w_s w_0)))
      · have hf := my_ifF hc hf
        refine g_al0 h 25 dX3_firstLike_24 rfl ?_
        refine g_geta h 28 fF_X3_9_X3 lyC_27 rfl dX3_firstLike_25 rfl ?_
        refine g_il2 h 29 dX3_firstLike_28 rfl ?_
        obtain ⟨hq3, hf⟩ := my_chk hf
        refine g_iald h 30 dX3_firstLike_29 rfl hq3 ?_
        exact g_iret h dX3_firstLike_30 (my_r1 hf) (my_r2 hf)
set_option maxRecDepth 100000 in
set_option maxHeartbeats 4000000 in
theorem ct_X3_firstLike (w : my_V) {σ : my_M} {a1 : Nat} {r : Int32} {τ : my_M} (hf : f_X3_firstLike σ a1 = some (r, τ)) : Ct w layC mX3_firstLike 3 [.ref (w.2.2.2 27), .ref (w.2.2.2 a1)] σ (some (.int r)) τ := by
  refine my_met RX3 [some (.ref (w.2.2.2 27)), some (.ref (w.2.2.2 a1)), none] 1 (by decide) rfl (Nat.le_of_ble_eq_true rfl) rfl (fun X h => ?_)
  unfold f_X3_firstLike at hf
  refine g_iconst h 1 ic_0 dX3_firstLike_0 rfl ?_
  refine g_is2 h 2 (Nat.le_of_ble_eq_true rfl) rfl dX3_firstLike_1 rfl ?_
  exact g_weak ((lp_X3_firstLike w h my_NF) _ _ _ hf) (w_s (w_s (w_s w_0)))
def f_X3_keep (σ : my_M) : Option (Unit × my_M) :=
(if 116 ≤ (σ 27 1) then
some ((), σ)
else
(my_bnd (f_X3_codeOf σ 29) fun r1 σ1 =>
(if my_ix (σ 27 1) (my_len layC 28) then
some ((), (my_up (my_up σ1 28 (Int32.toNatClampNeg (σ 27 1)) r1) 27 1 (((my_up σ1 28 (Int32.toNatClampNeg (σ 27 1)) r1) 27 1) + 1)))
else none)))
set_option maxRecDepth 100000 in
set_option maxHeartbeats 4000000 in
theorem ct_X3_keep (w : my_V) {σ : my_M} {r : Unit} {τ : my_M} (hf : f_X3_keep σ = some (r, τ)) : Ct w layC mX3_keep 2 [.ref (w.2.2.2 27)] σ none τ := by
  refine my_met RX3 [some (.ref (w.2.2.2 27))] 0 (by decide) rfl (Nat.le_of_ble_eq_true rfl) rfl (fun X h => ?_)
  unfold f_X3_keep at hf
  refine g_al0 h 1 dX3_keep_0 rfl ?_
  refine g_geti h 4 fF_X3_22_X3 lyC_27 rfl dX3_keep_1 rfl ?_
  refine g_bipush h 6 bp_116 dX3_keep_4 rfl ?_
  refine g_icge h 36 9 dX3_keep_6 (by decide) rfl (fun hc => ?_) (fun hc => ?_)
  · have hf := my_ifT hc hf
    exact g_vret h dX3_keep_36 rfl (my_r2 hf)
  · have hf := my_ifF hc hf
    refine g_al0 h 10 dX3_keep_9 rfl ?_
    refine g_geta h 13 fF_X3_9_X3 lyC_27 rfl dX3_keep_10 rfl ?_
    refine g_al0 h 14 dX3_keep_13 rfl ?_
    refine g_geti h 17 fF_X3_22_X3 lyC_27 rfl dX3_keep_14 rfl ?_
    refine g_al0 h 18 dX3_keep_17 rfl ?_
    refine g_al0 h 19 dX3_keep_18 rfl ?_
    refine g_geta h 22 fF_X3_15_X3 lyC_27 rfl dX3_keep_19 rfl ?_
    obtain ⟨r1, σ1, hc1, hf⟩ := my_ofb hf
    refine g_callVi h 25 cs_X3_36 rfl lyC_27 (ct_X3_codeOf w hc1) rfl rfl (Nat.le_of_ble_eq_true rfl) ⟨Nat.le_of_ble_eq_true rfl, Nat.le_of_ble_eq_true rfl⟩ dX3_keep_22 rfl ?_
    obtain ⟨hq2, hf⟩ := my_chk hf
    refine g_iast h 26 dX3_keep_25 rfl hq2 ?_
    refine g_al0 h 27 dX3_keep_26 rfl ?_
    refine g_dup h 28 rfl dX3_keep_27 rfl ?_
    refine g_geti h 31 fF_X3_22_X3 lyC_27 rfl dX3_keep_28 rfl ?_
    refine g_iconst h 32 ic_1 dX3_keep_31 rfl ?_
    refine g_iadd h 33 dX3_keep_32 rfl ?_
    refine g_puti h 36 fP_X3_22_X3 lyC_27 rfl dX3_keep_33 rfl ?_
    exact g_vret h dX3_keep_36 rfl (my_r2 hf)
def b_X3_staysGood_0 (k0 : my_M → Nat → Int32 → Int32 → Option (Int32 × my_M)) (k1 : my_M → Nat → Int32 → Int32 → Int32 → Int32 → Option (Int32 × my_M)) (σ : my_M) (a0 : Nat) (x1 : Int32) (x2 : Int32) : Option (Int32 × my_M) :=
(if x1 < x2 then
some (1, σ)
else
(if my_ix x1 (my_len layC a0) then
(if my_ix (x1 - x2) (my_len layC a0) then
(if ((σ a0 (Int32.toNatClampNeg x1)) - (σ a0 (Int32.toNatClampNeg (x1 - x2)))) = 0 then
some (0, σ)
else
k1 σ a0 x1 x2 (((σ a0 (Int32.toNatClampNeg x1)) - (σ a0 (Int32.toNatClampNeg (x1 - x2))))) x2)
else none)
else none))
def b_X3_staysGood_1 (k0 : my_M → Nat → Int32 → Int32 → Option (Int32 × my_M)) (k1 : my_M → Nat → Int32 → Int32 → Int32 → Int32 → Option (Int32 × my_M)) (σ : my_M) (a0 : Nat) (x1 : Int32) (x2 : Int32) (x3 : Int32) (x4 : Int32) : Option (Int32 × my_M) :=
(if x1 ≤ x4 then
k0 σ a0 x1 ((x2 + 1))
else
(if my_ix x4 (my_len layC a0) then
(if my_ix (x4 - x2) (my_len layC a0) then
(if ((σ a0 (Int32.toNatClampNeg x4)) - (σ a0 (Int32.toNatClampNeg (x4 - x2)))) = x3 then
some (0, σ)
else
k1 σ a0 x1 x2 x3 ((x4 + 1)))
else none)
else none))
def g_X3_staysGood : Nat → (my_M → Nat → Int32 → Int32 → Option (Int32 × my_M)) × (my_M → Nat → Int32 → Int32 → Int32 → Int32 → Option (Int32 × my_M))
  | 0 => (fun _ _ _ _ => none, fun _ _ _ _ _ _ => none)
  | n + 1 => (b_X3_staysGood_0 (g_X3_staysGood n).1 (g_X3_staysGood n).2, b_X3_staysGood_1 (g_X3_staysGood n).1 (g_X3_staysGood n).2)
def f_X3_staysGood (σ : my_M) (a0 : Nat) (x1 : Int32) : Option (Int32 × my_M) :=
(g_X3_staysGood my_NF).1 σ a0 x1 1
set_option maxRecDepth 100000 in
set_option maxHeartbeats 4000000 in
theorem lp_X3_staysGood (w : my_V) {X : my_X} {r : Int32} {τ : my_M} (h : my_OK X w layC cX3_staysGood RX3 5 (some .boolean)) : ∀ n : Nat, (∀ (σ : my_M) (a0 : Nat) (x1 : Int32) (x2 : Int32), (g_X3_staysGood n).1 σ a0 x1 x2 = some (r, τ) → Go X w layC 1 5 (some (.int r)) τ σ 2 [some (.ref (w.2.2.2 a0)), some (.int x1), some (.int x2), none, none] []) ∧ (∀ (σ : my_M) (a0 : Nat) (x1 : Int32) (x2 : Int32) (x3 : Int32) (x4 : Int32), (g_X3_staysGood n).2 σ a0 x1 x2 x3 x4 = some (r, τ) → Go X w layC 1 5 (some (.int r)) τ σ 26 [some (.ref (w.2.2.2 a0)), some (.int x1), some (.int x2), some (.int x3), some (.int x4)] []) := by
  intro n
  induction n with
  | zero => exact ⟨fun _ _ _ _ hf => (my_nn hf).elim, fun _ _ _ _ _ _ hf => (my_nn hf).elim⟩
  | succ n ih =>
    refine ⟨?_, ?_⟩
    · intro σ a0 x1 x2 hf
      replace hf : b_X3_staysGood_0 (g_X3_staysGood n).1 (g_X3_staysGood n).2 σ a0 x1 x2 = some (r, τ) := hf
      unfold b_X3_staysGood_0 at hf
      refine g_il2 h 3 dX3_staysGood_2 rfl ?_
      refine g_il1 h 4 dX3_staysGood_3 rfl ?_
      refine g_icgt h 61 7 dX3_staysGood_4 (by decide) rfl (fun hc => ?_) (fun hc => ?_)
      · have hf := my_ifT hc hf
        refine g_iconst h 62 ic_1 dX3_staysGood_61 rfl ?_
        exact g_zret h dX3_staysGood_62 (Or.inr rfl) (my_r1 hf) (my_r2 hf)
      · have hf := my_ifF hc hf
        refine g_al0 h 8 dX3_staysGood_7 rfl ?_
        refine g_il1 h 9 dX3_staysGood_8 rfl ?_
        obtain ⟨hq1, hf⟩ := my_chk hf
        refine g_iald h 10 dX3_staysGood_9 rfl hq1 ?_
        refine g_al0 h 11 dX3_staysGood_10 rfl ?_
        refine g_il1 h 12 dX3_staysGood_11 rfl ?_
        refine g_il2 h 13 dX3_staysGood_12 rfl ?_
        refine g_isub h 14 dX3_staysGood_13 rfl ?_
        obtain ⟨hq2, hf⟩ := my_chk hf
        refine g_iald h 15 dX3_staysGood_14 rfl hq2 ?_
        refine g_isub h 16 dX3_staysGood_15 rfl ?_
        refine g_is3 h 17 (Nat.le_of_ble_eq_true rfl) rfl dX3_staysGood_16 rfl ?_
        refine g_il3 h 18 dX3_staysGood_17 rfl ?_
        refine g_ifne h 23 21 dX3_staysGood_18 (by decide) rfl (fun hc => ?_) (fun hc => ?_)
        · have hf := my_ifF hc hf
          refine g_il2 h 24 dX3_staysGood_23 rfl ?_
          refine g_is4 h 26 (Nat.le_of_ble_eq_true rfl) rfl dX3_staysGood_24 rfl ?_
          exact g_weak (ih.2 _ _ _ _ _ _ hf) (w_s (w_s (w_s (w_s (w_s w_0)))))
        · have hf := my_ifT hc hf
          refine g_iconst h 22 ic_0 dX3_staysGood_21 rfl ?_
          exact g_zret h dX3_staysGood_22 (Or.inl rfl) (my_r1 hf) (my_r2 hf)
    · intro σ a0 x1 x2 x3 x4 hf
      replace hf : b_X3_staysGood_1 (g_X3_staysGood n).1 (g_X3_staysGood n).2 σ a0 x1 x2 x3 x4 = some (r, τ) := hf
      unfold b_X3_staysGood_1 at hf
      refine g_il4 h 28 dX3_staysGood_26 rfl ?_
      refine g_il1 h 29 dX3_staysGood_28 rfl ?_
      refine g_icge h 55 32 dX3_staysGood_29 (by decide) rfl (fun hc => ?_) (fun hc => ?_)
      · have hf := my_ifT hc hf
        refine g_inc2 h 58 (my_inc ic_1 _) (Nat.le_of_ble_eq_true rfl) rfl dX3_staysGood_55 rfl ?_
        refine g_goto h 2 dX3_staysGood_58 (by decide) ?_
        exact g_weak (ih.1 _ _ _ _ hf) (w_s (w_s (w_s (w_n (w_n w_0)))))
      · have hf := my_ifF hc hf
        refine g_al0 h 33 dX3_staysGood_32 rfl ?_
        refine g_il4 h 35 dX3_staysGood_33 rfl ?_
        obtain ⟨hq1, hf⟩ := my_chk hf
        refine g_iald h 36 dX3_staysGood_35 rfl hq1 ?_
        refine g_al0 h 37 dX3_staysGood_36 rfl ?_
        refine g_il4 h 39 dX3_staysGood_37 rfl ?_
        refine g_il2 h 40 dX3_staysGood_39 rfl ?_
        refine g_isub h 41 dX3_staysGood_40 rfl ?_
        obtain ⟨hq2, hf⟩ := my_chk hf
        refine g_iald h 42 dX3_staysGood_41 rfl hq2 ?_
        refine g_isub h 43 dX3_staysGood_42 rfl ?_
        refine g_il3 h 44 dX3_staysGood_43 rfl ?_
        refine g_icne h 49 47 dX3_staysGood_44 (by decide) rfl (fun hc => ?_) (fun hc => ?_)
        · have hf := my_ifF hc hf
          refine g_inc4 h 52 (my_inc ic_1 _) (Nat.le_of_ble_eq_true rfl) rfl dX3_staysGood_49 rfl ?_
          refine g_goto h 26 dX3_staysGood_52 (by decide) ?_
          exact g_weak (ih.2 _ _ _ _ _ _ hf) (w_s (w_s (w_s (w_s (w_s w_0)))))
        · have hf := my_ifT hc hf
          refine g_iconst h 48 ic_0 dX3_staysGood_47 rfl ?_
          exact g_zret h dX3_staysGood_48 (Or.inl rfl) (my_r1 hf) (my_r2 hf)
set_option maxRecDepth 100000 in
set_option maxHeartbeats 4000000 in
theorem ct_X3_staysGood (w : my_V) {σ : my_M} {a0 : Nat} {x1 : Int32} {r : Int32} {τ : my_M} (hf : f_X3_staysGood σ a0 x1 = some (r, τ)) : Ct w layC mX3_staysGood 1 [.ref (w.2.2.2 a0), .int x1] σ (some (.int r)) τ := by
  refine my_met RX3 [some (.ref (w.2.2.2 a0)), some (.int x1), none, none, none] 3 (by decide) rfl (Nat.le_of_ble_eq_true rfl) rfl (fun X h => ?_)
  unfold f_X3_staysGood at hf
  refine g_iconst h 1 ic_1 dX3_staysGood_0 rfl ?_
  refine g_is2 h 2 (Nat.le_of_ble_eq_true rfl) rfl dX3_staysGood_1 rfl ?_
  exact g_weak ((lp_X3_staysGood w h my_NF).1 _ _ _ _ hf) (w_s (w_s (w_s (w_s (w_s w_0)))))
def b_X3_grow_0 (fr : my_M → Int32 → Option (Unit × my_M)) (k0 : my_M → Int32 → Int32 → Option (Unit × my_M)) (σ : my_M) (x1 : Int32) (x2 : Int32) : Option (Unit × my_M) :=
(if (σ 27 0) ≤ x2 then
some ((), σ)
else
(if my_ix x1 (my_len layC 29) then
(my_bnd (f_X3_staysGood (my_up σ 29 (Int32.toNatClampNeg x1) x2) 29 x1) fun r2 σ2 =>
(if r2 = 0 then
k0 σ2 x1 ((x2 + 1))
else
(my_bnd (fr σ2 (x1 + 1)) fun r3 σ3 =>
k0 σ3 x1 ((x2 + 1)))))
else none))
def g_X3_grow (fr : my_M → Int32 → Option (Unit × my_M)) : Nat → my_M → Int32 → Int32 → Option (Unit × my_M)
  | 0 => fun _ _ _ => none
  | n + 1 => b_X3_grow_0 fr (g_X3_grow fr n)
def b_X3_grow_m (fr : my_M → Int32 → Option (Unit × my_M)) (σ : my_M) (x1 : Int32) : Option (Unit × my_M) :=
(if x1 < (σ 27 0) then
(g_X3_grow fr my_NF) σ x1 0
else
(my_bnd (f_X3_keep σ) fun r1 σ1 =>
some ((), σ1)))
def f_X3_grow : Nat → my_M → Int32 → Option (Unit × my_M)
  | 0 => fun _ _ => none
  | n + 1 => b_X3_grow_m (f_X3_grow n)
set_option maxRecDepth 100000 in
set_option maxHeartbeats 4000000 in
theorem lp_X3_grow {w : my_V} {fr : my_M → Int32 → Option (Unit × my_M)} {kk : Nat} (hrec : ∀ {σ : my_M} {x1 : Int32} {r : Unit} {τ : my_M}, fr σ x1 = some (r, τ) → Ct w layC mX3_grow (kk + 2) [.ref (w.2.2.2 27), .int x1] σ none τ) {X : my_X} {r : Unit} {τ : my_M} (h : my_OK X w layC cX3_grow RX3 3 (none)) : ∀ n : Nat, (∀ (σ : my_M) (x1 : Int32) (x2 : Int32), (g_X3_grow fr n) σ x1 x2 = some (r, τ) → Go X w layC (kk + 3) 3 none τ σ 15 [some (.ref (w.2.2.2 27)), some (.int x1), some (.int x2)] []) := by
  intro n
  induction n with
  | zero => exact fun _ _ _ hf => (my_nn hf).elim
  | succ n ih =>
    intro σ x1 x2 hf
    replace hf : b_X3_grow_0 fr (g_X3_grow fr n) σ x1 x2 = some (r, τ) := hf
    unfold b_X3_grow_0 at hf
    refine g_il2 h 16 dX3_grow_15 rfl ?_
    refine g_al0 h 17 dX3_grow_16 rfl ?_
    refine g_geti h 20 fF_X3_18_X3 lyC_27 rfl dX3_grow_17 rfl ?_
    refine g_icge h 54 23 dX3_grow_20 (by decide) rfl (fun hc => ?_) (fun hc => ?_)
    · have hf := my_ifT hc hf
      exact g_vret h dX3_grow_54 rfl (my_r2 hf)
    · have hf := my_ifF hc hf
      refine g_al0 h 24 dX3_grow_23 rfl ?_
      refine g_geta h 27 fF_X3_15_X3 lyC_27 rfl dX3_grow_24 rfl ?_
      refine g_il1 h 28 dX3_grow_27 rfl ?_
      refine g_il2 h 29 dX3_grow_28 rfl ?_
      obtain ⟨hq1, hf⟩ := my_chk hf
      refine g_iast h 30 dX3_grow_29 rfl hq1 ?_
      refine g_al0 h 31 dX3_grow_30 rfl ?_
      refine g_geta h 34 fF_X3_15_X3 lyC_27 rfl dX3_grow_31 rfl ?_
      refine g_il1 h 35 dX3_grow_34 rfl ?_
      obtain ⟨r2, σ2, hc2, hf⟩ := my_ofb hf
      refine g_callSi h 38 cs_X3_32 (ct_X3_staysGood w hc2) rfl rfl (Nat.le_of_ble_eq_true rfl) ⟨by omega, by show 8 + (5 + 11) + 60 * 1 ≤ 60 * _; omega⟩ dX3_grow_35 rfl ?_
      refine g_ifeq h 48 41 dX3_grow_38 (by decide) rfl (fun hc => ?_) (fun hc => ?_)
      · have hf := my_ifT hc hf
        refine g_inc2 h 51 (my_inc ic_1 _) (Nat.le_of_ble_eq_true rfl) rfl dX3_grow_48 rfl ?_
        refine g_goto h 15 dX3_grow_51 (by decide) ?_
        exact g_weak (ih _ _ _ hf) (w_s (w_s (w_s w_0)))
      · have hf := my_ifF hc hf
        refine g_al0 h 42 dX3_grow_41 rfl ?_
        refine g_il1 h 43 dX3_grow_42 rfl ?_
        refine g_iconst h 44 ic_1 dX3_grow_43 rfl ?_
        refine g_iadd h 45 dX3_grow_44 rfl ?_
        obtain ⟨r3, σ3, hc3, hf⟩ := my_ofb hf
        refine g_callSv h 48 cs_X3_25 (hrec hc3) rfl rfl (Nat.le_of_ble_eq_true rfl) ⟨Nat.le_refl _, by show 8 + (3 + 11) + 60 * _ ≤ 60 * _; omega⟩ dX3_grow_45 rfl ?_
        refine g_inc2 h 51 (my_inc ic_1 _) (Nat.le_of_ble_eq_true rfl) rfl dX3_grow_48 rfl ?_
        refine g_goto h 15 dX3_grow_51 (by decide) ?_
        exact g_weak (ih _ _ _ hf) (w_s (w_s (w_s w_0)))
set_option maxRecDepth 100000 in
set_option maxHeartbeats 4000000 in
theorem ctm_X3_grow {w : my_V} {fr : my_M → Int32 → Option (Unit × my_M)} {kk : Nat} (hrec : ∀ {σ : my_M} {x1 : Int32} {r : Unit} {τ : my_M}, fr σ x1 = some (r, τ) → Ct w layC mX3_grow (kk + 2) [.ref (w.2.2.2 27), .int x1] σ none τ) {σ : my_M} {x1 : Int32} {r : Unit} {τ : my_M} (hf : b_X3_grow_m fr σ x1 = some (r, τ)) : Ct w layC mX3_grow (kk + 3) [.ref (w.2.2.2 27), .int x1] σ none τ := by
  refine my_met RX3 [some (.ref (w.2.2.2 27)), some (.int x1), none] 1 (by decide) rfl (Nat.le_of_ble_eq_true rfl) rfl (fun X h => ?_)
  unfold b_X3_grow_m at hf
  refine g_il1 h 1 dX3_grow_0 rfl ?_
  refine g_al0 h 2 dX3_grow_1 rfl ?_
  refine g_geti h 5 fF_X3_18_X3 lyC_27 rfl dX3_grow_2 rfl ?_
  refine g_iclt h 13 8 dX3_grow_5 (by decide) rfl (fun hc => ?_) (fun hc => ?_)
  · have hf := my_ifT hc hf
    refine g_iconst h 14 ic_0 dX3_grow_13 rfl ?_
    refine g_is2 h 15 (Nat.le_of_ble_eq_true rfl) rfl dX3_grow_14 rfl ?_
    exact g_weak ((lp_X3_grow hrec h my_NF) _ _ _ hf) (w_s (w_s (w_s w_0)))
  · have hf := my_ifF hc hf
    refine g_al0 h 9 dX3_grow_8 rfl ?_
    obtain ⟨r1, σ1, hc1, hf⟩ := my_ofb hf
    refine g_callVv h 12 cs_X3_29 rfl lyC_27 (ct_X3_keep w hc1) rfl rfl (Nat.le_of_ble_eq_true rfl) ⟨by omega, by show 8 + (1 + 11) + 60 * 2 ≤ 60 * _; omega⟩ dX3_grow_9 rfl ?_
    exact g_vret h dX3_grow_12 rfl (my_r2 hf)
theorem ct_X3_grow (w : my_V) : ∀ (n : Nat) {σ : my_M} {x1 : Int32} {r : Unit} {τ : my_M}, f_X3_grow n σ x1 = some (r, τ) → Ct w layC mX3_grow (n + 2) [.ref (w.2.2.2 27), .int x1] σ none τ
  | 0, _, _, _, _, hf => (my_nn hf).elim
  | n + 1, _, _, _, _, hf => by
    have := ctm_X3_grow (kk := n) (fun {_ _ _ _} q => ct_X3_grow w n q) hf
    rwa [show n + 3 = n + 1 + 2 by omega] at this
def b_X3_isGood_0 (k0 : my_M → Nat → Int32 → Int32 → Option (Int32 × my_M)) (σ : my_M) (a0 : Nat) (x1 : Int32) (x2 : Int32) : Option (Int32 × my_M) :=
(if x1 ≤ x2 then
some (1, σ)
else
(if my_ix x2 (my_len layC a0) then
(if (σ a0 (Int32.toNatClampNeg x2)) = (-1) then
some (0, σ)
else
(my_bnd (f_X3_staysGood σ a0 x2) fun r2 σ2 =>
(if r2 = 0 then
some (0, σ2)
else
k0 σ2 a0 x1 ((x2 + 1)))))
else none))
def g_X3_isGood : Nat → my_M → Nat → Int32 → Int32 → Option (Int32 × my_M)
  | 0 => fun _ _ _ _ => none
  | n + 1 => b_X3_isGood_0 (g_X3_isGood n)
def f_X3_isGood (σ : my_M) (a0 : Nat) (x1 : Int32) : Option (Int32 × my_M) :=
(g_X3_isGood my_NF) σ a0 x1 0
set_option maxRecDepth 100000 in
set_option maxHeartbeats 4000000 in
theorem lp_X3_isGood (w : my_V) {X : my_X} {r : Int32} {τ : my_M} (h : my_OK X w layC cX3_isGood RX3 3 (some .boolean)) : ∀ n : Nat, (∀ (σ : my_M) (a0 : Nat) (x1 : Int32) (x2 : Int32), (g_X3_isGood n) σ a0 x1 x2 = some (r, τ) → Go X w layC 2 3 (some (.int r)) τ σ 2 [some (.ref (w.2.2.2 a0)), some (.int x1), some (.int x2)] []) := by
  intro n
  induction n with
  | zero => exact fun _ _ _ _ hf => (my_nn hf).elim
  | succ n ih =>
    intro σ a0 x1 x2 hf
    replace hf : b_X3_isGood_0 (g_X3_isGood n) σ a0 x1 x2 = some (r, τ) := hf
    unfold b_X3_isGood_0 at hf
    refine g_il2 h 3 dX3_isGood_2 rfl ?_
    refine g_il1 h 4 dX3_isGood_3 rfl ?_
    refine g_icge h 30 7 dX3_isGood_4 (by decide) rfl (fun hc => ?_) (fun hc => ?_)
    · have hf := my_ifT hc hf
      refine g_iconst h 31 ic_1 dX3_isGood_30 rfl ?_
      exact g_zret h dX3_isGood_31 (Or.inr rfl) (my_r1 hf) (my_r2 hf)
    · have hf := my_ifF hc hf
      refine g_al0 h 8 dX3_isGood_7 rfl ?_
      refine g_il2 h 9 dX3_isGood_8 rfl ?_
      obtain ⟨hq1, hf⟩ := my_chk hf
      refine g_iald h 10 dX3_isGood_9 rfl hq1 ?_
      refine g_iconst h 11 ic_m1 dX3_isGood_10 rfl ?_
      refine g_iceq h 22 14 dX3_isGood_11 (by decide) rfl (fun hc => ?_) (fun hc => ?_)
      · have hf := my_ifT hc hf
        refine g_iconst h 23 ic_0 dX3_isGood_22 rfl ?_
        exact g_zret h dX3_isGood_23 (Or.inl rfl) (my_r1 hf) (my_r2 hf)
      · have hf := my_ifF hc hf
        refine g_al0 h 15 dX3_isGood_14 rfl ?_
        refine g_il2 h 16 dX3_isGood_15 rfl ?_
        obtain ⟨r2, σ2, hc2, hf⟩ := my_ofb hf
        refine g_callSi h 19 cs_X3_32 (ct_X3_staysGood w hc2) rfl rfl (Nat.le_of_ble_eq_true rfl) ⟨Nat.le_of_ble_eq_true rfl, Nat.le_of_ble_eq_true rfl⟩ dX3_isGood_16 rfl ?_
        refine g_ifne h 24 22 dX3_isGood_19 (by decide) rfl (fun hc => ?_) (fun hc => ?_)
        · have hf := my_ifF hc hf
          refine g_inc2 h 27 (my_inc ic_1 _) (Nat.le_of_ble_eq_true rfl) rfl dX3_isGood_24 rfl ?_
          refine g_goto h 2 dX3_isGood_27 (by decide) ?_
          exact g_weak (ih _ _ _ _ hf) (w_s (w_s (w_s w_0)))
        · have hf := my_ifT hc hf
          refine g_iconst h 23 ic_0 dX3_isGood_22 rfl ?_
          exact g_zret h dX3_isGood_23 (Or.inl rfl) (my_r1 hf) (my_r2 hf)
set_option maxRecDepth 100000 in
set_option maxHeartbeats 4000000 in
theorem ct_X3_isGood (w : my_V) {σ : my_M} {a0 : Nat} {x1 : Int32} {r : Int32} {τ : my_M} (hf : f_X3_isGood σ a0 x1 = some (r, τ)) : Ct w layC mX3_isGood 2 [.ref (w.2.2.2 a0), .int x1] σ (some (.int r)) τ := by
  refine my_met RX3 [some (.ref (w.2.2.2 a0)), some (.int x1), none] 1 (by decide) rfl (Nat.le_of_ble_eq_true rfl) rfl (fun X h => ?_)
  unfold f_X3_isGood at hf
  refine g_iconst h 1 ic_0 dX3_isGood_0 rfl ?_
  refine g_is2 h 2 (Nat.le_of_ble_eq_true rfl) rfl dX3_isGood_1 rfl ?_
  exact g_weak ((lp_X3_isGood w h my_NF) _ _ _ _ hf) (w_s (w_s (w_s w_0)))
def f_X3_makeFor (σ : my_M) (x1 : Int32) : Option (Unit × my_M) :=
(if (σ 27 0) = x1 then
some ((), σ)
else
(if 6 < x1 then
some ((), σ)
else
(my_bnd (f_X3_grow 8 (my_up (my_up σ 27 0 x1) 27 1 0) 0) fun r1 σ1 =>
some ((), σ1))))
set_option maxRecDepth 100000 in
set_option maxHeartbeats 4000000 in
theorem ct_X3_makeFor (w : my_V) {σ : my_M} {x1 : Int32} {r : Unit} {τ : my_M} (hf : f_X3_makeFor σ x1 = some (r, τ)) : Ct w layC mX3_makeFor 11 [.ref (w.2.2.2 27), .int x1] σ none τ := by
  refine my_met RX3 [some (.ref (w.2.2.2 27)), some (.int x1)] 0 (by decide) rfl (Nat.le_of_ble_eq_true rfl) rfl (fun X h => ?_)
  unfold f_X3_makeFor at hf
  refine g_al0 h 1 dX3_makeFor_0 rfl ?_
  refine g_geti h 4 fF_X3_18_X3 lyC_27 rfl dX3_makeFor_1 rfl ?_
  refine g_il1 h 5 dX3_makeFor_4 rfl ?_
  refine g_iceq h 29 8 dX3_makeFor_5 (by decide) rfl (fun hc => ?_) (fun hc => ?_)
  · have hf := my_ifT hc hf
    exact g_vret h dX3_makeFor_29 rfl (my_r2 hf)
  · have hf := my_ifF hc hf
    refine g_il1 h 9 dX3_makeFor_8 rfl ?_
    refine g_bipush h 11 bp_6 dX3_makeFor_9 rfl ?_
    refine g_icgt h 29 14 dX3_makeFor_11 (by decide) rfl (fun hc => ?_) (fun hc => ?_)
    · have hf := my_ifT hc hf
      exact g_vret h dX3_makeFor_29 rfl (my_r2 hf)
    · have hf := my_ifF hc hf
      refine g_al0 h 15 dX3_makeFor_14 rfl ?_
      refine g_il1 h 16 dX3_makeFor_15 rfl ?_
      refine g_puti h 19 fP_X3_18_X3 lyC_27 rfl dX3_makeFor_16 rfl ?_
      refine g_al0 h 20 dX3_makeFor_19 rfl ?_
      refine g_iconst h 21 ic_0 dX3_makeFor_20 rfl ?_
      refine g_puti h 24 fP_X3_22_X3 lyC_27 rfl dX3_makeFor_21 rfl ?_
      refine g_al0 h 25 dX3_makeFor_24 rfl ?_
      refine g_iconst h 26 ic_0 dX3_makeFor_25 rfl ?_
      obtain ⟨r1, σ1, hc1, hf⟩ := my_ofb hf
      refine g_callSv h 29 cs_X3_25 (ct_X3_grow w 8 hc1) rfl rfl (Nat.le_of_ble_eq_true rfl) ⟨Nat.le_of_ble_eq_true rfl, Nat.le_of_ble_eq_true rfl⟩ dX3_makeFor_26 rfl ?_
      exact g_vret h dX3_makeFor_29 rfl (my_r2 hf)
def f_X4_takeBackA (σ : my_M) (e0 : Nat) (x1 : Int32) : Option (Int32 × my_M) :=
(if e0 < 2 then
(my_bnd (f_X8_isWithin σ x1 0 (σ (11 + 5 * e0) 0)) fun r1 σ1 =>
(if r1 = 0 then
some (0, σ1)
else
some (1, (my_up σ1 (11 + 5 * e0) 0 ((σ1 (11 + 5 * e0) 0) - x1)))))
else none)
set_option maxRecDepth 100000 in
set_option maxHeartbeats 4000000 in
theorem ct_X4_takeBackA (w : my_V) {σ : my_M} {e0 : Nat} {x1 : Int32} {r : Int32} {τ : my_M} (hf : f_X4_takeBackA σ e0 x1 = some (r, τ)) : Ct w layC mX4_takeBack 2 [.ref (w.2.2.2 (11 + 5 * e0)), .int x1] σ (some (.int r)) τ := by
  refine my_met RX4 [some (.ref (w.2.2.2 (11 + 5 * e0))), some (.int x1)] 0 (by decide) rfl (Nat.le_of_ble_eq_true rfl) rfl (fun X h => ?_)
  unfold f_X4_takeBackA at hf
  obtain ⟨hb0, hf⟩ := my_chk hf
  refine g_il1 h 1 dX4_takeBack_0 rfl ?_
  refine g_iconst h 2 ic_0 dX4_takeBack_1 rfl ?_
  refine g_al0 h 3 dX4_takeBack_2 rfl ?_
  refine g_geti h 6 fF_X4_7_X0 (lyC_X0 hb0) rfl dX4_takeBack_3 rfl ?_
  obtain ⟨r1, σ1, hc1, hf⟩ := my_ofb hf
  refine g_callNi h 9 cs_X4_13 (ct_X8_isWithin w hc1) rfl rfl (Nat.le_of_ble_eq_true rfl) ⟨Nat.le_of_ble_eq_true rfl, Nat.le_of_ble_eq_true rfl⟩ dX4_takeBack_6 rfl ?_
  refine g_ifne h 14 12 dX4_takeBack_9 (by decide) rfl (fun hc => ?_) (fun hc => ?_)
  · have hf := my_ifF hc hf
    refine g_al0 h 15 dX4_takeBack_14 rfl ?_
    refine g_dup h 16 rfl dX4_takeBack_15 rfl ?_
    refine g_geti h 19 fF_X4_7_X0 (lyC_X0 hb0) rfl dX4_takeBack_16 rfl ?_
    refine g_il1 h 20 dX4_takeBack_19 rfl ?_
    refine g_isub h 21 dX4_takeBack_20 rfl ?_
    refine g_puti h 24 fP_X4_7_X0 (lyC_X0 hb0) rfl dX4_takeBack_21 rfl ?_
    refine g_iconst h 25 ic_1 dX4_takeBack_24 rfl ?_
    exact g_zret h dX4_takeBack_25 (Or.inr rfl) (my_r1 hf) (my_r2 hf)
  · have hf := my_ifT hc hf
    refine g_iconst h 13 ic_0 dX4_takeBack_12 rfl ?_
    exact g_zret h dX4_takeBack_13 (Or.inl rfl) (my_r1 hf) (my_r2 hf)
def f_X4_takeBackR (σ : my_M) (x1 : Int32) : Option (Int32 × my_M) :=
(my_bnd (f_X8_isWithin σ x1 0 (σ 21 0)) fun r1 σ1 =>
(if r1 = 0 then
some (0, σ1)
else
some (1, (my_up σ1 21 0 ((σ1 21 0) - x1)))))
set_option maxRecDepth 100000 in
set_option maxHeartbeats 4000000 in
theorem ct_X4_takeBackR (w : my_V) {σ : my_M} {x1 : Int32} {r : Int32} {τ : my_M} (hf : f_X4_takeBackR σ x1 = some (r, τ)) : Ct w layC mX4_takeBack 2 [.ref (w.2.2.2 21), .int x1] σ (some (.int r)) τ := by
  refine my_met RX4 [some (.ref (w.2.2.2 21)), some (.int x1)] 0 (by decide) rfl (Nat.le_of_ble_eq_true rfl) rfl (fun X h => ?_)
  unfold f_X4_takeBackR at hf
  refine g_il1 h 1 dX4_takeBack_0 rfl ?_
  refine g_iconst h 2 ic_0 dX4_takeBack_1 rfl ?_
  refine g_al0 h 3 dX4_takeBack_2 rfl ?_
  refine g_geti h 6 fF_X4_7_X5 lyC_21 rfl dX4_takeBack_3 rfl ?_
  obtain ⟨r1, σ1, hc1, hf⟩ := my_ofb hf
  refine g_callNi h 9 cs_X4_13 (ct_X8_isWithin w hc1) rfl rfl (Nat.le_of_ble_eq_true rfl) ⟨Nat.le_of_ble_eq_true rfl, Nat.le_of_ble_eq_true rfl⟩ dX4_takeBack_6 rfl ?_
  refine g_ifne h 14 12 dX4_takeBack_9 (by decide) rfl (fun hc => ?_) (fun hc => ?_)
  · have hf := my_ifF hc hf
    refine g_al0 h 15 dX4_takeBack_14 rfl ?_
    refine g_dup h 16 rfl dX4_takeBack_15 rfl ?_
    refine g_geti h 19 fF_X4_7_X5 lyC_21 rfl dX4_takeBack_16 rfl ?_
    refine g_il1 h 20 dX4_takeBack_19 rfl ?_
    refine g_isub h 21 dX4_takeBack_20 rfl ?_
    refine g_puti h 24 fP_X4_7_X5 lyC_21 rfl dX4_takeBack_21 rfl ?_
    refine g_iconst h 25 ic_1 dX4_takeBack_24 rfl ?_
    exact g_zret h dX4_takeBack_25 (Or.inr rfl) (my_r1 hf) (my_r2 hf)
  · have hf := my_ifT hc hf
    refine g_iconst h 13 ic_0 dX4_takeBack_12 rfl ?_
    exact g_zret h dX4_takeBack_13 (Or.inl rfl) (my_r1 hf) (my_r2 hf)
def f_X5_add (σ : my_M) (x1 : Int32) (x2 : Int32) (x3 : Int32) (x4 : Int32) (x5 : Int32) : Option (Int32 × my_M) :=
(if (σ 21 0) < 8 then
(if my_ix (σ 21 0) (my_len layC 22) then
(if my_ix ((my_up σ 22 (Int32.toNatClampNeg (σ 21 0)) x1) 21 0) (my_len layC 23) then
(if my_ix ((my_up (my_up σ 22 (Int32.toNatClampNeg (σ 21 0)) x1) 23 (Int32.toNatClampNeg ((my_up σ 22 (Int32.toNatClampNeg (σ 21 0)) x1) 21 0)) x2) 21 0) (my_len layC 24) then
(if my_ix ((my_up (my_up (my_up σ 22 (Int32.toNatClampNeg (σ 21 0)) x1) 23 (Int32.toNatClampNeg ((my_up σ 22 (Int32.toNatClampNeg (σ 21 0)) x1) 21 0)) x2) 24 (Int32.toNatClampNeg ((my_up (my_up σ 22 (Int32.toNatClampNeg (σ 21 0)) x1) 23 (Int32.toNatClampNeg ((my_up σ 22 (Int32.toNatClampNeg (σ 21 0)) x1) 21 0)) x2) 21 0)) x3) 21 0) (my_len layC 25) then
(if my_ix ((my_up (my_up (my_up (my_up σ 22 (Int32.toNatClampNeg (σ 21 0)) x1) 23 (Int32.toNatClampNeg ((my_up σ 22 (Int32.toNatClampNeg (σ 21 0)) x1) 21 0)) x2) 24 (Int32.toNatClampNeg ((my_up (my_up σ 22 (Int32.toNatClampNeg (σ 21 0)) x1) 23 (Int32.toNatClampNeg ((my_up σ 22 (Int32.toNatClampNeg (σ 21 0)) x1) 21 0)) x2) 21 0)) x3) 25 (Int32.toNatClampNeg ((my_up (my_up (my_up σ 22 (Int32.toNatClampNeg (σ 21 0)) x1) 23 (Int32.toNatClampNeg ((my_up σ 22 (Int32.toNatClampNeg (σ 21 0)) x1) 21 0)) x2) 24 (Int32.toNatClampNeg ((my_up (my_up σ 22 (Int32.toNatClampNeg (σ 21 0)) x1) 23 (Int32.toNatClampNeg ((my_up σ 22 (Int32.toNatClampNeg (σ 21 0)) x1) 21 0)) x2) 21 0)) x3) 21 0)) x4) 21 0) (my_len layC 26) then
some (1, (my_up (my_up (my_up (my_up (my_up (my_up σ 22 (Int32.toNatClampNeg (σ 21 0)) x1) 23 (Int32.toNatClampNeg ((my_up σ 22 (Int32.toNatClampNeg (σ 21 0)) x1) 21 0)) x2) 24 (Int32.toNatClampNeg ((my_up (my_up σ 22 (Int32.toNatClampNeg (σ 21 0)) x1) 23 (Int32.toNatClampNeg ((my_up σ 22 (Int32.toNatClampNeg (σ 21 0)) x1) 21 0)) x2) 21 0)) x3) 25 (Int32.toNatClampNeg ((my_up (my_up (my_up σ 22 (Int32.toNatClampNeg (σ 21 0)) x1) 23 (Int32.toNatClampNeg ((my_up σ 22 (Int32.toNatClampNeg (σ 21 0)) x1) 21 0)) x2) 24 (Int32.toNatClampNeg ((my_up (my_up σ 22 (Int32.toNatClampNeg (σ 21 0)) x1) 23 (Int32.toNatClampNeg ((my_up σ 22 (Int32.toNatClampNeg (σ 21 0)) x1) 21 0)) x2) 21 0)) x3) 21 0)) x4) 26 (Int32.toNatClampNeg ((my_up (my_up (my_up (my_up σ 22 (Int32.toNatClampNeg (σ 21 0)) x1) 23 (Int32.toNatClampNeg ((my_up σ 22 (Int32.toNatClampNeg (σ 21 0)) x1) 21 0)) x2) 24 (Int32.toNatClampNeg ((my_up (my_up σ 22 (Int32.toNatClampNeg (σ 21 0)) x1) 23 (Int32.toNatClampNeg ((my_up σ 22 (Int32.toNatClampNeg (σ 21 0)) x1) 21 0)) x2) 21 0)) x3) 25 (Int32.toNatClampNeg ((my_up (my_up (my_up σ 22 (Int32.toNatClampNeg (σ 21 0)) x1) 23 (Int32.toNatClampNeg ((my_up σ 22 (Int32.toNatClampNeg (σ 21 0)) x1) 21 0)) x2) 24 (Int32.toNatClampNeg ((my_up (my_up σ 22 (Int32.toNatClampNeg (σ 21 0)) x1) 23 (Int32.toNatClampNeg ((my_up σ 22 (Int32.toNatClampNeg (σ 21 0)) x1) 21 0)) x2) 21 0)) x3) 21 0)) x4) 21 0)) x5) 21 0 (((my_up (my_up (my_up (my_up (my_up σ 22 (Int32.toNatClampNeg (σ 21 0)) x1) 23 (Int32.toNatClampNeg ((my_up σ 22 (Int32.toNatClampNeg (σ 21 0)) x1) 21 0)) x2) 24 (Int32.toNatClampNeg ((my_up (my_up σ 22 (Int32.toNatClampNeg (σ 21 0)) x1) 23 (Int32.toNatClampNeg ((my_up σ 22 (Int32.toNatClampNeg (σ 21 0)) x1) 21 0)) x2) 21 0)) x3) 25 (Int32.toNatClampNeg ((my_up (my_up (my_up σ 22 (Int32.toNatClampNeg (σ 21 0)) x1) 23 (Int32.toNatClampNeg ((my_up σ 22 (Int32.toNatClampNeg (σ 21 0)) x1) 21 0)) x2) 24 (Int32.toNatClampNeg ((my_up (my_up σ 22 (Int32.toNatClampNeg (σ 21 0)) x1) 23 (Int32.toNatClampNeg ((my_up σ 22 (Int32.toNatClampNeg (σ 21 0)) x1) 21 0)) x2) 21 0)) x3) 21 0)) x4) 26 (Int32.toNatClampNeg ((my_up (my_up (my_up (my_up σ 22 (Int32.toNatClampNeg (σ 21 0)) x1) 23 (Int32.toNatClampNeg ((my_up σ 22 (Int32.toNatClampNeg (σ 21 0)) x1) 21 0)) x2) 24 (Int32.toNatClampNeg ((my_up (my_up σ 22 (Int32.toNatClampNeg (σ 21 0)) x1) 23 (Int32.toNatClampNeg ((my_up σ 22 (Int32.toNatClampNeg (σ 21 0)) x1) 21 0)) x2) 21 0)) x3) 25 (Int32.toNatClampNeg ((my_up (my_up (my_up σ 22 (Int32.toNatClampNeg (σ 21 0)) x1) 23 (Int32.toNatClampNeg ((my_up σ 22 (Int32.toNatClampNeg (σ 21 0)) x1) 21 0)) x2) 24 (Int32.toNatClampNeg ((my_up (my_up σ 22 (Int32.toNatClampNeg (σ 21 0)) x1) 23 (Int32.toNatClampNeg ((my_up σ 22 (Int32.toNatClampNeg (σ 21 0)) x1) 21 0)) x2) 21 0)) x3) 21 0)) x4) 21 0)) x5) 21 0) + 1)))
else none)
else none)
else none)
else none)
else none)
else
some (0, σ))
set_option maxRecDepth 100000 in
set_option maxHeartbeats 4000000 in
theorem ct_X5_add (w : my_V) {σ : my_M} {x1 : Int32} {x2 : Int32} {x3 : Int32} {x4 : Int32} {x5 : Int32} {r : Int32} {τ : my_M} (hf : f_X5_add σ x1 x2 x3 x4 x5 = some (r, τ)) : Ct w layC mX5_add 1 [.ref (w.2.2.2 21), .int x1, .int x2, .int x3, .int x4, .int x5] σ (some (.int r)) τ := by
  refine my_met RX5 [some (.ref (w.2.2.2 21)), some (.int x1), some (.int x2), some (.int x3), some (.int x4), some (.int x5)] 0 (by decide) rfl (Nat.le_of_ble_eq_true rfl) rfl (fun X h => ?_)
  unfold f_X5_add at hf
  refine g_al0 h 1 dX5_add_0 rfl ?_
  refine g_geti h 4 fF_X5_27_X5 lyC_21 rfl dX5_add_1 rfl ?_
  refine g_bipush h 6 bp_8 dX5_add_4 rfl ?_
  refine g_iclt h 11 9 dX5_add_6 (by decide) rfl (fun hc => ?_) (fun hc => ?_)
  · have hf := my_ifT hc hf
    refine g_al0 h 12 dX5_add_11 rfl ?_
    refine g_geta h 15 fF_X5_9_X5 lyC_21 rfl dX5_add_12 rfl ?_
    refine g_al0 h 16 dX5_add_15 rfl ?_
    refine g_geti h 19 fF_X5_27_X5 lyC_21 rfl dX5_add_16 rfl ?_
    refine g_il1 h 20 dX5_add_19 rfl ?_
    obtain ⟨hq1, hf⟩ := my_chk hf
    refine g_iast h 21 dX5_add_20 rfl hq1 ?_
    refine g_al0 h 22 dX5_add_21 rfl ?_
    refine g_geta h 25 fF_X5_15_X5 lyC_21 rfl dX5_add_22 rfl ?_
    refine g_al0 h 26 dX5_add_25 rfl ?_
    refine g_geti h 29 fF_X5_27_X5 lyC_21 rfl dX5_add_26 rfl ?_
    refine g_il2 h 30 dX5_add_29 rfl ?_
    obtain ⟨hq2, hf⟩ := my_chk hf
    refine g_iast h 31 dX5_add_30 rfl hq2 ?_
    refine g_al0 h 32 dX5_add_31 rfl ?_
    refine g_geta h 35 fF_X5_18_X5 lyC_21 rfl dX5_add_32 rfl ?_
    refine g_al0 h 36 dX5_add_35 rfl ?_
    refine g_geti h 39 fF_X5_27_X5 lyC_21 rfl dX5_add_36 rfl ?_
    refine g_il3 h 40 dX5_add_39 rfl ?_
    obtain ⟨hq3, hf⟩ := my_chk hf
    refine g_iast h 41 dX5_add_40 rfl hq3 ?_
    refine g_al0 h 42 dX5_add_41 rfl ?_
    refine g_geta h 45 fF_X5_21_X5 lyC_21 rfl dX5_add_42 rfl ?_
    refine g_al0 h 46 dX5_add_45 rfl ?_
    refine g_geti h 49 fF_X5_27_X5 lyC_21 rfl dX5_add_46 rfl ?_
    refine g_il4 h 51 dX5_add_49 rfl ?_
    obtain ⟨hq4, hf⟩ := my_chk hf
    refine g_iast h 52 dX5_add_51 rfl hq4 ?_
    refine g_al0 h 53 dX5_add_52 rfl ?_
    refine g_geta h 56 fF_X5_24_X5 lyC_21 rfl dX5_add_53 rfl ?_
    refine g_al0 h 57 dX5_add_56 rfl ?_
    refine g_geti h 60 fF_X5_27_X5 lyC_21 rfl dX5_add_57 rfl ?_
    refine g_il5 h 62 dX5_add_60 rfl ?_
    obtain ⟨hq5, hf⟩ := my_chk hf
    refine g_iast h 63 dX5_add_62 rfl hq5 ?_
    refine g_al0 h 64 dX5_add_63 rfl ?_
    refine g_dup h 65 rfl dX5_add_64 rfl ?_
    refine g_geti h 68 fF_X5_27_X5 lyC_21 rfl dX5_add_65 rfl ?_
    refine g_iconst h 69 ic_1 dX5_add_68 rfl ?_
    refine g_iadd h 70 dX5_add_69 rfl ?_
    refine g_puti h 73 fP_X5_27_X5 lyC_21 rfl dX5_add_70 rfl ?_
    refine g_iconst h 74 ic_1 dX5_add_73 rfl ?_
    exact g_zret h dX5_add_74 (Or.inr rfl) (my_r1 hf) (my_r2 hf)
  · have hf := my_ifF hc hf
    refine g_iconst h 10 ic_0 dX5_add_9 rfl ?_
    exact g_zret h dX5_add_10 (Or.inl rfl) (my_r1 hf) (my_r2 hf)
def b_X5_areSo_0 (k0 : my_M → Int32 → Option (Int32 × my_M)) (σ : my_M) (x2 : Int32) : Option (Int32 × my_M) :=
(if (σ 21 0) ≤ x2 then
some (1, σ)
else
(if my_ix x2 (my_len layC 22) then
(if my_ix x2 (my_len layC 23) then
(if my_ix x2 (my_len layC 24) then
(if my_ix x2 (my_len layC 25) then
(my_bnd (f_X2_heard σ (σ 22 (Int32.toNatClampNeg x2)) (σ 23 (Int32.toNatClampNeg x2)) (σ 24 (Int32.toNatClampNeg x2)) (σ 25 (Int32.toNatClampNeg x2))) fun r5 σ5 =>
(if my_ix x2 (my_len layC 26) then
(if r5 = (σ5 26 (Int32.toNatClampNeg x2)) then
k0 σ5 ((x2 + 1))
else
some (0, σ5))
else none))
else none)
else none)
else none)
else none))
def g_X5_areSo : Nat → my_M → Int32 → Option (Int32 × my_M)
  | 0 => fun _ _ => none
  | n + 1 => b_X5_areSo_0 (g_X5_areSo n)
def f_X5_areSo (σ : my_M) : Option (Int32 × my_M) :=
(g_X5_areSo my_NF) σ 0
set_option maxRecDepth 100000 in
set_option maxHeartbeats 4000000 in
theorem lp_X5_areSo (w : my_V) {X : my_X} {r : Int32} {τ : my_M} (h : my_OK X w layC cX5_areSo RX5 3 (some .boolean)) : ∀ n : Nat, (∀ (σ : my_M) (x2 : Int32), (g_X5_areSo n) σ x2 = some (r, τ) → Go X w layC 4 3 (some (.int r)) τ σ 2 [some (.ref (w.2.2.2 21)), some (.ref (w.2.2.2 1)), some (.int x2)] []) := by
  intro n
  induction n with
  | zero => exact fun _ _ hf => (my_nn hf).elim
  | succ n ih =>
    intro σ x2 hf
    replace hf : b_X5_areSo_0 (g_X5_areSo n) σ x2 = some (r, τ) := hf
    unfold b_X5_areSo_0 at hf
    refine g_il2 h 3 dX5_areSo_2 rfl ?_
    refine g_al0 h 4 dX5_areSo_3 rfl ?_
    refine g_geti h 7 fF_X5_27_X5 lyC_21 rfl dX5_areSo_4 rfl ?_
    refine g_icge h 55 10 dX5_areSo_7 (by decide) rfl (fun hc => ?_) (fun hc => ?_)
    · have hf := my_ifT hc hf
      refine g_iconst h 56 ic_1 dX5_areSo_55 rfl ?_
      exact g_zret h dX5_areSo_56 (Or.inr rfl) (my_r1 hf) (my_r2 hf)
    · have hf := my_ifF hc hf
      refine g_al1 h 11 dX5_areSo_10 rfl ?_
      refine g_al0 h 12 dX5_areSo_11 rfl ?_
      refine g_geta h 15 fF_X5_9_X5 lyC_21 rfl dX5_areSo_12 rfl ?_
      refine g_il2 h 16 dX5_areSo_15 rfl ?_
      obtain ⟨hq1, hf⟩ := my_chk hf
      refine g_iald h 17 dX5_areSo_16 rfl hq1 ?_
      refine g_al0 h 18 dX5_areSo_17 rfl ?_
      refine g_geta h 21 fF_X5_15_X5 lyC_21 rfl dX5_areSo_18 rfl ?_
      refine g_il2 h 22 dX5_areSo_21 rfl ?_
      obtain ⟨hq2, hf⟩ := my_chk hf
      refine g_iald h 23 dX5_areSo_22 rfl hq2 ?_
      refine g_al0 h 24 dX5_areSo_23 rfl ?_
      refine g_geta h 27 fF_X5_18_X5 lyC_21 rfl dX5_areSo_24 rfl ?_
      refine g_il2 h 28 dX5_areSo_27 rfl ?_
      obtain ⟨hq3, hf⟩ := my_chk hf
      refine g_iald h 29 dX5_areSo_28 rfl hq3 ?_
      refine g_al0 h 30 dX5_areSo_29 rfl ?_
      refine g_geta h 33 fF_X5_21_X5 lyC_21 rfl dX5_areSo_30 rfl ?_
      refine g_il2 h 34 dX5_areSo_33 rfl ?_
      obtain ⟨hq4, hf⟩ := my_chk hf
      refine g_iald h 35 dX5_areSo_34 rfl hq4 ?_
      obtain ⟨r5, σ5, hc5, hf⟩ := my_ofb hf
      refine g_callVi h 38 cs_X5_31 rfl lyC_1 (ct_X2_heard w hc5) rfl rfl (Nat.le_of_ble_eq_true rfl) ⟨Nat.le_of_ble_eq_true rfl, Nat.le_of_ble_eq_true rfl⟩ dX5_areSo_35 rfl ?_
      refine g_al0 h 39 dX5_areSo_38 rfl ?_
      refine g_geta h 42 fF_X5_24_X5 lyC_21 rfl dX5_areSo_39 rfl ?_
      refine g_il2 h 43 dX5_areSo_42 rfl ?_
      obtain ⟨hq6, hf⟩ := my_chk hf
      refine g_iald h 44 dX5_areSo_43 rfl hq6 ?_
      refine g_iceq h 49 47 dX5_areSo_44 (by decide) rfl (fun hc => ?_) (fun hc => ?_)
      · have hf := my_ifT hc hf
        refine g_inc2 h 52 (my_inc ic_1 _) (Nat.le_of_ble_eq_true rfl) rfl dX5_areSo_49 rfl ?_
        refine g_goto h 2 dX5_areSo_52 (by decide) ?_
        exact g_weak (ih _ _ hf) (w_s (w_s (w_s w_0)))
      · have hf := my_ifF hc hf
        refine g_iconst h 48 ic_0 dX5_areSo_47 rfl ?_
        exact g_zret h dX5_areSo_48 (Or.inl rfl) (my_r1 hf) (my_r2 hf)
set_option maxRecDepth 100000 in
set_option maxHeartbeats 4000000 in
theorem ct_X5_areSo (w : my_V) {σ : my_M} {r : Int32} {τ : my_M} (hf : f_X5_areSo σ = some (r, τ)) : Ct w layC mX5_areSo 4 [.ref (w.2.2.2 21), .ref (w.2.2.2 1)] σ (some (.int r)) τ := by
  refine my_met RX5 [some (.ref (w.2.2.2 21)), some (.ref (w.2.2.2 1)), none] 1 (by decide) rfl (Nat.le_of_ble_eq_true rfl) rfl (fun X h => ?_)
  unfold f_X5_areSo at hf
  refine g_iconst h 1 ic_0 dX5_areSo_0 rfl ?_
  refine g_is2 h 2 (Nat.le_of_ble_eq_true rfl) rfl dX5_areSo_1 rfl ?_
  exact g_weak ((lp_X5_areSo w h my_NF) _ _ hf) (w_s (w_s (w_s w_0)))
def f_X6_begin (σ : my_M) (e0 : Nat) (x1 : Int32) (x2 : Int32) : Option (Unit × my_M) :=
(if e0 < 4 then
(my_bnd (f_J7_fill_53178 (my_up (my_up (my_up σ (32 + e0) 0 1) (32 + e0) 1 x1) (32 + e0) 2 x2) (36 + e0) 0) fun r1 σ1 =>
some ((), σ1))
else none)
set_option maxRecDepth 100000 in
set_option maxHeartbeats 4000000 in
theorem ct_X6_begin (w : my_V) {σ : my_M} {e0 : Nat} {x1 : Int32} {x2 : Int32} {r : Unit} {τ : my_M} (hf : f_X6_begin σ e0 x1 x2 = some (r, τ)) : Ct w layC mX6_begin 2 [.ref (w.2.2.2 (32 + e0)), .int x1, .int x2] σ none τ := by
  refine my_met RX6 [some (.ref (w.2.2.2 (32 + e0))), some (.int x1), some (.int x2)] 0 (by decide) rfl (Nat.le_of_ble_eq_true rfl) rfl (fun X h => ?_)
  unfold f_X6_begin at hf
  obtain ⟨hb0, hf⟩ := my_chk hf
  refine g_al0 h 1 dX6_begin_0 rfl ?_
  refine g_iconst h 2 ic_1 dX6_begin_1 rfl ?_
  refine g_putz h 5 fP_X6_15_X6 (lyC_X6 hb0) rfl dX6_begin_2 rfl (Or.inr rfl) ?_
  refine g_al0 h 6 dX6_begin_5 rfl ?_
  refine g_il1 h 7 dX6_begin_6 rfl ?_
  refine g_puti h 10 fP_X6_19_X6 (lyC_X6 hb0) rfl dX6_begin_7 rfl ?_
  refine g_al0 h 11 dX6_begin_10 rfl ?_
  refine g_il2 h 12 dX6_begin_11 rfl ?_
  refine g_puti h 15 fP_X6_23_X6 (lyC_X6 hb0) rfl dX6_begin_12 rfl ?_
  refine g_al0 h 16 dX6_begin_15 rfl ?_
  refine g_geta h 19 fF_X6_9_X6 (lyC_X6 hb0) rfl dX6_begin_16 rfl ?_
  refine g_iconst h 20 ic_0 dX6_begin_19 rfl ?_
  obtain ⟨r1, σ1, hc1, hf⟩ := my_ofb hf
  refine g_callSv h 23 cs_X6_26 (ct_J7_fill_53178 w hc1) rfl rfl (Nat.le_of_ble_eq_true rfl) ⟨Nat.le_of_ble_eq_true rfl, Nat.le_of_ble_eq_true rfl⟩ dX6_begin_20 rfl ?_
  exact g_vret h dX6_begin_23 rfl (my_r2 hf)
def f_X6_holds (σ : my_M) (e0 : Nat) (x1 : Int32) (x2 : Int32) : Option (Int32 × my_M) :=
(if e0 < 4 then
(if x2 < 0 then
some (0, σ)
else
(if (σ (32 + e0) 2) < x2 then
some (0, σ)
else
(if x1 < 0 then
some (0, σ)
else
(if my_b (if ((σ (32 + e0) 2) - x2) < x1 then 0 else 1 : Int32) then some ((if ((σ (32 + e0) 2) - x2) < x1 then 0 else 1 : Int32), σ) else none))))
else none)
set_option maxRecDepth 100000 in
set_option maxHeartbeats 4000000 in
theorem ct_X6_holds (w : my_V) {σ : my_M} {e0 : Nat} {x1 : Int32} {x2 : Int32} {r : Int32} {τ : my_M} (hf : f_X6_holds σ e0 x1 x2 = some (r, τ)) : Ct w layC mX6_holds 1 [.ref (w.2.2.2 (32 + e0)), .int x1, .int x2] σ (some (.int r)) τ := by
  refine my_met RX6 [some (.ref (w.2.2.2 (32 + e0))), some (.int x1), some (.int x2)] 0 (by decide) rfl (Nat.le_of_ble_eq_true rfl) rfl (fun X h => ?_)
  unfold f_X6_holds at hf
  obtain ⟨hb0, hf⟩ := my_chk hf
  refine g_il2 h 1 dX6_holds_0 rfl ?_
  refine g_iflt h 30 4 dX6_holds_1 (by decide) rfl (fun hc => ?_) (fun hc => ?_)
  · have hf := my_ifT hc hf
    refine g_iconst h 31 ic_0 dX6_holds_30 rfl ?_
    exact g_zret h dX6_holds_31 (Or.inl rfl) (my_r1 hf) (my_r2 hf)
  · have hf := my_ifF hc hf
    refine g_il2 h 5 dX6_holds_4 rfl ?_
    refine g_al0 h 6 dX6_holds_5 rfl ?_
    refine g_geti h 9 fF_X6_23_X6 (lyC_X6 hb0) rfl dX6_holds_6 rfl ?_
    refine g_icgt h 30 12 dX6_holds_9 (by decide) rfl (fun hc => ?_) (fun hc => ?_)
    · have hf := my_ifT hc hf
      refine g_iconst h 31 ic_0 dX6_holds_30 rfl ?_
      exact g_zret h dX6_holds_31 (Or.inl rfl) (my_r1 hf) (my_r2 hf)
    · have hf := my_ifF hc hf
      refine g_il1 h 13 dX6_holds_12 rfl ?_
      refine g_iflt h 30 16 dX6_holds_13 (by decide) rfl (fun hc => ?_) (fun hc => ?_)
      · have hf := my_ifT hc hf
        refine g_iconst h 31 ic_0 dX6_holds_30 rfl ?_
        exact g_zret h dX6_holds_31 (Or.inl rfl) (my_r1 hf) (my_r2 hf)
      · have hf := my_ifF hc hf
        refine g_il1 h 17 dX6_holds_16 rfl ?_
        refine g_al0 h 18 dX6_holds_17 rfl ?_
        refine g_geti h 21 fF_X6_23_X6 (lyC_X6 hb0) rfl dX6_holds_18 rfl ?_
        refine g_il2 h 22 dX6_holds_21 rfl ?_
        refine g_isub h 23 dX6_holds_22 rfl ?_
        refine g_icgt_sel h 30 31 dX6_holds_23 (by decide) dX6_holds_26 ic_1 dX6_holds_27 (by decide) dX6_holds_30 ic_0 rfl ?_
        obtain ⟨hqz, hf⟩ := my_chk hf
        exact g_zret h dX6_holds_31 hqz (my_r1 hf) (my_r2 hf)
def f_X6_faultAs (σ : my_M) (e0 : Nat) (x1 : Int32) (x2 : Int32) (x3 : Int32) : Option (Int32 × my_M) :=
(if e0 < 4 then
(if (σ (32 + e0) 0) = 0 then
some (1, σ)
else
(if (σ (32 + e0) 1) = x1 then
(if 0 ≤ x3 then
(my_bnd (f_X6_holds σ e0 x2 x3) fun r1 σ1 =>
some ((if r1 = 0 then 3 else 0 : Int32), σ1))
else
some (4, σ))
else
some (2, σ)))
else none)
set_option maxRecDepth 100000 in
set_option maxHeartbeats 4000000 in
theorem ct_X6_faultAs (w : my_V) {σ : my_M} {e0 : Nat} {x1 : Int32} {x2 : Int32} {x3 : Int32} {r : Int32} {τ : my_M} (hf : f_X6_faultAs σ e0 x1 x2 x3 = some (r, τ)) : Ct w layC mX6_faultAs 2 [.ref (w.2.2.2 (32 + e0)), .int x1, .int x2, .int x3] σ (some (.int r)) τ := by
  refine my_met RX6 [some (.ref (w.2.2.2 (32 + e0))), some (.int x1), some (.int x2), some (.int x3)] 0 (by decide) rfl (Nat.le_of_ble_eq_true rfl) rfl (fun X h => ?_)
  unfold f_X6_faultAs at hf
  obtain ⟨hb0, hf⟩ := my_chk hf
  refine g_al0 h 1 dX6_faultAs_0 rfl ?_
  refine g_geti h 4 fF_X6_15_X6 (lyC_X6 hb0) rfl dX6_faultAs_1 rfl ?_
  refine g_ifne h 9 7 dX6_faultAs_4 (by decide) rfl (fun hc => ?_) (fun hc => ?_)
  · have hf := my_ifF hc hf
    refine g_al0 h 10 dX6_faultAs_9 rfl ?_
    refine g_geti h 13 fF_X6_19_X6 (lyC_X6 hb0) rfl dX6_faultAs_10 rfl ?_
    refine g_il1 h 14 dX6_faultAs_13 rfl ?_
    refine g_iceq h 19 17 dX6_faultAs_14 (by decide) rfl (fun hc => ?_) (fun hc => ?_)
    · have hf := my_ifT hc hf
      refine g_il3 h 20 dX6_faultAs_19 rfl ?_
      refine g_ifge h 25 23 dX6_faultAs_20 (by decide) rfl (fun hc => ?_) (fun hc => ?_)
      · have hf := my_ifT hc hf
        refine g_al0 h 26 dX6_faultAs_25 rfl ?_
        refine g_il2 h 27 dX6_faultAs_26 rfl ?_
        refine g_il3 h 28 dX6_faultAs_27 rfl ?_
        obtain ⟨r1, σ1, hc1, hf⟩ := my_ofb hf
        refine g_callVi h 31 cs_X6_32 rfl (lyC_X6 hb0) (ct_X6_holds w hc1) rfl rfl (Nat.le_of_ble_eq_true rfl) ⟨Nat.le_of_ble_eq_true rfl, Nat.le_of_ble_eq_true rfl⟩ dX6_faultAs_28 rfl ?_
        refine g_ifeq_sel h 38 39 dX6_faultAs_31 (by decide) dX6_faultAs_34 ic_0 dX6_faultAs_35 (by decide) dX6_faultAs_38 ic_3 rfl ?_
        exact g_iret h dX6_faultAs_39 (my_r1 hf) (my_r2 hf)
      · have hf := my_ifF hc hf
        refine g_iconst h 24 ic_4 dX6_faultAs_23 rfl ?_
        exact g_iret h dX6_faultAs_24 (my_r1 hf) (my_r2 hf)
    · have hf := my_ifF hc hf
      refine g_iconst h 18 ic_2 dX6_faultAs_17 rfl ?_
      exact g_iret h dX6_faultAs_18 (my_r1 hf) (my_r2 hf)
  · have hf := my_ifT hc hf
    refine g_iconst h 8 ic_1 dX6_faultAs_7 rfl ?_
    exact g_iret h dX6_faultAs_8 (my_r1 hf) (my_r2 hf)
def f_X6_write (σ : my_M) (e0 : Nat) (x1 : Int32) (x2 : Int32) : Option (Unit × my_M) :=
(if e0 < 4 then
(if (σ (32 + e0) 1) = 0 then
(if my_ix x1 (my_len layC (36 + e0)) then
some ((), (my_up σ (36 + e0) (Int32.toNatClampNeg x1) (Int32.toInt8 x2).toInt32))
else none)
else
(if (σ (32 + e0) 1) = 1 then
(if my_ix x1 (my_len layC (36 + e0)) then
some ((), (my_up σ (36 + e0) (Int32.toNatClampNeg x1) (Int32.toInt16 x2).toInt32))
else none)
else
(if my_ix x1 (my_len layC (36 + e0)) then
some ((), (my_up σ (36 + e0) (Int32.toNatClampNeg x1) x2))
else none)))
else none)
set_option maxRecDepth 100000 in
set_option maxHeartbeats 4000000 in
theorem ct_X6_write (w : my_V) {σ : my_M} {e0 : Nat} {x1 : Int32} {x2 : Int32} {r : Unit} {τ : my_M} (hf : f_X6_write σ e0 x1 x2 = some (r, τ)) : Ct w layC mX6_write 1 [.ref (w.2.2.2 (32 + e0)), .int x1, .int x2] σ none τ := by
  refine my_met RX6 [some (.ref (w.2.2.2 (32 + e0))), some (.int x1), some (.int x2)] 0 (by decide) rfl (Nat.le_of_ble_eq_true rfl) rfl (fun X h => ?_)
  unfold f_X6_write at hf
  obtain ⟨hb0, hf⟩ := my_chk hf
  refine g_al0 h 1 dX6_write_0 rfl ?_
  refine g_geti h 4 fF_X6_19_X6 (lyC_X6 hb0) rfl dX6_write_1 rfl ?_
  refine g_ifne h 18 7 dX6_write_4 (by decide) rfl (fun hc => ?_) (fun hc => ?_)
  · have hf := my_ifF hc hf
    refine g_al0 h 19 dX6_write_18 rfl ?_
    refine g_geti h 22 fF_X6_19_X6 (lyC_X6 hb0) rfl dX6_write_19 rfl ?_
    refine g_iconst h 23 ic_1 dX6_write_22 rfl ?_
    refine g_icne h 37 26 dX6_write_23 (by decide) rfl (fun hc => ?_) (fun hc => ?_)
    · have hf := my_ifF hc hf
      refine g_al0 h 38 dX6_write_37 rfl ?_
      refine g_geta h 41 fF_X6_9_X6 (lyC_X6 hb0) rfl dX6_write_38 rfl ?_
      refine g_il1 h 42 dX6_write_41 rfl ?_
      refine g_il2 h 43 dX6_write_42 rfl ?_
      obtain ⟨hq1, hf⟩ := my_chk hf
      refine g_iast h 44 dX6_write_43 rfl hq1 ?_
      exact g_vret h dX6_write_44 rfl (my_r2 hf)
    · have hf := my_ifT hc hf
      refine g_al0 h 27 dX6_write_26 rfl ?_
      refine g_geta h 30 fF_X6_9_X6 (lyC_X6 hb0) rfl dX6_write_27 rfl ?_
      refine g_il1 h 31 dX6_write_30 rfl ?_
      refine g_il2 h 32 dX6_write_31 rfl ?_
      refine g_i2s h 33 dX6_write_32 rfl ?_
      obtain ⟨hq2, hf⟩ := my_chk hf
      refine g_iast h 34 dX6_write_33 rfl hq2 ?_
      refine g_goto h 44 dX6_write_34 (by decide) ?_
      exact g_vret h dX6_write_44 rfl (my_r2 hf)
  · have hf := my_ifT hc hf
    refine g_al0 h 8 dX6_write_7 rfl ?_
    refine g_geta h 11 fF_X6_9_X6 (lyC_X6 hb0) rfl dX6_write_8 rfl ?_
    refine g_il1 h 12 dX6_write_11 rfl ?_
    refine g_il2 h 13 dX6_write_12 rfl ?_
    refine g_i2b h 14 dX6_write_13 rfl ?_
    obtain ⟨hq3, hf⟩ := my_chk hf
    refine g_iast h 15 dX6_write_14 rfl hq3 ?_
    refine g_goto h 44 dX6_write_15 (by decide) ?_
    exact g_vret h dX6_write_44 rfl (my_r2 hf)
def f_X7_fitsPart (σ : my_M) (x1 : Int32) : Option (Int32 × my_M) :=
(if (σ 30 2) = 0 then
(if x1 = 59 then
(if my_b (if 4 ≤ (σ 30 1) then 0 else 1 : Int32) then some ((if 4 ≤ (σ 30 1) then 0 else 1 : Int32), σ) else none)
else
some (0, σ))
else
(if (σ 30 2) = 1 then
(my_bnd (f_X7_kindOf σ x1) fun r2 σ2 =>
(if my_b (if r2 = (-9) then 0 else 1 : Int32) then some ((if r2 = (-9) then 0 else 1 : Int32), σ2) else none))
else
(if x1 = 45 then
some (1, σ)
else
(my_bnd (f_X8_isWithin σ x1 48 ((48 + (σ 30 0)) - 1)) fun r1 σ1 =>
(if my_b (if r1 = 0 then 0 else 1 : Int32) then some ((if r1 = 0 then 0 else 1 : Int32), σ1) else none)))))
set_option maxRecDepth 100000 in
set_option maxHeartbeats 4000000 in
theorem ct_X7_fitsPart (w : my_V) {σ : my_M} {x1 : Int32} {r : Int32} {τ : my_M} (hf : f_X7_fitsPart σ x1 = some (r, τ)) : Ct w layC mX7_fitsPart 2 [.ref (w.2.2.2 30), .int x1] σ (some (.int r)) τ := by
  refine my_met RX7 [some (.ref (w.2.2.2 30)), some (.int x1)] 0 (by decide) rfl (Nat.le_of_ble_eq_true rfl) rfl (fun X h => ?_)
  unfold f_X7_fitsPart at hf
  refine g_al0 h 1 dX7_fitsPart_0 rfl ?_
  refine g_geti h 4 fF_X7_18_X7 lyC_30 rfl dX7_fitsPart_1 rfl ?_
  refine g_ifne h 27 7 dX7_fitsPart_4 (by decide) rfl (fun hc => ?_) (fun hc => ?_)
  · have hf := my_ifF hc hf
    refine g_al0 h 28 dX7_fitsPart_27 rfl ?_
    refine g_geti h 31 fF_X7_18_X7 lyC_30 rfl dX7_fitsPart_28 rfl ?_
    refine g_iconst h 32 ic_1 dX7_fitsPart_31 rfl ?_
    refine g_icne h 50 35 dX7_fitsPart_32 (by decide) rfl (fun hc => ?_) (fun hc => ?_)
    · have hf := my_ifF hc hf
      refine g_il1 h 51 dX7_fitsPart_50 rfl ?_
      refine g_bipush h 53 bp_45 dX7_fitsPart_51 rfl ?_
      refine g_iceq h 74 56 dX7_fitsPart_53 (by decide) rfl (fun hc => ?_) (fun hc => ?_)
      · have hf := my_ifT hc hf
        refine g_iconst h 75 ic_1 dX7_fitsPart_74 rfl ?_
        refine g_goto h 79 dX7_fitsPart_75 (by decide) ?_
        exact g_zret h dX7_fitsPart_79 (Or.inr rfl) (my_r1 hf) (my_r2 hf)
      · have hf := my_ifF hc hf
        refine g_il1 h 57 dX7_fitsPart_56 rfl ?_
        refine g_bipush h 59 bp_48 dX7_fitsPart_57 rfl ?_
        refine g_bipush h 61 bp_48 dX7_fitsPart_59 rfl ?_
        refine g_al0 h 62 dX7_fitsPart_61 rfl ?_
        refine g_geti h 65 fF_X7_9_X7 lyC_30 rfl dX7_fitsPart_62 rfl ?_
        refine g_iadd h 66 dX7_fitsPart_65 rfl ?_
        refine g_iconst h 67 ic_1 dX7_fitsPart_66 rfl ?_
        refine g_isub h 68 dX7_fitsPart_67 rfl ?_
        obtain ⟨r1, σ1, hc1, hf⟩ := my_ofb hf
        refine g_callNi h 71 cs_X7_35 (ct_X8_isWithin w hc1) rfl rfl (Nat.le_of_ble_eq_true rfl) ⟨Nat.le_of_ble_eq_true rfl, Nat.le_of_ble_eq_true rfl⟩ dX7_fitsPart_68 rfl ?_
        refine g_ifeq_sel h 78 79 dX7_fitsPart_71 (by decide) dX7_fitsPart_74 ic_1 dX7_fitsPart_75 (by decide) dX7_fitsPart_78 ic_0 rfl ?_
        obtain ⟨hqz, hf⟩ := my_chk hf
        exact g_zret h dX7_fitsPart_79 hqz (my_r1 hf) (my_r2 hf)
    · have hf := my_ifT hc hf
      refine g_il1 h 36 dX7_fitsPart_35 rfl ?_
      obtain ⟨r2, σ2, hc2, hf⟩ := my_ofb hf
      refine g_callSi h 39 cs_X7_43 (ct_X7_kindOf w hc2) rfl rfl (Nat.le_of_ble_eq_true rfl) ⟨Nat.le_of_ble_eq_true rfl, Nat.le_of_ble_eq_true rfl⟩ dX7_fitsPart_36 rfl ?_
      refine g_bipush h 41 bp_m9 dX7_fitsPart_39 rfl ?_
      refine g_iceq_sel h 48 49 dX7_fitsPart_41 (by decide) dX7_fitsPart_44 ic_1 dX7_fitsPart_45 (by decide) dX7_fitsPart_48 ic_0 rfl ?_
      obtain ⟨hqz, hf⟩ := my_chk hf
      exact g_zret h dX7_fitsPart_49 hqz (my_r1 hf) (my_r2 hf)
  · have hf := my_ifT hc hf
    refine g_il1 h 8 dX7_fitsPart_7 rfl ?_
    refine g_bipush h 10 bp_59 dX7_fitsPart_8 rfl ?_
    refine g_icne h 25 13 dX7_fitsPart_10 (by decide) rfl (fun hc => ?_) (fun hc => ?_)
    · have hf := my_ifF hc hf
      refine g_iconst h 26 ic_0 dX7_fitsPart_25 rfl ?_
      exact g_zret h dX7_fitsPart_26 (Or.inl rfl) (my_r1 hf) (my_r2 hf)
    · have hf := my_ifT hc hf
      refine g_al0 h 14 dX7_fitsPart_13 rfl ?_
      refine g_geti h 17 fF_X7_15_X7 lyC_30 rfl dX7_fitsPart_14 rfl ?_
      refine g_iconst h 18 ic_4 dX7_fitsPart_17 rfl ?_
      refine g_icge_sel h 25 26 dX7_fitsPart_18 (by decide) dX7_fitsPart_21 ic_1 dX7_fitsPart_22 (by decide) dX7_fitsPart_25 ic_0 rfl ?_
      obtain ⟨hqz, hf⟩ := my_chk hf
      exact g_zret h dX7_fitsPart_26 hqz (my_r1 hf) (my_r2 hf)
def f_X7_goesOn (σ : my_M) (x1 : Int32) (x2 : Int32) : Option (Int32 × my_M) :=
(if x1 = 0 then
(if my_b (if x2 = 99 then 1 else 0 : Int32) then some ((if x2 = 99 then 1 else 0 : Int32), σ) else none)
else
(if x1 = 1 then
(my_bnd (f_X8_isWithin (my_up σ 30 0 (x2 - 48)) x2 50 54) fun r2 σ2 =>
(if my_b r2 then some (r2, σ2) else none))
else
(my_bnd (f_X7_fitsPart σ x2) fun r1 σ1 =>
(if r1 = 0 then
some (0, σ1)
else
(if ((my_up σ1 30 2 ((σ1 30 2) + 1)) 30 2) = (((my_up σ1 30 2 ((σ1 30 2) + 1)) 30 0) + 2) then
some (1, (my_up (my_up (my_up σ1 30 2 ((σ1 30 2) + 1)) 30 2 0) 30 1 (((my_up (my_up σ1 30 2 ((σ1 30 2) + 1)) 30 2 0) 30 1) + 1)))
else
some (1, (my_up σ1 30 2 ((σ1 30 2) + 1))))))))
set_option maxRecDepth 100000 in
set_option maxHeartbeats 4000000 in
theorem ct_X7_goesOn (w : my_V) {σ : my_M} {x1 : Int32} {x2 : Int32} {r : Int32} {τ : my_M} (hf : f_X7_goesOn σ x1 x2 = some (r, τ)) : Ct w layC mX7_goesOn 3 [.ref (w.2.2.2 30), .int x1, .int x2] σ (some (.int r)) τ := by
  refine my_met RX7 [some (.ref (w.2.2.2 30)), some (.int x1), some (.int x2)] 0 (by decide) rfl (Nat.le_of_ble_eq_true rfl) rfl (fun X h => ?_)
  unfold f_X7_goesOn at hf
  refine g_il1 h 1 dX7_goesOn_0 rfl ?_
  refine g_ifne h 16 4 dX7_goesOn_1 (by decide) rfl (fun hc => ?_) (fun hc => ?_)
  · have hf := my_ifF hc hf
    refine g_il1 h 17 dX7_goesOn_16 rfl ?_
    refine g_iconst h 18 ic_1 dX7_goesOn_17 rfl ?_
    refine g_icne h 38 21 dX7_goesOn_18 (by decide) rfl (fun hc => ?_) (fun hc => ?_)
    · have hf := my_ifF hc hf
      refine g_al0 h 39 dX7_goesOn_38 rfl ?_
      refine g_il2 h 40 dX7_goesOn_39 rfl ?_
      obtain ⟨r1, σ1, hc1, hf⟩ := my_ofb hf
      refine g_callVi h 43 cs_X7_39 rfl lyC_30 (ct_X7_fitsPart w hc1) rfl rfl (Nat.le_of_ble_eq_true rfl) ⟨Nat.le_of_ble_eq_true rfl, Nat.le_of_ble_eq_true rfl⟩ dX7_goesOn_40 rfl ?_
      refine g_ifne h 48 46 dX7_goesOn_43 (by decide) rfl (fun hc => ?_) (fun hc => ?_)
      · have hf := my_ifF hc hf
        refine g_al0 h 49 dX7_goesOn_48 rfl ?_
        refine g_dup h 50 rfl dX7_goesOn_49 rfl ?_
        refine g_geti h 53 fF_X7_18_X7 lyC_30 rfl dX7_goesOn_50 rfl ?_
        refine g_iconst h 54 ic_1 dX7_goesOn_53 rfl ?_
        refine g_iadd h 55 dX7_goesOn_54 rfl ?_
        refine g_puti h 58 fP_X7_18_X7 lyC_30 rfl dX7_goesOn_55 rfl ?_
        refine g_al0 h 59 dX7_goesOn_58 rfl ?_
        refine g_geti h 62 fF_X7_18_X7 lyC_30 rfl dX7_goesOn_59 rfl ?_
        refine g_al0 h 63 dX7_goesOn_62 rfl ?_
        refine g_geti h 66 fF_X7_9_X7 lyC_30 rfl dX7_goesOn_63 rfl ?_
        refine g_iconst h 67 ic_2 dX7_goesOn_66 rfl ?_
        refine g_iadd h 68 dX7_goesOn_67 rfl ?_
        refine g_icne h 86 71 dX7_goesOn_68 (by decide) rfl (fun hc => ?_) (fun hc => ?_)
        · have hf := my_ifF hc hf
          refine g_iconst h 87 ic_1 dX7_goesOn_86 rfl ?_
          exact g_zret h dX7_goesOn_87 (Or.inr rfl) (my_r1 hf) (my_r2 hf)
        · have hf := my_ifT hc hf
          refine g_al0 h 72 dX7_goesOn_71 rfl ?_
          refine g_iconst h 73 ic_0 dX7_goesOn_72 rfl ?_
          refine g_puti h 76 fP_X7_18_X7 lyC_30 rfl dX7_goesOn_73 rfl ?_
          refine g_al0 h 77 dX7_goesOn_76 rfl ?_
          refine g_dup h 78 rfl dX7_goesOn_77 rfl ?_
          refine g_geti h 81 fF_X7_15_X7 lyC_30 rfl dX7_goesOn_78 rfl ?_
          refine g_iconst h 82 ic_1 dX7_goesOn_81 rfl ?_
          refine g_iadd h 83 dX7_goesOn_82 rfl ?_
          refine g_puti h 86 fP_X7_15_X7 lyC_30 rfl dX7_goesOn_83 rfl ?_
          refine g_iconst h 87 ic_1 dX7_goesOn_86 rfl ?_
          exact g_zret h dX7_goesOn_87 (Or.inr rfl) (my_r1 hf) (my_r2 hf)
      · have hf := my_ifT hc hf
        refine g_iconst h 47 ic_0 dX7_goesOn_46 rfl ?_
        exact g_zret h dX7_goesOn_47 (Or.inl rfl) (my_r1 hf) (my_r2 hf)
    · have hf := my_ifT hc hf
      refine g_al0 h 22 dX7_goesOn_21 rfl ?_
      refine g_il2 h 23 dX7_goesOn_22 rfl ?_
      refine g_bipush h 25 bp_48 dX7_goesOn_23 rfl ?_
      refine g_isub h 26 dX7_goesOn_25 rfl ?_
      refine g_puti h 29 fP_X7_9_X7 lyC_30 rfl dX7_goesOn_26 rfl ?_
      refine g_il2 h 30 dX7_goesOn_29 rfl ?_
      refine g_bipush h 32 bp_50 dX7_goesOn_30 rfl ?_
      refine g_bipush h 34 bp_54 dX7_goesOn_32 rfl ?_
      obtain ⟨r2, σ2, hc2, hf⟩ := my_ofb hf
      refine g_callNi h 37 cs_X7_35 (ct_X8_isWithin w hc2) rfl rfl (Nat.le_of_ble_eq_true rfl) ⟨Nat.le_of_ble_eq_true rfl, Nat.le_of_ble_eq_true rfl⟩ dX7_goesOn_34 rfl ?_
      obtain ⟨hqz, hf⟩ := my_chk hf
      exact g_zret h dX7_goesOn_37 hqz (my_r1 hf) (my_r2 hf)
  · have hf := my_ifT hc hf
    refine g_il2 h 5 dX7_goesOn_4 rfl ?_
    refine g_bipush h 7 bp_99 dX7_goesOn_5 rfl ?_
    refine g_icne_sel h 14 15 dX7_goesOn_7 (by decide) dX7_goesOn_10 ic_1 dX7_goesOn_11 (by decide) dX7_goesOn_14 ic_0 rfl ?_
    obtain ⟨hqz, hf⟩ := my_chk hf
    exact g_zret h dX7_goesOn_15 hqz (my_r1 hf) (my_r2 hf)
def b_X7_readUpTo_0 (k0 : my_M → Nat → Int32 → Int32 → Int32 → Option (Int32 × my_M)) (σ : my_M) (e1 : Nat) (x2 : Int32) (x3 : Int32) (x4 : Int32) : Option (Int32 × my_M) :=
(if e1 < 4 then
(if x3 ≤ x4 then
(if (σ 30 1) ≤ 0 then
some (x3, (my_up σ 30 3 0))
else
(if my_b (if (σ 30 2) = 0 then 1 else 0 : Int32) then
some (x3, (my_up σ 30 3 (if (σ 30 2) = 0 then 1 else 0 : Int32)))
else none))
else
(if my_ix (x2 + x4) (my_len layC (36 + e1)) then
(my_bnd (f_X7_goesOn σ x4 (σ (36 + e1) (Int32.toNatClampNeg (x2 + x4)))) fun r3 σ3 =>
(if r3 = 0 then
some (x4, σ3)
else
k0 σ3 e1 x2 x3 ((x4 + 1))))
else none))
else none)
def g_X7_readUpTo : Nat → my_M → Nat → Int32 → Int32 → Int32 → Option (Int32 × my_M)
  | 0 => fun _ _ _ _ _ => none
  | n + 1 => b_X7_readUpTo_0 (g_X7_readUpTo n)
def f_X7_readUpTo (σ : my_M) (e1 : Nat) (x2 : Int32) (x3 : Int32) : Option (Int32 × my_M) :=
(if e1 < 4 then
(g_X7_readUpTo my_NF) (my_up (my_up (my_up (my_up σ 30 0 0) 30 1 0) 30 2 0) 30 3 0) e1 x2 x3 0
else none)
set_option maxRecDepth 100000 in
set_option maxHeartbeats 4000000 in
theorem lp_X7_readUpTo (w : my_V) {X : my_X} {r : Int32} {τ : my_M} (h : my_OK X w layC cX7_readUpTo RX7 5 (some .int)) : ∀ n : Nat, (∀ (σ : my_M) (e1 : Nat) (x2 : Int32) (x3 : Int32) (x4 : Int32), (g_X7_readUpTo n) σ e1 x2 x3 x4 = some (r, τ) → Go X w layC 4 5 (some (.int r)) τ σ 23 [some (.ref (w.2.2.2 30)), some (.ref (w.2.2.2 (32 + e1))), some (.int x2), some (.int x3), some (.int x4)] []) := by
  intro n
  induction n with
  | zero => exact fun _ _ _ _ _ hf => (my_nn hf).elim
  | succ n ih =>
    intro σ e1 x2 x3 x4 hf
    replace hf : b_X7_readUpTo_0 (g_X7_readUpTo n) σ e1 x2 x3 x4 = some (r, τ) := hf
    unfold b_X7_readUpTo_0 at hf
    obtain ⟨hb1, hf⟩ := my_chk hf
    refine g_il4 h 25 dX7_readUpTo_23 rfl ?_
    refine g_il3 h 26 dX7_readUpTo_25 rfl ?_
    refine g_icge h 56 29 dX7_readUpTo_26 (by decide) rfl (fun hc => ?_) (fun hc => ?_)
    · have hf := my_ifT hc hf
      refine g_al0 h 57 dX7_readUpTo_56 rfl ?_
      refine g_al0 h 58 dX7_readUpTo_57 rfl ?_
      refine g_geti h 61 fF_X7_15_X7 lyC_30 rfl dX7_readUpTo_58 rfl ?_
      refine g_ifle h 75 64 dX7_readUpTo_61 (by decide) rfl (fun hc => ?_) (fun hc => ?_)
      · have hf := my_ifT hc hf
        refine g_iconst h 76 ic_0 dX7_readUpTo_75 rfl ?_
        refine g_putz h 79 fP_X7_21_X7 lyC_30 rfl dX7_readUpTo_76 rfl (Or.inl rfl) ?_
        refine g_il3 h 80 dX7_readUpTo_79 rfl ?_
        exact g_iret h dX7_readUpTo_80 (my_r1 hf) (my_r2 hf)
      · have hf := my_ifF hc hf
        refine g_al0 h 65 dX7_readUpTo_64 rfl ?_
        refine g_geti h 68 fF_X7_18_X7 lyC_30 rfl dX7_readUpTo_65 rfl ?_
        refine g_ifne_sel h 75 76 dX7_readUpTo_68 (by decide) dX7_readUpTo_71 ic_1 dX7_readUpTo_72 (by decide) dX7_readUpTo_75 ic_0 rfl ?_
        obtain ⟨hq1, hf⟩ := my_chk hf
        refine g_putz h 79 fP_X7_21_X7 lyC_30 rfl dX7_readUpTo_76 rfl hq1 ?_
        refine g_il3 h 80 dX7_readUpTo_79 rfl ?_
        exact g_iret h dX7_readUpTo_80 (my_r1 hf) (my_r2 hf)
    · have hf := my_ifF hc hf
      refine g_al0 h 30 dX7_readUpTo_29 rfl ?_
      refine g_il4 h 32 dX7_readUpTo_30 rfl ?_
      refine g_al1 h 33 dX7_readUpTo_32 rfl ?_
      refine g_geta h 36 fF_X7_25_X6 (lyC_X6 hb1) rfl dX7_readUpTo_33 rfl ?_
      refine g_il2 h 37 dX7_readUpTo_36 rfl ?_
      refine g_il4 h 39 dX7_readUpTo_37 rfl ?_
      refine g_iadd h 40 dX7_readUpTo_39 rfl ?_
      obtain ⟨hq2, hf⟩ := my_chk hf
      refine g_iald h 41 dX7_readUpTo_40 rfl hq2 ?_
      obtain ⟨r3, σ3, hc3, hf⟩ := my_ofb hf
      refine g_callVi h 44 cs_X7_31 rfl lyC_30 (ct_X7_goesOn w hc3) rfl rfl (Nat.le_of_ble_eq_true rfl) ⟨Nat.le_of_ble_eq_true rfl, Nat.le_of_ble_eq_true rfl⟩ dX7_readUpTo_41 rfl ?_
      refine g_ifne h 50 47 dX7_readUpTo_44 (by decide) rfl (fun hc => ?_) (fun hc => ?_)
      · have hf := my_ifF hc hf
        refine g_inc4 h 53 (my_inc ic_1 _) (Nat.le_of_ble_eq_true rfl) rfl dX7_readUpTo_50 rfl ?_
        refine g_goto h 23 dX7_readUpTo_53 (by decide) ?_
        exact g_weak (ih _ _ _ _ _ hf) (w_s (w_s (w_s (w_s (w_s w_0)))))
      · have hf := my_ifT hc hf
        refine g_il4 h 49 dX7_readUpTo_47 rfl ?_
        exact g_iret h dX7_readUpTo_49 (my_r1 hf) (my_r2 hf)
set_option maxRecDepth 100000 in
set_option maxHeartbeats 4000000 in
theorem ct_X7_readUpTo (w : my_V) {σ : my_M} {e1 : Nat} {x2 : Int32} {x3 : Int32} {r : Int32} {τ : my_M} (hf : f_X7_readUpTo σ e1 x2 x3 = some (r, τ)) : Ct w layC mX7_readUpTo 4 [.ref (w.2.2.2 30), .ref (w.2.2.2 (32 + e1)), .int x2, .int x3] σ (some (.int r)) τ := by
  refine my_met RX7 [some (.ref (w.2.2.2 30)), some (.ref (w.2.2.2 (32 + e1))), some (.int x2), some (.int x3), none] 1 (by decide) rfl (Nat.le_of_ble_eq_true rfl) rfl (fun X h => ?_)
  unfold f_X7_readUpTo at hf
  obtain ⟨hb1, hf⟩ := my_chk hf
  refine g_al0 h 1 dX7_readUpTo_0 rfl ?_
  refine g_iconst h 2 ic_0 dX7_readUpTo_1 rfl ?_
  refine g_puti h 5 fP_X7_9_X7 lyC_30 rfl dX7_readUpTo_2 rfl ?_
  refine g_al0 h 6 dX7_readUpTo_5 rfl ?_
  refine g_iconst h 7 ic_0 dX7_readUpTo_6 rfl ?_
  refine g_puti h 10 fP_X7_15_X7 lyC_30 rfl dX7_readUpTo_7 rfl ?_
  refine g_al0 h 11 dX7_readUpTo_10 rfl ?_
  refine g_iconst h 12 ic_0 dX7_readUpTo_11 rfl ?_
  refine g_puti h 15 fP_X7_18_X7 lyC_30 rfl dX7_readUpTo_12 rfl ?_
  refine g_al0 h 16 dX7_readUpTo_15 rfl ?_
  refine g_iconst h 17 ic_0 dX7_readUpTo_16 rfl ?_
  refine g_putz h 20 fP_X7_21_X7 lyC_30 rfl dX7_readUpTo_17 rfl (Or.inl rfl) ?_
  refine g_iconst h 21 ic_0 dX7_readUpTo_20 rfl ?_
  refine g_is4 h 23 (Nat.le_of_ble_eq_true rfl) rfl dX7_readUpTo_21 rfl ?_
  exact g_weak ((lp_X7_readUpTo w h my_NF) _ _ _ _ _ hf) (w_s (w_s (w_s (w_s (w_s w_0)))))
def f_X8_mostListened (σ : my_M) (x1 : Int32) (a2 : Nat) : Option (Int32 × my_M) :=
(my_bnd (f_X2_has σ x1) fun r1 σ1 =>
(if r1 = 0 then
some ((-9), σ1)
else
(my_bnd (f_X2_loudestMoment σ1 x1 a2) fun r2 σ2 =>
(my_bnd (f_X2_listened σ2 x1 a2 r2) fun r3 σ3 =>
some (r3, σ3)))))
set_option maxRecDepth 100000 in
set_option maxHeartbeats 4000000 in
theorem ct_X8_mostListened (w : my_V) {σ : my_M} {x1 : Int32} {a2 : Nat} {r : Int32} {τ : my_M} (hf : f_X8_mostListened σ x1 a2 = some (r, τ)) : Ct w layC mX8_mostListened 4 [.ref (w.2.2.2 0), .int x1, .ref (w.2.2.2 a2)] σ (some (.int r)) τ := by
  refine my_met RX8 [some (.ref (w.2.2.2 0)), some (.int x1), some (.ref (w.2.2.2 a2))] 0 (by decide) rfl (Nat.le_of_ble_eq_true rfl) rfl (fun X h => ?_)
  unfold f_X8_mostListened at hf
  refine g_al0 h 1 dX8_mostListened_0 rfl ?_
  refine g_geta h 4 fF_X8_12_X8 lyC_0 rfl dX8_mostListened_1 rfl ?_
  refine g_il1 h 5 dX8_mostListened_4 rfl ?_
  obtain ⟨r1, σ1, hc1, hf⟩ := my_ofb hf
  refine g_callVi h 8 cs_X8_95 rfl lyC_1 (ct_X2_has w hc1) rfl rfl (Nat.le_of_ble_eq_true rfl) ⟨Nat.le_of_ble_eq_true rfl, Nat.le_of_ble_eq_true rfl⟩ dX8_mostListened_5 rfl ?_
  refine g_ifne h 14 11 dX8_mostListened_8 (by decide) rfl (fun hc => ?_) (fun hc => ?_)
  · have hf := my_ifF hc hf
    refine g_al0 h 15 dX8_mostListened_14 rfl ?_
    refine g_geta h 18 fF_X8_12_X8 lyC_0 rfl dX8_mostListened_15 rfl ?_
    refine g_il1 h 19 dX8_mostListened_18 rfl ?_
    refine g_al2 h 20 dX8_mostListened_19 rfl ?_
    refine g_al0 h 21 dX8_mostListened_20 rfl ?_
    refine g_geta h 24 fF_X8_12_X8 lyC_0 rfl dX8_mostListened_21 rfl ?_
    refine g_il1 h 25 dX8_mostListened_24 rfl ?_
    refine g_al2 h 26 dX8_mostListened_25 rfl ?_
    obtain ⟨r2, σ2, hc2, hf⟩ := my_ofb hf
    refine g_callVi h 29 cs_X8_155 rfl lyC_1 (ct_X2_loudestMoment w hc2) rfl rfl (Nat.le_of_ble_eq_true rfl) ⟨Nat.le_of_ble_eq_true rfl, Nat.le_of_ble_eq_true rfl⟩ dX8_mostListened_26 rfl ?_
    obtain ⟨r3, σ3, hc3, hf⟩ := my_ofb hf
    refine g_callVi h 32 cs_X8_151 rfl lyC_1 (ct_X2_listened w hc3) rfl rfl (Nat.le_of_ble_eq_true rfl) ⟨Nat.le_of_ble_eq_true rfl, Nat.le_of_ble_eq_true rfl⟩ dX8_mostListened_29 rfl ?_
    exact g_iret h dX8_mostListened_32 (my_r1 hf) (my_r2 hf)
  · have hf := my_ifT hc hf
    refine g_bipush h 13 bp_m9 dX8_mostListened_11 rfl ?_
    exact g_iret h dX8_mostListened_13 (my_r1 hf) (my_r2 hf)
def f_X8_afterDay (σ : my_M) (x1 : Int32) : Option (Int32 × my_M) :=
(my_bnd (f_X0_sound σ 1) fun r1 σ1 =>
(if x1 = 0 then
some ((σ1 16 0), σ1)
else
(if x1 = 1 then
(my_bnd (f_X8_mostListened σ1 (x1 - 10) 20) fun r3 σ3 =>
some (r3, σ3))
else
(if x1 = 2 then
(my_bnd (f_X0_soundingMoments σ1 1) fun r5 σ5 =>
some (r5, σ5))
else
(if x1 = 3 then
(my_bnd (f_X0_lastSounding σ1 1) fun r7 σ7 =>
some (r7, σ7))
else
(if x1 = 4 then
(my_bnd (f_X0_firstOfTwo σ1 1) fun r9 σ9 =>
some (r9, σ9))
else
(my_bnd (f_X8_mostListened σ1 (x1 - 10) 20) fun r11 σ11 =>
some (r11, σ11))))))))
set_option maxRecDepth 100000 in
set_option maxHeartbeats 4000000 in
theorem ct_X8_afterDay (w : my_V) {σ : my_M} {x1 : Int32} {r : Int32} {τ : my_M} (hf : f_X8_afterDay σ x1 = some (r, τ)) : Ct w layC mX8_afterDay 5 [.ref (w.2.2.2 0), .int x1] σ (some (.int r)) τ := by
  refine my_met RX8 [some (.ref (w.2.2.2 0)), some (.int x1)] 0 (by decide) rfl (Nat.le_of_ble_eq_true rfl) rfl (fun X h => ?_)
  unfold f_X8_afterDay at hf
  refine g_al0 h 1 dX8_afterDay_0 rfl ?_
  refine g_geta h 4 fF_X8_25_X8 lyC_0 rfl dX8_afterDay_1 rfl ?_
  refine g_al0 h 5 dX8_afterDay_4 rfl ?_
  refine g_geta h 8 fF_X8_12_X8 lyC_0 rfl dX8_afterDay_5 rfl ?_
  obtain ⟨r1, σ1, hc1, hf⟩ := my_ofb hf
  refine g_callVv h 11 cs_X8_144 rfl lyC_16 (ct_X0_sound w hc1) rfl rfl (Nat.le_of_ble_eq_true rfl) ⟨Nat.le_of_ble_eq_true rfl, Nat.le_of_ble_eq_true rfl⟩ dX8_afterDay_8 rfl ?_
  refine g_il1 h 12 dX8_afterDay_11 rfl ?_
  by_cases hs2 : x1 = 0
  · have hf := my_ifT hs2 hf
    refine g_tsI (off := 36) h 48 dX8_afterDay_12 (0) hs2 (by decide) (by decide) rfl (by decide) ?_
    refine g_al0 h 49 dX8_afterDay_48 rfl ?_
    refine g_geta h 52 fF_X8_25_X8 lyC_0 rfl dX8_afterDay_49 rfl ?_
    refine g_geti h 55 fF_X8_90_X0 lyC_16 rfl dX8_afterDay_52 rfl ?_
    exact g_iret h dX8_afterDay_55 (my_r1 hf) (my_r2 hf)
  · have hf := my_ifF hs2 hf
    by_cases hs4 : x1 = 1
    · have hf := my_ifT hs4 hf
      refine g_tsI (off := 68) h 80 dX8_afterDay_12 (1) hs4 (by decide) (by decide) rfl (by decide) ?_
      refine g_al0 h 81 dX8_afterDay_80 rfl ?_
      refine g_il1 h 82 dX8_afterDay_81 rfl ?_
      refine g_bipush h 84 bp_10 dX8_afterDay_82 rfl ?_
      refine g_isub h 85 dX8_afterDay_84 rfl ?_
      refine g_al0 h 86 dX8_afterDay_85 rfl ?_
      refine g_geta h 89 fF_X8_25_X8 lyC_0 rfl dX8_afterDay_86 rfl ?_
      refine g_geta h 92 fF_X8_148_X0 lyC_16 rfl dX8_afterDay_89 rfl ?_
      obtain ⟨r3, σ3, hc3, hf⟩ := my_ofb hf
      refine g_callVi h 95 cs_X8_271 rfl lyC_0 (ct_X8_mostListened w hc3) rfl rfl (Nat.le_of_ble_eq_true rfl) ⟨Nat.le_of_ble_eq_true rfl, Nat.le_of_ble_eq_true rfl⟩ dX8_afterDay_92 rfl ?_
      exact g_iret h dX8_afterDay_95 (my_r1 hf) (my_r2 hf)
    · have hf := my_ifF hs4 hf
      by_cases hs6 : x1 = 2
      · have hf := my_ifT hs6 hf
        refine g_tsI (off := 44) h 56 dX8_afterDay_12 (2) hs6 (by decide) (by decide) rfl (by decide) ?_
        refine g_al0 h 57 dX8_afterDay_56 rfl ?_
        refine g_geta h 60 fF_X8_25_X8 lyC_0 rfl dX8_afterDay_57 rfl ?_
        obtain ⟨r5, σ5, hc5, hf⟩ := my_ofb hf
        refine g_callVi h 63 cs_X8_262 rfl lyC_16 (ct_X0_soundingMoments w hc5) rfl rfl (Nat.le_of_ble_eq_true rfl) ⟨Nat.le_of_ble_eq_true rfl, Nat.le_of_ble_eq_true rfl⟩ dX8_afterDay_60 rfl ?_
        exact g_iret h dX8_afterDay_63 (my_r1 hf) (my_r2 hf)
      · have hf := my_ifF hs6 hf
        by_cases hs8 : x1 = 3
        · have hf := my_ifT hs8 hf
          refine g_tsI (off := 52) h 64 dX8_afterDay_12 (3) hs8 (by decide) (by decide) rfl (by decide) ?_
          refine g_al0 h 65 dX8_afterDay_64 rfl ?_
          refine g_geta h 68 fF_X8_25_X8 lyC_0 rfl dX8_afterDay_65 rfl ?_
          obtain ⟨r7, σ7, hc7, hf⟩ := my_ofb hf
          refine g_callVi h 71 cs_X8_265 rfl lyC_16 (ct_X0_lastSounding w hc7) rfl rfl (Nat.le_of_ble_eq_true rfl) ⟨Nat.le_of_ble_eq_true rfl, Nat.le_of_ble_eq_true rfl⟩ dX8_afterDay_68 rfl ?_
          exact g_iret h dX8_afterDay_71 (my_r1 hf) (my_r2 hf)
        · have hf := my_ifF hs8 hf
          by_cases hs10 : x1 = 4
          · have hf := my_ifT hs10 hf
            refine g_tsI (off := 60) h 72 dX8_afterDay_12 (4) hs10 (by decide) (by decide) rfl (by decide) ?_
            refine g_al0 h 73 dX8_afterDay_72 rfl ?_
            refine g_geta h 76 fF_X8_25_X8 lyC_0 rfl dX8_afterDay_73 rfl ?_
            obtain ⟨r9, σ9, hc9, hf⟩ := my_ofb hf
            refine g_callVi h 79 cs_X8_268 rfl lyC_16 (ct_X0_firstOfTwo w hc9) rfl rfl (Nat.le_of_ble_eq_true rfl) ⟨Nat.le_of_ble_eq_true rfl, Nat.le_of_ble_eq_true rfl⟩ dX8_afterDay_76 rfl ?_
            exact g_iret h dX8_afterDay_79 (my_r1 hf) (my_r2 hf)
          · have hf := my_ifF hs10 hf
            have hs2n := lv_neT (a := 0) hs2 (by decide)
            have hs4n := lv_neT (a := 1) hs4 (by decide)
            have hs6n := lv_neT (a := 2) hs6 (by decide)
            have hs8n := lv_neT (a := 3) hs8 (by decide)
            have hs10n := lv_neT (a := 4) hs10 (by decide)
            refine g_tsO h 80 dX8_afterDay_12 (by omega) (by decide) ?_
            refine g_al0 h 81 dX8_afterDay_80 rfl ?_
            refine g_il1 h 82 dX8_afterDay_81 rfl ?_
            refine g_bipush h 84 bp_10 dX8_afterDay_82 rfl ?_
            refine g_isub h 85 dX8_afterDay_84 rfl ?_
            refine g_al0 h 86 dX8_afterDay_85 rfl ?_
            refine g_geta h 89 fF_X8_25_X8 lyC_0 rfl dX8_afterDay_86 rfl ?_
            refine g_geta h 92 fF_X8_148_X0 lyC_16 rfl dX8_afterDay_89 rfl ?_
            obtain ⟨r11, σ11, hc11, hf⟩ := my_ofb hf
            refine g_callVi h 95 cs_X8_271 rfl lyC_0 (ct_X8_mostListened w hc11) rfl rfl (Nat.le_of_ble_eq_true rfl) ⟨Nat.le_of_ble_eq_true rfl, Nat.le_of_ble_eq_true rfl⟩ dX8_afterDay_92 rfl ?_
            exact g_iret h dX8_afterDay_95 (my_r1 hf) (my_r2 hf)
def f_X8_air (σ : my_M) (x1 : Int32) : Option (Int32 × my_M) :=
(my_bnd (f_X8_isWithin σ x1 0 25) fun r1 σ1 =>
(if r1 = 0 then
some ((-2), σ1)
else
(if (σ1 1 1) = 0 then
some ((-3), σ1)
else
(my_bnd (f_X0_sound σ1 0) fun r2 σ2 =>
(if my_ix x1 (my_len layC 15) then
some ((σ2 15 (Int32.toNatClampNeg x1)), σ2)
else none)))))
set_option maxRecDepth 100000 in
set_option maxHeartbeats 4000000 in
theorem ct_X8_air (w : my_V) {σ : my_M} {x1 : Int32} {r : Int32} {τ : my_M} (hf : f_X8_air σ x1 = some (r, τ)) : Ct w layC mX8_air 3 [.ref (w.2.2.2 0), .int x1] σ (some (.int r)) τ := by
  refine my_met RX8 [some (.ref (w.2.2.2 0)), some (.int x1)] 0 (by decide) rfl (Nat.le_of_ble_eq_true rfl) rfl (fun X h => ?_)
  unfold f_X8_air at hf
  refine g_il1 h 1 dX8_air_0 rfl ?_
  refine g_iconst h 2 ic_0 dX8_air_1 rfl ?_
  refine g_bipush h 4 bp_25 dX8_air_2 rfl ?_
  obtain ⟨r1, σ1, hc1, hf⟩ := my_ofb hf
  refine g_callSi h 7 cs_X8_120 (ct_X8_isWithin w hc1) rfl rfl (Nat.le_of_ble_eq_true rfl) ⟨Nat.le_of_ble_eq_true rfl, Nat.le_of_ble_eq_true rfl⟩ dX8_air_4 rfl ?_
  refine g_ifne h 13 10 dX8_air_7 (by decide) rfl (fun hc => ?_) (fun hc => ?_)
  · have hf := my_ifF hc hf
    refine g_al0 h 14 dX8_air_13 rfl ?_
    refine g_geta h 17 fF_X8_12_X8 lyC_0 rfl dX8_air_14 rfl ?_
    refine g_geti h 20 fF_X8_94_X2 lyC_1 rfl dX8_air_17 rfl ?_
    refine g_ifne h 26 23 dX8_air_20 (by decide) rfl (fun hc => ?_) (fun hc => ?_)
    · have hf := my_ifF hc hf
      refine g_al0 h 27 dX8_air_26 rfl ?_
      refine g_geta h 30 fF_X8_21_X8 lyC_0 rfl dX8_air_27 rfl ?_
      refine g_al0 h 31 dX8_air_30 rfl ?_
      refine g_geta h 34 fF_X8_12_X8 lyC_0 rfl dX8_air_31 rfl ?_
      obtain ⟨r2, σ2, hc2, hf⟩ := my_ofb hf
      refine g_callVv h 37 cs_X8_144 rfl lyC_11 (ct_X0_sound w hc2) rfl rfl (Nat.le_of_ble_eq_true rfl) ⟨Nat.le_of_ble_eq_true rfl, Nat.le_of_ble_eq_true rfl⟩ dX8_air_34 rfl ?_
      refine g_al0 h 38 dX8_air_37 rfl ?_
      refine g_geta h 41 fF_X8_21_X8 lyC_0 rfl dX8_air_38 rfl ?_
      refine g_geta h 44 fF_X8_148_X0 lyC_11 rfl dX8_air_41 rfl ?_
      refine g_il1 h 45 dX8_air_44 rfl ?_
      obtain ⟨hq3, hf⟩ := my_chk hf
      refine g_iald h 46 dX8_air_45 rfl hq3 ?_
      exact g_iret h dX8_air_46 (my_r1 hf) (my_r2 hf)
    · have hf := my_ifT hc hf
      refine g_bipush h 25 bp_m3 dX8_air_23 rfl ?_
      exact g_iret h dX8_air_25 (my_r1 hf) (my_r2 hf)
  · have hf := my_ifT hc hf
    refine g_bipush h 12 bp_m2 dX8_air_10 rfl ?_
    exact g_iret h dX8_air_12 (my_r1 hf) (my_r2 hf)
def b_X8_areActs_0 (k0 : my_M → Nat → Int32 → Int32 → Int32 → Option (Int32 × my_M)) (σ : my_M) (e0 : Nat) (x1 : Int32) (x2 : Int32) (x3 : Int32) : Option (Int32 × my_M) :=
(if e0 < 4 then
(if x2 ≤ x3 then
some (1, σ)
else
(if my_ix (x1 + (2 * x3)) (my_len layC (36 + e0)) then
(if my_ix ((x1 + (2 * x3)) + 1) (my_len layC (36 + e0)) then
(my_bnd (f_X8_isWithin σ (σ (36 + e0) (Int32.toNatClampNeg ((x1 + (2 * x3)) + 1))) 0 3) fun r3 σ3 =>
(if r3 = 0 then
(if (σ (36 + e0) (Int32.toNatClampNeg ((x1 + (2 * x3)) + 1))) = 9 then
(my_bnd (f_X8_isWithin σ3 (σ (36 + e0) (Int32.toNatClampNeg (x1 + (2 * x3)))) 0 8) fun r4 σ4 =>
(if (if r4 = 0 then 0 else 1 : Int32) = 0 then
some (0, σ4)
else
k0 σ4 e0 x1 x2 ((x3 + 1))))
else
some (0, σ3))
else
(my_bnd (f_X8_isWithin σ3 (σ (36 + e0) (Int32.toNatClampNeg (x1 + (2 * x3)))) 0 20) fun r5 σ5 =>
(if (σ (36 + e0) (Int32.toNatClampNeg ((x1 + (2 * x3)) + 1))) = 9 then
(my_bnd (f_X8_isWithin σ5 (σ (36 + e0) (Int32.toNatClampNeg (x1 + (2 * x3)))) 0 8) fun r6 σ6 =>
(if (if r5 = 0 then 0 else 1 : Int32) = 0 then
(if (if r6 = 0 then 0 else 1 : Int32) = 0 then
some (0, σ6)
else
k0 σ6 e0 x1 x2 ((x3 + 1)))
else
k0 σ6 e0 x1 x2 ((x3 + 1))))
else
(if (if r5 = 0 then 0 else 1 : Int32) = 0 then
some (0, σ5)
else
k0 σ5 e0 x1 x2 ((x3 + 1)))))))
else none)
else none))
else none)
def g_X8_areActs : Nat → my_M → Nat → Int32 → Int32 → Int32 → Option (Int32 × my_M)
  | 0 => fun _ _ _ _ _ => none
  | n + 1 => b_X8_areActs_0 (g_X8_areActs n)
def f_X8_areActs (σ : my_M) (e0 : Nat) (x1 : Int32) (x2 : Int32) : Option (Int32 × my_M) :=
(if e0 < 4 then
(g_X8_areActs my_NF) σ e0 x1 x2 0
else none)
set_option maxRecDepth 100000 in
set_option maxHeartbeats 4000000 in
theorem lp_X8_areActs (w : my_V) {X : my_X} {r : Int32} {τ : my_M} (h : my_OK X w layC cX8_areActs RX8 8 (some .boolean)) : ∀ n : Nat, (∀ (σ : my_M) (e0 : Nat) (x1 : Int32) (x2 : Int32) (x3 : Int32), (g_X8_areActs n) σ e0 x1 x2 x3 = some (r, τ) → Go X w layC 2 8 (some (.int r)) τ σ 2 [some (.ref (w.2.2.2 (32 + e0))), some (.int x1), some (.int x2), some (.int x3), none, none, none, none] []) := by
  intro n
  induction n with
  | zero => exact fun _ _ _ _ _ hf => (my_nn hf).elim
  | succ n ih =>
    intro σ e0 x1 x2 x3 hf
    replace hf : b_X8_areActs_0 (g_X8_areActs n) σ e0 x1 x2 x3 = some (r, τ) := hf
    unfold b_X8_areActs_0 at hf
    obtain ⟨hb0, hf⟩ := my_chk hf
    refine g_il3 h 3 dX8_areActs_2 rfl ?_
    refine g_il2 h 4 dX8_areActs_3 rfl ?_
    refine g_icge h 104 7 dX8_areActs_4 (by decide) rfl (fun hc => ?_) (fun hc => ?_)
    · have hf := my_ifT hc hf
      refine g_iconst h 105 ic_1 dX8_areActs_104 rfl ?_
      exact g_zret h dX8_areActs_105 (Or.inr rfl) (my_r1 hf) (my_r2 hf)
    · have hf := my_ifF hc hf
      refine g_al0 h 8 dX8_areActs_7 rfl ?_
      refine g_geta h 11 fF_X8_227_X6 (lyC_X6 hb0) rfl dX8_areActs_8 rfl ?_
      refine g_il1 h 12 dX8_areActs_11 rfl ?_
      refine g_iconst h 13 ic_2 dX8_areActs_12 rfl ?_
      refine g_il3 h 14 dX8_areActs_13 rfl ?_
      refine g_imul h 15 dX8_areActs_14 rfl ?_
      refine g_iadd h 16 dX8_areActs_15 rfl ?_
      obtain ⟨hq1, hf⟩ := my_chk hf
      refine g_iald h 17 dX8_areActs_16 rfl hq1 ?_
      refine g_is4 h 19 (Nat.le_of_ble_eq_true rfl) rfl dX8_areActs_17 rfl ?_
      refine g_al0 h 20 dX8_areActs_19 rfl ?_
      refine g_geta h 23 fF_X8_227_X6 (lyC_X6 hb0) rfl dX8_areActs_20 rfl ?_
      refine g_il1 h 24 dX8_areActs_23 rfl ?_
      refine g_iconst h 25 ic_2 dX8_areActs_24 rfl ?_
      refine g_il3 h 26 dX8_areActs_25 rfl ?_
      refine g_imul h 27 dX8_areActs_26 rfl ?_
      refine g_iadd h 28 dX8_areActs_27 rfl ?_
      refine g_iconst h 29 ic_1 dX8_areActs_28 rfl ?_
      refine g_iadd h 30 dX8_areActs_29 rfl ?_
      obtain ⟨hq2, hf⟩ := my_chk hf
      refine g_iald h 31 dX8_areActs_30 rfl hq2 ?_
      refine g_is5 h 33 (Nat.le_of_ble_eq_true rfl) rfl dX8_areActs_31 rfl ?_
      refine g_il5 h 35 dX8_areActs_33 rfl ?_
      refine g_iconst h 36 ic_0 dX8_areActs_35 rfl ?_
      refine g_iconst h 37 ic_3 dX8_areActs_36 rfl ?_
      obtain ⟨r3, σ3, hc3, hf⟩ := my_ofb hf
      refine g_callSi h 40 cs_X8_120 (ct_X8_isWithin w hc3) rfl rfl (Nat.le_of_ble_eq_true rfl) ⟨Nat.le_of_ble_eq_true rfl, Nat.le_of_ble_eq_true rfl⟩ dX8_areActs_37 rfl ?_
      refine g_ifeq h 58 43 dX8_areActs_40 (by decide) rfl (fun hc => ?_) (fun hc => ?_)
      · have hf := my_ifT hc hf
        refine g_iconst h 59 ic_0 dX8_areActs_58 rfl ?_
        refine g_is6 h 61 (Nat.le_of_ble_eq_true rfl) rfl dX8_areActs_59 rfl ?_
        refine g_il5 h 63 dX8_areActs_61 rfl ?_
        refine g_bipush h 65 bp_9 dX8_areActs_63 rfl ?_
        refine g_icne h 83 68 dX8_areActs_65 (by decide) rfl (fun hc => ?_) (fun hc => ?_)
        · have hf := my_ifF hc hf
          refine g_iconst h 84 ic_0 dX8_areActs_83 rfl ?_
          refine g_is7 h 86 (Nat.le_of_ble_eq_true rfl) rfl dX8_areActs_84 rfl ?_
          refine g_il6 h 88 dX8_areActs_86 rfl ?_
          refine g_ifne h 98 91 dX8_areActs_88 (by decide) rfl (fun hc => absurd hc (by decide)) (fun _ => ?_)
          refine g_il7 h 93 dX8_areActs_91 rfl ?_
          refine g_ifne h 98 96 dX8_areActs_93 (by decide) rfl (fun hc => absurd hc (by decide)) (fun _ => ?_)
          refine g_iconst h 97 ic_0 dX8_areActs_96 rfl ?_
          exact g_zret h dX8_areActs_97 (Or.inl rfl) (my_r1 hf) (my_r2 hf)
        · have hf := my_ifT hc hf
          refine g_il4 h 70 dX8_areActs_68 rfl ?_
          refine g_iconst h 71 ic_0 dX8_areActs_70 rfl ?_
          refine g_bipush h 73 bp_8 dX8_areActs_71 rfl ?_
          obtain ⟨r4, σ4, hc4, hf⟩ := my_ofb hf
          refine g_callSi h 76 cs_X8_120 (ct_X8_isWithin w hc4) rfl rfl (Nat.le_of_ble_eq_true rfl) ⟨Nat.le_of_ble_eq_true rfl, Nat.le_of_ble_eq_true rfl⟩ dX8_areActs_73 rfl ?_
          refine g_ifeq_sel h 83 84 dX8_areActs_76 (by decide) dX8_areActs_79 ic_1 dX8_areActs_80 (by decide) dX8_areActs_83 ic_0 rfl ?_
          refine g_is7 h 86 (Nat.le_of_ble_eq_true rfl) rfl dX8_areActs_84 rfl ?_
          refine g_il6 h 88 dX8_areActs_86 rfl ?_
          refine g_ifne h 98 91 dX8_areActs_88 (by decide) rfl (fun hc => absurd hc (by decide)) (fun _ => ?_)
          refine g_il7 h 93 dX8_areActs_91 rfl ?_
          refine g_ifne h 98 96 dX8_areActs_93 (by decide) rfl (fun hc => ?_) (fun hc => ?_)
          · have hf := my_ifF hc hf
            refine g_inc3 h 101 (my_inc ic_1 _) (Nat.le_of_ble_eq_true rfl) rfl dX8_areActs_98 rfl ?_
            refine g_goto h 2 dX8_areActs_101 (by decide) ?_
            exact g_weak (ih _ _ _ _ _ hf) (w_s (w_s (w_s (w_s (w_n (w_n (w_n (w_n w_0))))))))
          · have hf := my_ifT hc hf
            refine g_iconst h 97 ic_0 dX8_areActs_96 rfl ?_
            exact g_zret h dX8_areActs_97 (Or.inl rfl) (my_r1 hf) (my_r2 hf)
      · have hf := my_ifF hc hf
        refine g_il4 h 45 dX8_areActs_43 rfl ?_
        refine g_iconst h 46 ic_0 dX8_areActs_45 rfl ?_
        refine g_bipush h 48 bp_20 dX8_areActs_46 rfl ?_
        obtain ⟨r5, σ5, hc5, hf⟩ := my_ofb hf
        refine g_callSi h 51 cs_X8_120 (ct_X8_isWithin w hc5) rfl rfl (Nat.le_of_ble_eq_true rfl) ⟨Nat.le_of_ble_eq_true rfl, Nat.le_of_ble_eq_true rfl⟩ dX8_areActs_48 rfl ?_
        refine g_ifeq_sel h 58 59 dX8_areActs_51 (by decide) dX8_areActs_54 ic_1 dX8_areActs_55 (by decide) dX8_areActs_58 ic_0 rfl ?_
        refine g_is6 h 61 (Nat.le_of_ble_eq_true rfl) rfl dX8_areActs_59 rfl ?_
        refine g_il5 h 63 dX8_areActs_61 rfl ?_
        refine g_bipush h 65 bp_9 dX8_areActs_63 rfl ?_
        refine g_icne h 83 68 dX8_areActs_65 (by decide) rfl (fun hc => ?_) (fun hc => ?_)
        · have hf := my_ifF hc hf
          refine g_iconst h 84 ic_0 dX8_areActs_83 rfl ?_
          refine g_is7 h 86 (Nat.le_of_ble_eq_true rfl) rfl dX8_areActs_84 rfl ?_
          refine g_il6 h 88 dX8_areActs_86 rfl ?_
          refine g_ifne h 98 91 dX8_areActs_88 (by decide) rfl (fun hc => ?_) (fun hc => ?_)
          · have hf := my_ifF hc hf
            refine g_inc3 h 101 (my_inc ic_1 _) (Nat.le_of_ble_eq_true rfl) rfl dX8_areActs_98 rfl ?_
            refine g_goto h 2 dX8_areActs_101 (by decide) ?_
            exact g_weak (ih _ _ _ _ _ hf) (w_s (w_s (w_s (w_s (w_n (w_n (w_n (w_n w_0))))))))
          · have hf := my_ifT hc hf
            refine g_il7 h 93 dX8_areActs_91 rfl ?_
            refine g_ifne h 98 96 dX8_areActs_93 (by decide) rfl (fun hc => absurd hc (by decide)) (fun _ => ?_)
            refine g_iconst h 97 ic_0 dX8_areActs_96 rfl ?_
            exact g_zret h dX8_areActs_97 (Or.inl rfl) (my_r1 hf) (my_r2 hf)
        · have hf := my_ifT hc hf
          refine g_il4 h 70 dX8_areActs_68 rfl ?_
          refine g_iconst h 71 ic_0 dX8_areActs_70 rfl ?_
          refine g_bipush h 73 bp_8 dX8_areActs_71 rfl ?_
          obtain ⟨r6, σ6, hc6, hf⟩ := my_ofb hf
          refine g_callSi h 76 cs_X8_120 (ct_X8_isWithin w hc6) rfl rfl (Nat.le_of_ble_eq_true rfl) ⟨Nat.le_of_ble_eq_true rfl, Nat.le_of_ble_eq_true rfl⟩ dX8_areActs_73 rfl ?_
          refine g_ifeq_sel h 83 84 dX8_areActs_76 (by decide) dX8_areActs_79 ic_1 dX8_areActs_80 (by decide) dX8_areActs_83 ic_0 rfl ?_
          refine g_is7 h 86 (Nat.le_of_ble_eq_true rfl) rfl dX8_areActs_84 rfl ?_
          refine g_il6 h 88 dX8_areActs_86 rfl ?_
          refine g_ifne h 98 91 dX8_areActs_88 (by decide) rfl (fun hc => ?_) (fun hc => ?_)
          · have hf := my_ifF hc hf
            refine g_inc3 h 101 (my_inc ic_1 _) (Nat.le_of_ble_eq_true rfl) rfl dX8_areActs_98 rfl ?_
            refine g_goto h 2 dX8_areActs_101 (by decide) ?_
            exact g_weak (ih _ _ _ _ _ hf) (w_s (w_s (w_s (w_s (w_n (w_n (w_n (w_n w_0))))))))
          · have hf := my_ifT hc hf
            refine g_il7 h 93 dX8_areActs_91 rfl ?_
            refine g_ifne h 98 96 dX8_areActs_93 (by decide) rfl (fun hc => ?_) (fun hc => ?_)
            · have hf := my_ifF hc hf
              refine g_inc3 h 101 (my_inc ic_1 _) (Nat.le_of_ble_eq_true rfl) rfl dX8_areActs_98 rfl ?_
              refine g_goto h 2 dX8_areActs_101 (by decide) ?_
              exact g_weak (ih _ _ _ _ _ hf) (w_s (w_s (w_s (w_s (w_n (w_n (w_n (w_n w_0))))))))
            · have hf := my_ifT hc hf
              refine g_iconst h 97 ic_0 dX8_areActs_96 rfl ?_
              exact g_zret h dX8_areActs_97 (Or.inl rfl) (my_r1 hf) (my_r2 hf)
set_option maxRecDepth 100000 in
set_option maxHeartbeats 4000000 in
theorem ct_X8_areActs (w : my_V) {σ : my_M} {e0 : Nat} {x1 : Int32} {x2 : Int32} {r : Int32} {τ : my_M} (hf : f_X8_areActs σ e0 x1 x2 = some (r, τ)) : Ct w layC mX8_areActs 2 [.ref (w.2.2.2 (32 + e0)), .int x1, .int x2] σ (some (.int r)) τ := by
  refine my_met RX8 [some (.ref (w.2.2.2 (32 + e0))), some (.int x1), some (.int x2), none, none, none, none, none] 5 (by decide) rfl (Nat.le_of_ble_eq_true rfl) rfl (fun X h => ?_)
  unfold f_X8_areActs at hf
  obtain ⟨hb0, hf⟩ := my_chk hf
  refine g_iconst h 1 ic_0 dX8_areActs_0 rfl ?_
  refine g_is3 h 2 (Nat.le_of_ble_eq_true rfl) rfl dX8_areActs_1 rfl ?_
  exact g_weak ((lp_X8_areActs w h my_NF) _ _ _ _ _ hf) (w_s (w_s (w_s (w_s (w_s (w_s (w_s (w_s w_0))))))))
def f_X8_faulted (σ : my_M) (x1 : Int32) : Option (Int32 × my_M) :=
some (((-10) - x1), (my_up σ 0 8 x1))
set_option maxRecDepth 100000 in
set_option maxHeartbeats 4000000 in
theorem ct_X8_faulted (w : my_V) {σ : my_M} {x1 : Int32} {r : Int32} {τ : my_M} (hf : f_X8_faulted σ x1 = some (r, τ)) : Ct w layC mX8_faulted 1 [.ref (w.2.2.2 0), .int x1] σ (some (.int r)) τ := by
  refine my_met RX8 [some (.ref (w.2.2.2 0)), some (.int x1)] 0 (by decide) rfl (Nat.le_of_ble_eq_true rfl) rfl (fun X h => ?_)
  unfold f_X8_faulted at hf
  refine g_al0 h 1 dX8_faulted_0 rfl ?_
  refine g_il1 h 2 dX8_faulted_1 rfl ?_
  refine g_puti h 5 fP_X8_56_X8 lyC_0 rfl dX8_faulted_2 rfl ?_
  refine g_bipush h 7 bp_m10 dX8_faulted_5 rfl ?_
  refine g_il1 h 8 dX8_faulted_7 rfl ?_
  refine g_isub h 9 dX8_faulted_8 rfl ?_
  exact g_iret h dX8_faulted_9 (my_r1 hf) (my_r2 hf)
def f_X8_as (σ : my_M) (x1 : Int32) (x2 : Int32) : Option (Int32 × my_M) :=
(my_bnd (f_X2_has (my_up σ 0 8 0) x1) fun r1 σ1 =>
(if r1 = 0 then
some ((-1), σ1)
else
(my_bnd (f_X8_isWithin σ1 x2 0 2) fun r2 σ2 =>
(if r2 = 0 then
some ((-2), σ2)
else
(if my_ix x1 4 then
(if (σ2 (3 + (Int32.toNatClampNeg x1)) 0) < x2 then
(my_bnd (f_X8_faulted σ2 2) fun r4 σ4 =>
some (r4, σ4))
else
some (1, σ2))
else none)))))
set_option maxRecDepth 100000 in
set_option maxHeartbeats 4000000 in
theorem ct_X8_as (w : my_V) {σ : my_M} {x1 : Int32} {x2 : Int32} {r : Int32} {τ : my_M} (hf : f_X8_as σ x1 x2 = some (r, τ)) : Ct w layC mX8_as 3 [.ref (w.2.2.2 0), .int x1, .int x2] σ (some (.int r)) τ := by
  refine my_met RX8 [some (.ref (w.2.2.2 0)), some (.int x1), some (.int x2)] 0 (by decide) rfl (Nat.le_of_ble_eq_true rfl) rfl (fun X h => ?_)
  unfold f_X8_as at hf
  refine g_al0 h 1 dX8_as_0 rfl ?_
  refine g_iconst h 2 ic_0 dX8_as_1 rfl ?_
  refine g_puti h 5 fP_X8_56_X8 lyC_0 rfl dX8_as_2 rfl ?_
  refine g_al0 h 6 dX8_as_5 rfl ?_
  refine g_geta h 9 fF_X8_12_X8 lyC_0 rfl dX8_as_6 rfl ?_
  refine g_il1 h 10 dX8_as_9 rfl ?_
  obtain ⟨r1, σ1, hc1, hf⟩ := my_ofb hf
  refine g_callVi h 13 cs_X8_95 rfl lyC_1 (ct_X2_has w hc1) rfl rfl (Nat.le_of_ble_eq_true rfl) ⟨Nat.le_of_ble_eq_true rfl, Nat.le_of_ble_eq_true rfl⟩ dX8_as_10 rfl ?_
  refine g_ifne h 18 16 dX8_as_13 (by decide) rfl (fun hc => ?_) (fun hc => ?_)
  · have hf := my_ifF hc hf
    refine g_il2 h 19 dX8_as_18 rfl ?_
    refine g_iconst h 20 ic_0 dX8_as_19 rfl ?_
    refine g_iconst h 21 ic_2 dX8_as_20 rfl ?_
    obtain ⟨r2, σ2, hc2, hf⟩ := my_ofb hf
    refine g_callSi h 24 cs_X8_120 (ct_X8_isWithin w hc2) rfl rfl (Nat.le_of_ble_eq_true rfl) ⟨Nat.le_of_ble_eq_true rfl, Nat.le_of_ble_eq_true rfl⟩ dX8_as_21 rfl ?_
    refine g_ifne h 30 27 dX8_as_24 (by decide) rfl (fun hc => ?_) (fun hc => ?_)
    · have hf := my_ifF hc hf
      refine g_al0 h 31 dX8_as_30 rfl ?_
      refine g_geta h 34 fF_X8_12_X8 lyC_0 rfl dX8_as_31 rfl ?_
      refine g_geta h 37 fF_X8_98_X2 lyC_1 rfl dX8_as_34 rfl ?_
      refine g_il1 h 38 dX8_as_37 rfl ?_
      obtain ⟨hq3, hf⟩ := my_chk hf
      refine g_aald h 39 lyC_2 rfl dX8_as_38 rfl hq3 ?_
      refine g_geti h 42 fF_X8_101_X1 (lyC_X1 (my_ixlt hq3)) rfl dX8_as_39 rfl ?_
      refine g_il2 h 43 dX8_as_42 rfl ?_
      refine g_iclt h 50 46 dX8_as_43 (by decide) rfl (fun hc => ?_) (fun hc => ?_)
      · have hf := my_ifT hc hf
        refine g_al0 h 51 dX8_as_50 rfl ?_
        refine g_iconst h 52 ic_2 dX8_as_51 rfl ?_
        obtain ⟨r4, σ4, hc4, hf⟩ := my_ofb hf
        refine g_callVi h 55 cs_X8_71 rfl lyC_0 (ct_X8_faulted w hc4) rfl rfl (Nat.le_of_ble_eq_true rfl) ⟨Nat.le_of_ble_eq_true rfl, Nat.le_of_ble_eq_true rfl⟩ dX8_as_52 rfl ?_
        exact g_iret h dX8_as_55 (my_r1 hf) (my_r2 hf)
      · have hf := my_ifF hc hf
        refine g_iconst h 47 ic_1 dX8_as_46 rfl ?_
        refine g_goto h 55 dX8_as_47 (by decide) ?_
        exact g_iret h dX8_as_55 (my_r1 hf) (my_r2 hf)
    · have hf := my_ifT hc hf
      refine g_bipush h 29 bp_m2 dX8_as_27 rfl ?_
      exact g_iret h dX8_as_29 (my_r1 hf) (my_r2 hf)
  · have hf := my_ifT hc hf
    refine g_iconst h 17 ic_m1 dX8_as_16 rfl ?_
    exact g_iret h dX8_as_17 (my_r1 hf) (my_r2 hf)
def f_X8_back (σ : my_M) (x1 : Int32) : Option (Int32 × my_M) :=
(my_bnd (f_X4_takeBackR σ x1) fun r1 σ1 =>
(if r1 = 0 then
some ((-2), σ1)
else
some ((σ1 21 0), σ1)))
set_option maxRecDepth 100000 in
set_option maxHeartbeats 4000000 in
theorem ct_X8_back (w : my_V) {σ : my_M} {x1 : Int32} {r : Int32} {τ : my_M} (hf : f_X8_back σ x1 = some (r, τ)) : Ct w layC mX8_back 3 [.ref (w.2.2.2 0), .int x1] σ (some (.int r)) τ := by
  refine my_met RX8 [some (.ref (w.2.2.2 0)), some (.int x1)] 0 (by decide) rfl (Nat.le_of_ble_eq_true rfl) rfl (fun X h => ?_)
  unfold f_X8_back at hf
  refine g_al0 h 1 dX8_back_0 rfl ?_
  refine g_geta h 4 fF_X8_31_X8 lyC_0 rfl dX8_back_1 rfl ?_
  refine g_il1 h 5 dX8_back_4 rfl ?_
  obtain ⟨r1, σ1, hc1, hf⟩ := my_ofb hf
  refine g_callUi h 8 cs_X8_203R rfl lyC_21 (ct_X4_takeBackR w hc1) rfl rfl (Nat.le_of_ble_eq_true rfl) ⟨Nat.le_of_ble_eq_true rfl, Nat.le_of_ble_eq_true rfl⟩ dX8_back_5 rfl ?_
  refine g_ifeq h 21 11 dX8_back_8 (by decide) rfl (fun hc => ?_) (fun hc => ?_)
  · have hf := my_ifT hc hf
    refine g_bipush h 23 bp_m2 dX8_back_21 rfl ?_
    exact g_iret h dX8_back_23 (my_r1 hf) (my_r2 hf)
  · have hf := my_ifF hc hf
    refine g_al0 h 12 dX8_back_11 rfl ?_
    refine g_geta h 15 fF_X8_31_X8 lyC_0 rfl dX8_back_12 rfl ?_
    refine g_geti h 18 fF_X8_93_X5 lyC_21 rfl dX8_back_15 rfl ?_
    refine g_goto h 23 dX8_back_18 (by decide) ?_
    exact g_iret h dX8_back_23 (my_r1 hf) (my_r2 hf)
def f_X8_leave (σ : my_M) (x1 : Int32) : Option (Unit × my_M) :=
some ((), (my_up σ 0 7 ((31 * (σ 0 7)) + x1)))
set_option maxRecDepth 100000 in
set_option maxHeartbeats 4000000 in
theorem ct_X8_leave (w : my_V) {σ : my_M} {x1 : Int32} {r : Unit} {τ : my_M} (hf : f_X8_leave σ x1 = some (r, τ)) : Ct w layC mX8_leave 1 [.ref (w.2.2.2 0), .int x1] σ none τ := by
  refine my_met RX8 [some (.ref (w.2.2.2 0)), some (.int x1)] 0 (by decide) rfl (Nat.le_of_ble_eq_true rfl) rfl (fun X h => ?_)
  unfold f_X8_leave at hf
  refine g_al0 h 1 dX8_leave_0 rfl ?_
  refine g_bipush h 3 bp_31 dX8_leave_1 rfl ?_
  refine g_al0 h 4 dX8_leave_3 rfl ?_
  refine g_geti h 7 fF_X8_256_X8 lyC_0 rfl dX8_leave_4 rfl ?_
  refine g_imul h 8 dX8_leave_7 rfl ?_
  refine g_il1 h 9 dX8_leave_8 rfl ?_
  refine g_iadd h 10 dX8_leave_9 rfl ?_
  refine g_puti h 13 fP_X8_256_X8 lyC_0 rfl dX8_leave_10 rfl ?_
  exact g_vret h dX8_leave_13 rfl (my_r2 hf)
def f_X8_plainTelling (σ : my_M) (e1 : Nat) : Option (Int32 × my_M) :=
(if e1 < 4 then
(my_bnd (f_X8_leave σ 1) fun r1 σ1 =>
(my_bnd (f_X1_freeBeats σ1 e1 (σ1 1 2)) fun r2 σ2 =>
some (((σ1 1 2) - r2), σ2)))
else none)
set_option maxRecDepth 100000 in
set_option maxHeartbeats 4000000 in
theorem ct_X8_plainTelling (w : my_V) {σ : my_M} {e1 : Nat} {r : Int32} {τ : my_M} (hf : f_X8_plainTelling σ e1 = some (r, τ)) : Ct w layC mX8_plainTelling 2 [.ref (w.2.2.2 0), .ref (w.2.2.2 (3 + e1))] σ (some (.int r)) τ := by
  refine my_met RX8 [some (.ref (w.2.2.2 0)), some (.ref (w.2.2.2 (3 + e1)))] 0 (by decide) rfl (Nat.le_of_ble_eq_true rfl) rfl (fun X h => ?_)
  unfold f_X8_plainTelling at hf
  obtain ⟨hb1, hf⟩ := my_chk hf
  refine g_al0 h 1 dX8_plainTelling_0 rfl ?_
  refine g_iconst h 2 ic_1 dX8_plainTelling_1 rfl ?_
  obtain ⟨r1, σ1, hc1, hf⟩ := my_ofb hf
  refine g_callVv h 5 cs_X8_274 rfl lyC_0 (ct_X8_leave w hc1) rfl rfl (Nat.le_of_ble_eq_true rfl) ⟨Nat.le_of_ble_eq_true rfl, Nat.le_of_ble_eq_true rfl⟩ dX8_plainTelling_2 rfl ?_
  refine g_al0 h 6 dX8_plainTelling_5 rfl ?_
  refine g_geta h 9 fF_X8_12_X8 lyC_0 rfl dX8_plainTelling_6 rfl ?_
  refine g_geti h 12 fF_X8_106_X2 lyC_1 rfl dX8_plainTelling_9 rfl ?_
  refine g_al1 h 13 dX8_plainTelling_12 rfl ?_
  refine g_al0 h 14 dX8_plainTelling_13 rfl ?_
  refine g_geta h 17 fF_X8_12_X8 lyC_0 rfl dX8_plainTelling_14 rfl ?_
  refine g_geti h 20 fF_X8_106_X2 lyC_1 rfl dX8_plainTelling_17 rfl ?_
  obtain ⟨r2, σ2, hc2, hf⟩ := my_ofb hf
  refine g_callVi h 23 cs_X8_109 rfl (lyC_X1 hb1) (ct_X1_freeBeats w hc2) rfl rfl (Nat.le_of_ble_eq_true rfl) ⟨Nat.le_of_ble_eq_true rfl, Nat.le_of_ble_eq_true rfl⟩ dX8_plainTelling_20 rfl ?_
  refine g_isub h 24 dX8_plainTelling_23 rfl ?_
  exact g_iret h dX8_plainTelling_24 (my_r1 hf) (my_r2 hf)
def f_X8_broadTelling (σ : my_M) (e1 : Nat) : Option (Int32 × my_M) :=
(if e1 < 4 then
(my_bnd (f_X8_leave σ 2) fun r1 σ1 =>
(my_bnd (f_X8_plainTelling σ1 e1) fun r2 σ2 =>
some ((r2 + 100), σ2)))
else none)
set_option maxRecDepth 100000 in
set_option maxHeartbeats 4000000 in
theorem ct_X8_broadTelling (w : my_V) {σ : my_M} {e1 : Nat} {r : Int32} {τ : my_M} (hf : f_X8_broadTelling σ e1 = some (r, τ)) : Ct w layC mX8_broadTelling 3 [.ref (w.2.2.2 0), .ref (w.2.2.2 (3 + e1))] σ (some (.int r)) τ := by
  refine my_met RX8 [some (.ref (w.2.2.2 0)), some (.ref (w.2.2.2 (3 + e1)))] 0 (by decide) rfl (Nat.le_of_ble_eq_true rfl) rfl (fun X h => ?_)
  unfold f_X8_broadTelling at hf
  obtain ⟨hb1, hf⟩ := my_chk hf
  refine g_al0 h 1 dX8_broadTelling_0 rfl ?_
  refine g_iconst h 2 ic_2 dX8_broadTelling_1 rfl ?_
  obtain ⟨r1, σ1, hc1, hf⟩ := my_ofb hf
  refine g_callVv h 5 cs_X8_274 rfl lyC_0 (ct_X8_leave w hc1) rfl rfl (Nat.le_of_ble_eq_true rfl) ⟨Nat.le_of_ble_eq_true rfl, Nat.le_of_ble_eq_true rfl⟩ dX8_broadTelling_2 rfl ?_
  refine g_al0 h 6 dX8_broadTelling_5 rfl ?_
  refine g_al1 h 7 dX8_broadTelling_6 rfl ?_
  obtain ⟨r2, σ2, hc2, hf⟩ := my_ofb hf
  refine g_callVi h 10 cs_X8_246 rfl lyC_0 (ct_X8_plainTelling w hc2) rfl rfl (Nat.le_of_ble_eq_true rfl) ⟨Nat.le_of_ble_eq_true rfl, Nat.le_of_ble_eq_true rfl⟩ dX8_broadTelling_7 rfl ?_
  refine g_bipush h 12 bp_100 dX8_broadTelling_10 rfl ?_
  refine g_iadd h 13 dX8_broadTelling_12 rfl ?_
  exact g_iret h dX8_broadTelling_13 (my_r1 hf) (my_r2 hf)
def f_X8_isLane (σ : my_M) (x0 : Int32) : Option (Int32 × my_M) :=
(my_bnd (f_X8_isWithin σ x0 0 2) fun r1 σ1 =>
(if my_b r1 then some (r1, σ1) else none))
set_option maxRecDepth 100000 in
set_option maxHeartbeats 4000000 in
theorem ct_X8_isLane (w : my_V) {σ : my_M} {x0 : Int32} {r : Int32} {τ : my_M} (hf : f_X8_isLane σ x0 = some (r, τ)) : Ct w layC mX8_isLane 2 [.int x0] σ (some (.int r)) τ := by
  refine my_met RX8 [some (.int x0)] 0 (by decide) rfl (Nat.le_of_ble_eq_true rfl) rfl (fun X h => ?_)
  unfold f_X8_isLane at hf
  refine g_il0 h 1 dX8_isLane_0 rfl ?_
  refine g_iconst h 2 ic_0 dX8_isLane_1 rfl ?_
  refine g_iconst h 3 ic_2 dX8_isLane_2 rfl ?_
  obtain ⟨r1, σ1, hc1, hf⟩ := my_ofb hf
  refine g_callSi h 6 cs_X8_120 (ct_X8_isWithin w hc1) rfl rfl (Nat.le_of_ble_eq_true rfl) ⟨Nat.le_of_ble_eq_true rfl, Nat.le_of_ble_eq_true rfl⟩ dX8_isLane_3 rfl ?_
  obtain ⟨hqz, hf⟩ := my_chk hf
  exact g_zret h dX8_isLane_6 hqz (my_r1 hf) (my_r2 hf)
def f_X8_isSheet (σ : my_M) (x0 : Int32) : Option (Int32 × my_M) :=
(my_bnd (f_X8_isWithin σ x0 0 3) fun r1 σ1 =>
(if my_b r1 then some (r1, σ1) else none))
set_option maxRecDepth 100000 in
set_option maxHeartbeats 4000000 in
theorem ct_X8_isSheet (w : my_V) {σ : my_M} {x0 : Int32} {r : Int32} {τ : my_M} (hf : f_X8_isSheet σ x0 = some (r, τ)) : Ct w layC mX8_isSheet 2 [.int x0] σ (some (.int r)) τ := by
  refine my_met RX8 [some (.int x0)] 0 (by decide) rfl (Nat.le_of_ble_eq_true rfl) rfl (fun X h => ?_)
  unfold f_X8_isSheet at hf
  refine g_il0 h 1 dX8_isSheet_0 rfl ?_
  refine g_iconst h 2 ic_0 dX8_isSheet_1 rfl ?_
  refine g_iconst h 3 ic_3 dX8_isSheet_2 rfl ?_
  obtain ⟨r1, σ1, hc1, hf⟩ := my_ofb hf
  refine g_callSi h 6 cs_X8_120 (ct_X8_isWithin w hc1) rfl rfl (Nat.le_of_ble_eq_true rfl) ⟨Nat.le_of_ble_eq_true rfl, Nat.le_of_ble_eq_true rfl⟩ dX8_isSheet_3 rfl ?_
  obtain ⟨hqz, hf⟩ := my_chk hf
  exact g_zret h dX8_isSheet_6 hqz (my_r1 hf) (my_r2 hf)
