def f_X8_callers (σ : my_M) (x1 : Int32) (x2 : Int32) (x3 : Int32) (x4 : Int32) : Option (Int32 × my_M) :=
(my_bnd (f_X8_isSheet (my_up σ 0 8 0) x1) fun r1 σ1 =>
(if r1 = 0 then
some ((-1), σ1)
else
(my_bnd (f_X8_isLane σ1 x2) fun r2 σ2 =>
(if r2 = 0 then
some ((-2), σ2)
else
(if my_ix x1 4 then
(my_bnd (f_X6_faultAs σ2 (Int32.toNatClampNeg x1) x2 x3 x4) fun r4 σ4 =>
(if r4 = 0 then
(if my_ix x1 4 then
(my_bnd (f_X7_readUpTo σ4 (Int32.toNatClampNeg x1) x3 x4) fun r6 σ6 =>
(if (σ6 30 3) = 0 then
some (((-100) - r6), σ6)
else
(if my_ix x1 4 then
(my_bnd (f_X2_take σ6 (Int32.toNatClampNeg x1) x3 (σ6 30 1)) fun r8 σ8 =>
some (((my_up (my_up σ8 11 0 0) 21 0 0) 1 1), (my_up (my_up σ8 11 0 0) 21 0 0)))
else none)))
else none)
else
(my_bnd (f_X8_faulted σ4 r4) fun r9 σ9 =>
some (r9, σ9))))
else none)))))
set_option maxRecDepth 100000 in
set_option maxHeartbeats 4000000 in
theorem ct_X8_callers (w : my_V) {σ : my_M} {x1 : Int32} {x2 : Int32} {x3 : Int32} {x4 : Int32} {r : Int32} {τ : my_M} (hf : f_X8_callers σ x1 x2 x3 x4 = some (r, τ)) : Ct w layC mX8_callers 5 [.ref (w.2.2.2 0), .int x1, .int x2, .int x3, .int x4] σ (some (.int r)) τ := by
  refine my_met RX8 [some (.ref (w.2.2.2 0)), some (.int x1), some (.int x2), some (.int x3), some (.int x4), none, none] 2 (by decide) rfl (Nat.le_of_ble_eq_true rfl) rfl (fun X h => ?_)
  unfold f_X8_callers at hf
  refine g_al0 h 1 dX8_callers_0 rfl ?_
  refine g_iconst h 2 ic_0 dX8_callers_1 rfl ?_
  refine g_puti h 5 fP_X8_56_X8 lyC_0 rfl dX8_callers_2 rfl ?_
  refine g_il1 h 6 dX8_callers_5 rfl ?_
  obtain ⟨r1, σ1, hc1, hf⟩ := my_ofb hf
  refine g_callSi h 9 cs_X8_60 (ct_X8_isSheet w hc1) rfl rfl (Nat.le_of_ble_eq_true rfl) ⟨Nat.le_of_ble_eq_true rfl, Nat.le_of_ble_eq_true rfl⟩ dX8_callers_6 rfl ?_
  refine g_ifne h 14 12 dX8_callers_9 (by decide) rfl (fun hc => ?_) (fun hc => ?_)
  · have hf := my_ifF hc hf
    refine g_il2 h 15 dX8_callers_14 rfl ?_
    obtain ⟨r2, σ2, hc2, hf⟩ := my_ofb hf
    refine g_callSi h 18 cs_X8_64 (ct_X8_isLane w hc2) rfl rfl (Nat.le_of_ble_eq_true rfl) ⟨Nat.le_of_ble_eq_true rfl, Nat.le_of_ble_eq_true rfl⟩ dX8_callers_15 rfl ?_
    refine g_ifne h 24 21 dX8_callers_18 (by decide) rfl (fun hc => ?_) (fun hc => ?_)
    · have hf := my_ifF hc hf
      refine g_al0 h 25 dX8_callers_24 rfl ?_
      refine g_geta h 28 fF_X8_51_X8 lyC_0 rfl dX8_callers_25 rfl ?_
      refine g_il1 h 29 dX8_callers_28 rfl ?_
      obtain ⟨hq3, hf⟩ := my_chk hf
      refine g_aald h 30 lyC_31 rfl dX8_callers_29 rfl hq3 ?_
      refine g_il2 h 31 dX8_callers_30 rfl ?_
      refine g_il3 h 32 dX8_callers_31 rfl ?_
      refine g_il4 h 34 dX8_callers_32 rfl ?_
      obtain ⟨r4, σ4, hc4, hf⟩ := my_ofb hf
      refine g_callVi h 37 cs_X8_67 rfl (lyC_X6 (my_ixlt hq3)) (ct_X6_faultAs w hc4) rfl rfl (Nat.le_of_ble_eq_true rfl) ⟨Nat.le_of_ble_eq_true rfl, Nat.le_of_ble_eq_true rfl⟩ dX8_callers_34 rfl ?_
      refine g_is5 h 39 (Nat.le_of_ble_eq_true rfl) rfl dX8_callers_37 rfl ?_
      refine g_il5 h 41 dX8_callers_39 rfl ?_
      refine g_ifeq h 51 44 dX8_callers_41 (by decide) rfl (fun hc => ?_) (fun hc => ?_)
      · have hf := my_ifT hc hf
        refine g_al0 h 52 dX8_callers_51 rfl ?_
        refine g_geta h 55 fF_X8_45_X8 lyC_0 rfl dX8_callers_52 rfl ?_
        refine g_al0 h 56 dX8_callers_55 rfl ?_
        refine g_geta h 59 fF_X8_51_X8 lyC_0 rfl dX8_callers_56 rfl ?_
        refine g_il1 h 60 dX8_callers_59 rfl ?_
        obtain ⟨hq5, hf⟩ := my_chk hf
        refine g_aald h 61 lyC_31 rfl dX8_callers_60 rfl hq5 ?_
        refine g_il3 h 62 dX8_callers_61 rfl ?_
        refine g_il4 h 64 dX8_callers_62 rfl ?_
        obtain ⟨r6, σ6, hc6, hf⟩ := my_ofb hf
        refine g_callVi h 67 cs_X8_75 rfl lyC_30 (ct_X7_readUpTo w hc6) rfl rfl (Nat.le_of_ble_eq_true rfl) ⟨Nat.le_of_ble_eq_true rfl, Nat.le_of_ble_eq_true rfl⟩ dX8_callers_64 rfl ?_
        refine g_is6 h 69 (Nat.le_of_ble_eq_true rfl) rfl dX8_callers_67 rfl ?_
        refine g_al0 h 70 dX8_callers_69 rfl ?_
        refine g_geta h 73 fF_X8_45_X8 lyC_0 rfl dX8_callers_70 rfl ?_
        refine g_geti h 76 fF_X8_79_X7 lyC_30 rfl dX8_callers_73 rfl ?_
        refine g_ifne h 85 79 dX8_callers_76 (by decide) rfl (fun hc => ?_) (fun hc => ?_)
        · have hf := my_ifF hc hf
          refine g_al0 h 86 dX8_callers_85 rfl ?_
          refine g_geta h 89 fF_X8_12_X8 lyC_0 rfl dX8_callers_86 rfl ?_
          refine g_al0 h 90 dX8_callers_89 rfl ?_
          refine g_geta h 93 fF_X8_51_X8 lyC_0 rfl dX8_callers_90 rfl ?_
          refine g_il1 h 94 dX8_callers_93 rfl ?_
          obtain ⟨hq7, hf⟩ := my_chk hf
          refine g_aald h 95 lyC_31 rfl dX8_callers_94 rfl hq7 ?_
          refine g_il3 h 96 dX8_callers_95 rfl ?_
          refine g_al0 h 97 dX8_callers_96 rfl ?_
          refine g_geta h 100 fF_X8_45_X8 lyC_0 rfl dX8_callers_97 rfl ?_
          refine g_geti h 103 fF_X8_83_X7 lyC_30 rfl dX8_callers_100 rfl ?_
          obtain ⟨r8, σ8, hc8, hf⟩ := my_ofb hf
          refine g_callVv h 106 cs_X8_86 rfl lyC_1 (ct_X2_take w hc8) rfl rfl (Nat.le_of_ble_eq_true rfl) ⟨Nat.le_of_ble_eq_true rfl, Nat.le_of_ble_eq_true rfl⟩ dX8_callers_103 rfl ?_
          refine g_al0 h 107 dX8_callers_106 rfl ?_
          refine g_geta h 110 fF_X8_21_X8 lyC_0 rfl dX8_callers_107 rfl ?_
          refine g_iconst h 111 ic_0 dX8_callers_110 rfl ?_
          refine g_puti h 114 fP_X8_90_X0 lyC_11 rfl dX8_callers_111 rfl ?_
          refine g_al0 h 115 dX8_callers_114 rfl ?_
          refine g_geta h 118 fF_X8_31_X8 lyC_0 rfl dX8_callers_115 rfl ?_
          refine g_iconst h 119 ic_0 dX8_callers_118 rfl ?_
          refine g_puti h 122 fP_X8_93_X5 lyC_21 rfl dX8_callers_119 rfl ?_
          refine g_al0 h 123 dX8_callers_122 rfl ?_
          refine g_geta h 126 fF_X8_12_X8 lyC_0 rfl dX8_callers_123 rfl ?_
          refine g_geti h 129 fF_X8_94_X2 lyC_1 rfl dX8_callers_126 rfl ?_
          exact g_iret h dX8_callers_129 (my_r1 hf) (my_r2 hf)
        · have hf := my_ifT hc hf
          refine g_bipush h 81 bp_m100 dX8_callers_79 rfl ?_
          refine g_il6 h 83 dX8_callers_81 rfl ?_
          refine g_isub h 84 dX8_callers_83 rfl ?_
          exact g_iret h dX8_callers_84 (my_r1 hf) (my_r2 hf)
      · have hf := my_ifF hc hf
        refine g_al0 h 45 dX8_callers_44 rfl ?_
        refine g_il5 h 47 dX8_callers_45 rfl ?_
        obtain ⟨r9, σ9, hc9, hf⟩ := my_ofb hf
        refine g_callVi h 50 cs_X8_71 rfl lyC_0 (ct_X8_faulted w hc9) rfl rfl (Nat.le_of_ble_eq_true rfl) ⟨Nat.le_of_ble_eq_true rfl, Nat.le_of_ble_eq_true rfl⟩ dX8_callers_47 rfl ?_
        exact g_iret h dX8_callers_50 (my_r1 hf) (my_r2 hf)
    · have hf := my_ifT hc hf
      refine g_bipush h 23 bp_m2 dX8_callers_21 rfl ?_
      exact g_iret h dX8_callers_23 (my_r1 hf) (my_r2 hf)
  · have hf := my_ifT hc hf
    refine g_iconst h 13 ic_m1 dX8_callers_12 rfl ?_
    exact g_iret h dX8_callers_13 (my_r1 hf) (my_r2 hf)
def f_X8_cell (σ : my_M) (x1 : Int32) (x2 : Int32) (x3 : Int32) : Option (Int64 × my_M) :=
(my_bnd (f_X8_isSheet (my_up σ 0 8 0) x1) fun r1 σ1 =>
(if r1 = 0 then
some ((-9223372036854775808), σ1)
else
(my_bnd (f_X8_isLane σ1 x3) fun r2 σ2 =>
(if r2 = 0 then
some ((-9223372036854775808), σ2)
else
(if my_ix x1 4 then
(my_bnd (f_X6_faultAs σ2 (Int32.toNatClampNeg x1) x3 x2 1) fun r4 σ4 =>
(if ((my_up σ4 0 8 r4) 0 8) = 0 then
(if my_ix x1 4 then
(if my_ix x2 (my_len layC (36 + (Int32.toNatClampNeg x1))) then
some ((Int32.toInt64 ((my_up σ4 0 8 r4) (36 + (Int32.toNatClampNeg x1)) (Int32.toNatClampNeg x2))), (my_up σ4 0 8 r4))
else none)
else none)
else
some ((-9223372036854775808), (my_up σ4 0 8 r4))))
else none)))))
set_option maxRecDepth 100000 in
set_option maxHeartbeats 4000000 in
theorem ct_X8_cell (w : my_V) {σ : my_M} {x1 : Int32} {x2 : Int32} {x3 : Int32} {r : Int64} {τ : my_M} (hf : f_X8_cell σ x1 x2 x3 = some (r, τ)) : Ct w layC mX8_cell 3 [.ref (w.2.2.2 0), .int x1, .int x2, .int x3] σ (some (.long r)) τ := by
  refine my_met RX8 [some (.ref (w.2.2.2 0)), some (.int x1), some (.int x2), some (.int x3)] 0 (by decide) rfl (Nat.le_of_ble_eq_true rfl) rfl (fun X h => ?_)
  unfold f_X8_cell at hf
  refine g_al0 h 1 dX8_cell_0 rfl ?_
  refine g_iconst h 2 ic_0 dX8_cell_1 rfl ?_
  refine g_puti h 5 fP_X8_56_X8 lyC_0 rfl dX8_cell_2 rfl ?_
  refine g_il1 h 6 dX8_cell_5 rfl ?_
  obtain ⟨r1, σ1, hc1, hf⟩ := my_ofb hf
  refine g_callSi h 9 cs_X8_60 (ct_X8_isSheet w hc1) rfl rfl (Nat.le_of_ble_eq_true rfl) ⟨Nat.le_of_ble_eq_true rfl, Nat.le_of_ble_eq_true rfl⟩ dX8_cell_6 rfl ?_
  refine g_ifeq h 19 12 dX8_cell_9 (by decide) rfl (fun hc => ?_) (fun hc => ?_)
  · have hf := my_ifT hc hf
    refine g_ldc2 h 22 tw_kl_X8_208 dX8_cell_19 rfl ?_
    exact g_lret h dX8_cell_22 (my_r1l hf) (my_r2 hf)
  · have hf := my_ifF hc hf
    refine g_il3 h 13 dX8_cell_12 rfl ?_
    obtain ⟨r2, σ2, hc2, hf⟩ := my_ofb hf
    refine g_callSi h 16 cs_X8_64 (ct_X8_isLane w hc2) rfl rfl (Nat.le_of_ble_eq_true rfl) ⟨Nat.le_of_ble_eq_true rfl, Nat.le_of_ble_eq_true rfl⟩ dX8_cell_13 rfl ?_
    refine g_ifne h 23 19 dX8_cell_16 (by decide) rfl (fun hc => ?_) (fun hc => ?_)
    · have hf := my_ifF hc hf
      refine g_al0 h 24 dX8_cell_23 rfl ?_
      refine g_al0 h 25 dX8_cell_24 rfl ?_
      refine g_geta h 28 fF_X8_51_X8 lyC_0 rfl dX8_cell_25 rfl ?_
      refine g_il1 h 29 dX8_cell_28 rfl ?_
      obtain ⟨hq3, hf⟩ := my_chk hf
      refine g_aald h 30 lyC_31 rfl dX8_cell_29 rfl hq3 ?_
      refine g_il3 h 31 dX8_cell_30 rfl ?_
      refine g_il2 h 32 dX8_cell_31 rfl ?_
      refine g_iconst h 33 ic_1 dX8_cell_32 rfl ?_
      obtain ⟨r4, σ4, hc4, hf⟩ := my_ofb hf
      refine g_callVi h 36 cs_X8_67 rfl (lyC_X6 (my_ixlt hq3)) (ct_X6_faultAs w hc4) rfl rfl (Nat.le_of_ble_eq_true rfl) ⟨Nat.le_of_ble_eq_true rfl, Nat.le_of_ble_eq_true rfl⟩ dX8_cell_33 rfl ?_
      refine g_puti h 39 fP_X8_56_X8 lyC_0 rfl dX8_cell_36 rfl ?_
      refine g_al0 h 40 dX8_cell_39 rfl ?_
      refine g_geti h 43 fF_X8_56_X8 lyC_0 rfl dX8_cell_40 rfl ?_
      refine g_ifne h 61 46 dX8_cell_43 (by decide) rfl (fun hc => ?_) (fun hc => ?_)
      · have hf := my_ifF hc hf
        refine g_ldc2 h 64 tw_kl_X8_208 dX8_cell_61 rfl ?_
        exact g_lret h dX8_cell_64 (my_r1l hf) (my_r2 hf)
      · have hf := my_ifT hc hf
        refine g_al0 h 47 dX8_cell_46 rfl ?_
        refine g_geta h 50 fF_X8_51_X8 lyC_0 rfl dX8_cell_47 rfl ?_
        refine g_il1 h 51 dX8_cell_50 rfl ?_
        obtain ⟨hq5, hf⟩ := my_chk hf
        refine g_aald h 52 lyC_31 rfl dX8_cell_51 rfl hq5 ?_
        refine g_geta h 55 fF_X8_227_X6 (lyC_X6 (my_ixlt hq5)) rfl dX8_cell_52 rfl ?_
        refine g_il2 h 56 dX8_cell_55 rfl ?_
        obtain ⟨hq6, hf⟩ := my_chk hf
        refine g_iald h 57 dX8_cell_56 rfl hq6 ?_
        refine g_i2l h 58 dX8_cell_57 rfl ?_
        refine g_goto h 64 dX8_cell_58 (by decide) ?_
        exact g_lret h dX8_cell_64 (my_r1l hf) (my_r2 hf)
    · have hf := my_ifT hc hf
      refine g_ldc2 h 22 tw_kl_X8_208 dX8_cell_19 rfl ?_
      exact g_lret h dX8_cell_22 (my_r1l hf) (my_r2 hf)
def b_X8_clash_0 (k0 : my_M → Int32 → Int32 → Int32 → Int32 → Option (Int32 × my_M)) (k1 : my_M → Int32 → Int32 → Int32 → Int32 → Int32 → Option (Int32 × my_M)) (σ : my_M) (x1 : Int32) (x2 : Int32) (x3 : Int32) (x4 : Int32) : Option (Int32 × my_M) :=
(if 5 < x4 then
some (x3, σ)
else
k1 σ x1 x2 x3 x4 ((-5)))
def b_X8_clash_1 (k0 : my_M → Int32 → Int32 → Int32 → Int32 → Option (Int32 × my_M)) (k1 : my_M → Int32 → Int32 → Int32 → Int32 → Int32 → Option (Int32 × my_M)) (σ : my_M) (x1 : Int32) (x2 : Int32) (x3 : Int32) (x4 : Int32) (x5 : Int32) : Option (Int32 × my_M) :=
(if 5 < x5 then
k0 σ x1 x2 x3 ((x4 + 1))
else
(my_bnd (f_X2_heard σ x1 x2 x4 x5) fun r1 σ1 =>
k1 σ1 x1 x2 ((if x3 < r1 then r1 else x3 : Int32)) x4 ((x5 + 1))))
def g_X8_clash : Nat → (my_M → Int32 → Int32 → Int32 → Int32 → Option (Int32 × my_M)) × (my_M → Int32 → Int32 → Int32 → Int32 → Int32 → Option (Int32 × my_M))
  | 0 => (fun _ _ _ _ _ => none, fun _ _ _ _ _ _ => none)
  | n + 1 => (b_X8_clash_0 (g_X8_clash n).1 (g_X8_clash n).2, b_X8_clash_1 (g_X8_clash n).1 (g_X8_clash n).2)
def f_X8_clash (σ : my_M) (x1 : Int32) (x2 : Int32) : Option (Int32 × my_M) :=
(my_bnd (f_X2_has σ x1) fun r1 σ1 =>
(if r1 = 0 then
some ((-1), σ1)
else
(my_bnd (f_X2_has σ1 x2) fun r2 σ2 =>
(if r2 = 0 then
some ((-1), σ2)
else
(g_X8_clash my_NF).1 σ2 x1 x2 0 ((-5))))))
set_option maxRecDepth 100000 in
set_option maxHeartbeats 4000000 in
theorem lp_X8_clash (w : my_V) {X : my_X} {r : Int32} {τ : my_M} (h : my_OK X w layC cX8_clash RX8 6 (some .int)) : ∀ n : Nat, (∀ (σ : my_M) (x1 : Int32) (x2 : Int32) (x3 : Int32) (x4 : Int32), (g_X8_clash n).1 σ x1 x2 x3 x4 = some (r, τ) → Go X w layC 4 6 (some (.int r)) τ σ 30 [some (.ref (w.2.2.2 0)), some (.int x1), some (.int x2), some (.int x3), some (.int x4), none] []) ∧ (∀ (σ : my_M) (x1 : Int32) (x2 : Int32) (x3 : Int32) (x4 : Int32) (x5 : Int32), (g_X8_clash n).2 σ x1 x2 x3 x4 x5 = some (r, τ) → Go X w layC 4 6 (some (.int r)) τ σ 40 [some (.ref (w.2.2.2 0)), some (.int x1), some (.int x2), some (.int x3), some (.int x4), some (.int x5)] []) := by
  intro n
  induction n with
  | zero => exact ⟨fun _ _ _ _ _ hf => (my_nn hf).elim, fun _ _ _ _ _ _ hf => (my_nn hf).elim⟩
  | succ n ih =>
    refine ⟨?_, ?_⟩
    · intro σ x1 x2 x3 x4 hf
      replace hf : b_X8_clash_0 (g_X8_clash n).1 (g_X8_clash n).2 σ x1 x2 x3 x4 = some (r, τ) := hf
      unfold b_X8_clash_0 at hf
      refine g_il4 h 32 dX8_clash_30 rfl ?_
      refine g_iconst h 33 ic_5 dX8_clash_32 rfl ?_
      refine g_icgt h 76 36 dX8_clash_33 (by decide) rfl (fun hc => ?_) (fun hc => ?_)
      · have hf := my_ifT hc hf
        refine g_il3 h 77 dX8_clash_76 rfl ?_
        exact g_iret h dX8_clash_77 (my_r1 hf) (my_r2 hf)
      · have hf := my_ifF hc hf
        refine g_bipush h 38 bp_m5 dX8_clash_36 rfl ?_
        refine g_is5 h 40 (Nat.le_of_ble_eq_true rfl) rfl dX8_clash_38 rfl ?_
        exact g_weak (ih.2 _ _ _ _ _ _ hf) (w_s (w_s (w_s (w_s (w_s (w_s w_0))))))
    · intro σ x1 x2 x3 x4 x5 hf
      replace hf : b_X8_clash_1 (g_X8_clash n).1 (g_X8_clash n).2 σ x1 x2 x3 x4 x5 = some (r, τ) := hf
      unfold b_X8_clash_1 at hf
      refine g_il5 h 42 dX8_clash_40 rfl ?_
      refine g_iconst h 43 ic_5 dX8_clash_42 rfl ?_
      refine g_icgt h 70 46 dX8_clash_43 (by decide) rfl (fun hc => ?_) (fun hc => ?_)
      · have hf := my_ifT hc hf
        refine g_inc4 h 73 (my_inc ic_1 _) (Nat.le_of_ble_eq_true rfl) rfl dX8_clash_70 rfl ?_
        refine g_goto h 30 dX8_clash_73 (by decide) ?_
        exact g_weak (ih.1 _ _ _ _ _ hf) (w_s (w_s (w_s (w_s (w_s (w_n w_0))))))
      · have hf := my_ifF hc hf
        refine g_il3 h 47 dX8_clash_46 rfl ?_
        refine g_al0 h 48 dX8_clash_47 rfl ?_
        refine g_geta h 51 fF_X8_12_X8 lyC_0 rfl dX8_clash_48 rfl ?_
        refine g_il1 h 52 dX8_clash_51 rfl ?_
        refine g_il2 h 53 dX8_clash_52 rfl ?_
        refine g_il4 h 55 dX8_clash_53 rfl ?_
        refine g_il5 h 57 dX8_clash_55 rfl ?_
        obtain ⟨r1, σ1, hc1, hf⟩ := my_ofb hf
        refine g_callVi h 60 cs_X8_134 rfl lyC_1 (ct_X2_heard w hc1) rfl rfl (Nat.le_of_ble_eq_true rfl) ⟨Nat.le_of_ble_eq_true rfl, Nat.le_of_ble_eq_true rfl⟩ dX8_clash_57 rfl ?_
        refine g_mmax h 63 tw_ml_X8_176 (Nat.le_of_ble_eq_true rfl) dX8_clash_60 rfl (Nat.le_of_ble_eq_true rfl) ?_
        refine g_is3 h 64 (Nat.le_of_ble_eq_true rfl) rfl dX8_clash_63 rfl ?_
        refine g_inc5 h 67 (my_inc ic_1 _) (Nat.le_of_ble_eq_true rfl) rfl dX8_clash_64 rfl ?_
        refine g_goto h 40 dX8_clash_67 (by decide) ?_
        exact g_weak (ih.2 _ _ _ _ _ _ hf) (w_s (w_s (w_s (w_s (w_s (w_s w_0))))))
set_option maxRecDepth 100000 in
set_option maxHeartbeats 4000000 in
theorem ct_X8_clash (w : my_V) {σ : my_M} {x1 : Int32} {x2 : Int32} {r : Int32} {τ : my_M} (hf : f_X8_clash σ x1 x2 = some (r, τ)) : Ct w layC mX8_clash 4 [.ref (w.2.2.2 0), .int x1, .int x2] σ (some (.int r)) τ := by
  refine my_met RX8 [some (.ref (w.2.2.2 0)), some (.int x1), some (.int x2), none, none, none] 3 (by decide) rfl (Nat.le_of_ble_eq_true rfl) rfl (fun X h => ?_)
  unfold f_X8_clash at hf
  refine g_al0 h 1 dX8_clash_0 rfl ?_
  refine g_geta h 4 fF_X8_12_X8 lyC_0 rfl dX8_clash_1 rfl ?_
  refine g_il1 h 5 dX8_clash_4 rfl ?_
  obtain ⟨r1, σ1, hc1, hf⟩ := my_ofb hf
  refine g_callVi h 8 cs_X8_95 rfl lyC_1 (ct_X2_has w hc1) rfl rfl (Nat.le_of_ble_eq_true rfl) ⟨Nat.le_of_ble_eq_true rfl, Nat.le_of_ble_eq_true rfl⟩ dX8_clash_5 rfl ?_
  refine g_ifeq h 22 11 dX8_clash_8 (by decide) rfl (fun hc => ?_) (fun hc => ?_)
  · have hf := my_ifT hc hf
    refine g_iconst h 23 ic_m1 dX8_clash_22 rfl ?_
    exact g_iret h dX8_clash_23 (my_r1 hf) (my_r2 hf)
  · have hf := my_ifF hc hf
    refine g_al0 h 12 dX8_clash_11 rfl ?_
    refine g_geta h 15 fF_X8_12_X8 lyC_0 rfl dX8_clash_12 rfl ?_
    refine g_il2 h 16 dX8_clash_15 rfl ?_
    obtain ⟨r2, σ2, hc2, hf⟩ := my_ofb hf
    refine g_callVi h 19 cs_X8_95 rfl lyC_1 (ct_X2_has w hc2) rfl rfl (Nat.le_of_ble_eq_true rfl) ⟨Nat.le_of_ble_eq_true rfl, Nat.le_of_ble_eq_true rfl⟩ dX8_clash_16 rfl ?_
    refine g_ifne h 24 22 dX8_clash_19 (by decide) rfl (fun hc => ?_) (fun hc => ?_)
    · have hf := my_ifF hc hf
      refine g_iconst h 25 ic_0 dX8_clash_24 rfl ?_
      refine g_is3 h 26 (Nat.le_of_ble_eq_true rfl) rfl dX8_clash_25 rfl ?_
      refine g_bipush h 28 bp_m5 dX8_clash_26 rfl ?_
      refine g_is4 h 30 (Nat.le_of_ble_eq_true rfl) rfl dX8_clash_28 rfl ?_
      exact g_weak ((lp_X8_clash w h my_NF).1 _ _ _ _ _ hf) (w_s (w_s (w_s (w_s (w_s (w_s w_0))))))
    · have hf := my_ifT hc hf
      refine g_iconst h 23 ic_m1 dX8_clash_22 rfl ?_
      exact g_iret h dX8_clash_23 (my_r1 hf) (my_r2 hf)
def f_X8_copy (σ : my_M) (x1 : Int32) (x2 : Int32) (x3 : Int32) (x4 : Int32) (x5 : Int32) : Option (Int32 × my_M) :=
(my_bnd (f_X8_isSheet (my_up σ 0 8 0) x1) fun r1 σ1 =>
(if r1 = 0 then
some ((-1), σ1)
else
(my_bnd (f_X8_isSheet σ1 x3) fun r2 σ2 =>
(if r2 = 0 then
some ((-1), σ2)
else
(if my_ix x1 4 then
(if my_ix x3 4 then
(if (σ2 (32 + (Int32.toNatClampNeg x1)) 0) = 0 then
(my_bnd (f_X8_faulted σ2 1) fun r5 σ5 =>
some (r5, σ5))
else
(if (σ2 (32 + (Int32.toNatClampNeg x3)) 0) = 0 then
(my_bnd (f_X8_faulted σ2 1) fun r12 σ12 =>
some (r12, σ12))
else
(if (σ2 (32 + (Int32.toNatClampNeg x1)) 1) = (σ2 (32 + (Int32.toNatClampNeg x3)) 1) then
(my_bnd (f_X6_holds σ2 (Int32.toNatClampNeg x1) x2 x5) fun r6 σ6 =>
(if r6 = 0 then
(my_bnd (f_X8_faulted σ6 3) fun r7 σ7 =>
some (r7, σ7))
else
(my_bnd (f_X6_holds σ6 (Int32.toNatClampNeg x3) x4 x5) fun r8 σ8 =>
(if r8 = 0 then
(my_bnd (f_X8_faulted σ8 3) fun r10 σ10 =>
some (r10, σ10))
else
(if my_cpok layC (36 + (Int32.toNatClampNeg x1)) (36 + (Int32.toNatClampNeg x3)) x2 x4 x5 then
some (x5, (my_cp σ8 (36 + (Int32.toNatClampNeg x1)) (36 + (Int32.toNatClampNeg x3)) x2 x4 x5))
else none)))))
else
(my_bnd (f_X8_faulted σ2 2) fun r11 σ11 =>
some (r11, σ11)))))
else none)
else none)))))
set_option maxRecDepth 100000 in
set_option maxHeartbeats 4000000 in
theorem ct_X8_copy (w : my_V) {σ : my_M} {x1 : Int32} {x2 : Int32} {x3 : Int32} {x4 : Int32} {x5 : Int32} {r : Int32} {τ : my_M} (hf : f_X8_copy σ x1 x2 x3 x4 x5 = some (r, τ)) : Ct w layC mX8_copy 3 [.ref (w.2.2.2 0), .int x1, .int x2, .int x3, .int x4, .int x5] σ (some (.int r)) τ := by
  refine my_met RX8 [some (.ref (w.2.2.2 0)), some (.int x1), some (.int x2), some (.int x3), some (.int x4), some (.int x5), none, none] 2 (by decide) rfl (Nat.le_of_ble_eq_true rfl) rfl (fun X h => ?_)
  unfold f_X8_copy at hf
  refine g_al0 h 1 dX8_copy_0 rfl ?_
  refine g_iconst h 2 ic_0 dX8_copy_1 rfl ?_
  refine g_puti h 5 fP_X8_56_X8 lyC_0 rfl dX8_copy_2 rfl ?_
  refine g_il1 h 6 dX8_copy_5 rfl ?_
  obtain ⟨r1, σ1, hc1, hf⟩ := my_ofb hf
  refine g_callSi h 9 cs_X8_60 (ct_X8_isSheet w hc1) rfl rfl (Nat.le_of_ble_eq_true rfl) ⟨Nat.le_of_ble_eq_true rfl, Nat.le_of_ble_eq_true rfl⟩ dX8_copy_6 rfl ?_
  refine g_ifeq h 19 12 dX8_copy_9 (by decide) rfl (fun hc => ?_) (fun hc => ?_)
  · have hf := my_ifT hc hf
    refine g_iconst h 20 ic_m1 dX8_copy_19 rfl ?_
    exact g_iret h dX8_copy_20 (my_r1 hf) (my_r2 hf)
  · have hf := my_ifF hc hf
    refine g_il3 h 13 dX8_copy_12 rfl ?_
    obtain ⟨r2, σ2, hc2, hf⟩ := my_ofb hf
    refine g_callSi h 16 cs_X8_60 (ct_X8_isSheet w hc2) rfl rfl (Nat.le_of_ble_eq_true rfl) ⟨Nat.le_of_ble_eq_true rfl, Nat.le_of_ble_eq_true rfl⟩ dX8_copy_13 rfl ?_
    refine g_ifne h 21 19 dX8_copy_16 (by decide) rfl (fun hc => ?_) (fun hc => ?_)
    · have hf := my_ifF hc hf
      refine g_al0 h 22 dX8_copy_21 rfl ?_
      refine g_geta h 25 fF_X8_51_X8 lyC_0 rfl dX8_copy_22 rfl ?_
      refine g_il1 h 26 dX8_copy_25 rfl ?_
      obtain ⟨hq3, hf⟩ := my_chk hf
      refine g_aald h 27 lyC_31 rfl dX8_copy_26 rfl hq3 ?_
      refine g_as6 h 29 (Nat.le_of_ble_eq_true rfl) rfl dX8_copy_27 rfl ?_
      refine g_al0 h 30 dX8_copy_29 rfl ?_
      refine g_geta h 33 fF_X8_51_X8 lyC_0 rfl dX8_copy_30 rfl ?_
      refine g_il3 h 34 dX8_copy_33 rfl ?_
      obtain ⟨hq4, hf⟩ := my_chk hf
      refine g_aald h 35 lyC_31 rfl dX8_copy_34 rfl hq4 ?_
      refine g_as7 h 37 (Nat.le_of_ble_eq_true rfl) rfl dX8_copy_35 rfl ?_
      refine g_al6 h 39 dX8_copy_37 rfl ?_
      refine g_geti h 42 fF_X8_217_X6 (lyC_X6 (my_ixlt hq3)) rfl dX8_copy_39 rfl ?_
      refine g_ifeq h 53 45 dX8_copy_42 (by decide) rfl (fun hc => ?_) (fun hc => ?_)
      · have hf := my_ifT hc hf
        refine g_al0 h 54 dX8_copy_53 rfl ?_
        refine g_iconst h 55 ic_1 dX8_copy_54 rfl ?_
        obtain ⟨r5, σ5, hc5, hf⟩ := my_ofb hf
        refine g_callVi h 58 cs_X8_71 rfl lyC_0 (ct_X8_faulted w hc5) rfl rfl (Nat.le_of_ble_eq_true rfl) ⟨Nat.le_of_ble_eq_true rfl, Nat.le_of_ble_eq_true rfl⟩ dX8_copy_55 rfl ?_
        exact g_iret h dX8_copy_58 (my_r1 hf) (my_r2 hf)
      · have hf := my_ifF hc hf
        refine g_al7 h 47 dX8_copy_45 rfl ?_
        refine g_geti h 50 fF_X8_217_X6 (lyC_X6 (my_ixlt hq4)) rfl dX8_copy_47 rfl ?_
        refine g_ifne h 59 53 dX8_copy_50 (by decide) rfl (fun hc => ?_) (fun hc => ?_)
        · have hf := my_ifF hc hf
          refine g_al6 h 61 dX8_copy_59 rfl ?_
          refine g_geti h 64 fF_X8_230_X6 (lyC_X6 (my_ixlt hq3)) rfl dX8_copy_61 rfl ?_
          refine g_al7 h 66 dX8_copy_64 rfl ?_
          refine g_geti h 69 fF_X8_230_X6 (lyC_X6 (my_ixlt hq4)) rfl dX8_copy_66 rfl ?_
          refine g_iceq h 78 72 dX8_copy_69 (by decide) rfl (fun hc => ?_) (fun hc => ?_)
          · have hf := my_ifT hc hf
            refine g_al6 h 80 dX8_copy_78 rfl ?_
            refine g_il2 h 81 dX8_copy_80 rfl ?_
            refine g_il5 h 83 dX8_copy_81 rfl ?_
            obtain ⟨r6, σ6, hc6, hf⟩ := my_ofb hf
            refine g_callVi h 86 cs_X8_220 rfl (lyC_X6 (my_ixlt hq3)) (ct_X6_holds w hc6) rfl rfl (Nat.le_of_ble_eq_true rfl) ⟨Nat.le_of_ble_eq_true rfl, Nat.le_of_ble_eq_true rfl⟩ dX8_copy_83 rfl ?_
            refine g_ifeq h 101 89 dX8_copy_86 (by decide) rfl (fun hc => ?_) (fun hc => ?_)
            · have hf := my_ifT hc hf
              refine g_al0 h 102 dX8_copy_101 rfl ?_
              refine g_iconst h 103 ic_3 dX8_copy_102 rfl ?_
              obtain ⟨r7, σ7, hc7, hf⟩ := my_ofb hf
              refine g_callVi h 106 cs_X8_71 rfl lyC_0 (ct_X8_faulted w hc7) rfl rfl (Nat.le_of_ble_eq_true rfl) ⟨Nat.le_of_ble_eq_true rfl, Nat.le_of_ble_eq_true rfl⟩ dX8_copy_103 rfl ?_
              exact g_iret h dX8_copy_106 (my_r1 hf) (my_r2 hf)
            · have hf := my_ifF hc hf
              refine g_al7 h 91 dX8_copy_89 rfl ?_
              refine g_il4 h 93 dX8_copy_91 rfl ?_
              refine g_il5 h 95 dX8_copy_93 rfl ?_
              obtain ⟨r8, σ8, hc8, hf⟩ := my_ofb hf
              refine g_callVi h 98 cs_X8_220 rfl (lyC_X6 (my_ixlt hq4)) (ct_X6_holds w hc8) rfl rfl (Nat.le_of_ble_eq_true rfl) ⟨Nat.le_of_ble_eq_true rfl, Nat.le_of_ble_eq_true rfl⟩ dX8_copy_95 rfl ?_
              refine g_ifne h 107 101 dX8_copy_98 (by decide) rfl (fun hc => ?_) (fun hc => ?_)
              · have hf := my_ifF hc hf
                refine g_al6 h 109 dX8_copy_107 rfl ?_
                refine g_geta h 112 fF_X8_227_X6 (lyC_X6 (my_ixlt hq3)) rfl dX8_copy_109 rfl ?_
                refine g_il2 h 113 dX8_copy_112 rfl ?_
                refine g_al7 h 115 dX8_copy_113 rfl ?_
                refine g_geta h 118 fF_X8_227_X6 (lyC_X6 (my_ixlt hq4)) rfl dX8_copy_115 rfl ?_
                refine g_il4 h 120 dX8_copy_118 rfl ?_
                refine g_il5 h 122 dX8_copy_120 rfl ?_
                obtain ⟨hq9, hf⟩ := my_chk hf
                refine g_copy h 125 tw_ml_X8_233 (Nat.le_of_ble_eq_true rfl) dX8_copy_122 rfl (Nat.le_of_ble_eq_true rfl) hq9 ?_
                refine g_il5 h 127 dX8_copy_125 rfl ?_
                exact g_iret h dX8_copy_127 (my_r1 hf) (my_r2 hf)
              · have hf := my_ifT hc hf
                refine g_al0 h 102 dX8_copy_101 rfl ?_
                refine g_iconst h 103 ic_3 dX8_copy_102 rfl ?_
                obtain ⟨r10, σ10, hc10, hf⟩ := my_ofb hf
                refine g_callVi h 106 cs_X8_71 rfl lyC_0 (ct_X8_faulted w hc10) rfl rfl (Nat.le_of_ble_eq_true rfl) ⟨Nat.le_of_ble_eq_true rfl, Nat.le_of_ble_eq_true rfl⟩ dX8_copy_103 rfl ?_
                exact g_iret h dX8_copy_106 (my_r1 hf) (my_r2 hf)
          · have hf := my_ifF hc hf
            refine g_al0 h 73 dX8_copy_72 rfl ?_
            refine g_iconst h 74 ic_2 dX8_copy_73 rfl ?_
            obtain ⟨r11, σ11, hc11, hf⟩ := my_ofb hf
            refine g_callVi h 77 cs_X8_71 rfl lyC_0 (ct_X8_faulted w hc11) rfl rfl (Nat.le_of_ble_eq_true rfl) ⟨Nat.le_of_ble_eq_true rfl, Nat.le_of_ble_eq_true rfl⟩ dX8_copy_74 rfl ?_
            exact g_iret h dX8_copy_77 (my_r1 hf) (my_r2 hf)
        · have hf := my_ifT hc hf
          refine g_al0 h 54 dX8_copy_53 rfl ?_
          refine g_iconst h 55 ic_1 dX8_copy_54 rfl ?_
          obtain ⟨r12, σ12, hc12, hf⟩ := my_ofb hf
          refine g_callVi h 58 cs_X8_71 rfl lyC_0 (ct_X8_faulted w hc12) rfl rfl (Nat.le_of_ble_eq_true rfl) ⟨Nat.le_of_ble_eq_true rfl, Nat.le_of_ble_eq_true rfl⟩ dX8_copy_55 rfl ?_
          exact g_iret h dX8_copy_58 (my_r1 hf) (my_r2 hf)
    · have hf := my_ifT hc hf
      refine g_iconst h 20 ic_m1 dX8_copy_19 rfl ?_
      exact g_iret h dX8_copy_20 (my_r1 hf) (my_r2 hf)
def b_X8_firstWrong_0 (k0 : my_M → Nat → Int32 → Int32 → Int32 → Option (Int32 × my_M)) (σ : my_M) (e1 : Nat) (x2 : Int32) (x3 : Int32) (x4 : Int32) : Option (Int32 × my_M) :=
(if e1 < 4 then
(if x3 ≤ x4 then
some ((-9), σ)
else
(if my_ix (x2 + (2 * x4)) (my_len layC (36 + e1)) then
(if my_ix ((x2 + (2 * x4)) + 1) (my_len layC (36 + e1)) then
(if (σ (36 + e1) (Int32.toNatClampNeg ((x2 + (2 * x4)) + 1))) = 9 then
(my_bnd (f_X4_takeBackA σ 1 (σ (36 + e1) (Int32.toNatClampNeg (x2 + (2 * x4))))) fun r5 σ5 =>
(if r5 = 0 then
some (x4, σ5)
else
k0 σ5 e1 x2 x3 ((x4 + 1))))
else
(my_bnd (f_X2_has σ (σ (36 + e1) (Int32.toNatClampNeg ((x2 + (2 * x4)) + 1)))) fun r3 σ3 =>
(if r3 = 0 then
some (x4, σ3)
else
(my_bnd (f_X0_add σ3 1 (σ (36 + e1) (Int32.toNatClampNeg ((x2 + (2 * x4)) + 1))) (σ (36 + e1) (Int32.toNatClampNeg (x2 + (2 * x4)))) 0) fun r4 σ4 =>
(if (if r4 = 0 then 0 else 1 : Int32) = 0 then
some (x4, σ4)
else
k0 σ4 e1 x2 x3 ((x4 + 1)))))))
else none)
else none))
else none)
def g_X8_firstWrong : Nat → my_M → Nat → Int32 → Int32 → Int32 → Option (Int32 × my_M)
  | 0 => fun _ _ _ _ _ => none
  | n + 1 => b_X8_firstWrong_0 (g_X8_firstWrong n)
def f_X8_firstWrong (σ : my_M) (e1 : Nat) (x2 : Int32) (x3 : Int32) : Option (Int32 × my_M) :=
(if e1 < 4 then
(g_X8_firstWrong my_NF) σ e1 x2 x3 0
else none)
set_option maxRecDepth 100000 in
set_option maxHeartbeats 4000000 in
theorem lp_X8_firstWrong (w : my_V) {X : my_X} {r : Int32} {τ : my_M} (h : my_OK X w layC cX8_firstWrong RX8 8 (some .int)) : ∀ n : Nat, (∀ (σ : my_M) (e1 : Nat) (x2 : Int32) (x3 : Int32) (x4 : Int32), (g_X8_firstWrong n) σ e1 x2 x3 x4 = some (r, τ) → Go X w layC 3 8 (some (.int r)) τ σ 3 [some (.ref (w.2.2.2 0)), some (.ref (w.2.2.2 (32 + e1))), some (.int x2), some (.int x3), some (.int x4), none, none, none] []) := by
  intro n
  induction n with
  | zero => exact fun _ _ _ _ _ hf => (my_nn hf).elim
  | succ n ih =>
    intro σ e1 x2 x3 x4 hf
    replace hf : b_X8_firstWrong_0 (g_X8_firstWrong n) σ e1 x2 x3 x4 = some (r, τ) := hf
    unfold b_X8_firstWrong_0 at hf
    obtain ⟨hb1, hf⟩ := my_chk hf
    refine g_il4 h 5 dX8_firstWrong_3 rfl ?_
    refine g_il3 h 6 dX8_firstWrong_5 rfl ?_
    refine g_icge h 104 9 dX8_firstWrong_6 (by decide) rfl (fun hc => ?_) (fun hc => ?_)
    · have hf := my_ifT hc hf
      refine g_bipush h 106 bp_m9 dX8_firstWrong_104 rfl ?_
      exact g_iret h dX8_firstWrong_106 (my_r1 hf) (my_r2 hf)
    · have hf := my_ifF hc hf
      refine g_al1 h 10 dX8_firstWrong_9 rfl ?_
      refine g_geta h 13 fF_X8_227_X6 (lyC_X6 hb1) rfl dX8_firstWrong_10 rfl ?_
      refine g_il2 h 14 dX8_firstWrong_13 rfl ?_
      refine g_iconst h 15 ic_2 dX8_firstWrong_14 rfl ?_
      refine g_il4 h 17 dX8_firstWrong_15 rfl ?_
      refine g_imul h 18 dX8_firstWrong_17 rfl ?_
      refine g_iadd h 19 dX8_firstWrong_18 rfl ?_
      obtain ⟨hq1, hf⟩ := my_chk hf
      refine g_iald h 20 dX8_firstWrong_19 rfl hq1 ?_
      refine g_is5 h 22 (Nat.le_of_ble_eq_true rfl) rfl dX8_firstWrong_20 rfl ?_
      refine g_al1 h 23 dX8_firstWrong_22 rfl ?_
      refine g_geta h 26 fF_X8_227_X6 (lyC_X6 hb1) rfl dX8_firstWrong_23 rfl ?_
      refine g_il2 h 27 dX8_firstWrong_26 rfl ?_
      refine g_iconst h 28 ic_2 dX8_firstWrong_27 rfl ?_
      refine g_il4 h 30 dX8_firstWrong_28 rfl ?_
      refine g_imul h 31 dX8_firstWrong_30 rfl ?_
      refine g_iadd h 32 dX8_firstWrong_31 rfl ?_
      refine g_iconst h 33 ic_1 dX8_firstWrong_32 rfl ?_
      refine g_iadd h 34 dX8_firstWrong_33 rfl ?_
      obtain ⟨hq2, hf⟩ := my_chk hf
      refine g_iald h 35 dX8_firstWrong_34 rfl hq2 ?_
      refine g_is6 h 37 (Nat.le_of_ble_eq_true rfl) rfl dX8_firstWrong_35 rfl ?_
      refine g_il6 h 39 dX8_firstWrong_37 rfl ?_
      refine g_bipush h 41 bp_9 dX8_firstWrong_39 rfl ?_
      refine g_icne h 56 44 dX8_firstWrong_41 (by decide) rfl (fun hc => ?_) (fun hc => ?_)
      · have hf := my_ifF hc hf
        refine g_al0 h 57 dX8_firstWrong_56 rfl ?_
        refine g_geta h 60 fF_X8_12_X8 lyC_0 rfl dX8_firstWrong_57 rfl ?_
        refine g_il6 h 62 dX8_firstWrong_60 rfl ?_
        obtain ⟨r3, σ3, hc3, hf⟩ := my_ofb hf
        refine g_callVi h 65 cs_X8_95 rfl lyC_1 (ct_X2_has w hc3) rfl rfl (Nat.le_of_ble_eq_true rfl) ⟨Nat.le_of_ble_eq_true rfl, Nat.le_of_ble_eq_true rfl⟩ dX8_firstWrong_62 rfl ?_
        refine g_ifeq h 87 68 dX8_firstWrong_65 (by decide) rfl (fun hc => ?_) (fun hc => ?_)
        · have hf := my_ifT hc hf
          refine g_iconst h 88 ic_0 dX8_firstWrong_87 rfl ?_
          refine g_is7 h 90 (Nat.le_of_ble_eq_true rfl) rfl dX8_firstWrong_88 rfl ?_
          refine g_il7 h 92 dX8_firstWrong_90 rfl ?_
          refine g_ifne h 98 95 dX8_firstWrong_92 (by decide) rfl (fun hc => absurd hc (by decide)) (fun _ => ?_)
          refine g_il4 h 97 dX8_firstWrong_95 rfl ?_
          exact g_iret h dX8_firstWrong_97 (my_r1 hf) (my_r2 hf)
        · have hf := my_ifF hc hf
          refine g_al0 h 69 dX8_firstWrong_68 rfl ?_
          refine g_geta h 72 fF_X8_25_X8 lyC_0 rfl dX8_firstWrong_69 rfl ?_
          refine g_il6 h 74 dX8_firstWrong_72 rfl ?_
          refine g_il5 h 76 dX8_firstWrong_74 rfl ?_
          refine g_iconst h 77 ic_0 dX8_firstWrong_76 rfl ?_
          obtain ⟨r4, σ4, hc4, hf⟩ := my_ofb hf
          refine g_callVi h 80 cs_X8_138 rfl lyC_16 (ct_X0_add w hc4) rfl rfl (Nat.le_of_ble_eq_true rfl) ⟨Nat.le_of_ble_eq_true rfl, Nat.le_of_ble_eq_true rfl⟩ dX8_firstWrong_77 rfl ?_
          refine g_ifeq_sel h 87 88 dX8_firstWrong_80 (by decide) dX8_firstWrong_83 ic_1 dX8_firstWrong_84 (by decide) dX8_firstWrong_87 ic_0 rfl ?_
          refine g_is7 h 90 (Nat.le_of_ble_eq_true rfl) rfl dX8_firstWrong_88 rfl ?_
          refine g_il7 h 92 dX8_firstWrong_90 rfl ?_
          refine g_ifne h 98 95 dX8_firstWrong_92 (by decide) rfl (fun hc => ?_) (fun hc => ?_)
          · have hf := my_ifF hc hf
            refine g_inc4 h 101 (my_inc ic_1 _) (Nat.le_of_ble_eq_true rfl) rfl dX8_firstWrong_98 rfl ?_
            refine g_goto h 3 dX8_firstWrong_101 (by decide) ?_
            exact g_weak (ih _ _ _ _ _ hf) (w_s (w_s (w_s (w_s (w_s (w_n (w_n (w_n w_0))))))))
          · have hf := my_ifT hc hf
            refine g_il4 h 97 dX8_firstWrong_95 rfl ?_
            exact g_iret h dX8_firstWrong_97 (my_r1 hf) (my_r2 hf)
      · have hf := my_ifT hc hf
        refine g_al0 h 45 dX8_firstWrong_44 rfl ?_
        refine g_geta h 48 fF_X8_25_X8 lyC_0 rfl dX8_firstWrong_45 rfl ?_
        refine g_il5 h 50 dX8_firstWrong_48 rfl ?_
        obtain ⟨r5, σ5, hc5, hf⟩ := my_ofb hf
        refine g_callUi h 53 cs_X8_141A rfl lyC_16 (ct_X4_takeBackA w hc5) rfl rfl (Nat.le_of_ble_eq_true rfl) ⟨Nat.le_of_ble_eq_true rfl, Nat.le_of_ble_eq_true rfl⟩ dX8_firstWrong_50 rfl ?_
        refine g_goto h 88 dX8_firstWrong_53 (by decide) ?_
        refine g_is7 h 90 (Nat.le_of_ble_eq_true rfl) rfl dX8_firstWrong_88 rfl ?_
        refine g_il7 h 92 dX8_firstWrong_90 rfl ?_
        refine g_ifne h 98 95 dX8_firstWrong_92 (by decide) rfl (fun hc => ?_) (fun hc => ?_)
        · have hf := my_ifF hc hf
          refine g_inc4 h 101 (my_inc ic_1 _) (Nat.le_of_ble_eq_true rfl) rfl dX8_firstWrong_98 rfl ?_
          refine g_goto h 3 dX8_firstWrong_101 (by decide) ?_
          exact g_weak (ih _ _ _ _ _ hf) (w_s (w_s (w_s (w_s (w_s (w_n (w_n (w_n w_0))))))))
        · have hf := my_ifT hc hf
          refine g_il4 h 97 dX8_firstWrong_95 rfl ?_
          exact g_iret h dX8_firstWrong_97 (my_r1 hf) (my_r2 hf)
set_option maxRecDepth 100000 in
set_option maxHeartbeats 4000000 in
theorem ct_X8_firstWrong (w : my_V) {σ : my_M} {e1 : Nat} {x2 : Int32} {x3 : Int32} {r : Int32} {τ : my_M} (hf : f_X8_firstWrong σ e1 x2 x3 = some (r, τ)) : Ct w layC mX8_firstWrong 3 [.ref (w.2.2.2 0), .ref (w.2.2.2 (32 + e1)), .int x2, .int x3] σ (some (.int r)) τ := by
  refine my_met RX8 [some (.ref (w.2.2.2 0)), some (.ref (w.2.2.2 (32 + e1))), some (.int x2), some (.int x3), none, none, none, none] 4 (by decide) rfl (Nat.le_of_ble_eq_true rfl) rfl (fun X h => ?_)
  unfold f_X8_firstWrong at hf
  obtain ⟨hb1, hf⟩ := my_chk hf
  refine g_iconst h 1 ic_0 dX8_firstWrong_0 rfl ?_
  refine g_is4 h 3 (Nat.le_of_ble_eq_true rfl) rfl dX8_firstWrong_1 rfl ?_
  exact g_weak ((lp_X8_firstWrong w h my_NF) _ _ _ _ _ hf) (w_s (w_s (w_s (w_s (w_s (w_s (w_s (w_s w_0))))))))
def f_X8_isDayQuestion (σ : my_M) (x0 : Int32) : Option (Int32 × my_M) :=
(my_bnd (f_X8_isWithin σ x0 0 4) fun r1 σ1 =>
(if r1 = 0 then
(my_bnd (f_X8_isWithin σ1 x0 10 13) fun r2 σ2 =>
(if my_b (if r2 = 0 then 0 else 1 : Int32) then some ((if r2 = 0 then 0 else 1 : Int32), σ2) else none))
else
some (1, σ1)))
set_option maxRecDepth 100000 in
set_option maxHeartbeats 4000000 in
theorem ct_X8_isDayQuestion (w : my_V) {σ : my_M} {x0 : Int32} {r : Int32} {τ : my_M} (hf : f_X8_isDayQuestion σ x0 = some (r, τ)) : Ct w layC mX8_isDayQuestion 2 [.int x0] σ (some (.int r)) τ := by
  refine my_met RX8 [some (.int x0)] 0 (by decide) rfl (Nat.le_of_ble_eq_true rfl) rfl (fun X h => ?_)
  unfold f_X8_isDayQuestion at hf
  refine g_il0 h 1 dX8_isDayQuestion_0 rfl ?_
  refine g_iconst h 2 ic_0 dX8_isDayQuestion_1 rfl ?_
  refine g_iconst h 3 ic_4 dX8_isDayQuestion_2 rfl ?_
  obtain ⟨r1, σ1, hc1, hf⟩ := my_ofb hf
  refine g_callSi h 6 cs_X8_120 (ct_X8_isWithin w hc1) rfl rfl (Nat.le_of_ble_eq_true rfl) ⟨Nat.le_of_ble_eq_true rfl, Nat.le_of_ble_eq_true rfl⟩ dX8_isDayQuestion_3 rfl ?_
  refine g_ifne h 20 9 dX8_isDayQuestion_6 (by decide) rfl (fun hc => ?_) (fun hc => ?_)
  · have hf := my_ifF hc hf
    refine g_iconst h 21 ic_1 dX8_isDayQuestion_20 rfl ?_
    refine g_goto h 25 dX8_isDayQuestion_21 (by decide) ?_
    exact g_zret h dX8_isDayQuestion_25 (Or.inr rfl) (my_r1 hf) (my_r2 hf)
  · have hf := my_ifT hc hf
    refine g_il0 h 10 dX8_isDayQuestion_9 rfl ?_
    refine g_bipush h 12 bp_10 dX8_isDayQuestion_10 rfl ?_
    refine g_bipush h 14 bp_13 dX8_isDayQuestion_12 rfl ?_
    obtain ⟨r2, σ2, hc2, hf⟩ := my_ofb hf
    refine g_callSi h 17 cs_X8_120 (ct_X8_isWithin w hc2) rfl rfl (Nat.le_of_ble_eq_true rfl) ⟨Nat.le_of_ble_eq_true rfl, Nat.le_of_ble_eq_true rfl⟩ dX8_isDayQuestion_14 rfl ?_
    refine g_ifeq_sel h 24 25 dX8_isDayQuestion_17 (by decide) dX8_isDayQuestion_20 ic_1 dX8_isDayQuestion_21 (by decide) dX8_isDayQuestion_24 ic_0 rfl ?_
    obtain ⟨hqz, hf⟩ := my_chk hf
    exact g_zret h dX8_isDayQuestion_25 hqz (my_r1 hf) (my_r2 hf)
def f_X8_day (σ : my_M) (x1 : Int32) (x2 : Int32) (x3 : Int32) (x4 : Int32) (x5 : Int32) : Option (Int32 × my_M) :=
(my_bnd (f_X8_isSheet (my_up σ 0 8 0) x1) fun r1 σ1 =>
(if r1 = 0 then
some ((-1), σ1)
else
(my_bnd (f_X8_isLane σ1 x2) fun r2 σ2 =>
(if r2 = 0 then
some ((-2), σ2)
else
(my_bnd (f_X8_isWithin σ2 x4 0 20) fun r3 σ3 =>
(if r3 = 0 then
some ((-2), σ3)
else
(my_bnd (f_X8_isDayQuestion σ3 x5) fun r4 σ4 =>
(if r4 = 0 then
some ((-2), σ4)
else
(if (σ4 1 1) = 0 then
some ((-3), σ4)
else
(if my_ix x1 4 then
(my_bnd (f_X6_faultAs σ4 (Int32.toNatClampNeg x1) x2 x3 (2 * x4)) fun r6 σ6 =>
(if r6 = 0 then
(if my_ix x1 4 then
(my_bnd (f_X8_areActs σ6 (Int32.toNatClampNeg x1) x3 x4) fun r8 σ8 =>
(if r8 = 0 then
some ((-2), σ8)
else
(my_bnd (f_X0_becomeLike σ8 1 0) fun r9 σ9 =>
(if my_ix x1 4 then
(my_bnd (f_X8_firstWrong σ9 (Int32.toNatClampNeg x1) x3 x4) fun r11 σ11 =>
(if x5 = 1 then
some (r11, σ11)
else
(if r11 = (-9) then
(my_bnd (f_X8_afterDay σ11 x5) fun r12 σ12 =>
some (r12, σ12))
else
some (((-100) - r11), σ11))))
else none))))
else none)
else
(my_bnd (f_X8_faulted σ6 r6) fun r13 σ13 =>
some (r13, σ13))))
else none))))))))))
set_option maxRecDepth 100000 in
set_option maxHeartbeats 4000000 in
theorem ct_X8_day (w : my_V) {σ : my_M} {x1 : Int32} {x2 : Int32} {x3 : Int32} {x4 : Int32} {x5 : Int32} {r : Int32} {τ : my_M} (hf : f_X8_day σ x1 x2 x3 x4 x5 = some (r, τ)) : Ct w layC mX8_day 6 [.ref (w.2.2.2 0), .int x1, .int x2, .int x3, .int x4, .int x5] σ (some (.int r)) τ := by
  refine my_met RX8 [some (.ref (w.2.2.2 0)), some (.int x1), some (.int x2), some (.int x3), some (.int x4), some (.int x5), none, none] 2 (by decide) rfl (Nat.le_of_ble_eq_true rfl) rfl (fun X h => ?_)
  unfold f_X8_day at hf
  refine g_al0 h 1 dX8_day_0 rfl ?_
  refine g_iconst h 2 ic_0 dX8_day_1 rfl ?_
  refine g_puti h 5 fP_X8_56_X8 lyC_0 rfl dX8_day_2 rfl ?_
  refine g_il1 h 6 dX8_day_5 rfl ?_
  obtain ⟨r1, σ1, hc1, hf⟩ := my_ofb hf
  refine g_callSi h 9 cs_X8_60 (ct_X8_isSheet w hc1) rfl rfl (Nat.le_of_ble_eq_true rfl) ⟨Nat.le_of_ble_eq_true rfl, Nat.le_of_ble_eq_true rfl⟩ dX8_day_6 rfl ?_
  refine g_ifne h 14 12 dX8_day_9 (by decide) rfl (fun hc => ?_) (fun hc => ?_)
  · have hf := my_ifF hc hf
    refine g_il2 h 15 dX8_day_14 rfl ?_
    obtain ⟨r2, σ2, hc2, hf⟩ := my_ofb hf
    refine g_callSi h 18 cs_X8_64 (ct_X8_isLane w hc2) rfl rfl (Nat.le_of_ble_eq_true rfl) ⟨Nat.le_of_ble_eq_true rfl, Nat.le_of_ble_eq_true rfl⟩ dX8_day_15 rfl ?_
    refine g_ifeq h 40 21 dX8_day_18 (by decide) rfl (fun hc => ?_) (fun hc => ?_)
    · have hf := my_ifT hc hf
      refine g_bipush h 42 bp_m2 dX8_day_40 rfl ?_
      exact g_iret h dX8_day_42 (my_r1 hf) (my_r2 hf)
    · have hf := my_ifF hc hf
      refine g_il4 h 23 dX8_day_21 rfl ?_
      refine g_iconst h 24 ic_0 dX8_day_23 rfl ?_
      refine g_bipush h 26 bp_20 dX8_day_24 rfl ?_
      obtain ⟨r3, σ3, hc3, hf⟩ := my_ofb hf
      refine g_callSi h 29 cs_X8_120 (ct_X8_isWithin w hc3) rfl rfl (Nat.le_of_ble_eq_true rfl) ⟨Nat.le_of_ble_eq_true rfl, Nat.le_of_ble_eq_true rfl⟩ dX8_day_26 rfl ?_
      refine g_ifeq h 40 32 dX8_day_29 (by decide) rfl (fun hc => ?_) (fun hc => ?_)
      · have hf := my_ifT hc hf
        refine g_bipush h 42 bp_m2 dX8_day_40 rfl ?_
        exact g_iret h dX8_day_42 (my_r1 hf) (my_r2 hf)
      · have hf := my_ifF hc hf
        refine g_il5 h 34 dX8_day_32 rfl ?_
        obtain ⟨r4, σ4, hc4, hf⟩ := my_ofb hf
        refine g_callSi h 37 cs_X8_159 (ct_X8_isDayQuestion w hc4) rfl rfl (Nat.le_of_ble_eq_true rfl) ⟨Nat.le_of_ble_eq_true rfl, Nat.le_of_ble_eq_true rfl⟩ dX8_day_34 rfl ?_
        refine g_ifne h 43 40 dX8_day_37 (by decide) rfl (fun hc => ?_) (fun hc => ?_)
        · have hf := my_ifF hc hf
          refine g_al0 h 44 dX8_day_43 rfl ?_
          refine g_geta h 47 fF_X8_12_X8 lyC_0 rfl dX8_day_44 rfl ?_
          refine g_geti h 50 fF_X8_94_X2 lyC_1 rfl dX8_day_47 rfl ?_
          refine g_ifne h 56 53 dX8_day_50 (by decide) rfl (fun hc => ?_) (fun hc => ?_)
          · have hf := my_ifF hc hf
            refine g_al0 h 57 dX8_day_56 rfl ?_
            refine g_geta h 60 fF_X8_51_X8 lyC_0 rfl dX8_day_57 rfl ?_
            refine g_il1 h 61 dX8_day_60 rfl ?_
            obtain ⟨hq5, hf⟩ := my_chk hf
            refine g_aald h 62 lyC_31 rfl dX8_day_61 rfl hq5 ?_
            refine g_il2 h 63 dX8_day_62 rfl ?_
            refine g_il3 h 64 dX8_day_63 rfl ?_
            refine g_iconst h 65 ic_2 dX8_day_64 rfl ?_
            refine g_il4 h 67 dX8_day_65 rfl ?_
            refine g_imul h 68 dX8_day_67 rfl ?_
            obtain ⟨r6, σ6, hc6, hf⟩ := my_ofb hf
            refine g_callVi h 71 cs_X8_67 rfl (lyC_X6 (my_ixlt hq5)) (ct_X6_faultAs w hc6) rfl rfl (Nat.le_of_ble_eq_true rfl) ⟨Nat.le_of_ble_eq_true rfl, Nat.le_of_ble_eq_true rfl⟩ dX8_day_68 rfl ?_
            refine g_is6 h 73 (Nat.le_of_ble_eq_true rfl) rfl dX8_day_71 rfl ?_
            refine g_il6 h 75 dX8_day_73 rfl ?_
            refine g_ifeq h 85 78 dX8_day_75 (by decide) rfl (fun hc => ?_) (fun hc => ?_)
            · have hf := my_ifT hc hf
              refine g_al0 h 86 dX8_day_85 rfl ?_
              refine g_geta h 89 fF_X8_51_X8 lyC_0 rfl dX8_day_86 rfl ?_
              refine g_il1 h 90 dX8_day_89 rfl ?_
              obtain ⟨hq7, hf⟩ := my_chk hf
              refine g_aald h 91 lyC_31 rfl dX8_day_90 rfl hq7 ?_
              refine g_il3 h 92 dX8_day_91 rfl ?_
              refine g_il4 h 94 dX8_day_92 rfl ?_
              obtain ⟨r8, σ8, hc8, hf⟩ := my_ofb hf
              refine g_callSi h 97 cs_X8_162 (ct_X8_areActs w hc8) rfl rfl (Nat.le_of_ble_eq_true rfl) ⟨Nat.le_of_ble_eq_true rfl, Nat.le_of_ble_eq_true rfl⟩ dX8_day_94 rfl ?_
              refine g_ifne h 103 100 dX8_day_97 (by decide) rfl (fun hc => ?_) (fun hc => ?_)
              · have hf := my_ifF hc hf
                refine g_al0 h 104 dX8_day_103 rfl ?_
                refine g_geta h 107 fF_X8_25_X8 lyC_0 rfl dX8_day_104 rfl ?_
                refine g_al0 h 108 dX8_day_107 rfl ?_
                refine g_geta h 111 fF_X8_21_X8 lyC_0 rfl dX8_day_108 rfl ?_
                obtain ⟨r9, σ9, hc9, hf⟩ := my_ofb hf
                refine g_callVv h 114 cs_X8_166 rfl lyC_16 (ct_X0_becomeLike w hc9) rfl rfl (Nat.le_of_ble_eq_true rfl) ⟨Nat.le_of_ble_eq_true rfl, Nat.le_of_ble_eq_true rfl⟩ dX8_day_111 rfl ?_
                refine g_al0 h 115 dX8_day_114 rfl ?_
                refine g_al0 h 116 dX8_day_115 rfl ?_
                refine g_geta h 119 fF_X8_51_X8 lyC_0 rfl dX8_day_116 rfl ?_
                refine g_il1 h 120 dX8_day_119 rfl ?_
                obtain ⟨hq10, hf⟩ := my_chk hf
                refine g_aald h 121 lyC_31 rfl dX8_day_120 rfl hq10 ?_
                refine g_il3 h 122 dX8_day_121 rfl ?_
                refine g_il4 h 124 dX8_day_122 rfl ?_
                obtain ⟨r11, σ11, hc11, hf⟩ := my_ofb hf
                refine g_callVi h 127 cs_X8_170 rfl lyC_0 (ct_X8_firstWrong w hc11) rfl rfl (Nat.le_of_ble_eq_true rfl) ⟨Nat.le_of_ble_eq_true rfl, Nat.le_of_ble_eq_true rfl⟩ dX8_day_124 rfl ?_
                refine g_is7 h 129 (Nat.le_of_ble_eq_true rfl) rfl dX8_day_127 rfl ?_
                refine g_il5 h 131 dX8_day_129 rfl ?_
                refine g_iconst h 132 ic_1 dX8_day_131 rfl ?_
                refine g_icne h 138 135 dX8_day_132 (by decide) rfl (fun hc => ?_) (fun hc => ?_)
                · have hf := my_ifF hc hf
                  refine g_il7 h 140 dX8_day_138 rfl ?_
                  refine g_bipush h 142 bp_m9 dX8_day_140 rfl ?_
                  refine g_icne h 154 145 dX8_day_142 (by decide) rfl (fun hc => ?_) (fun hc => ?_)
                  · have hf := my_ifF hc hf
                    refine g_bipush h 156 bp_m100 dX8_day_154 rfl ?_
                    refine g_il7 h 158 dX8_day_156 rfl ?_
                    refine g_isub h 159 dX8_day_158 rfl ?_
                    exact g_iret h dX8_day_159 (my_r1 hf) (my_r2 hf)
                  · have hf := my_ifT hc hf
                    refine g_al0 h 146 dX8_day_145 rfl ?_
                    refine g_il5 h 148 dX8_day_146 rfl ?_
                    obtain ⟨r12, σ12, hc12, hf⟩ := my_ofb hf
                    refine g_callVi h 151 cs_X8_173 rfl lyC_0 (ct_X8_afterDay w hc12) rfl rfl (Nat.le_of_ble_eq_true rfl) ⟨Nat.le_of_ble_eq_true rfl, Nat.le_of_ble_eq_true rfl⟩ dX8_day_148 rfl ?_
                    refine g_goto h 159 dX8_day_151 (by decide) ?_
                    exact g_iret h dX8_day_159 (my_r1 hf) (my_r2 hf)
                · have hf := my_ifT hc hf
                  refine g_il7 h 137 dX8_day_135 rfl ?_
                  exact g_iret h dX8_day_137 (my_r1 hf) (my_r2 hf)
              · have hf := my_ifT hc hf
                refine g_bipush h 102 bp_m2 dX8_day_100 rfl ?_
                exact g_iret h dX8_day_102 (my_r1 hf) (my_r2 hf)
            · have hf := my_ifF hc hf
              refine g_al0 h 79 dX8_day_78 rfl ?_
              refine g_il6 h 81 dX8_day_79 rfl ?_
              obtain ⟨r13, σ13, hc13, hf⟩ := my_ofb hf
              refine g_callVi h 84 cs_X8_71 rfl lyC_0 (ct_X8_faulted w hc13) rfl rfl (Nat.le_of_ble_eq_true rfl) ⟨Nat.le_of_ble_eq_true rfl, Nat.le_of_ble_eq_true rfl⟩ dX8_day_81 rfl ?_
              exact g_iret h dX8_day_84 (my_r1 hf) (my_r2 hf)
          · have hf := my_ifT hc hf
            refine g_bipush h 55 bp_m3 dX8_day_53 rfl ?_
            exact g_iret h dX8_day_55 (my_r1 hf) (my_r2 hf)
        · have hf := my_ifT hc hf
          refine g_bipush h 42 bp_m2 dX8_day_40 rfl ?_
          exact g_iret h dX8_day_42 (my_r1 hf) (my_r2 hf)
  · have hf := my_ifT hc hf
    refine g_iconst h 13 ic_m1 dX8_day_12 rfl ?_
    exact g_iret h dX8_day_13 (my_r1 hf) (my_r2 hf)
def f_X8_fault (σ : my_M) : Option (Int32 × my_M) :=
some ((σ 0 8), σ)
set_option maxRecDepth 100000 in
set_option maxHeartbeats 4000000 in
theorem ct_X8_fault (w : my_V) {σ : my_M} {r : Int32} {τ : my_M} (hf : f_X8_fault σ = some (r, τ)) : Ct w layC mX8_fault 1 [.ref (w.2.2.2 0)] σ (some (.int r)) τ := by
  refine my_met RX8 [some (.ref (w.2.2.2 0))] 0 (by decide) rfl (Nat.le_of_ble_eq_true rfl) rfl (fun X h => ?_)
  unfold f_X8_fault at hf
  refine g_al0 h 1 dX8_fault_0 rfl ?_
  refine g_geti h 4 fF_X8_56_X8 lyC_0 rfl dX8_fault_1 rfl ?_
  exact g_iret h dX8_fault_4 (my_r1 hf) (my_r2 hf)
def f_X8_keenHail (σ : my_M) : Option (Int32 × my_M) :=
(my_bnd (f_X8_leave σ 5) fun r1 σ1 =>
some (60, σ1))
set_option maxRecDepth 100000 in
set_option maxHeartbeats 4000000 in
theorem ct_X8_keenHail (w : my_V) {σ : my_M} {r : Int32} {τ : my_M} (hf : f_X8_keenHail σ = some (r, τ)) : Ct w layC mX8_keenHail 2 [.ref (w.2.2.2 0)] σ (some (.int r)) τ := by
  refine my_met RX8 [some (.ref (w.2.2.2 0))] 0 (by decide) rfl (Nat.le_of_ble_eq_true rfl) rfl (fun X h => ?_)
  unfold f_X8_keenHail at hf
  refine g_al0 h 1 dX8_keenHail_0 rfl ?_
  refine g_iconst h 2 ic_5 dX8_keenHail_1 rfl ?_
  obtain ⟨r1, σ1, hc1, hf⟩ := my_ofb hf
  refine g_callVv h 5 cs_X8_274 rfl lyC_0 (ct_X8_leave w hc1) rfl rfl (Nat.le_of_ble_eq_true rfl) ⟨Nat.le_of_ble_eq_true rfl, Nat.le_of_ble_eq_true rfl⟩ dX8_keenHail_2 rfl ?_
  refine g_bipush h 7 bp_60 dX8_keenHail_5 rfl ?_
  exact g_iret h dX8_keenHail_7 (my_r1 hf) (my_r2 hf)
def f_X8_lentHail (σ : my_M) (x1 : Int32) : Option (Int32 × my_M) :=
(my_bnd (f_X8_leave σ 4) fun r1 σ1 =>
some (x1, σ1))
set_option maxRecDepth 100000 in
set_option maxHeartbeats 4000000 in
theorem ct_X8_lentHail (w : my_V) {σ : my_M} {x1 : Int32} {r : Int32} {τ : my_M} (hf : f_X8_lentHail σ x1 = some (r, τ)) : Ct w layC mX8_lentHail 2 [.ref (w.2.2.2 0), .int x1] σ (some (.int r)) τ := by
  refine my_met RX8 [some (.ref (w.2.2.2 0)), some (.int x1)] 0 (by decide) rfl (Nat.le_of_ble_eq_true rfl) rfl (fun X h => ?_)
  unfold f_X8_lentHail at hf
  refine g_al0 h 1 dX8_lentHail_0 rfl ?_
  refine g_iconst h 2 ic_4 dX8_lentHail_1 rfl ?_
  obtain ⟨r1, σ1, hc1, hf⟩ := my_ofb hf
  refine g_callVv h 5 cs_X8_274 rfl lyC_0 (ct_X8_leave w hc1) rfl rfl (Nat.le_of_ble_eq_true rfl) ⟨Nat.le_of_ble_eq_true rfl, Nat.le_of_ble_eq_true rfl⟩ dX8_lentHail_2 rfl ?_
  refine g_il1 h 6 dX8_lentHail_5 rfl ?_
  exact g_iret h dX8_lentHail_6 (my_r1 hf) (my_r2 hf)
def f_X8_hail (σ : my_M) (x1 : Int32) : Option (Int32 × my_M) :=
(my_bnd (f_X2_has σ x1) fun r1 σ1 =>
(if r1 = 0 then
some ((-1), σ1)
else
(if my_ix x1 4 then
(if (σ1 (3 + (Int32.toNatClampNeg x1)) 0) = 2 then
(my_bnd (f_X8_keenHail σ1) fun r4 σ4 =>
some (r4, σ4))
else
(my_bnd (f_X8_lentHail σ1 x1) fun r3 σ3 =>
some (r3, σ3)))
else none)))
set_option maxRecDepth 100000 in
set_option maxHeartbeats 4000000 in
theorem ct_X8_hail (w : my_V) {σ : my_M} {x1 : Int32} {r : Int32} {τ : my_M} (hf : f_X8_hail σ x1 = some (r, τ)) : Ct w layC mX8_hail 3 [.ref (w.2.2.2 0), .int x1] σ (some (.int r)) τ := by
  refine my_met RX8 [some (.ref (w.2.2.2 0)), some (.int x1)] 0 (by decide) rfl (Nat.le_of_ble_eq_true rfl) rfl (fun X h => ?_)
  unfold f_X8_hail at hf
  refine g_al0 h 1 dX8_hail_0 rfl ?_
  refine g_geta h 4 fF_X8_12_X8 lyC_0 rfl dX8_hail_1 rfl ?_
  refine g_il1 h 5 dX8_hail_4 rfl ?_
  obtain ⟨r1, σ1, hc1, hf⟩ := my_ofb hf
  refine g_callVi h 8 cs_X8_95 rfl lyC_1 (ct_X2_has w hc1) rfl rfl (Nat.le_of_ble_eq_true rfl) ⟨Nat.le_of_ble_eq_true rfl, Nat.le_of_ble_eq_true rfl⟩ dX8_hail_5 rfl ?_
  refine g_ifne h 13 11 dX8_hail_8 (by decide) rfl (fun hc => ?_) (fun hc => ?_)
  · have hf := my_ifF hc hf
    refine g_al0 h 14 dX8_hail_13 rfl ?_
    refine g_geta h 17 fF_X8_12_X8 lyC_0 rfl dX8_hail_14 rfl ?_
    refine g_geta h 20 fF_X8_98_X2 lyC_1 rfl dX8_hail_17 rfl ?_
    refine g_il1 h 21 dX8_hail_20 rfl ?_
    obtain ⟨hq2, hf⟩ := my_chk hf
    refine g_aald h 22 lyC_2 rfl dX8_hail_21 rfl hq2 ?_
    refine g_geti h 25 fF_X8_101_X1 (lyC_X1 (my_ixlt hq2)) rfl dX8_hail_22 rfl ?_
    refine g_iconst h 26 ic_2 dX8_hail_25 rfl ?_
    refine g_icne h 36 29 dX8_hail_26 (by decide) rfl (fun hc => ?_) (fun hc => ?_)
    · have hf := my_ifF hc hf
      refine g_al0 h 37 dX8_hail_36 rfl ?_
      refine g_il1 h 38 dX8_hail_37 rfl ?_
      obtain ⟨r3, σ3, hc3, hf⟩ := my_ofb hf
      refine g_callVi h 41 cs_X8_253 rfl lyC_0 (ct_X8_lentHail w hc3) rfl rfl (Nat.le_of_ble_eq_true rfl) ⟨Nat.le_of_ble_eq_true rfl, Nat.le_of_ble_eq_true rfl⟩ dX8_hail_38 rfl ?_
      exact g_iret h dX8_hail_41 (my_r1 hf) (my_r2 hf)
    · have hf := my_ifT hc hf
      refine g_al0 h 30 dX8_hail_29 rfl ?_
      obtain ⟨r4, σ4, hc4, hf⟩ := my_ofb hf
      refine g_callVi h 33 cs_X8_249 rfl lyC_0 (ct_X8_keenHail w hc4) rfl rfl (Nat.le_of_ble_eq_true rfl) ⟨Nat.le_of_ble_eq_true rfl, Nat.le_of_ble_eq_true rfl⟩ dX8_hail_30 rfl ?_
      refine g_goto h 41 dX8_hail_33 (by decide) ?_
      exact g_iret h dX8_hail_41 (my_r1 hf) (my_r2 hf)
  · have hf := my_ifT hc hf
    refine g_iconst h 12 ic_m1 dX8_hail_11 rfl ?_
    exact g_iret h dX8_hail_12 (my_r1 hf) (my_r2 hf)
def f_X8_isShift (σ : my_M) (x0 : Int32) : Option (Int32 × my_M) :=
(my_bnd (f_X8_isWithin σ x0 (-5) 5) fun r1 σ1 =>
(if my_b r1 then some (r1, σ1) else none))
set_option maxRecDepth 100000 in
set_option maxHeartbeats 4000000 in
theorem ct_X8_isShift (w : my_V) {σ : my_M} {x0 : Int32} {r : Int32} {τ : my_M} (hf : f_X8_isShift σ x0 = some (r, τ)) : Ct w layC mX8_isShift 2 [.int x0] σ (some (.int r)) τ := by
  refine my_met RX8 [some (.int x0)] 0 (by decide) rfl (Nat.le_of_ble_eq_true rfl) rfl (fun X h => ?_)
  unfold f_X8_isShift at hf
  refine g_il0 h 1 dX8_isShift_0 rfl ?_
  refine g_bipush h 3 bp_m5 dX8_isShift_1 rfl ?_
  refine g_iconst h 4 ic_5 dX8_isShift_3 rfl ?_
  obtain ⟨r1, σ1, hc1, hf⟩ := my_ofb hf
  refine g_callSi h 7 cs_X8_120 (ct_X8_isWithin w hc1) rfl rfl (Nat.le_of_ble_eq_true rfl) ⟨Nat.le_of_ble_eq_true rfl, Nat.le_of_ble_eq_true rfl⟩ dX8_isShift_4 rfl ?_
  obtain ⟨hqz, hf⟩ := my_chk hf
  exact g_zret h dX8_isShift_7 hqz (my_r1 hf) (my_r2 hf)
def f_X8_hears (σ : my_M) (x1 : Int32) (x2 : Int32) (x3 : Int32) (x4 : Int32) : Option (Int32 × my_M) :=
(my_bnd (f_X2_has σ x1) fun r1 σ1 =>
(if r1 = 0 then
some ((-1), σ1)
else
(my_bnd (f_X2_has σ1 x2) fun r2 σ2 =>
(if r2 = 0 then
some ((-1), σ2)
else
(my_bnd (f_X8_isShift σ2 x3) fun r3 σ3 =>
(if r3 = 0 then
some ((-2), σ3)
else
(my_bnd (f_X8_isShift σ3 x4) fun r4 σ4 =>
(if r4 = 0 then
some ((-2), σ4)
else
(my_bnd (f_X2_heard σ4 x1 x2 x3 x4) fun r5 σ5 =>
some (r5, σ5))))))))))
set_option maxRecDepth 100000 in
set_option maxHeartbeats 4000000 in
theorem ct_X8_hears (w : my_V) {σ : my_M} {x1 : Int32} {x2 : Int32} {x3 : Int32} {x4 : Int32} {r : Int32} {τ : my_M} (hf : f_X8_hears σ x1 x2 x3 x4 = some (r, τ)) : Ct w layC mX8_hears 4 [.ref (w.2.2.2 0), .int x1, .int x2, .int x3, .int x4] σ (some (.int r)) τ := by
  refine my_met RX8 [some (.ref (w.2.2.2 0)), some (.int x1), some (.int x2), some (.int x3), some (.int x4)] 0 (by decide) rfl (Nat.le_of_ble_eq_true rfl) rfl (fun X h => ?_)
  unfold f_X8_hears at hf
  refine g_al0 h 1 dX8_hears_0 rfl ?_
  refine g_geta h 4 fF_X8_12_X8 lyC_0 rfl dX8_hears_1 rfl ?_
  refine g_il1 h 5 dX8_hears_4 rfl ?_
  obtain ⟨r1, σ1, hc1, hf⟩ := my_ofb hf
  refine g_callVi h 8 cs_X8_95 rfl lyC_1 (ct_X2_has w hc1) rfl rfl (Nat.le_of_ble_eq_true rfl) ⟨Nat.le_of_ble_eq_true rfl, Nat.le_of_ble_eq_true rfl⟩ dX8_hears_5 rfl ?_
  refine g_ifeq h 22 11 dX8_hears_8 (by decide) rfl (fun hc => ?_) (fun hc => ?_)
  · have hf := my_ifT hc hf
    refine g_iconst h 23 ic_m1 dX8_hears_22 rfl ?_
    exact g_iret h dX8_hears_23 (my_r1 hf) (my_r2 hf)
  · have hf := my_ifF hc hf
    refine g_al0 h 12 dX8_hears_11 rfl ?_
    refine g_geta h 15 fF_X8_12_X8 lyC_0 rfl dX8_hears_12 rfl ?_
    refine g_il2 h 16 dX8_hears_15 rfl ?_
    obtain ⟨r2, σ2, hc2, hf⟩ := my_ofb hf
    refine g_callVi h 19 cs_X8_95 rfl lyC_1 (ct_X2_has w hc2) rfl rfl (Nat.le_of_ble_eq_true rfl) ⟨Nat.le_of_ble_eq_true rfl, Nat.le_of_ble_eq_true rfl⟩ dX8_hears_16 rfl ?_
    refine g_ifne h 24 22 dX8_hears_19 (by decide) rfl (fun hc => ?_) (fun hc => ?_)
    · have hf := my_ifF hc hf
      refine g_il3 h 25 dX8_hears_24 rfl ?_
      obtain ⟨r3, σ3, hc3, hf⟩ := my_ofb hf
      refine g_callSi h 28 cs_X8_131 (ct_X8_isShift w hc3) rfl rfl (Nat.le_of_ble_eq_true rfl) ⟨Nat.le_of_ble_eq_true rfl, Nat.le_of_ble_eq_true rfl⟩ dX8_hears_25 rfl ?_
      refine g_ifeq h 39 31 dX8_hears_28 (by decide) rfl (fun hc => ?_) (fun hc => ?_)
      · have hf := my_ifT hc hf
        refine g_bipush h 41 bp_m2 dX8_hears_39 rfl ?_
        exact g_iret h dX8_hears_41 (my_r1 hf) (my_r2 hf)
      · have hf := my_ifF hc hf
        refine g_il4 h 33 dX8_hears_31 rfl ?_
        obtain ⟨r4, σ4, hc4, hf⟩ := my_ofb hf
        refine g_callSi h 36 cs_X8_131 (ct_X8_isShift w hc4) rfl rfl (Nat.le_of_ble_eq_true rfl) ⟨Nat.le_of_ble_eq_true rfl, Nat.le_of_ble_eq_true rfl⟩ dX8_hears_33 rfl ?_
        refine g_ifne h 42 39 dX8_hears_36 (by decide) rfl (fun hc => ?_) (fun hc => ?_)
        · have hf := my_ifF hc hf
          refine g_al0 h 43 dX8_hears_42 rfl ?_
          refine g_geta h 46 fF_X8_12_X8 lyC_0 rfl dX8_hears_43 rfl ?_
          refine g_il1 h 47 dX8_hears_46 rfl ?_
          refine g_il2 h 48 dX8_hears_47 rfl ?_
          refine g_il3 h 49 dX8_hears_48 rfl ?_
          refine g_il4 h 51 dX8_hears_49 rfl ?_
          obtain ⟨r5, σ5, hc5, hf⟩ := my_ofb hf
          refine g_callVi h 54 cs_X8_134 rfl lyC_1 (ct_X2_heard w hc5) rfl rfl (Nat.le_of_ble_eq_true rfl) ⟨Nat.le_of_ble_eq_true rfl, Nat.le_of_ble_eq_true rfl⟩ dX8_hears_51 rfl ?_
          exact g_iret h dX8_hears_54 (my_r1 hf) (my_r2 hf)
        · have hf := my_ifT hc hf
          refine g_bipush h 41 bp_m2 dX8_hears_39 rfl ?_
          exact g_iret h dX8_hears_41 (my_r1 hf) (my_r2 hf)
    · have hf := my_ifT hc hf
      refine g_iconst h 23 ic_m1 dX8_hears_22 rfl ?_
      exact g_iret h dX8_hears_23 (my_r1 hf) (my_r2 hf)
def b_X8_inLeastTerms_0 (k0 : my_M → Int32 → Int32 → Int32 → Option (Int32 × my_M)) (σ : my_M) (x0 : Int32) (x1 : Int32) (x2 : Int32) : Option (Int32 × my_M) :=
(if x2 ≤ 1 then
some (x0, σ)
else
(if ¬ x2 = 0 then
(if (x1 - x1 / x2 * x2) = 0 then
(if ¬ x2 = 0 then
(if (120 - 120 / x2 * x2) = 0 then
(if ¬ x2 = 0 then
some ((x0 / x2), σ)
else none)
else
k0 σ x0 x1 ((x2 + (-1))))
else none)
else
k0 σ x0 x1 ((x2 + (-1))))
else none))
def g_X8_inLeastTerms : Nat → my_M → Int32 → Int32 → Int32 → Option (Int32 × my_M)
  | 0 => fun _ _ _ _ => none
  | n + 1 => b_X8_inLeastTerms_0 (g_X8_inLeastTerms n)
def f_X8_inLeastTerms (σ : my_M) (x0 : Int32) (x1 : Int32) : Option (Int32 × my_M) :=
(g_X8_inLeastTerms my_NF) σ x0 x1 120
set_option maxRecDepth 100000 in
set_option maxHeartbeats 4000000 in
theorem lp_X8_inLeastTerms (w : my_V) {X : my_X} {r : Int32} {τ : my_M} (h : my_OK X w layC cX8_inLeastTerms RX8 3 (some .int)) : ∀ n : Nat, (∀ (σ : my_M) (x0 : Int32) (x1 : Int32) (x2 : Int32), (g_X8_inLeastTerms n) σ x0 x1 x2 = some (r, τ) → Go X w layC 1 3 (some (.int r)) τ σ 3 [some (.int x0), some (.int x1), some (.int x2)] []) := by
  intro n
  induction n with
  | zero => exact fun _ _ _ _ hf => (my_nn hf).elim
  | succ n ih =>
    intro σ x0 x1 x2 hf
    replace hf : b_X8_inLeastTerms_0 (g_X8_inLeastTerms n) σ x0 x1 x2 = some (r, τ) := hf
    unfold b_X8_inLeastTerms_0 at hf
    refine g_il2 h 4 dX8_inLeastTerms_3 rfl ?_
    refine g_iconst h 5 ic_1 dX8_inLeastTerms_4 rfl ?_
    refine g_icle h 31 8 dX8_inLeastTerms_5 (by decide) rfl (fun hc => ?_) (fun hc => ?_)
    · have hf := my_ifT hc hf
      refine g_il0 h 32 dX8_inLeastTerms_31 rfl ?_
      exact g_iret h dX8_inLeastTerms_32 (my_r1 hf) (my_r2 hf)
    · have hf := my_ifF hc hf
      refine g_il1 h 9 dX8_inLeastTerms_8 rfl ?_
      refine g_il2 h 10 dX8_inLeastTerms_9 rfl ?_
      obtain ⟨hq1, hf⟩ := my_chk hf
      refine g_irem h 11 hq1 dX8_inLeastTerms_10 rfl ?_
      refine g_ifne h 25 14 dX8_inLeastTerms_11 (by decide) rfl (fun hc => ?_) (fun hc => ?_)
      · have hf := my_ifF hc hf
        refine g_inc2 h 28 (my_inc ic_m1 _) (Nat.le_of_ble_eq_true rfl) rfl dX8_inLeastTerms_25 rfl ?_
        refine g_goto h 3 dX8_inLeastTerms_28 (by decide) ?_
        exact g_weak (ih _ _ _ _ hf) (w_s (w_s (w_s w_0)))
      · have hf := my_ifT hc hf
        refine g_bipush h 16 bp_120 dX8_inLeastTerms_14 rfl ?_
        refine g_il2 h 17 dX8_inLeastTerms_16 rfl ?_
        obtain ⟨hq2, hf⟩ := my_chk hf
        refine g_irem h 18 hq2 dX8_inLeastTerms_17 rfl ?_
        refine g_ifne h 25 21 dX8_inLeastTerms_18 (by decide) rfl (fun hc => ?_) (fun hc => ?_)
        · have hf := my_ifF hc hf
          refine g_inc2 h 28 (my_inc ic_m1 _) (Nat.le_of_ble_eq_true rfl) rfl dX8_inLeastTerms_25 rfl ?_
          refine g_goto h 3 dX8_inLeastTerms_28 (by decide) ?_
          exact g_weak (ih _ _ _ _ hf) (w_s (w_s (w_s w_0)))
        · have hf := my_ifT hc hf
          refine g_il0 h 22 dX8_inLeastTerms_21 rfl ?_
          refine g_il2 h 23 dX8_inLeastTerms_22 rfl ?_
          obtain ⟨hq3, hf⟩ := my_chk hf
          refine g_idiv h 24 hq3 dX8_inLeastTerms_23 rfl ?_
          exact g_iret h dX8_inLeastTerms_24 (my_r1 hf) (my_r2 hf)
set_option maxRecDepth 100000 in
set_option maxHeartbeats 4000000 in
theorem ct_X8_inLeastTerms (w : my_V) {σ : my_M} {x0 : Int32} {x1 : Int32} {r : Int32} {τ : my_M} (hf : f_X8_inLeastTerms σ x0 x1 = some (r, τ)) : Ct w layC mX8_inLeastTerms 1 [.int x0, .int x1] σ (some (.int r)) τ := by
  refine my_met RX8 [some (.int x0), some (.int x1), none] 1 (by decide) rfl (Nat.le_of_ble_eq_true rfl) rfl (fun X h => ?_)
  unfold f_X8_inLeastTerms at hf
  refine g_bipush h 2 bp_120 dX8_inLeastTerms_0 rfl ?_
  refine g_is2 h 3 (Nat.le_of_ble_eq_true rfl) rfl dX8_inLeastTerms_2 rfl ?_
  exact g_weak ((lp_X8_inLeastTerms w h my_NF) _ _ _ _ hf) (w_s (w_s (w_s w_0)))
def f_X8_keenTelling (σ : my_M) (e1 : Nat) : Option (Int32 × my_M) :=
(if e1 < 4 then
(my_bnd (f_X8_leave σ 3) fun r1 σ1 =>
(my_bnd (f_X8_broadTelling σ1 e1) fun r2 σ2 =>
(my_bnd (f_X8_plainTelling σ2 e1) fun r3 σ3 =>
some ((r2 + r3), σ3))))
else none)
set_option maxRecDepth 100000 in
set_option maxHeartbeats 4000000 in
theorem ct_X8_keenTelling (w : my_V) {σ : my_M} {e1 : Nat} {r : Int32} {τ : my_M} (hf : f_X8_keenTelling σ e1 = some (r, τ)) : Ct w layC mX8_keenTelling 4 [.ref (w.2.2.2 0), .ref (w.2.2.2 (3 + e1))] σ (some (.int r)) τ := by
  refine my_met RX8 [some (.ref (w.2.2.2 0)), some (.ref (w.2.2.2 (3 + e1))), none] 1 (by decide) rfl (Nat.le_of_ble_eq_true rfl) rfl (fun X h => ?_)
  unfold f_X8_keenTelling at hf
  obtain ⟨hb1, hf⟩ := my_chk hf
  refine g_al0 h 1 dX8_keenTelling_0 rfl ?_
  refine g_iconst h 2 ic_3 dX8_keenTelling_1 rfl ?_
  obtain ⟨r1, σ1, hc1, hf⟩ := my_ofb hf
  refine g_callVv h 5 cs_X8_274 rfl lyC_0 (ct_X8_leave w hc1) rfl rfl (Nat.le_of_ble_eq_true rfl) ⟨Nat.le_of_ble_eq_true rfl, Nat.le_of_ble_eq_true rfl⟩ dX8_keenTelling_2 rfl ?_
  refine g_al0 h 6 dX8_keenTelling_5 rfl ?_
  refine g_al1 h 7 dX8_keenTelling_6 rfl ?_
  obtain ⟨r2, σ2, hc2, hf⟩ := my_ofb hf
  refine g_callVi h 10 cs_X8_243 rfl lyC_0 (ct_X8_broadTelling w hc2) rfl rfl (Nat.le_of_ble_eq_true rfl) ⟨Nat.le_of_ble_eq_true rfl, Nat.le_of_ble_eq_true rfl⟩ dX8_keenTelling_7 rfl ?_
  refine g_is2 h 11 (Nat.le_of_ble_eq_true rfl) rfl dX8_keenTelling_10 rfl ?_
  refine g_il2 h 12 dX8_keenTelling_11 rfl ?_
  refine g_al0 h 13 dX8_keenTelling_12 rfl ?_
  refine g_al1 h 14 dX8_keenTelling_13 rfl ?_
  obtain ⟨r3, σ3, hc3, hf⟩ := my_ofb hf
  refine g_callVi h 17 cs_X8_246 rfl lyC_0 (ct_X8_plainTelling w hc3) rfl rfl (Nat.le_of_ble_eq_true rfl) ⟨Nat.le_of_ble_eq_true rfl, Nat.le_of_ble_eq_true rfl⟩ dX8_keenTelling_14 rfl ?_
  refine g_iadd h 18 dX8_keenTelling_17 rfl ?_
  exact g_iret h dX8_keenTelling_18 (my_r1 hf) (my_r2 hf)
def b_X8_kinds_0 (k0 : my_M → Nat → Int32 → Int32 → Int32 → Option (Int32 × my_M)) (σ : my_M) (e2 : Nat) (x3 : Int32) (x4 : Int32) (x5 : Int32) : Option (Int32 × my_M) :=
(if e2 < 4 then
(if 2 < x5 then
some (x4, (my_up σ (3 + e2) 0 x3))
else
(my_bnd (f_X5_areSo (my_up σ (3 + e2) 0 x5)) fun r1 σ1 =>
(if r1 = 0 then
k0 σ1 e2 x3 x4 ((x5 + 1))
else
k0 σ1 e2 x3 ((x4 ||| (1 <<< (x5 &&& 31)))) ((x5 + 1)))))
else none)
def g_X8_kinds : Nat → my_M → Nat → Int32 → Int32 → Int32 → Option (Int32 × my_M)
  | 0 => fun _ _ _ _ _ => none
  | n + 1 => b_X8_kinds_0 (g_X8_kinds n)
def f_X8_kinds (σ : my_M) (x1 : Int32) : Option (Int32 × my_M) :=
(my_bnd (f_X2_has σ x1) fun r1 σ1 =>
(if r1 = 0 then
some ((-1), σ1)
else
(if my_ix x1 4 then
(g_X8_kinds my_NF) σ1 ((Int32.toNatClampNeg x1)) ((σ1 (3 + (Int32.toNatClampNeg x1)) 0)) 0 0
else none)))
set_option maxRecDepth 100000 in
set_option maxHeartbeats 4000000 in
theorem lp_X8_kinds (w : my_V) {X : my_X} {r : Int32} {τ : my_M} (h : my_OK X w layC cX8_kinds RX8 6 (some .int)) : ∀ n : Nat, (∀ (σ : my_M) (e2 : Nat) (x3 : Int32) (x4 : Int32) (x5 : Int32), (g_X8_kinds n) σ e2 x3 x4 x5 = some (r, τ) → Go X w layC 5 6 (some (.int r)) τ σ 34 [some (.ref (w.2.2.2 0)), none, some (.ref (w.2.2.2 (3 + e2))), some (.int x3), some (.int x4), some (.int x5)] []) := by
  intro n
  induction n with
  | zero => exact fun _ _ _ _ _ hf => (my_nn hf).elim
  | succ n ih =>
    intro σ e2 x3 x4 x5 hf
    replace hf : b_X8_kinds_0 (g_X8_kinds n) σ e2 x3 x4 x5 = some (r, τ) := hf
    unfold b_X8_kinds_0 at hf
    obtain ⟨hb2, hf⟩ := my_chk hf
    refine g_il5 h 36 dX8_kinds_34 rfl ?_
    refine g_iconst h 37 ic_2 dX8_kinds_36 rfl ?_
    refine g_icgt h 75 40 dX8_kinds_37 (by decide) rfl (fun hc => ?_) (fun hc => ?_)
    · have hf := my_ifT hc hf
      refine g_al2 h 76 dX8_kinds_75 rfl ?_
      refine g_il3 h 77 dX8_kinds_76 rfl ?_
      refine g_puti h 80 fP_X8_101_X1 (lyC_X1 hb2) rfl dX8_kinds_77 rfl ?_
      refine g_il4 h 82 dX8_kinds_80 rfl ?_
      exact g_iret h dX8_kinds_82 (my_r1 hf) (my_r2 hf)
    · have hf := my_ifF hc hf
      refine g_al2 h 41 dX8_kinds_40 rfl ?_
      refine g_il5 h 43 dX8_kinds_41 rfl ?_
      refine g_puti h 46 fP_X8_101_X1 (lyC_X1 hb2) rfl dX8_kinds_43 rfl ?_
      refine g_al0 h 47 dX8_kinds_46 rfl ?_
      refine g_geta h 50 fF_X8_31_X8 lyC_0 rfl dX8_kinds_47 rfl ?_
      refine g_al0 h 51 dX8_kinds_50 rfl ?_
      refine g_geta h 54 fF_X8_12_X8 lyC_0 rfl dX8_kinds_51 rfl ?_
      obtain ⟨r1, σ1, hc1, hf⟩ := my_ofb hf
      refine g_callVi h 57 cs_X8_204 rfl lyC_21 (ct_X5_areSo w hc1) rfl rfl (Nat.le_of_ble_eq_true rfl) ⟨Nat.le_of_ble_eq_true rfl, Nat.le_of_ble_eq_true rfl⟩ dX8_kinds_54 rfl ?_
      refine g_ifeq h 69 60 dX8_kinds_57 (by decide) rfl (fun hc => ?_) (fun hc => ?_)
      · have hf := my_ifT hc hf
        refine g_inc5 h 72 (my_inc ic_1 _) (Nat.le_of_ble_eq_true rfl) rfl dX8_kinds_69 rfl ?_
        refine g_goto h 34 dX8_kinds_72 (by decide) ?_
        exact g_weak (ih _ _ _ _ _ hf) (w_s (w_s (w_s (w_s (w_s (w_s w_0))))))
      · have hf := my_ifF hc hf
        refine g_il4 h 62 dX8_kinds_60 rfl ?_
        refine g_iconst h 63 ic_1 dX8_kinds_62 rfl ?_
        refine g_il5 h 65 dX8_kinds_63 rfl ?_
        refine g_ishl h 66 dX8_kinds_65 rfl ?_
        refine g_ior h 67 dX8_kinds_66 rfl ?_
        refine g_is4 h 69 (Nat.le_of_ble_eq_true rfl) rfl dX8_kinds_67 rfl ?_
        refine g_inc5 h 72 (my_inc ic_1 _) (Nat.le_of_ble_eq_true rfl) rfl dX8_kinds_69 rfl ?_
        refine g_goto h 34 dX8_kinds_72 (by decide) ?_
        exact g_weak (ih _ _ _ _ _ hf) (w_s (w_s (w_s (w_s (w_s (w_s w_0))))))
set_option maxRecDepth 100000 in
set_option maxHeartbeats 4000000 in
theorem ct_X8_kinds (w : my_V) {σ : my_M} {x1 : Int32} {r : Int32} {τ : my_M} (hf : f_X8_kinds σ x1 = some (r, τ)) : Ct w layC mX8_kinds 5 [.ref (w.2.2.2 0), .int x1] σ (some (.int r)) τ := by
  refine my_met RX8 [some (.ref (w.2.2.2 0)), some (.int x1), none, none, none, none] 4 (by decide) rfl (Nat.le_of_ble_eq_true rfl) rfl (fun X h => ?_)
  unfold f_X8_kinds at hf
  refine g_al0 h 1 dX8_kinds_0 rfl ?_
  refine g_geta h 4 fF_X8_12_X8 lyC_0 rfl dX8_kinds_1 rfl ?_
  refine g_il1 h 5 dX8_kinds_4 rfl ?_
  obtain ⟨r1, σ1, hc1, hf⟩ := my_ofb hf
  refine g_callVi h 8 cs_X8_95 rfl lyC_1 (ct_X2_has w hc1) rfl rfl (Nat.le_of_ble_eq_true rfl) ⟨Nat.le_of_ble_eq_true rfl, Nat.le_of_ble_eq_true rfl⟩ dX8_kinds_5 rfl ?_
  refine g_ifne h 13 11 dX8_kinds_8 (by decide) rfl (fun hc => ?_) (fun hc => ?_)
  · have hf := my_ifF hc hf
    refine g_al0 h 14 dX8_kinds_13 rfl ?_
    refine g_geta h 17 fF_X8_12_X8 lyC_0 rfl dX8_kinds_14 rfl ?_
    refine g_geta h 20 fF_X8_98_X2 lyC_1 rfl dX8_kinds_17 rfl ?_
    refine g_il1 h 21 dX8_kinds_20 rfl ?_
    obtain ⟨hq2, hf⟩ := my_chk hf
    refine g_aald h 22 lyC_2 rfl dX8_kinds_21 rfl hq2 ?_
    refine g_as2 h 23 (Nat.le_of_ble_eq_true rfl) rfl dX8_kinds_22 rfl ?_
    refine g_al2 h 24 dX8_kinds_23 rfl ?_
    refine g_geti h 27 fF_X8_101_X1 (lyC_X1 (my_ixlt hq2)) rfl dX8_kinds_24 rfl ?_
    refine g_is3 h 28 (Nat.le_of_ble_eq_true rfl) rfl dX8_kinds_27 rfl ?_
    refine g_iconst h 29 ic_0 dX8_kinds_28 rfl ?_
    refine g_is4 h 31 (Nat.le_of_ble_eq_true rfl) rfl dX8_kinds_29 rfl ?_
    refine g_iconst h 32 ic_0 dX8_kinds_31 rfl ?_
    refine g_is5 h 34 (Nat.le_of_ble_eq_true rfl) rfl dX8_kinds_32 rfl ?_
    exact g_weak ((lp_X8_kinds w h my_NF) _ _ _ _ _ hf) (w_s (w_n (w_s (w_s (w_s (w_s w_0))))))
  · have hf := my_ifT hc hf
    refine g_iconst h 12 ic_m1 dX8_kinds_11 rfl ?_
    exact g_iret h dX8_kinds_12 (my_r1 hf) (my_r2 hf)
def f_X8_listen (σ : my_M) (x1 : Int32) (x2 : Int32) : Option (Int32 × my_M) :=
(my_bnd (f_X2_has σ x1) fun r1 σ1 =>
(if r1 = 0 then
some ((-1), σ1)
else
(my_bnd (f_X8_isWithin σ1 x2 0 25) fun r2 σ2 =>
(if r2 = 0 then
some ((-2), σ2)
else
(my_bnd (f_X0_sound σ2 0) fun r3 σ3 =>
(my_bnd (f_X2_listened σ3 x1 15 x2) fun r4 σ4 =>
some (r4, σ4)))))))
set_option maxRecDepth 100000 in
set_option maxHeartbeats 4000000 in
theorem ct_X8_listen (w : my_V) {σ : my_M} {x1 : Int32} {x2 : Int32} {r : Int32} {τ : my_M} (hf : f_X8_listen σ x1 x2 = some (r, τ)) : Ct w layC mX8_listen 3 [.ref (w.2.2.2 0), .int x1, .int x2] σ (some (.int r)) τ := by
  refine my_met RX8 [some (.ref (w.2.2.2 0)), some (.int x1), some (.int x2)] 0 (by decide) rfl (Nat.le_of_ble_eq_true rfl) rfl (fun X h => ?_)
  unfold f_X8_listen at hf
  refine g_al0 h 1 dX8_listen_0 rfl ?_
  refine g_geta h 4 fF_X8_12_X8 lyC_0 rfl dX8_listen_1 rfl ?_
  refine g_il1 h 5 dX8_listen_4 rfl ?_
  obtain ⟨r1, σ1, hc1, hf⟩ := my_ofb hf
  refine g_callVi h 8 cs_X8_95 rfl lyC_1 (ct_X2_has w hc1) rfl rfl (Nat.le_of_ble_eq_true rfl) ⟨Nat.le_of_ble_eq_true rfl, Nat.le_of_ble_eq_true rfl⟩ dX8_listen_5 rfl ?_
  refine g_ifne h 13 11 dX8_listen_8 (by decide) rfl (fun hc => ?_) (fun hc => ?_)
  · have hf := my_ifF hc hf
    refine g_il2 h 14 dX8_listen_13 rfl ?_
    refine g_iconst h 15 ic_0 dX8_listen_14 rfl ?_
    refine g_bipush h 17 bp_25 dX8_listen_15 rfl ?_
    obtain ⟨r2, σ2, hc2, hf⟩ := my_ofb hf
    refine g_callSi h 20 cs_X8_120 (ct_X8_isWithin w hc2) rfl rfl (Nat.le_of_ble_eq_true rfl) ⟨Nat.le_of_ble_eq_true rfl, Nat.le_of_ble_eq_true rfl⟩ dX8_listen_17 rfl ?_
    refine g_ifne h 26 23 dX8_listen_20 (by decide) rfl (fun hc => ?_) (fun hc => ?_)
    · have hf := my_ifF hc hf
      refine g_al0 h 27 dX8_listen_26 rfl ?_
      refine g_geta h 30 fF_X8_21_X8 lyC_0 rfl dX8_listen_27 rfl ?_
      refine g_al0 h 31 dX8_listen_30 rfl ?_
      refine g_geta h 34 fF_X8_12_X8 lyC_0 rfl dX8_listen_31 rfl ?_
      obtain ⟨r3, σ3, hc3, hf⟩ := my_ofb hf
      refine g_callVv h 37 cs_X8_144 rfl lyC_11 (ct_X0_sound w hc3) rfl rfl (Nat.le_of_ble_eq_true rfl) ⟨Nat.le_of_ble_eq_true rfl, Nat.le_of_ble_eq_true rfl⟩ dX8_listen_34 rfl ?_
      refine g_al0 h 38 dX8_listen_37 rfl ?_
      refine g_geta h 41 fF_X8_12_X8 lyC_0 rfl dX8_listen_38 rfl ?_
      refine g_il1 h 42 dX8_listen_41 rfl ?_
      refine g_al0 h 43 dX8_listen_42 rfl ?_
      refine g_geta h 46 fF_X8_21_X8 lyC_0 rfl dX8_listen_43 rfl ?_
      refine g_geta h 49 fF_X8_148_X0 lyC_11 rfl dX8_listen_46 rfl ?_
      refine g_il2 h 50 dX8_listen_49 rfl ?_
      obtain ⟨r4, σ4, hc4, hf⟩ := my_ofb hf
      refine g_callVi h 53 cs_X8_151 rfl lyC_1 (ct_X2_listened w hc4) rfl rfl (Nat.le_of_ble_eq_true rfl) ⟨Nat.le_of_ble_eq_true rfl, Nat.le_of_ble_eq_true rfl⟩ dX8_listen_50 rfl ?_
      exact g_iret h dX8_listen_53 (my_r1 hf) (my_r2 hf)
    · have hf := my_ifT hc hf
      refine g_bipush h 25 bp_m2 dX8_listen_23 rfl ?_
      exact g_iret h dX8_listen_25 (my_r1 hf) (my_r2 hf)
  · have hf := my_ifT hc hf
    refine g_iconst h 12 ic_m1 dX8_listen_11 rfl ?_
    exact g_iret h dX8_listen_12 (my_r1 hf) (my_r2 hf)
def f_X8_lose (σ : my_M) (x1 : Int32) : Option (Int32 × my_M) :=
(my_bnd (f_X8_isSheet σ x1) fun r1 σ1 =>
(if r1 = 0 then
some ((-1), σ1)
else
(if my_ix x1 4 then
(if my_ix x1 4 then
some ((if (σ1 (32 + (Int32.toNatClampNeg x1)) 0) = 0 then 0 else 1 : Int32), (my_up σ1 (32 + (Int32.toNatClampNeg x1)) 0 0))
else none)
else none)))
set_option maxRecDepth 100000 in
set_option maxHeartbeats 4000000 in
theorem ct_X8_lose (w : my_V) {σ : my_M} {x1 : Int32} {r : Int32} {τ : my_M} (hf : f_X8_lose σ x1 = some (r, τ)) : Ct w layC mX8_lose 3 [.ref (w.2.2.2 0), .int x1] σ (some (.int r)) τ := by
  refine my_met RX8 [some (.ref (w.2.2.2 0)), some (.int x1), none] 1 (by decide) rfl (Nat.le_of_ble_eq_true rfl) rfl (fun X h => ?_)
  unfold f_X8_lose at hf
  refine g_il1 h 1 dX8_lose_0 rfl ?_
  obtain ⟨r1, σ1, hc1, hf⟩ := my_ofb hf
  refine g_callSi h 4 cs_X8_60 (ct_X8_isSheet w hc1) rfl rfl (Nat.le_of_ble_eq_true rfl) ⟨Nat.le_of_ble_eq_true rfl, Nat.le_of_ble_eq_true rfl⟩ dX8_lose_1 rfl ?_
  refine g_ifne h 9 7 dX8_lose_4 (by decide) rfl (fun hc => ?_) (fun hc => ?_)
  · have hf := my_ifF hc hf
    refine g_al0 h 10 dX8_lose_9 rfl ?_
    refine g_geta h 13 fF_X8_51_X8 lyC_0 rfl dX8_lose_10 rfl ?_
    refine g_il1 h 14 dX8_lose_13 rfl ?_
    obtain ⟨hq2, hf⟩ := my_chk hf
    refine g_aald h 15 lyC_31 rfl dX8_lose_14 rfl hq2 ?_
    refine g_geti h 18 fF_X8_217_X6 (lyC_X6 (my_ixlt hq2)) rfl dX8_lose_15 rfl ?_
    refine g_ifeq_sel h 25 26 dX8_lose_18 (by decide) dX8_lose_21 ic_1 dX8_lose_22 (by decide) dX8_lose_25 ic_0 rfl ?_
    refine g_is2 h 27 (Nat.le_of_ble_eq_true rfl) rfl dX8_lose_26 rfl ?_
    refine g_al0 h 28 dX8_lose_27 rfl ?_
    refine g_geta h 31 fF_X8_51_X8 lyC_0 rfl dX8_lose_28 rfl ?_
    refine g_il1 h 32 dX8_lose_31 rfl ?_
    obtain ⟨hq3, hf⟩ := my_chk hf
    refine g_aald h 33 lyC_31 rfl dX8_lose_32 rfl hq3 ?_
    refine g_iconst h 34 ic_0 dX8_lose_33 rfl ?_
    refine g_putz h 37 fP_X8_217_X6 (lyC_X6 (my_ixlt hq3)) rfl dX8_lose_34 rfl (Or.inl rfl) ?_
    refine g_il2 h 38 dX8_lose_37 rfl ?_
    exact g_iret h dX8_lose_38 (my_r1 hf) (my_r2 hf)
  · have hf := my_ifT hc hf
    refine g_iconst h 8 ic_m1 dX8_lose_7 rfl ?_
    exact g_iret h dX8_lose_8 (my_r1 hf) (my_r2 hf)
def f_X8_loudest (σ : my_M) (x1 : Int32) (x2 : Int32) : Option (Int32 × my_M) :=
(my_bnd (f_X2_has σ x1) fun r1 σ1 =>
(if r1 = 0 then
some ((-1), σ1)
else
(my_bnd (f_X8_isWithin σ1 x2 0 1) fun r2 σ2 =>
(if r2 = 0 then
some ((-2), σ2)
else
(my_bnd (f_X0_sound σ2 0) fun r3 σ3 =>
(my_bnd (f_X2_loudestMoment σ3 x1 15) fun r4 σ4 =>
(if x2 = 0 then
some (r4, σ4)
else
(my_bnd (f_X2_listened σ4 x1 15 r4) fun r5 σ5 =>
some (r5, σ5)))))))))
set_option maxRecDepth 100000 in
set_option maxHeartbeats 4000000 in
theorem ct_X8_loudest (w : my_V) {σ : my_M} {x1 : Int32} {x2 : Int32} {r : Int32} {τ : my_M} (hf : f_X8_loudest σ x1 x2 = some (r, τ)) : Ct w layC mX8_loudest 4 [.ref (w.2.2.2 0), .int x1, .int x2] σ (some (.int r)) τ := by
  refine my_met RX8 [some (.ref (w.2.2.2 0)), some (.int x1), some (.int x2), none] 1 (by decide) rfl (Nat.le_of_ble_eq_true rfl) rfl (fun X h => ?_)
  unfold f_X8_loudest at hf
  refine g_al0 h 1 dX8_loudest_0 rfl ?_
  refine g_geta h 4 fF_X8_12_X8 lyC_0 rfl dX8_loudest_1 rfl ?_
  refine g_il1 h 5 dX8_loudest_4 rfl ?_
  obtain ⟨r1, σ1, hc1, hf⟩ := my_ofb hf
  refine g_callVi h 8 cs_X8_95 rfl lyC_1 (ct_X2_has w hc1) rfl rfl (Nat.le_of_ble_eq_true rfl) ⟨Nat.le_of_ble_eq_true rfl, Nat.le_of_ble_eq_true rfl⟩ dX8_loudest_5 rfl ?_
  refine g_ifne h 13 11 dX8_loudest_8 (by decide) rfl (fun hc => ?_) (fun hc => ?_)
  · have hf := my_ifF hc hf
    refine g_il2 h 14 dX8_loudest_13 rfl ?_
    refine g_iconst h 15 ic_0 dX8_loudest_14 rfl ?_
    refine g_iconst h 16 ic_1 dX8_loudest_15 rfl ?_
    obtain ⟨r2, σ2, hc2, hf⟩ := my_ofb hf
    refine g_callSi h 19 cs_X8_120 (ct_X8_isWithin w hc2) rfl rfl (Nat.le_of_ble_eq_true rfl) ⟨Nat.le_of_ble_eq_true rfl, Nat.le_of_ble_eq_true rfl⟩ dX8_loudest_16 rfl ?_
    refine g_ifne h 25 22 dX8_loudest_19 (by decide) rfl (fun hc => ?_) (fun hc => ?_)
    · have hf := my_ifF hc hf
      refine g_al0 h 26 dX8_loudest_25 rfl ?_
      refine g_geta h 29 fF_X8_21_X8 lyC_0 rfl dX8_loudest_26 rfl ?_
      refine g_al0 h 30 dX8_loudest_29 rfl ?_
      refine g_geta h 33 fF_X8_12_X8 lyC_0 rfl dX8_loudest_30 rfl ?_
      obtain ⟨r3, σ3, hc3, hf⟩ := my_ofb hf
      refine g_callVv h 36 cs_X8_144 rfl lyC_11 (ct_X0_sound w hc3) rfl rfl (Nat.le_of_ble_eq_true rfl) ⟨Nat.le_of_ble_eq_true rfl, Nat.le_of_ble_eq_true rfl⟩ dX8_loudest_33 rfl ?_
      refine g_al0 h 37 dX8_loudest_36 rfl ?_
      refine g_geta h 40 fF_X8_12_X8 lyC_0 rfl dX8_loudest_37 rfl ?_
      refine g_il1 h 41 dX8_loudest_40 rfl ?_
      refine g_al0 h 42 dX8_loudest_41 rfl ?_
      refine g_geta h 45 fF_X8_21_X8 lyC_0 rfl dX8_loudest_42 rfl ?_
      refine g_geta h 48 fF_X8_148_X0 lyC_11 rfl dX8_loudest_45 rfl ?_
      obtain ⟨r4, σ4, hc4, hf⟩ := my_ofb hf
      refine g_callVi h 51 cs_X8_155 rfl lyC_1 (ct_X2_loudestMoment w hc4) rfl rfl (Nat.le_of_ble_eq_true rfl) ⟨Nat.le_of_ble_eq_true rfl, Nat.le_of_ble_eq_true rfl⟩ dX8_loudest_48 rfl ?_
      refine g_is3 h 52 (Nat.le_of_ble_eq_true rfl) rfl dX8_loudest_51 rfl ?_
      refine g_il2 h 53 dX8_loudest_52 rfl ?_
      refine g_ifne h 60 56 dX8_loudest_53 (by decide) rfl (fun hc => ?_) (fun hc => ?_)
      · have hf := my_ifF hc hf
        refine g_al0 h 61 dX8_loudest_60 rfl ?_
        refine g_geta h 64 fF_X8_12_X8 lyC_0 rfl dX8_loudest_61 rfl ?_
        refine g_il1 h 65 dX8_loudest_64 rfl ?_
        refine g_al0 h 66 dX8_loudest_65 rfl ?_
        refine g_geta h 69 fF_X8_21_X8 lyC_0 rfl dX8_loudest_66 rfl ?_
        refine g_geta h 72 fF_X8_148_X0 lyC_11 rfl dX8_loudest_69 rfl ?_
        refine g_il3 h 73 dX8_loudest_72 rfl ?_
        obtain ⟨r5, σ5, hc5, hf⟩ := my_ofb hf
        refine g_callVi h 76 cs_X8_151 rfl lyC_1 (ct_X2_listened w hc5) rfl rfl (Nat.le_of_ble_eq_true rfl) ⟨Nat.le_of_ble_eq_true rfl, Nat.le_of_ble_eq_true rfl⟩ dX8_loudest_73 rfl ?_
        exact g_iret h dX8_loudest_76 (my_r1 hf) (my_r2 hf)
      · have hf := my_ifT hc hf
        refine g_il3 h 57 dX8_loudest_56 rfl ?_
        refine g_goto h 76 dX8_loudest_57 (by decide) ?_
        exact g_iret h dX8_loudest_76 (my_r1 hf) (my_r2 hf)
    · have hf := my_ifT hc hf
      refine g_bipush h 24 bp_m2 dX8_loudest_22 rfl ?_
      exact g_iret h dX8_loudest_24 (my_r1 hf) (my_r2 hf)
  · have hf := my_ifT hc hf
    refine g_iconst h 12 ic_m1 dX8_loudest_11 rfl ?_
    exact g_iret h dX8_loudest_12 (my_r1 hf) (my_r2 hf)
def f_X8_many (σ : my_M) (x1 : Int32) : Option (Int32 × my_M) :=
(if x1 = 0 then
some ((σ 1 1), σ)
else
(if x1 = 1 then
some ((σ 1 2), σ)
else
(if x1 = 2 then
some ((σ 11 0), σ)
else
(if x1 = 3 then
(my_bnd (f_X2_freeBeatsOfAll σ) fun r4 σ4 =>
some (r4, σ4))
else
(if x1 = 4 then
some ((σ 21 0), σ)
else
some ((-2), σ))))))
set_option maxRecDepth 100000 in
set_option maxHeartbeats 4000000 in
theorem ct_X8_many (w : my_V) {σ : my_M} {x1 : Int32} {r : Int32} {τ : my_M} (hf : f_X8_many σ x1 = some (r, τ)) : Ct w layC mX8_many 3 [.ref (w.2.2.2 0), .int x1] σ (some (.int r)) τ := by
  refine my_met RX8 [some (.ref (w.2.2.2 0)), some (.int x1)] 0 (by decide) rfl (Nat.le_of_ble_eq_true rfl) rfl (fun X h => ?_)
  unfold f_X8_many at hf
  refine g_il1 h 1 dX8_many_0 rfl ?_
  by_cases hs1 : x1 = 0
  · have hf := my_ifT hs1 hf
    refine g_tsI (off := 35) h 36 dX8_many_1 (0) hs1 (by decide) (by decide) rfl (by decide) ?_
    refine g_al0 h 37 dX8_many_36 rfl ?_
    refine g_geta h 40 fF_X8_12_X8 lyC_0 rfl dX8_many_37 rfl ?_
    refine g_geti h 43 fF_X8_94_X2 lyC_1 rfl dX8_many_40 rfl ?_
    exact g_iret h dX8_many_43 (my_r1 hf) (my_r2 hf)
  · have hf := my_ifF hs1 hf
    by_cases hs2 : x1 = 1
    · have hf := my_ifT hs2 hf
      refine g_tsI (off := 43) h 44 dX8_many_1 (1) hs2 (by decide) (by decide) rfl (by decide) ?_
      refine g_al0 h 45 dX8_many_44 rfl ?_
      refine g_geta h 48 fF_X8_12_X8 lyC_0 rfl dX8_many_45 rfl ?_
      refine g_geti h 51 fF_X8_106_X2 lyC_1 rfl dX8_many_48 rfl ?_
      exact g_iret h dX8_many_51 (my_r1 hf) (my_r2 hf)
    · have hf := my_ifF hs2 hf
      by_cases hs3 : x1 = 2
      · have hf := my_ifT hs3 hf
        refine g_tsI (off := 51) h 52 dX8_many_1 (2) hs3 (by decide) (by decide) rfl (by decide) ?_
        refine g_al0 h 53 dX8_many_52 rfl ?_
        refine g_geta h 56 fF_X8_21_X8 lyC_0 rfl dX8_many_53 rfl ?_
        refine g_geti h 59 fF_X8_90_X0 lyC_11 rfl dX8_many_56 rfl ?_
        exact g_iret h dX8_many_59 (my_r1 hf) (my_r2 hf)
      · have hf := my_ifF hs3 hf
        by_cases hs5 : x1 = 3
        · have hf := my_ifT hs5 hf
          refine g_tsI (off := 59) h 60 dX8_many_1 (3) hs5 (by decide) (by decide) rfl (by decide) ?_
          refine g_al0 h 61 dX8_many_60 rfl ?_
          refine g_geta h 64 fF_X8_12_X8 lyC_0 rfl dX8_many_61 rfl ?_
          obtain ⟨r4, σ4, hc4, hf⟩ := my_ofb hf
          refine g_callVi h 67 cs_X8_259 rfl lyC_1 (ct_X2_freeBeatsOfAll w hc4) rfl rfl (Nat.le_of_ble_eq_true rfl) ⟨Nat.le_of_ble_eq_true rfl, Nat.le_of_ble_eq_true rfl⟩ dX8_many_64 rfl ?_
          exact g_iret h dX8_many_67 (my_r1 hf) (my_r2 hf)
        · have hf := my_ifF hs5 hf
          by_cases hs6 : x1 = 4
          · have hf := my_ifT hs6 hf
            refine g_tsI (off := 67) h 68 dX8_many_1 (4) hs6 (by decide) (by decide) rfl (by decide) ?_
            refine g_al0 h 69 dX8_many_68 rfl ?_
            refine g_geta h 72 fF_X8_31_X8 lyC_0 rfl dX8_many_69 rfl ?_
            refine g_geti h 75 fF_X8_93_X5 lyC_21 rfl dX8_many_72 rfl ?_
            exact g_iret h dX8_many_75 (my_r1 hf) (my_r2 hf)
          · have hf := my_ifF hs6 hf
            have hs1n := lv_neT (a := 0) hs1 (by decide)
            have hs2n := lv_neT (a := 1) hs2 (by decide)
            have hs3n := lv_neT (a := 2) hs3 (by decide)
            have hs5n := lv_neT (a := 3) hs5 (by decide)
            have hs6n := lv_neT (a := 4) hs6 (by decide)
            refine g_tsO h 76 dX8_many_1 (by omega) (by decide) ?_
            refine g_bipush h 78 bp_m2 dX8_many_76 rfl ?_
            exact g_iret h dX8_many_78 (my_r1 hf) (my_r2 hf)
def f_X8_next (σ : my_M) (x1 : Int32) (x2 : Int32) : Option (Int32 × my_M) :=
(my_bnd (f_X2_has σ x1) fun r1 σ1 =>
(if r1 = 0 then
some ((-1), σ1)
else
(my_bnd (f_X8_isWithin σ1 x2 0 5) fun r2 σ2 =>
(if r2 = 0 then
some ((-2), σ2)
else
(if my_ix x1 4 then
(my_bnd (f_X1_freeBeats σ2 (Int32.toNatClampNeg x1) (σ2 1 2)) fun r4 σ4 =>
(if r4 ≤ 0 then
(my_bnd (f_X3_makeFor σ4 (σ4 1 2)) fun r5 σ5 =>
(if my_ix x1 4 then
(my_bnd (f_X3_firstBehind σ5 (7 + (Int32.toNatClampNeg x1))) fun r7 σ7 =>
(my_bnd (f_X3_pitchOf σ7 r7 x2) fun r8 σ8 =>
some (r8, σ8)))
else none))
else
some ((-3), σ4)))
else none)))))
set_option maxRecDepth 100000 in
set_option maxHeartbeats 4000000 in
theorem ct_X8_next (w : my_V) {σ : my_M} {x1 : Int32} {x2 : Int32} {r : Int32} {τ : my_M} (hf : f_X8_next σ x1 x2 = some (r, τ)) : Ct w layC mX8_next 12 [.ref (w.2.2.2 0), .int x1, .int x2] σ (some (.int r)) τ := by
  refine my_met RX8 [some (.ref (w.2.2.2 0)), some (.int x1), some (.int x2)] 0 (by decide) rfl (Nat.le_of_ble_eq_true rfl) rfl (fun X h => ?_)
  unfold f_X8_next at hf
  refine g_al0 h 1 dX8_next_0 rfl ?_
  refine g_geta h 4 fF_X8_12_X8 lyC_0 rfl dX8_next_1 rfl ?_
  refine g_il1 h 5 dX8_next_4 rfl ?_
  obtain ⟨r1, σ1, hc1, hf⟩ := my_ofb hf
  refine g_callVi h 8 cs_X8_95 rfl lyC_1 (ct_X2_has w hc1) rfl rfl (Nat.le_of_ble_eq_true rfl) ⟨Nat.le_of_ble_eq_true rfl, Nat.le_of_ble_eq_true rfl⟩ dX8_next_5 rfl ?_
  refine g_ifne h 13 11 dX8_next_8 (by decide) rfl (fun hc => ?_) (fun hc => ?_)
  · have hf := my_ifF hc hf
    refine g_il2 h 14 dX8_next_13 rfl ?_
    refine g_iconst h 15 ic_0 dX8_next_14 rfl ?_
    refine g_iconst h 16 ic_5 dX8_next_15 rfl ?_
    obtain ⟨r2, σ2, hc2, hf⟩ := my_ofb hf
    refine g_callSi h 19 cs_X8_120 (ct_X8_isWithin w hc2) rfl rfl (Nat.le_of_ble_eq_true rfl) ⟨Nat.le_of_ble_eq_true rfl, Nat.le_of_ble_eq_true rfl⟩ dX8_next_16 rfl ?_
    refine g_ifne h 25 22 dX8_next_19 (by decide) rfl (fun hc => ?_) (fun hc => ?_)
    · have hf := my_ifF hc hf
      refine g_al0 h 26 dX8_next_25 rfl ?_
      refine g_geta h 29 fF_X8_12_X8 lyC_0 rfl dX8_next_26 rfl ?_
      refine g_geta h 32 fF_X8_98_X2 lyC_1 rfl dX8_next_29 rfl ?_
      refine g_il1 h 33 dX8_next_32 rfl ?_
      obtain ⟨hq3, hf⟩ := my_chk hf
      refine g_aald h 34 lyC_2 rfl dX8_next_33 rfl hq3 ?_
      refine g_al0 h 35 dX8_next_34 rfl ?_
      refine g_geta h 38 fF_X8_12_X8 lyC_0 rfl dX8_next_35 rfl ?_
      refine g_geti h 41 fF_X8_106_X2 lyC_1 rfl dX8_next_38 rfl ?_
      obtain ⟨r4, σ4, hc4, hf⟩ := my_ofb hf
      refine g_callVi h 44 cs_X8_109 rfl (lyC_X1 (my_ixlt hq3)) (ct_X1_freeBeats w hc4) rfl rfl (Nat.le_of_ble_eq_true rfl) ⟨Nat.le_of_ble_eq_true rfl, Nat.le_of_ble_eq_true rfl⟩ dX8_next_41 rfl ?_
      refine g_ifle h 50 47 dX8_next_44 (by decide) rfl (fun hc => ?_) (fun hc => ?_)
      · have hf := my_ifT hc hf
        refine g_al0 h 51 dX8_next_50 rfl ?_
        refine g_geta h 54 fF_X8_38_X8 lyC_0 rfl dX8_next_51 rfl ?_
        refine g_al0 h 55 dX8_next_54 rfl ?_
        refine g_geta h 58 fF_X8_12_X8 lyC_0 rfl dX8_next_55 rfl ?_
        refine g_geti h 61 fF_X8_106_X2 lyC_1 rfl dX8_next_58 rfl ?_
        obtain ⟨r5, σ5, hc5, hf⟩ := my_ofb hf
        refine g_callVv h 64 cs_X8_182 rfl lyC_27 (ct_X3_makeFor w hc5) rfl rfl (Nat.le_of_ble_eq_true rfl) ⟨Nat.le_of_ble_eq_true rfl, Nat.le_of_ble_eq_true rfl⟩ dX8_next_61 rfl ?_
        refine g_al0 h 65 dX8_next_64 rfl ?_
        refine g_geta h 68 fF_X8_38_X8 lyC_0 rfl dX8_next_65 rfl ?_
        refine g_al0 h 69 dX8_next_68 rfl ?_
        refine g_geta h 72 fF_X8_38_X8 lyC_0 rfl dX8_next_69 rfl ?_
        refine g_al0 h 73 dX8_next_72 rfl ?_
        refine g_geta h 76 fF_X8_12_X8 lyC_0 rfl dX8_next_73 rfl ?_
        refine g_geta h 79 fF_X8_98_X2 lyC_1 rfl dX8_next_76 rfl ?_
        refine g_il1 h 80 dX8_next_79 rfl ?_
        obtain ⟨hq6, hf⟩ := my_chk hf
        refine g_aald h 81 lyC_2 rfl dX8_next_80 rfl hq6 ?_
        refine g_geta h 84 fF_X8_112_X1 (lyC_X1 (my_ixlt hq6)) rfl dX8_next_81 rfl ?_
        obtain ⟨r7, σ7, hc7, hf⟩ := my_ofb hf
        refine g_callVi h 87 cs_X8_197 rfl lyC_27 (ct_X3_firstBehind w hc7) rfl rfl (Nat.le_of_ble_eq_true rfl) ⟨Nat.le_of_ble_eq_true rfl, Nat.le_of_ble_eq_true rfl⟩ dX8_next_84 rfl ?_
        refine g_il2 h 88 dX8_next_87 rfl ?_
        obtain ⟨r8, σ8, hc8, hf⟩ := my_ofb hf
        refine g_callVi h 91 cs_X8_194 rfl lyC_27 (ct_X3_pitchOf w hc8) rfl rfl (Nat.le_of_ble_eq_true rfl) ⟨Nat.le_of_ble_eq_true rfl, Nat.le_of_ble_eq_true rfl⟩ dX8_next_88 rfl ?_
        exact g_iret h dX8_next_91 (my_r1 hf) (my_r2 hf)
      · have hf := my_ifF hc hf
        refine g_bipush h 49 bp_m3 dX8_next_47 rfl ?_
        exact g_iret h dX8_next_49 (my_r1 hf) (my_r2 hf)
    · have hf := my_ifT hc hf
      refine g_bipush h 24 bp_m2 dX8_next_22 rfl ?_
      exact g_iret h dX8_next_24 (my_r1 hf) (my_r2 hf)
  · have hf := my_ifT hc hf
    refine g_iconst h 12 ic_m1 dX8_next_11 rfl ?_
    exact g_iret h dX8_next_12 (my_r1 hf) (my_r2 hf)
def b_X8_odds_0 (k0 : my_M → Int32 → Int32 → Int32 → Int32 → Int32 → Option (Int64 × my_M)) (k1 : my_M → Int32 → Int32 → Int32 → Int32 → Int32 → Int32 → Option (Int64 × my_M)) (σ : my_M) (x1 : Int32) (x2 : Int32) (x3 : Int32) (x4 : Int32) (x5 : Int32) : Option (Int64 × my_M) :=
(if 5 < x5 then
(if x3 = 0 then
(my_bnd (f_X8_inLeastTerms σ x4 x4) fun r2 σ2 =>
some ((Int32.toInt64 r2), σ2))
else
(my_bnd (f_X8_inLeastTerms σ 120 x4) fun r1 σ1 =>
some ((Int32.toInt64 r1), σ1)))
else
k1 σ x1 x2 x3 x4 x5 ((-5)))
def b_X8_odds_1 (k0 : my_M → Int32 → Int32 → Int32 → Int32 → Int32 → Option (Int64 × my_M)) (k1 : my_M → Int32 → Int32 → Int32 → Int32 → Int32 → Int32 → Option (Int64 × my_M)) (σ : my_M) (x1 : Int32) (x2 : Int32) (x3 : Int32) (x4 : Int32) (x5 : Int32) (x6 : Int32) : Option (Int64 × my_M) :=
(if 5 < x6 then
k0 σ x1 x2 x3 x4 ((x5 + 1))
else
(if x5 = 0 then
(if (if x6 = 0 then 0 else 1 : Int32) = 0 then
k1 σ x1 x2 x3 x4 x5 ((x6 + 1))
else
(my_bnd (f_X2_heard σ x1 x1 x5 x6) fun r2 σ2 =>
(if r2 < x2 then
k1 σ2 x1 x2 x3 x4 x5 ((x6 + 1))
else
k1 σ2 x1 x2 x3 ((x4 + 1)) x5 ((x6 + 1)))))
else
(my_bnd (f_X2_heard σ x1 x1 x5 x6) fun r1 σ1 =>
(if r1 < x2 then
k1 σ1 x1 x2 x3 x4 x5 ((x6 + 1))
else
k1 σ1 x1 x2 x3 ((x4 + 1)) x5 ((x6 + 1))))))
def g_X8_odds : Nat → (my_M → Int32 → Int32 → Int32 → Int32 → Int32 → Option (Int64 × my_M)) × (my_M → Int32 → Int32 → Int32 → Int32 → Int32 → Int32 → Option (Int64 × my_M))
  | 0 => (fun _ _ _ _ _ _ => none, fun _ _ _ _ _ _ _ => none)
  | n + 1 => (b_X8_odds_0 (g_X8_odds n).1 (g_X8_odds n).2, b_X8_odds_1 (g_X8_odds n).1 (g_X8_odds n).2)
def f_X8_odds (σ : my_M) (x1 : Int32) (x2 : Int32) (x3 : Int32) : Option (Int64 × my_M) :=
(my_bnd (f_X2_has σ x1) fun r1 σ1 =>
(if r1 = 0 then
some ((-9223372036854775808), σ1)
else
(my_bnd (f_X8_isWithin σ1 x2 0 20) fun r2 σ2 =>
(if r2 = 0 then
some ((-9223372036854775808), σ2)
else
(my_bnd (f_X8_isWithin σ2 x3 0 1) fun r3 σ3 =>
(if r3 = 0 then
some ((-9223372036854775808), σ3)
else
(g_X8_odds my_NF).1 σ3 x1 x2 x3 0 ((-5))))))))
set_option maxRecDepth 100000 in
set_option maxHeartbeats 4000000 in
theorem lp_X8_odds (w : my_V) {X : my_X} {r : Int64} {τ : my_M} (h : my_OK X w layC cX8_odds RX8 8 (some .long)) : ∀ n : Nat, (∀ (σ : my_M) (x1 : Int32) (x2 : Int32) (x3 : Int32) (x4 : Int32) (x5 : Int32), (g_X8_odds n).1 σ x1 x2 x3 x4 x5 = some (r, τ) → Go X w layC 4 8 (some (.long r)) τ σ 41 [some (.ref (w.2.2.2 0)), some (.int x1), some (.int x2), some (.int x3), some (.int x4), some (.int x5), none, none] []) ∧ (∀ (σ : my_M) (x1 : Int32) (x2 : Int32) (x3 : Int32) (x4 : Int32) (x5 : Int32) (x6 : Int32), (g_X8_odds n).2 σ x1 x2 x3 x4 x5 x6 = some (r, τ) → Go X w layC 4 8 (some (.long r)) τ σ 51 [some (.ref (w.2.2.2 0)), some (.int x1), some (.int x2), some (.int x3), some (.int x4), some (.int x5), some (.int x6), none] []) := by
  intro n
  induction n with
  | zero => exact ⟨fun _ _ _ _ _ _ hf => (my_nn hf).elim, fun _ _ _ _ _ _ _ hf => (my_nn hf).elim⟩
  | succ n ih =>
    refine ⟨?_, ?_⟩
    · intro σ x1 x2 x3 x4 x5 hf
      replace hf : b_X8_odds_0 (g_X8_odds n).1 (g_X8_odds n).2 σ x1 x2 x3 x4 x5 = some (r, τ) := hf
      unfold b_X8_odds_0 at hf
      refine g_il5 h 43 dX8_odds_41 rfl ?_
      refine g_iconst h 44 ic_5 dX8_odds_43 rfl ?_
      refine g_icgt h 111 47 dX8_odds_44 (by decide) rfl (fun hc => ?_) (fun hc => ?_)
      · have hf := my_ifT hc hf
        refine g_il3 h 112 dX8_odds_111 rfl ?_
        refine g_ifne h 120 115 dX8_odds_112 (by decide) rfl (fun hc => ?_) (fun hc => ?_)
        · have hf := my_ifF hc hf
          refine g_bipush h 122 bp_120 dX8_odds_120 rfl ?_
          refine g_il4 h 124 dX8_odds_122 rfl ?_
          obtain ⟨r1, σ1, hc1, hf⟩ := my_ofb hf
          refine g_callSi h 127 cs_X8_210 (ct_X8_inLeastTerms w hc1) rfl rfl (Nat.le_of_ble_eq_true rfl) ⟨Nat.le_of_ble_eq_true rfl, Nat.le_of_ble_eq_true rfl⟩ dX8_odds_124 rfl ?_
          refine g_i2l h 128 dX8_odds_127 rfl ?_
          exact g_lret h dX8_odds_128 (my_r1l hf) (my_r2 hf)
        · have hf := my_ifT hc hf
          refine g_il4 h 117 dX8_odds_115 rfl ?_
          refine g_goto h 122 dX8_odds_117 (by decide) ?_
          refine g_il4 h 124 dX8_odds_122 rfl ?_
          obtain ⟨r2, σ2, hc2, hf⟩ := my_ofb hf
          refine g_callSi h 127 cs_X8_210 (ct_X8_inLeastTerms w hc2) rfl rfl (Nat.le_of_ble_eq_true rfl) ⟨Nat.le_of_ble_eq_true rfl, Nat.le_of_ble_eq_true rfl⟩ dX8_odds_124 rfl ?_
          refine g_i2l h 128 dX8_odds_127 rfl ?_
          exact g_lret h dX8_odds_128 (my_r1l hf) (my_r2 hf)
      · have hf := my_ifF hc hf
        refine g_bipush h 49 bp_m5 dX8_odds_47 rfl ?_
        refine g_is6 h 51 (Nat.le_of_ble_eq_true rfl) rfl dX8_odds_49 rfl ?_
        exact g_weak (ih.2 _ _ _ _ _ _ _ hf) (w_s (w_s (w_s (w_s (w_s (w_s (w_s (w_s w_0))))))))
    · intro σ x1 x2 x3 x4 x5 x6 hf
      replace hf : b_X8_odds_1 (g_X8_odds n).1 (g_X8_odds n).2 σ x1 x2 x3 x4 x5 x6 = some (r, τ) := hf
      unfold b_X8_odds_1 at hf
      refine g_il6 h 53 dX8_odds_51 rfl ?_
      refine g_iconst h 54 ic_5 dX8_odds_53 rfl ?_
      refine g_icgt h 105 57 dX8_odds_54 (by decide) rfl (fun hc => ?_) (fun hc => ?_)
      · have hf := my_ifT hc hf
        refine g_inc5 h 108 (my_inc ic_1 _) (Nat.le_of_ble_eq_true rfl) rfl dX8_odds_105 rfl ?_
        refine g_goto h 41 dX8_odds_108 (by decide) ?_
        exact g_weak (ih.1 _ _ _ _ _ _ hf) (w_s (w_s (w_s (w_s (w_s (w_s (w_n (w_s w_0))))))))
      · have hf := my_ifF hc hf
        refine g_il5 h 59 dX8_odds_57 rfl ?_
        refine g_ifne h 67 62 dX8_odds_59 (by decide) rfl (fun hc => ?_) (fun hc => ?_)
        · have hf := my_ifF hc hf
          refine g_iconst h 68 ic_1 dX8_odds_67 rfl ?_
          refine g_goto h 72 dX8_odds_68 (by decide) ?_
          refine g_is7 h 74 (Nat.le_of_ble_eq_true rfl) rfl dX8_odds_72 rfl ?_
          refine g_il7 h 76 dX8_odds_74 rfl ?_
          refine g_ifeq h 99 79 dX8_odds_76 (by decide) rfl (fun hc => absurd hc (by decide)) (fun _ => ?_)
          refine g_al0 h 80 dX8_odds_79 rfl ?_
          refine g_geta h 83 fF_X8_12_X8 lyC_0 rfl dX8_odds_80 rfl ?_
          refine g_il1 h 84 dX8_odds_83 rfl ?_
          refine g_il1 h 85 dX8_odds_84 rfl ?_
          refine g_il5 h 87 dX8_odds_85 rfl ?_
          refine g_il6 h 89 dX8_odds_87 rfl ?_
          obtain ⟨r1, σ1, hc1, hf⟩ := my_ofb hf
          refine g_callVi h 92 cs_X8_134 rfl lyC_1 (ct_X2_heard w hc1) rfl rfl (Nat.le_of_ble_eq_true rfl) ⟨Nat.le_of_ble_eq_true rfl, Nat.le_of_ble_eq_true rfl⟩ dX8_odds_89 rfl ?_
          refine g_il2 h 93 dX8_odds_92 rfl ?_
          refine g_iclt h 99 96 dX8_odds_93 (by decide) rfl (fun hc => ?_) (fun hc => ?_)
          · have hf := my_ifT hc hf
            refine g_inc6 h 102 (my_inc ic_1 _) (Nat.le_of_ble_eq_true rfl) rfl dX8_odds_99 rfl ?_
            refine g_goto h 51 dX8_odds_102 (by decide) ?_
            exact g_weak (ih.2 _ _ _ _ _ _ _ hf) (w_s (w_s (w_s (w_s (w_s (w_s (w_s (w_n w_0))))))))
          · have hf := my_ifF hc hf
            refine g_inc4 h 99 (my_inc ic_1 _) (Nat.le_of_ble_eq_true rfl) rfl dX8_odds_96 rfl ?_
            refine g_inc6 h 102 (my_inc ic_1 _) (Nat.le_of_ble_eq_true rfl) rfl dX8_odds_99 rfl ?_
            refine g_goto h 51 dX8_odds_102 (by decide) ?_
            exact g_weak (ih.2 _ _ _ _ _ _ _ hf) (w_s (w_s (w_s (w_s (w_s (w_s (w_s (w_n w_0))))))))
        · have hf := my_ifT hc hf
          refine g_il6 h 64 dX8_odds_62 rfl ?_
          refine g_ifeq_sel h 71 72 dX8_odds_64 (by decide) dX8_odds_67 ic_1 dX8_odds_68 (by decide) dX8_odds_71 ic_0 rfl ?_
          refine g_is7 h 74 (Nat.le_of_ble_eq_true rfl) rfl dX8_odds_72 rfl ?_
          refine g_il7 h 76 dX8_odds_74 rfl ?_
          refine g_ifeq h 99 79 dX8_odds_76 (by decide) rfl (fun hc => ?_) (fun hc => ?_)
          · have hf := my_ifT hc hf
            refine g_inc6 h 102 (my_inc ic_1 _) (Nat.le_of_ble_eq_true rfl) rfl dX8_odds_99 rfl ?_
            refine g_goto h 51 dX8_odds_102 (by decide) ?_
            exact g_weak (ih.2 _ _ _ _ _ _ _ hf) (w_s (w_s (w_s (w_s (w_s (w_s (w_s (w_n w_0))))))))
          · have hf := my_ifF hc hf
            refine g_al0 h 80 dX8_odds_79 rfl ?_
            refine g_geta h 83 fF_X8_12_X8 lyC_0 rfl dX8_odds_80 rfl ?_
            refine g_il1 h 84 dX8_odds_83 rfl ?_
            refine g_il1 h 85 dX8_odds_84 rfl ?_
            refine g_il5 h 87 dX8_odds_85 rfl ?_
            refine g_il6 h 89 dX8_odds_87 rfl ?_
            obtain ⟨r2, σ2, hc2, hf⟩ := my_ofb hf
            refine g_callVi h 92 cs_X8_134 rfl lyC_1 (ct_X2_heard w hc2) rfl rfl (Nat.le_of_ble_eq_true rfl) ⟨Nat.le_of_ble_eq_true rfl, Nat.le_of_ble_eq_true rfl⟩ dX8_odds_89 rfl ?_
            refine g_il2 h 93 dX8_odds_92 rfl ?_
            refine g_iclt h 99 96 dX8_odds_93 (by decide) rfl (fun hc => ?_) (fun hc => ?_)
            · have hf := my_ifT hc hf
              refine g_inc6 h 102 (my_inc ic_1 _) (Nat.le_of_ble_eq_true rfl) rfl dX8_odds_99 rfl ?_
              refine g_goto h 51 dX8_odds_102 (by decide) ?_
              exact g_weak (ih.2 _ _ _ _ _ _ _ hf) (w_s (w_s (w_s (w_s (w_s (w_s (w_s (w_n w_0))))))))
            · have hf := my_ifF hc hf
              refine g_inc4 h 99 (my_inc ic_1 _) (Nat.le_of_ble_eq_true rfl) rfl dX8_odds_96 rfl ?_
              refine g_inc6 h 102 (my_inc ic_1 _) (Nat.le_of_ble_eq_true rfl) rfl dX8_odds_99 rfl ?_
              refine g_goto h 51 dX8_odds_102 (by decide) ?_
              exact g_weak (ih.2 _ _ _ _ _ _ _ hf) (w_s (w_s (w_s (w_s (w_s (w_s (w_s (w_n w_0))))))))
set_option maxRecDepth 100000 in
set_option maxHeartbeats 4000000 in
theorem ct_X8_odds (w : my_V) {σ : my_M} {x1 : Int32} {x2 : Int32} {x3 : Int32} {r : Int64} {τ : my_M} (hf : f_X8_odds σ x1 x2 x3 = some (r, τ)) : Ct w layC mX8_odds 4 [.ref (w.2.2.2 0), .int x1, .int x2, .int x3] σ (some (.long r)) τ := by
  refine my_met RX8 [some (.ref (w.2.2.2 0)), some (.int x1), some (.int x2), some (.int x3), none, none, none, none] 4 (by decide) rfl (Nat.le_of_ble_eq_true rfl) rfl (fun X h => ?_)
  unfold f_X8_odds at hf
  refine g_al0 h 1 dX8_odds_0 rfl ?_
  refine g_geta h 4 fF_X8_12_X8 lyC_0 rfl dX8_odds_1 rfl ?_
  refine g_il1 h 5 dX8_odds_4 rfl ?_
  obtain ⟨r1, σ1, hc1, hf⟩ := my_ofb hf
  refine g_callVi h 8 cs_X8_95 rfl lyC_1 (ct_X2_has w hc1) rfl rfl (Nat.le_of_ble_eq_true rfl) ⟨Nat.le_of_ble_eq_true rfl, Nat.le_of_ble_eq_true rfl⟩ dX8_odds_5 rfl ?_
  refine g_ifeq h 30 11 dX8_odds_8 (by decide) rfl (fun hc => ?_) (fun hc => ?_)
  · have hf := my_ifT hc hf
    refine g_ldc2 h 33 tw_kl_X8_208 dX8_odds_30 rfl ?_
    exact g_lret h dX8_odds_33 (my_r1l hf) (my_r2 hf)
  · have hf := my_ifF hc hf
    refine g_il2 h 12 dX8_odds_11 rfl ?_
    refine g_iconst h 13 ic_0 dX8_odds_12 rfl ?_
    refine g_bipush h 15 bp_20 dX8_odds_13 rfl ?_
    obtain ⟨r2, σ2, hc2, hf⟩ := my_ofb hf
    refine g_callSi h 18 cs_X8_120 (ct_X8_isWithin w hc2) rfl rfl (Nat.le_of_ble_eq_true rfl) ⟨Nat.le_of_ble_eq_true rfl, Nat.le_of_ble_eq_true rfl⟩ dX8_odds_15 rfl ?_
    refine g_ifeq h 30 21 dX8_odds_18 (by decide) rfl (fun hc => ?_) (fun hc => ?_)
    · have hf := my_ifT hc hf
      refine g_ldc2 h 33 tw_kl_X8_208 dX8_odds_30 rfl ?_
      exact g_lret h dX8_odds_33 (my_r1l hf) (my_r2 hf)
    · have hf := my_ifF hc hf
      refine g_il3 h 22 dX8_odds_21 rfl ?_
      refine g_iconst h 23 ic_0 dX8_odds_22 rfl ?_
      refine g_iconst h 24 ic_1 dX8_odds_23 rfl ?_
      obtain ⟨r3, σ3, hc3, hf⟩ := my_ofb hf
      refine g_callSi h 27 cs_X8_120 (ct_X8_isWithin w hc3) rfl rfl (Nat.le_of_ble_eq_true rfl) ⟨Nat.le_of_ble_eq_true rfl, Nat.le_of_ble_eq_true rfl⟩ dX8_odds_24 rfl ?_
      refine g_ifne h 34 30 dX8_odds_27 (by decide) rfl (fun hc => ?_) (fun hc => ?_)
      · have hf := my_ifF hc hf
        refine g_iconst h 35 ic_0 dX8_odds_34 rfl ?_
        refine g_is4 h 37 (Nat.le_of_ble_eq_true rfl) rfl dX8_odds_35 rfl ?_
        refine g_bipush h 39 bp_m5 dX8_odds_37 rfl ?_
        refine g_is5 h 41 (Nat.le_of_ble_eq_true rfl) rfl dX8_odds_39 rfl ?_
        exact g_weak ((lp_X8_odds w h my_NF).1 _ _ _ _ _ _ hf) (w_s (w_s (w_s (w_s (w_s (w_s (w_s (w_s w_0))))))))
      · have hf := my_ifT hc hf
        refine g_ldc2 h 33 tw_kl_X8_208 dX8_odds_30 rfl ?_
        exact g_lret h dX8_odds_33 (my_r1l hf) (my_r2 hf)
def f_X8_toldPitch (σ : my_M) (e1 : Nat) (x2 : Int32) : Option (Int32 × my_M) :=
(if e1 < 4 then
(my_bnd (f_X2_hasBeat σ x2) fun r1 σ1 =>
(if r1 = 0 then
some ((-9), σ1)
else
(if my_ix x2 (my_len layC (7 + e1)) then
(if (σ1 (7 + e1) (Int32.toNatClampNeg x2)) = (-1) then
some ((-9), σ1)
else
(if my_ix x2 (my_len layC (7 + e1)) then
some ((σ1 (7 + e1) (Int32.toNatClampNeg x2)), σ1)
else none))
else none)))
else none)
set_option maxRecDepth 100000 in
set_option maxHeartbeats 4000000 in
theorem ct_X8_toldPitch (w : my_V) {σ : my_M} {e1 : Nat} {x2 : Int32} {r : Int32} {τ : my_M} (hf : f_X8_toldPitch σ e1 x2 = some (r, τ)) : Ct w layC mX8_toldPitch 3 [.ref (w.2.2.2 0), .ref (w.2.2.2 (3 + e1)), .int x2] σ (some (.int r)) τ := by
  refine my_met RX8 [some (.ref (w.2.2.2 0)), some (.ref (w.2.2.2 (3 + e1))), some (.int x2)] 0 (by decide) rfl (Nat.le_of_ble_eq_true rfl) rfl (fun X h => ?_)
  unfold f_X8_toldPitch at hf
  obtain ⟨hb1, hf⟩ := my_chk hf
  refine g_al0 h 1 dX8_toldPitch_0 rfl ?_
  refine g_geta h 4 fF_X8_12_X8 lyC_0 rfl dX8_toldPitch_1 rfl ?_
  refine g_il2 h 5 dX8_toldPitch_4 rfl ?_
  obtain ⟨r1, σ1, hc1, hf⟩ := my_ofb hf
  refine g_callVi h 8 cs_X8_128 rfl lyC_1 (ct_X2_hasBeat w hc1) rfl rfl (Nat.le_of_ble_eq_true rfl) ⟨Nat.le_of_ble_eq_true rfl, Nat.le_of_ble_eq_true rfl⟩ dX8_toldPitch_5 rfl ?_
  refine g_ifeq h 21 11 dX8_toldPitch_8 (by decide) rfl (fun hc => ?_) (fun hc => ?_)
  · have hf := my_ifT hc hf
    refine g_bipush h 23 bp_m9 dX8_toldPitch_21 rfl ?_
    exact g_iret h dX8_toldPitch_23 (my_r1 hf) (my_r2 hf)
  · have hf := my_ifF hc hf
    refine g_al1 h 12 dX8_toldPitch_11 rfl ?_
    refine g_geta h 15 fF_X8_112_X1 (lyC_X1 hb1) rfl dX8_toldPitch_12 rfl ?_
    refine g_il2 h 16 dX8_toldPitch_15 rfl ?_
    obtain ⟨hq2, hf⟩ := my_chk hf
    refine g_iald h 17 dX8_toldPitch_16 rfl hq2 ?_
    refine g_iconst h 18 ic_m1 dX8_toldPitch_17 rfl ?_
    refine g_icne h 24 21 dX8_toldPitch_18 (by decide) rfl (fun hc => ?_) (fun hc => ?_)
    · have hf := my_ifF hc hf
      refine g_al1 h 25 dX8_toldPitch_24 rfl ?_
      refine g_geta h 28 fF_X8_112_X1 (lyC_X1 hb1) rfl dX8_toldPitch_25 rfl ?_
      refine g_il2 h 29 dX8_toldPitch_28 rfl ?_
      obtain ⟨hq3, hf⟩ := my_chk hf
      refine g_iald h 30 dX8_toldPitch_29 rfl hq3 ?_
      exact g_iret h dX8_toldPitch_30 (my_r1 hf) (my_r2 hf)
    · have hf := my_ifT hc hf
      refine g_bipush h 23 bp_m9 dX8_toldPitch_21 rfl ?_
      exact g_iret h dX8_toldPitch_23 (my_r1 hf) (my_r2 hf)
def f_X8_ofCaller (σ : my_M) (x1 : Int32) (x2 : Int32) : Option (Int32 × my_M) :=
(my_bnd (f_X2_has σ x1) fun r1 σ1 =>
(if r1 = 0 then
some ((-1), σ1)
else
(if my_ix x1 4 then
(if x2 = 0 then
some ((σ1 (3 + (Int32.toNatClampNeg x1)) 0), σ1)
else
(if x2 = 1 then
(my_bnd (f_X1_freeBeats σ1 (Int32.toNatClampNeg x1) (σ1 1 2)) fun r4 σ4 =>
some (r4, σ4))
else
(if x2 = 2 then
(my_bnd (f_X3_isGood σ1 (7 + (Int32.toNatClampNeg x1)) (σ1 1 2)) fun r6 σ6 =>
some ((if r6 = 0 then 0 else 1 : Int32), σ6))
else
(my_bnd (f_X8_isWithin σ1 x2 10 15) fun r8 σ8 =>
(if r8 = 0 then
some ((-2), σ8)
else
(my_bnd (f_X8_toldPitch σ8 (Int32.toNatClampNeg x1) (x2 - 10)) fun r9 σ9 =>
some (r9, σ9)))))))
else none)))
set_option maxRecDepth 100000 in
set_option maxHeartbeats 4000000 in
theorem ct_X8_ofCaller (w : my_V) {σ : my_M} {x1 : Int32} {x2 : Int32} {r : Int32} {τ : my_M} (hf : f_X8_ofCaller σ x1 x2 = some (r, τ)) : Ct w layC mX8_ofCaller 4 [.ref (w.2.2.2 0), .int x1, .int x2] σ (some (.int r)) τ := by
  refine my_met RX8 [some (.ref (w.2.2.2 0)), some (.int x1), some (.int x2), none] 1 (by decide) rfl (Nat.le_of_ble_eq_true rfl) rfl (fun X h => ?_)
  unfold f_X8_ofCaller at hf
  refine g_al0 h 1 dX8_ofCaller_0 rfl ?_
  refine g_geta h 4 fF_X8_12_X8 lyC_0 rfl dX8_ofCaller_1 rfl ?_
  refine g_il1 h 5 dX8_ofCaller_4 rfl ?_
  obtain ⟨r1, σ1, hc1, hf⟩ := my_ofb hf
  refine g_callVi h 8 cs_X8_95 rfl lyC_1 (ct_X2_has w hc1) rfl rfl (Nat.le_of_ble_eq_true rfl) ⟨Nat.le_of_ble_eq_true rfl, Nat.le_of_ble_eq_true rfl⟩ dX8_ofCaller_5 rfl ?_
  refine g_ifne h 13 11 dX8_ofCaller_8 (by decide) rfl (fun hc => ?_) (fun hc => ?_)
  · have hf := my_ifF hc hf
    refine g_al0 h 14 dX8_ofCaller_13 rfl ?_
    refine g_geta h 17 fF_X8_12_X8 lyC_0 rfl dX8_ofCaller_14 rfl ?_
    refine g_geta h 20 fF_X8_98_X2 lyC_1 rfl dX8_ofCaller_17 rfl ?_
    refine g_il1 h 21 dX8_ofCaller_20 rfl ?_
    obtain ⟨hq2, hf⟩ := my_chk hf
    refine g_aald h 22 lyC_2 rfl dX8_ofCaller_21 rfl hq2 ?_
    refine g_as3 h 23 (Nat.le_of_ble_eq_true rfl) rfl dX8_ofCaller_22 rfl ?_
    refine g_il2 h 24 dX8_ofCaller_23 rfl ?_
    by_cases hs3 : x2 = 0
    · have hf := my_ifT hs3 hf
      refine g_tsI (off := 28) h 52 dX8_ofCaller_24 (0) hs3 (by decide) (by decide) rfl (by decide) ?_
      refine g_al3 h 53 dX8_ofCaller_52 rfl ?_
      refine g_geti h 56 fF_X8_101_X1 (lyC_X1 (my_ixlt hq2)) rfl dX8_ofCaller_53 rfl ?_
      exact g_iret h dX8_ofCaller_56 (my_r1 hf) (my_r2 hf)
    · have hf := my_ifF hs3 hf
      by_cases hs5 : x2 = 1
      · have hf := my_ifT hs5 hf
        refine g_tsI (off := 33) h 57 dX8_ofCaller_24 (1) hs5 (by decide) (by decide) rfl (by decide) ?_
        refine g_al3 h 58 dX8_ofCaller_57 rfl ?_
        refine g_al0 h 59 dX8_ofCaller_58 rfl ?_
        refine g_geta h 62 fF_X8_12_X8 lyC_0 rfl dX8_ofCaller_59 rfl ?_
        refine g_geti h 65 fF_X8_106_X2 lyC_1 rfl dX8_ofCaller_62 rfl ?_
        obtain ⟨r4, σ4, hc4, hf⟩ := my_ofb hf
        refine g_callVi h 68 cs_X8_109 rfl (lyC_X1 (my_ixlt hq2)) (ct_X1_freeBeats w hc4) rfl rfl (Nat.le_of_ble_eq_true rfl) ⟨Nat.le_of_ble_eq_true rfl, Nat.le_of_ble_eq_true rfl⟩ dX8_ofCaller_65 rfl ?_
        exact g_iret h dX8_ofCaller_68 (my_r1 hf) (my_r2 hf)
      · have hf := my_ifF hs5 hf
        by_cases hs7 : x2 = 2
        · have hf := my_ifT hs7 hf
          refine g_tsI (off := 45) h 69 dX8_ofCaller_24 (2) hs7 (by decide) (by decide) rfl (by decide) ?_
          refine g_al3 h 70 dX8_ofCaller_69 rfl ?_
          refine g_geta h 73 fF_X8_112_X1 (lyC_X1 (my_ixlt hq2)) rfl dX8_ofCaller_70 rfl ?_
          refine g_al0 h 74 dX8_ofCaller_73 rfl ?_
          refine g_geta h 77 fF_X8_12_X8 lyC_0 rfl dX8_ofCaller_74 rfl ?_
          refine g_geti h 80 fF_X8_106_X2 lyC_1 rfl dX8_ofCaller_77 rfl ?_
          obtain ⟨r6, σ6, hc6, hf⟩ := my_ofb hf
          refine g_callSi h 83 cs_X8_116 (ct_X3_isGood w hc6) rfl rfl (Nat.le_of_ble_eq_true rfl) ⟨Nat.le_of_ble_eq_true rfl, Nat.le_of_ble_eq_true rfl⟩ dX8_ofCaller_80 rfl ?_
          refine g_ifeq_sel h 90 91 dX8_ofCaller_83 (by decide) dX8_ofCaller_86 ic_1 dX8_ofCaller_87 (by decide) dX8_ofCaller_90 ic_0 rfl ?_
          exact g_iret h dX8_ofCaller_91 (my_r1 hf) (my_r2 hf)
        · have hf := my_ifF hs7 hf
          have hs3n := lv_neT (a := 0) hs3 (by decide)
          have hs5n := lv_neT (a := 1) hs5 (by decide)
          have hs7n := lv_neT (a := 2) hs7 (by decide)
          refine g_tsO h 92 dX8_ofCaller_24 (by omega) (by decide) ?_
          refine g_il2 h 93 dX8_ofCaller_92 rfl ?_
          refine g_bipush h 95 bp_10 dX8_ofCaller_93 rfl ?_
          refine g_bipush h 97 bp_15 dX8_ofCaller_95 rfl ?_
          obtain ⟨r8, σ8, hc8, hf⟩ := my_ofb hf
          refine g_callSi h 100 cs_X8_120 (ct_X8_isWithin w hc8) rfl rfl (Nat.le_of_ble_eq_true rfl) ⟨Nat.le_of_ble_eq_true rfl, Nat.le_of_ble_eq_true rfl⟩ dX8_ofCaller_97 rfl ?_
          refine g_ifeq h 115 103 dX8_ofCaller_100 (by decide) rfl (fun hc => ?_) (fun hc => ?_)
          · have hf := my_ifT hc hf
            refine g_bipush h 117 bp_m2 dX8_ofCaller_115 rfl ?_
            exact g_iret h dX8_ofCaller_117 (my_r1 hf) (my_r2 hf)
          · have hf := my_ifF hc hf
            refine g_al0 h 104 dX8_ofCaller_103 rfl ?_
            refine g_al3 h 105 dX8_ofCaller_104 rfl ?_
            refine g_il2 h 106 dX8_ofCaller_105 rfl ?_
            refine g_bipush h 108 bp_10 dX8_ofCaller_106 rfl ?_
            refine g_isub h 109 dX8_ofCaller_108 rfl ?_
            obtain ⟨r9, σ9, hc9, hf⟩ := my_ofb hf
            refine g_callVi h 112 cs_X8_124 rfl lyC_0 (ct_X8_toldPitch w hc9) rfl rfl (Nat.le_of_ble_eq_true rfl) ⟨Nat.le_of_ble_eq_true rfl, Nat.le_of_ble_eq_true rfl⟩ dX8_ofCaller_109 rfl ?_
            refine g_goto h 117 dX8_ofCaller_112 (by decide) ?_
            exact g_iret h dX8_ofCaller_117 (my_r1 hf) (my_r2 hf)
  · have hf := my_ifT hc hf
    refine g_iconst h 12 ic_m1 dX8_ofCaller_11 rfl ?_
    exact g_iret h dX8_ofCaller_12 (my_r1 hf) (my_r2 hf)
def b_X8_peak_0 (k0 : my_M → Int32 → Int32 → Int32 → Int32 → Int32 → Int32 → Option (Int32 × my_M)) (k1 : my_M → Int32 → Int32 → Int32 → Int32 → Int32 → Int32 → Int32 → Option (Int32 × my_M)) (σ : my_M) (x1 : Int32) (x2 : Int32) (x3 : Int32) (x4 : Int32) (x5 : Int32) (x6 : Int32) : Option (Int32 × my_M) :=
(if 5 < x6 then
(if x2 = 0 then
some (x3, σ)
else
(if x2 = 1 then
some (x4, σ)
else
some (x5, σ)))
else
k1 σ x1 x2 x3 x4 x5 x6 ((-5)))
def b_X8_peak_1 (k0 : my_M → Int32 → Int32 → Int32 → Int32 → Int32 → Int32 → Option (Int32 × my_M)) (k1 : my_M → Int32 → Int32 → Int32 → Int32 → Int32 → Int32 → Int32 → Option (Int32 × my_M)) (σ : my_M) (x1 : Int32) (x2 : Int32) (x3 : Int32) (x4 : Int32) (x5 : Int32) (x6 : Int32) (x7 : Int32) : Option (Int32 × my_M) :=
(if 5 < x7 then
k0 σ x1 x2 x3 x4 x5 ((x6 + 1))
else
(if x6 = 0 then
(if x7 = 0 then
(if (-1) ≤ x3 then
k1 σ x1 x2 x3 x4 x5 x6 ((x7 + 1))
else
k1 σ x1 x2 ((-1)) x6 x7 x6 ((x7 + 1)))
else
(my_bnd (f_X2_heard σ x1 x1 x6 x7) fun r2 σ2 =>
(if r2 ≤ x3 then
k1 σ2 x1 x2 x3 x4 x5 x6 ((x7 + 1))
else
k1 σ2 x1 x2 r2 x6 x7 x6 ((x7 + 1)))))
else
(my_bnd (f_X2_heard σ x1 x1 x6 x7) fun r1 σ1 =>
(if r1 ≤ x3 then
k1 σ1 x1 x2 x3 x4 x5 x6 ((x7 + 1))
else
k1 σ1 x1 x2 r1 x6 x7 x6 ((x7 + 1))))))
def g_X8_peak : Nat → (my_M → Int32 → Int32 → Int32 → Int32 → Int32 → Int32 → Option (Int32 × my_M)) × (my_M → Int32 → Int32 → Int32 → Int32 → Int32 → Int32 → Int32 → Option (Int32 × my_M))
  | 0 => (fun _ _ _ _ _ _ _ => none, fun _ _ _ _ _ _ _ _ => none)
  | n + 1 => (b_X8_peak_0 (g_X8_peak n).1 (g_X8_peak n).2, b_X8_peak_1 (g_X8_peak n).1 (g_X8_peak n).2)
def f_X8_peak (σ : my_M) (x1 : Int32) (x2 : Int32) : Option (Int32 × my_M) :=
(my_bnd (f_X2_has σ x1) fun r1 σ1 =>
(if r1 = 0 then
some ((-1), σ1)
else
(my_bnd (f_X8_isWithin σ1 x2 0 2) fun r2 σ2 =>
(if r2 = 0 then
some ((-2), σ2)
else
(g_X8_peak my_NF).1 σ2 x1 x2 ((-1)) 0 0 ((-5))))))
set_option maxRecDepth 100000 in
set_option maxHeartbeats 4000000 in
theorem lp_X8_peak (w : my_V) {X : my_X} {r : Int32} {τ : my_M} (h : my_OK X w layC cX8_peak RX8 9 (some .int)) : ∀ n : Nat, (∀ (σ : my_M) (x1 : Int32) (x2 : Int32) (x3 : Int32) (x4 : Int32) (x5 : Int32) (x6 : Int32), (g_X8_peak n).1 σ x1 x2 x3 x4 x5 x6 = some (r, τ) → Go X w layC 4 9 (some (.int r)) τ σ 37 [some (.ref (w.2.2.2 0)), some (.int x1), some (.int x2), some (.int x3), some (.int x4), some (.int x5), some (.int x6), none, none] []) ∧ (∀ (σ : my_M) (x1 : Int32) (x2 : Int32) (x3 : Int32) (x4 : Int32) (x5 : Int32) (x6 : Int32) (x7 : Int32), (g_X8_peak n).2 σ x1 x2 x3 x4 x5 x6 x7 = some (r, τ) → Go X w layC 4 9 (some (.int r)) τ σ 47 [some (.ref (w.2.2.2 0)), some (.int x1), some (.int x2), some (.int x3), some (.int x4), some (.int x5), some (.int x6), some (.int x7), none] []) := by
  intro n
  induction n with
  | zero => exact ⟨fun _ _ _ _ _ _ _ hf => (my_nn hf).elim, fun _ _ _ _ _ _ _ _ hf => (my_nn hf).elim⟩
  | succ n ih =>
    refine ⟨?_, ?_⟩
    · intro σ x1 x2 x3 x4 x5 x6 hf
      replace hf : b_X8_peak_0 (g_X8_peak n).1 (g_X8_peak n).2 σ x1 x2 x3 x4 x5 x6 = some (r, τ) := hf
      unfold b_X8_peak_0 at hf
      refine g_il6 h 39 dX8_peak_37 rfl ?_
      refine g_iconst h 40 ic_5 dX8_peak_39 rfl ?_
      refine g_icgt h 111 43 dX8_peak_40 (by decide) rfl (fun hc => ?_) (fun hc => ?_)
      · have hf := my_ifT hc hf
        refine g_il2 h 112 dX8_peak_111 rfl ?_
        refine g_ifne h 117 115 dX8_peak_112 (by decide) rfl (fun hc => ?_) (fun hc => ?_)
        · have hf := my_ifF hc hf
          refine g_il2 h 118 dX8_peak_117 rfl ?_
          refine g_iconst h 119 ic_1 dX8_peak_118 rfl ?_
          refine g_icne h 127 122 dX8_peak_119 (by decide) rfl (fun hc => ?_) (fun hc => ?_)
          · have hf := my_ifF hc hf
            refine g_il5 h 129 dX8_peak_127 rfl ?_
            exact g_iret h dX8_peak_129 (my_r1 hf) (my_r2 hf)
          · have hf := my_ifT hc hf
            refine g_il4 h 124 dX8_peak_122 rfl ?_
            refine g_goto h 129 dX8_peak_124 (by decide) ?_
            exact g_iret h dX8_peak_129 (my_r1 hf) (my_r2 hf)
        · have hf := my_ifT hc hf
          refine g_il3 h 116 dX8_peak_115 rfl ?_
          exact g_iret h dX8_peak_116 (my_r1 hf) (my_r2 hf)
      · have hf := my_ifF hc hf
        refine g_bipush h 45 bp_m5 dX8_peak_43 rfl ?_
        refine g_is7 h 47 (Nat.le_of_ble_eq_true rfl) rfl dX8_peak_45 rfl ?_
        exact g_weak (ih.2 _ _ _ _ _ _ _ _ hf) (w_s (w_s (w_s (w_s (w_s (w_s (w_s (w_s (w_s w_0)))))))))
    · intro σ x1 x2 x3 x4 x5 x6 x7 hf
      replace hf : b_X8_peak_1 (g_X8_peak n).1 (g_X8_peak n).2 σ x1 x2 x3 x4 x5 x6 x7 = some (r, τ) := hf
      unfold b_X8_peak_1 at hf
      refine g_il7 h 49 dX8_peak_47 rfl ?_
      refine g_iconst h 50 ic_5 dX8_peak_49 rfl ?_
      refine g_icgt h 105 53 dX8_peak_50 (by decide) rfl (fun hc => ?_) (fun hc => ?_)
      · have hf := my_ifT hc hf
        refine g_inc6 h 108 (my_inc ic_1 _) (Nat.le_of_ble_eq_true rfl) rfl dX8_peak_105 rfl ?_
        refine g_goto h 37 dX8_peak_108 (by decide) ?_
        exact g_weak (ih.1 _ _ _ _ _ _ _ hf) (w_s (w_s (w_s (w_s (w_s (w_s (w_s (w_n (w_s w_0)))))))))
      · have hf := my_ifF hc hf
        refine g_il6 h 55 dX8_peak_53 rfl ?_
        refine g_ifne h 67 58 dX8_peak_55 (by decide) rfl (fun hc => ?_) (fun hc => ?_)
        · have hf := my_ifF hc hf
          refine g_al0 h 68 dX8_peak_67 rfl ?_
          refine g_geta h 71 fF_X8_12_X8 lyC_0 rfl dX8_peak_68 rfl ?_
          refine g_il1 h 72 dX8_peak_71 rfl ?_
          refine g_il1 h 73 dX8_peak_72 rfl ?_
          refine g_il6 h 75 dX8_peak_73 rfl ?_
          refine g_il7 h 77 dX8_peak_75 rfl ?_
          obtain ⟨r1, σ1, hc1, hf⟩ := my_ofb hf
          refine g_callVi h 80 cs_X8_134 rfl lyC_1 (ct_X2_heard w hc1) rfl rfl (Nat.le_of_ble_eq_true rfl) ⟨Nat.le_of_ble_eq_true rfl, Nat.le_of_ble_eq_true rfl⟩ dX8_peak_77 rfl ?_
          refine g_is8 h 82 (Nat.le_of_ble_eq_true rfl) rfl dX8_peak_80 rfl ?_
          refine g_il8 h 84 dX8_peak_82 rfl ?_
          refine g_il3 h 85 dX8_peak_84 rfl ?_
          refine g_icle h 99 88 dX8_peak_85 (by decide) rfl (fun hc => ?_) (fun hc => ?_)
          · have hf := my_ifT hc hf
            refine g_inc7 h 102 (my_inc ic_1 _) (Nat.le_of_ble_eq_true rfl) rfl dX8_peak_99 rfl ?_
            refine g_goto h 47 dX8_peak_102 (by decide) ?_
            exact g_weak (ih.2 _ _ _ _ _ _ _ _ hf) (w_s (w_s (w_s (w_s (w_s (w_s (w_s (w_s (w_n w_0)))))))))
          · have hf := my_ifF hc hf
            refine g_il8 h 90 dX8_peak_88 rfl ?_
            refine g_is3 h 91 (Nat.le_of_ble_eq_true rfl) rfl dX8_peak_90 rfl ?_
            refine g_il6 h 93 dX8_peak_91 rfl ?_
            refine g_is4 h 95 (Nat.le_of_ble_eq_true rfl) rfl dX8_peak_93 rfl ?_
            refine g_il7 h 97 dX8_peak_95 rfl ?_
            refine g_is5 h 99 (Nat.le_of_ble_eq_true rfl) rfl dX8_peak_97 rfl ?_
            refine g_inc7 h 102 (my_inc ic_1 _) (Nat.le_of_ble_eq_true rfl) rfl dX8_peak_99 rfl ?_
            refine g_goto h 47 dX8_peak_102 (by decide) ?_
            exact g_weak (ih.2 _ _ _ _ _ _ _ _ hf) (w_s (w_s (w_s (w_s (w_s (w_s (w_s (w_s (w_n w_0)))))))))
        · have hf := my_ifT hc hf
          refine g_il7 h 60 dX8_peak_58 rfl ?_
          refine g_ifne h 67 63 dX8_peak_60 (by decide) rfl (fun hc => ?_) (fun hc => ?_)
          · have hf := my_ifF hc hf
            refine g_al0 h 68 dX8_peak_67 rfl ?_
            refine g_geta h 71 fF_X8_12_X8 lyC_0 rfl dX8_peak_68 rfl ?_
            refine g_il1 h 72 dX8_peak_71 rfl ?_
            refine g_il1 h 73 dX8_peak_72 rfl ?_
            refine g_il6 h 75 dX8_peak_73 rfl ?_
            refine g_il7 h 77 dX8_peak_75 rfl ?_
            obtain ⟨r2, σ2, hc2, hf⟩ := my_ofb hf
            refine g_callVi h 80 cs_X8_134 rfl lyC_1 (ct_X2_heard w hc2) rfl rfl (Nat.le_of_ble_eq_true rfl) ⟨Nat.le_of_ble_eq_true rfl, Nat.le_of_ble_eq_true rfl⟩ dX8_peak_77 rfl ?_
            refine g_is8 h 82 (Nat.le_of_ble_eq_true rfl) rfl dX8_peak_80 rfl ?_
            refine g_il8 h 84 dX8_peak_82 rfl ?_
            refine g_il3 h 85 dX8_peak_84 rfl ?_
            refine g_icle h 99 88 dX8_peak_85 (by decide) rfl (fun hc => ?_) (fun hc => ?_)
            · have hf := my_ifT hc hf
              refine g_inc7 h 102 (my_inc ic_1 _) (Nat.le_of_ble_eq_true rfl) rfl dX8_peak_99 rfl ?_
              refine g_goto h 47 dX8_peak_102 (by decide) ?_
              exact g_weak (ih.2 _ _ _ _ _ _ _ _ hf) (w_s (w_s (w_s (w_s (w_s (w_s (w_s (w_s (w_n w_0)))))))))
            · have hf := my_ifF hc hf
              refine g_il8 h 90 dX8_peak_88 rfl ?_
              refine g_is3 h 91 (Nat.le_of_ble_eq_true rfl) rfl dX8_peak_90 rfl ?_
              refine g_il6 h 93 dX8_peak_91 rfl ?_
              refine g_is4 h 95 (Nat.le_of_ble_eq_true rfl) rfl dX8_peak_93 rfl ?_
              refine g_il7 h 97 dX8_peak_95 rfl ?_
              refine g_is5 h 99 (Nat.le_of_ble_eq_true rfl) rfl dX8_peak_97 rfl ?_
              refine g_inc7 h 102 (my_inc ic_1 _) (Nat.le_of_ble_eq_true rfl) rfl dX8_peak_99 rfl ?_
              refine g_goto h 47 dX8_peak_102 (by decide) ?_
              exact g_weak (ih.2 _ _ _ _ _ _ _ _ hf) (w_s (w_s (w_s (w_s (w_s (w_s (w_s (w_s (w_n w_0)))))))))
          · have hf := my_ifT hc hf
            refine g_iconst h 64 ic_m1 dX8_peak_63 rfl ?_
            refine g_goto h 80 dX8_peak_64 (by decide) ?_
            refine g_is8 h 82 (Nat.le_of_ble_eq_true rfl) rfl dX8_peak_80 rfl ?_
            refine g_il8 h 84 dX8_peak_82 rfl ?_
            refine g_il3 h 85 dX8_peak_84 rfl ?_
            refine g_icle h 99 88 dX8_peak_85 (by decide) rfl (fun hc => ?_) (fun hc => ?_)
            · have hf := my_ifT hc hf
              refine g_inc7 h 102 (my_inc ic_1 _) (Nat.le_of_ble_eq_true rfl) rfl dX8_peak_99 rfl ?_
              refine g_goto h 47 dX8_peak_102 (by decide) ?_
              exact g_weak (ih.2 _ _ _ _ _ _ _ _ hf) (w_s (w_s (w_s (w_s (w_s (w_s (w_s (w_s (w_n w_0)))))))))
            · have hf := my_ifF hc hf
              refine g_il8 h 90 dX8_peak_88 rfl ?_
              refine g_is3 h 91 (Nat.le_of_ble_eq_true rfl) rfl dX8_peak_90 rfl ?_
              refine g_il6 h 93 dX8_peak_91 rfl ?_
              refine g_is4 h 95 (Nat.le_of_ble_eq_true rfl) rfl dX8_peak_93 rfl ?_
              refine g_il7 h 97 dX8_peak_95 rfl ?_
              refine g_is5 h 99 (Nat.le_of_ble_eq_true rfl) rfl dX8_peak_97 rfl ?_
              refine g_inc7 h 102 (my_inc ic_1 _) (Nat.le_of_ble_eq_true rfl) rfl dX8_peak_99 rfl ?_
              refine g_goto h 47 dX8_peak_102 (by decide) ?_
              exact g_weak (ih.2 _ _ _ _ _ _ _ _ hf) (w_s (w_s (w_s (w_s (w_s (w_s (w_s (w_s (w_n w_0)))))))))
set_option maxRecDepth 100000 in
set_option maxHeartbeats 4000000 in
theorem ct_X8_peak (w : my_V) {σ : my_M} {x1 : Int32} {x2 : Int32} {r : Int32} {τ : my_M} (hf : f_X8_peak σ x1 x2 = some (r, τ)) : Ct w layC mX8_peak 4 [.ref (w.2.2.2 0), .int x1, .int x2] σ (some (.int r)) τ := by
  refine my_met RX8 [some (.ref (w.2.2.2 0)), some (.int x1), some (.int x2), none, none, none, none, none, none] 6 (by decide) rfl (Nat.le_of_ble_eq_true rfl) rfl (fun X h => ?_)
  unfold f_X8_peak at hf
  refine g_al0 h 1 dX8_peak_0 rfl ?_
  refine g_geta h 4 fF_X8_12_X8 lyC_0 rfl dX8_peak_1 rfl ?_
  refine g_il1 h 5 dX8_peak_4 rfl ?_
  obtain ⟨r1, σ1, hc1, hf⟩ := my_ofb hf
  refine g_callVi h 8 cs_X8_95 rfl lyC_1 (ct_X2_has w hc1) rfl rfl (Nat.le_of_ble_eq_true rfl) ⟨Nat.le_of_ble_eq_true rfl, Nat.le_of_ble_eq_true rfl⟩ dX8_peak_5 rfl ?_
  refine g_ifne h 13 11 dX8_peak_8 (by decide) rfl (fun hc => ?_) (fun hc => ?_)
  · have hf := my_ifF hc hf
    refine g_il2 h 14 dX8_peak_13 rfl ?_
    refine g_iconst h 15 ic_0 dX8_peak_14 rfl ?_
    refine g_iconst h 16 ic_2 dX8_peak_15 rfl ?_
    obtain ⟨r2, σ2, hc2, hf⟩ := my_ofb hf
    refine g_callSi h 19 cs_X8_120 (ct_X8_isWithin w hc2) rfl rfl (Nat.le_of_ble_eq_true rfl) ⟨Nat.le_of_ble_eq_true rfl, Nat.le_of_ble_eq_true rfl⟩ dX8_peak_16 rfl ?_
    refine g_ifne h 25 22 dX8_peak_19 (by decide) rfl (fun hc => ?_) (fun hc => ?_)
    · have hf := my_ifF hc hf
      refine g_iconst h 26 ic_m1 dX8_peak_25 rfl ?_
      refine g_is3 h 27 (Nat.le_of_ble_eq_true rfl) rfl dX8_peak_26 rfl ?_
      refine g_iconst h 28 ic_0 dX8_peak_27 rfl ?_
      refine g_is4 h 30 (Nat.le_of_ble_eq_true rfl) rfl dX8_peak_28 rfl ?_
      refine g_iconst h 31 ic_0 dX8_peak_30 rfl ?_
      refine g_is5 h 33 (Nat.le_of_ble_eq_true rfl) rfl dX8_peak_31 rfl ?_
      refine g_bipush h 35 bp_m5 dX8_peak_33 rfl ?_
      refine g_is6 h 37 (Nat.le_of_ble_eq_true rfl) rfl dX8_peak_35 rfl ?_
      exact g_weak ((lp_X8_peak w h my_NF).1 _ _ _ _ _ _ _ hf) (w_s (w_s (w_s (w_s (w_s (w_s (w_s (w_s (w_s w_0)))))))))
    · have hf := my_ifT hc hf
      refine g_bipush h 24 bp_m2 dX8_peak_22 rfl ?_
      exact g_iret h dX8_peak_24 (my_r1 hf) (my_r2 hf)
  · have hf := my_ifT hc hf
    refine g_iconst h 12 ic_m1 dX8_peak_11 rfl ?_
    exact g_iret h dX8_peak_12 (my_r1 hf) (my_r2 hf)
def b_X8_pitches_0 (k0 : my_M → Int32 → Nat → Int32 → Int32 → Int32 → Option (Int32 × my_M)) (σ : my_M) (x2 : Int32) (a3 : Nat) (x4 : Int32) (x5 : Int32) (x6 : Int32) : Option (Int32 × my_M) :=
(if (σ 1 2) ≤ x6 then
(if my_ix x2 (my_len layC a3) then
some (x5, (my_up σ a3 (Int32.toNatClampNeg x2) x4))
else none)
else
(if my_ix x2 (my_len layC a3) then
(my_bnd (f_X5_areSo (my_up σ a3 (Int32.toNatClampNeg x2) x6)) fun r3 σ3 =>
(if r3 = 0 then
k0 σ3 x2 a3 x4 x5 ((x6 + 1))
else
k0 σ3 x2 a3 x4 ((x5 ||| (1 <<< (x6 &&& 31)))) ((x6 + 1))))
else none))
def g_X8_pitches : Nat → my_M → Int32 → Nat → Int32 → Int32 → Int32 → Option (Int32 × my_M)
  | 0 => fun _ _ _ _ _ _ => none
  | n + 1 => b_X8_pitches_0 (g_X8_pitches n)
def f_X8_pitches (σ : my_M) (x1 : Int32) (x2 : Int32) : Option (Int32 × my_M) :=
(my_bnd (f_X2_has σ x1) fun r1 σ1 =>
(if r1 = 0 then
some ((-1), σ1)
else
(my_bnd (f_X2_hasBeat σ1 x2) fun r2 σ2 =>
(if r2 = 0 then
some ((-1), σ2)
else
(if my_ix x1 4 then
(if my_ix x2 (my_len layC (7 + (Int32.toNatClampNeg x1))) then
(g_X8_pitches my_NF) σ2 x2 ((7 + (Int32.toNatClampNeg x1))) ((σ2 (7 + (Int32.toNatClampNeg x1)) (Int32.toNatClampNeg x2))) 0 0
else none)
else none)))))
set_option maxRecDepth 100000 in
set_option maxHeartbeats 4000000 in
theorem lp_X8_pitches (w : my_V) {X : my_X} {r : Int32} {τ : my_M} (h : my_OK X w layC cX8_pitches RX8 7 (some .int)) : ∀ n : Nat, (∀ (σ : my_M) (x2 : Int32) (a3 : Nat) (x4 : Int32) (x5 : Int32) (x6 : Int32), (g_X8_pitches n) σ x2 a3 x4 x5 x6 = some (r, τ) → Go X w layC 5 7 (some (.int r)) τ σ 48 [some (.ref (w.2.2.2 0)), none, some (.int x2), some (.ref (w.2.2.2 a3)), some (.int x4), some (.int x5), some (.int x6)] []) := by
  intro n
  induction n with
  | zero => exact fun _ _ _ _ _ _ hf => (my_nn hf).elim
  | succ n ih =>
    intro σ x2 a3 x4 x5 x6 hf
    replace hf : b_X8_pitches_0 (g_X8_pitches n) σ x2 a3 x4 x5 x6 = some (r, τ) := hf
    unfold b_X8_pitches_0 at hf
    refine g_il6 h 50 dX8_pitches_48 rfl ?_
    refine g_al0 h 51 dX8_pitches_50 rfl ?_
    refine g_geta h 54 fF_X8_12_X8 lyC_0 rfl dX8_pitches_51 rfl ?_
    refine g_geti h 57 fF_X8_106_X2 lyC_1 rfl dX8_pitches_54 rfl ?_
    refine g_icge h 94 60 dX8_pitches_57 (by decide) rfl (fun hc => ?_) (fun hc => ?_)
    · have hf := my_ifT hc hf
      refine g_al3 h 95 dX8_pitches_94 rfl ?_
      refine g_il2 h 96 dX8_pitches_95 rfl ?_
      refine g_il4 h 98 dX8_pitches_96 rfl ?_
      obtain ⟨hq1, hf⟩ := my_chk hf
      refine g_iast h 99 dX8_pitches_98 rfl hq1 ?_
      refine g_il5 h 101 dX8_pitches_99 rfl ?_
      exact g_iret h dX8_pitches_101 (my_r1 hf) (my_r2 hf)
    · have hf := my_ifF hc hf
      refine g_al3 h 61 dX8_pitches_60 rfl ?_
      refine g_il2 h 62 dX8_pitches_61 rfl ?_
      refine g_il6 h 64 dX8_pitches_62 rfl ?_
      obtain ⟨hq2, hf⟩ := my_chk hf
      refine g_iast h 65 dX8_pitches_64 rfl hq2 ?_
      refine g_al0 h 66 dX8_pitches_65 rfl ?_
      refine g_geta h 69 fF_X8_31_X8 lyC_0 rfl dX8_pitches_66 rfl ?_
      refine g_al0 h 70 dX8_pitches_69 rfl ?_
      refine g_geta h 73 fF_X8_12_X8 lyC_0 rfl dX8_pitches_70 rfl ?_
      obtain ⟨r3, σ3, hc3, hf⟩ := my_ofb hf
      refine g_callVi h 76 cs_X8_204 rfl lyC_21 (ct_X5_areSo w hc3) rfl rfl (Nat.le_of_ble_eq_true rfl) ⟨Nat.le_of_ble_eq_true rfl, Nat.le_of_ble_eq_true rfl⟩ dX8_pitches_73 rfl ?_
      refine g_ifeq h 88 79 dX8_pitches_76 (by decide) rfl (fun hc => ?_) (fun hc => ?_)
      · have hf := my_ifT hc hf
        refine g_inc6 h 91 (my_inc ic_1 _) (Nat.le_of_ble_eq_true rfl) rfl dX8_pitches_88 rfl ?_
        refine g_goto h 48 dX8_pitches_91 (by decide) ?_
        exact g_weak (ih _ _ _ _ _ _ hf) (w_s (w_s (w_s (w_s (w_s (w_s (w_s w_0)))))))
      · have hf := my_ifF hc hf
        refine g_il5 h 81 dX8_pitches_79 rfl ?_
        refine g_iconst h 82 ic_1 dX8_pitches_81 rfl ?_
        refine g_il6 h 84 dX8_pitches_82 rfl ?_
        refine g_ishl h 85 dX8_pitches_84 rfl ?_
        refine g_ior h 86 dX8_pitches_85 rfl ?_
        refine g_is5 h 88 (Nat.le_of_ble_eq_true rfl) rfl dX8_pitches_86 rfl ?_
        refine g_inc6 h 91 (my_inc ic_1 _) (Nat.le_of_ble_eq_true rfl) rfl dX8_pitches_88 rfl ?_
        refine g_goto h 48 dX8_pitches_91 (by decide) ?_
        exact g_weak (ih _ _ _ _ _ _ hf) (w_s (w_s (w_s (w_s (w_s (w_s (w_s w_0)))))))
set_option maxRecDepth 100000 in
set_option maxHeartbeats 4000000 in
theorem ct_X8_pitches (w : my_V) {σ : my_M} {x1 : Int32} {x2 : Int32} {r : Int32} {τ : my_M} (hf : f_X8_pitches σ x1 x2 = some (r, τ)) : Ct w layC mX8_pitches 5 [.ref (w.2.2.2 0), .int x1, .int x2] σ (some (.int r)) τ := by
  refine my_met RX8 [some (.ref (w.2.2.2 0)), some (.int x1), some (.int x2), none, none, none, none] 4 (by decide) rfl (Nat.le_of_ble_eq_true rfl) rfl (fun X h => ?_)
  unfold f_X8_pitches at hf
  refine g_al0 h 1 dX8_pitches_0 rfl ?_
  refine g_geta h 4 fF_X8_12_X8 lyC_0 rfl dX8_pitches_1 rfl ?_
  refine g_il1 h 5 dX8_pitches_4 rfl ?_
  obtain ⟨r1, σ1, hc1, hf⟩ := my_ofb hf
  refine g_callVi h 8 cs_X8_95 rfl lyC_1 (ct_X2_has w hc1) rfl rfl (Nat.le_of_ble_eq_true rfl) ⟨Nat.le_of_ble_eq_true rfl, Nat.le_of_ble_eq_true rfl⟩ dX8_pitches_5 rfl ?_
  refine g_ifeq h 22 11 dX8_pitches_8 (by decide) rfl (fun hc => ?_) (fun hc => ?_)
  · have hf := my_ifT hc hf
    refine g_iconst h 23 ic_m1 dX8_pitches_22 rfl ?_
    exact g_iret h dX8_pitches_23 (my_r1 hf) (my_r2 hf)
  · have hf := my_ifF hc hf
    refine g_al0 h 12 dX8_pitches_11 rfl ?_
    refine g_geta h 15 fF_X8_12_X8 lyC_0 rfl dX8_pitches_12 rfl ?_
    refine g_il2 h 16 dX8_pitches_15 rfl ?_
    obtain ⟨r2, σ2, hc2, hf⟩ := my_ofb hf
    refine g_callVi h 19 cs_X8_128 rfl lyC_1 (ct_X2_hasBeat w hc2) rfl rfl (Nat.le_of_ble_eq_true rfl) ⟨Nat.le_of_ble_eq_true rfl, Nat.le_of_ble_eq_true rfl⟩ dX8_pitches_16 rfl ?_
    refine g_ifne h 24 22 dX8_pitches_19 (by decide) rfl (fun hc => ?_) (fun hc => ?_)
    · have hf := my_ifF hc hf
      refine g_al0 h 25 dX8_pitches_24 rfl ?_
      refine g_geta h 28 fF_X8_12_X8 lyC_0 rfl dX8_pitches_25 rfl ?_
      refine g_geta h 31 fF_X8_98_X2 lyC_1 rfl dX8_pitches_28 rfl ?_
      refine g_il1 h 32 dX8_pitches_31 rfl ?_
      obtain ⟨hq3, hf⟩ := my_chk hf
      refine g_aald h 33 lyC_2 rfl dX8_pitches_32 rfl hq3 ?_
      refine g_geta h 36 fF_X8_112_X1 (lyC_X1 (my_ixlt hq3)) rfl dX8_pitches_33 rfl ?_
      refine g_as3 h 37 (Nat.le_of_ble_eq_true rfl) rfl dX8_pitches_36 rfl ?_
      refine g_al3 h 38 dX8_pitches_37 rfl ?_
      refine g_il2 h 39 dX8_pitches_38 rfl ?_
      obtain ⟨hq4, hf⟩ := my_chk hf
      refine g_iald h 40 dX8_pitches_39 rfl hq4 ?_
      refine g_is4 h 42 (Nat.le_of_ble_eq_true rfl) rfl dX8_pitches_40 rfl ?_
      refine g_iconst h 43 ic_0 dX8_pitches_42 rfl ?_
      refine g_is5 h 45 (Nat.le_of_ble_eq_true rfl) rfl dX8_pitches_43 rfl ?_
      refine g_iconst h 46 ic_0 dX8_pitches_45 rfl ?_
      refine g_is6 h 48 (Nat.le_of_ble_eq_true rfl) rfl dX8_pitches_46 rfl ?_
      exact g_weak ((lp_X8_pitches w h my_NF) _ _ _ _ _ _ hf) (w_s (w_n (w_s (w_s (w_s (w_s (w_s w_0)))))))
    · have hf := my_ifT hc hf
      refine g_iconst h 23 ic_m1 dX8_pitches_22 rfl ?_
      exact g_iret h dX8_pitches_23 (my_r1 hf) (my_r2 hf)
def f_X8_put (σ : my_M) (x1 : Int32) (x2 : Int32) (x3 : Int32) : Option (Int32 × my_M) :=
(my_bnd (f_X8_isSheet (my_up σ 0 8 0) x1) fun r1 σ1 =>
(if r1 = 0 then
some ((-1), σ1)
else
(if my_ix x1 4 then
(if (σ1 (32 + (Int32.toNatClampNeg x1)) 0) = 0 then
(my_bnd (f_X8_faulted σ1 1) fun r8 σ8 =>
some (r8, σ8))
else
(if my_ix x1 4 then
(my_bnd (f_X6_holds σ1 (Int32.toNatClampNeg x1) x2 1) fun r4 σ4 =>
(if r4 = 0 then
(my_bnd (f_X8_faulted σ4 3) fun r7 σ7 =>
some (r7, σ7))
else
(if my_ix x1 4 then
(my_bnd (f_X6_write σ4 (Int32.toNatClampNeg x1) x2 x3) fun r6 σ6 =>
some (1, σ6))
else none)))
else none))
else none)))
set_option maxRecDepth 100000 in
set_option maxHeartbeats 4000000 in
theorem ct_X8_put (w : my_V) {σ : my_M} {x1 : Int32} {x2 : Int32} {x3 : Int32} {r : Int32} {τ : my_M} (hf : f_X8_put σ x1 x2 x3 = some (r, τ)) : Ct w layC mX8_put 3 [.ref (w.2.2.2 0), .int x1, .int x2, .int x3] σ (some (.int r)) τ := by
  refine my_met RX8 [some (.ref (w.2.2.2 0)), some (.int x1), some (.int x2), some (.int x3)] 0 (by decide) rfl (Nat.le_of_ble_eq_true rfl) rfl (fun X h => ?_)
  unfold f_X8_put at hf
  refine g_al0 h 1 dX8_put_0 rfl ?_
  refine g_iconst h 2 ic_0 dX8_put_1 rfl ?_
  refine g_puti h 5 fP_X8_56_X8 lyC_0 rfl dX8_put_2 rfl ?_
  refine g_il1 h 6 dX8_put_5 rfl ?_
  obtain ⟨r1, σ1, hc1, hf⟩ := my_ofb hf
  refine g_callSi h 9 cs_X8_60 (ct_X8_isSheet w hc1) rfl rfl (Nat.le_of_ble_eq_true rfl) ⟨Nat.le_of_ble_eq_true rfl, Nat.le_of_ble_eq_true rfl⟩ dX8_put_6 rfl ?_
  refine g_ifne h 14 12 dX8_put_9 (by decide) rfl (fun hc => ?_) (fun hc => ?_)
  · have hf := my_ifF hc hf
    refine g_al0 h 15 dX8_put_14 rfl ?_
    refine g_geta h 18 fF_X8_51_X8 lyC_0 rfl dX8_put_15 rfl ?_
    refine g_il1 h 19 dX8_put_18 rfl ?_
    obtain ⟨hq2, hf⟩ := my_chk hf
    refine g_aald h 20 lyC_31 rfl dX8_put_19 rfl hq2 ?_
    refine g_geti h 23 fF_X8_217_X6 (lyC_X6 (my_ixlt hq2)) rfl dX8_put_20 rfl ?_
    refine g_ifne h 32 26 dX8_put_23 (by decide) rfl (fun hc => ?_) (fun hc => ?_)
    · have hf := my_ifF hc hf
      refine g_al0 h 33 dX8_put_32 rfl ?_
      refine g_geta h 36 fF_X8_51_X8 lyC_0 rfl dX8_put_33 rfl ?_
      refine g_il1 h 37 dX8_put_36 rfl ?_
      obtain ⟨hq3, hf⟩ := my_chk hf
      refine g_aald h 38 lyC_31 rfl dX8_put_37 rfl hq3 ?_
      refine g_il2 h 39 dX8_put_38 rfl ?_
      refine g_iconst h 40 ic_1 dX8_put_39 rfl ?_
      obtain ⟨r4, σ4, hc4, hf⟩ := my_ofb hf
      refine g_callVi h 43 cs_X8_220 rfl (lyC_X6 (my_ixlt hq3)) (ct_X6_holds w hc4) rfl rfl (Nat.le_of_ble_eq_true rfl) ⟨Nat.le_of_ble_eq_true rfl, Nat.le_of_ble_eq_true rfl⟩ dX8_put_40 rfl ?_
      refine g_ifne h 52 46 dX8_put_43 (by decide) rfl (fun hc => ?_) (fun hc => ?_)
      · have hf := my_ifF hc hf
        refine g_al0 h 53 dX8_put_52 rfl ?_
        refine g_geta h 56 fF_X8_51_X8 lyC_0 rfl dX8_put_53 rfl ?_
        refine g_il1 h 57 dX8_put_56 rfl ?_
        obtain ⟨hq5, hf⟩ := my_chk hf
        refine g_aald h 58 lyC_31 rfl dX8_put_57 rfl hq5 ?_
        refine g_il2 h 59 dX8_put_58 rfl ?_
        refine g_il3 h 60 dX8_put_59 rfl ?_
        obtain ⟨r6, σ6, hc6, hf⟩ := my_ofb hf
        refine g_callVv h 63 cs_X8_224 rfl (lyC_X6 (my_ixlt hq5)) (ct_X6_write w hc6) rfl rfl (Nat.le_of_ble_eq_true rfl) ⟨Nat.le_of_ble_eq_true rfl, Nat.le_of_ble_eq_true rfl⟩ dX8_put_60 rfl ?_
        refine g_iconst h 64 ic_1 dX8_put_63 rfl ?_
        exact g_iret h dX8_put_64 (my_r1 hf) (my_r2 hf)
      · have hf := my_ifT hc hf
        refine g_al0 h 47 dX8_put_46 rfl ?_
        refine g_iconst h 48 ic_3 dX8_put_47 rfl ?_
        obtain ⟨r7, σ7, hc7, hf⟩ := my_ofb hf
        refine g_callVi h 51 cs_X8_71 rfl lyC_0 (ct_X8_faulted w hc7) rfl rfl (Nat.le_of_ble_eq_true rfl) ⟨Nat.le_of_ble_eq_true rfl, Nat.le_of_ble_eq_true rfl⟩ dX8_put_48 rfl ?_
        exact g_iret h dX8_put_51 (my_r1 hf) (my_r2 hf)
    · have hf := my_ifT hc hf
      refine g_al0 h 27 dX8_put_26 rfl ?_
      refine g_iconst h 28 ic_1 dX8_put_27 rfl ?_
      obtain ⟨r8, σ8, hc8, hf⟩ := my_ofb hf
      refine g_callVi h 31 cs_X8_71 rfl lyC_0 (ct_X8_faulted w hc8) rfl rfl (Nat.le_of_ble_eq_true rfl) ⟨Nat.le_of_ble_eq_true rfl, Nat.le_of_ble_eq_true rfl⟩ dX8_put_28 rfl ?_
      exact g_iret h dX8_put_31 (my_r1 hf) (my_r2 hf)
  · have hf := my_ifT hc hf
    refine g_iconst h 13 ic_m1 dX8_put_12 rfl ?_
    exact g_iret h dX8_put_13 (my_r1 hf) (my_r2 hf)
def f_X8_reading (σ : my_M) (x1 : Int32) (x2 : Int32) (x3 : Int32) (x4 : Int32) (x5 : Int32) : Option (Int32 × my_M) :=
(my_bnd (f_X2_has σ x1) fun r1 σ1 =>
(if r1 = 0 then
some ((-1), σ1)
else
(my_bnd (f_X2_has σ1 x2) fun r2 σ2 =>
(if r2 = 0 then
some ((-1), σ2)
else
(my_bnd (f_X8_isShift σ2 x3) fun r3 σ3 =>
(if r3 = 0 then
some ((-2), σ3)
else
(my_bnd (f_X8_isShift σ3 x4) fun r4 σ4 =>
(if r4 = 0 then
some ((-2), σ4)
else
(my_bnd (f_X8_isWithin σ4 x5 0 20) fun r5 σ5 =>
(if r5 = 0 then
some ((-2), σ5)
else
(my_bnd (f_X5_add σ5 x1 x2 x3 x4 x5) fun r6 σ6 =>
(if r6 = 0 then
some ((-4), σ6)
else
some (((σ6 21 0) - 1), σ6)))))))))))))
set_option maxRecDepth 100000 in
set_option maxHeartbeats 4000000 in
theorem ct_X8_reading (w : my_V) {σ : my_M} {x1 : Int32} {x2 : Int32} {x3 : Int32} {x4 : Int32} {x5 : Int32} {r : Int32} {τ : my_M} (hf : f_X8_reading σ x1 x2 x3 x4 x5 = some (r, τ)) : Ct w layC mX8_reading 3 [.ref (w.2.2.2 0), .int x1, .int x2, .int x3, .int x4, .int x5] σ (some (.int r)) τ := by
  refine my_met RX8 [some (.ref (w.2.2.2 0)), some (.int x1), some (.int x2), some (.int x3), some (.int x4), some (.int x5)] 0 (by decide) rfl (Nat.le_of_ble_eq_true rfl) rfl (fun X h => ?_)
  unfold f_X8_reading at hf
  refine g_al0 h 1 dX8_reading_0 rfl ?_
  refine g_geta h 4 fF_X8_12_X8 lyC_0 rfl dX8_reading_1 rfl ?_
  refine g_il1 h 5 dX8_reading_4 rfl ?_
  obtain ⟨r1, σ1, hc1, hf⟩ := my_ofb hf
  refine g_callVi h 8 cs_X8_95 rfl lyC_1 (ct_X2_has w hc1) rfl rfl (Nat.le_of_ble_eq_true rfl) ⟨Nat.le_of_ble_eq_true rfl, Nat.le_of_ble_eq_true rfl⟩ dX8_reading_5 rfl ?_
  refine g_ifeq h 22 11 dX8_reading_8 (by decide) rfl (fun hc => ?_) (fun hc => ?_)
  · have hf := my_ifT hc hf
    refine g_iconst h 23 ic_m1 dX8_reading_22 rfl ?_
    exact g_iret h dX8_reading_23 (my_r1 hf) (my_r2 hf)
  · have hf := my_ifF hc hf
    refine g_al0 h 12 dX8_reading_11 rfl ?_
    refine g_geta h 15 fF_X8_12_X8 lyC_0 rfl dX8_reading_12 rfl ?_
    refine g_il2 h 16 dX8_reading_15 rfl ?_
    obtain ⟨r2, σ2, hc2, hf⟩ := my_ofb hf
    refine g_callVi h 19 cs_X8_95 rfl lyC_1 (ct_X2_has w hc2) rfl rfl (Nat.le_of_ble_eq_true rfl) ⟨Nat.le_of_ble_eq_true rfl, Nat.le_of_ble_eq_true rfl⟩ dX8_reading_16 rfl ?_
    refine g_ifne h 24 22 dX8_reading_19 (by decide) rfl (fun hc => ?_) (fun hc => ?_)
    · have hf := my_ifF hc hf
      refine g_il3 h 25 dX8_reading_24 rfl ?_
      obtain ⟨r3, σ3, hc3, hf⟩ := my_ofb hf
      refine g_callSi h 28 cs_X8_131 (ct_X8_isShift w hc3) rfl rfl (Nat.le_of_ble_eq_true rfl) ⟨Nat.le_of_ble_eq_true rfl, Nat.le_of_ble_eq_true rfl⟩ dX8_reading_25 rfl ?_
      refine g_ifeq h 50 31 dX8_reading_28 (by decide) rfl (fun hc => ?_) (fun hc => ?_)
      · have hf := my_ifT hc hf
        refine g_bipush h 52 bp_m2 dX8_reading_50 rfl ?_
        exact g_iret h dX8_reading_52 (my_r1 hf) (my_r2 hf)
      · have hf := my_ifF hc hf
        refine g_il4 h 33 dX8_reading_31 rfl ?_
        obtain ⟨r4, σ4, hc4, hf⟩ := my_ofb hf
        refine g_callSi h 36 cs_X8_131 (ct_X8_isShift w hc4) rfl rfl (Nat.le_of_ble_eq_true rfl) ⟨Nat.le_of_ble_eq_true rfl, Nat.le_of_ble_eq_true rfl⟩ dX8_reading_33 rfl ?_
        refine g_ifeq h 50 39 dX8_reading_36 (by decide) rfl (fun hc => ?_) (fun hc => ?_)
        · have hf := my_ifT hc hf
          refine g_bipush h 52 bp_m2 dX8_reading_50 rfl ?_
          exact g_iret h dX8_reading_52 (my_r1 hf) (my_r2 hf)
        · have hf := my_ifF hc hf
          refine g_il5 h 41 dX8_reading_39 rfl ?_
          refine g_iconst h 42 ic_0 dX8_reading_41 rfl ?_
          refine g_bipush h 44 bp_20 dX8_reading_42 rfl ?_
          obtain ⟨r5, σ5, hc5, hf⟩ := my_ofb hf
          refine g_callSi h 47 cs_X8_120 (ct_X8_isWithin w hc5) rfl rfl (Nat.le_of_ble_eq_true rfl) ⟨Nat.le_of_ble_eq_true rfl, Nat.le_of_ble_eq_true rfl⟩ dX8_reading_44 rfl ?_
          refine g_ifne h 53 50 dX8_reading_47 (by decide) rfl (fun hc => ?_) (fun hc => ?_)
          · have hf := my_ifF hc hf
            refine g_al0 h 54 dX8_reading_53 rfl ?_
            refine g_geta h 57 fF_X8_31_X8 lyC_0 rfl dX8_reading_54 rfl ?_
            refine g_il1 h 58 dX8_reading_57 rfl ?_
            refine g_il2 h 59 dX8_reading_58 rfl ?_
            refine g_il3 h 60 dX8_reading_59 rfl ?_
            refine g_il4 h 62 dX8_reading_60 rfl ?_
            refine g_il5 h 64 dX8_reading_62 rfl ?_
            obtain ⟨r6, σ6, hc6, hf⟩ := my_ofb hf
            refine g_callVi h 67 cs_X8_200 rfl lyC_21 (ct_X5_add w hc6) rfl rfl (Nat.le_of_ble_eq_true rfl) ⟨Nat.le_of_ble_eq_true rfl, Nat.le_of_ble_eq_true rfl⟩ dX8_reading_64 rfl ?_
            refine g_ifeq h 82 70 dX8_reading_67 (by decide) rfl (fun hc => ?_) (fun hc => ?_)
            · have hf := my_ifT hc hf
              refine g_bipush h 84 bp_m4 dX8_reading_82 rfl ?_
              exact g_iret h dX8_reading_84 (my_r1 hf) (my_r2 hf)
            · have hf := my_ifF hc hf
              refine g_al0 h 71 dX8_reading_70 rfl ?_
              refine g_geta h 74 fF_X8_31_X8 lyC_0 rfl dX8_reading_71 rfl ?_
              refine g_geti h 77 fF_X8_93_X5 lyC_21 rfl dX8_reading_74 rfl ?_
              refine g_iconst h 78 ic_1 dX8_reading_77 rfl ?_
              refine g_isub h 79 dX8_reading_78 rfl ?_
              refine g_goto h 84 dX8_reading_79 (by decide) ?_
              exact g_iret h dX8_reading_84 (my_r1 hf) (my_r2 hf)
          · have hf := my_ifT hc hf
            refine g_bipush h 52 bp_m2 dX8_reading_50 rfl ?_
            exact g_iret h dX8_reading_52 (my_r1 hf) (my_r2 hf)
    · have hf := my_ifT hc hf
      refine g_iconst h 23 ic_m1 dX8_reading_22 rfl ?_
      exact g_iret h dX8_reading_23 (my_r1 hf) (my_r2 hf)
def f_X8_rows (σ : my_M) : Option (Int32 × my_M) :=
(if (σ 1 1) = 0 then
some ((-3), σ)
else
(my_bnd (f_X3_makeFor σ (σ 1 2)) fun r1 σ1 =>
some ((σ1 27 1), σ1)))
set_option maxRecDepth 100000 in
set_option maxHeartbeats 4000000 in
theorem ct_X8_rows (w : my_V) {σ : my_M} {r : Int32} {τ : my_M} (hf : f_X8_rows σ = some (r, τ)) : Ct w layC mX8_rows 12 [.ref (w.2.2.2 0)] σ (some (.int r)) τ := by
  refine my_met RX8 [some (.ref (w.2.2.2 0))] 0 (by decide) rfl (Nat.le_of_ble_eq_true rfl) rfl (fun X h => ?_)
  unfold f_X8_rows at hf
  refine g_al0 h 1 dX8_rows_0 rfl ?_
  refine g_geta h 4 fF_X8_12_X8 lyC_0 rfl dX8_rows_1 rfl ?_
  refine g_geti h 7 fF_X8_94_X2 lyC_1 rfl dX8_rows_4 rfl ?_
  refine g_ifne h 13 10 dX8_rows_7 (by decide) rfl (fun hc => ?_) (fun hc => ?_)
  · have hf := my_ifF hc hf
    refine g_al0 h 14 dX8_rows_13 rfl ?_
    refine g_geta h 17 fF_X8_38_X8 lyC_0 rfl dX8_rows_14 rfl ?_
    refine g_al0 h 18 dX8_rows_17 rfl ?_
    refine g_geta h 21 fF_X8_12_X8 lyC_0 rfl dX8_rows_18 rfl ?_
    refine g_geti h 24 fF_X8_106_X2 lyC_1 rfl dX8_rows_21 rfl ?_
    obtain ⟨r1, σ1, hc1, hf⟩ := my_ofb hf
    refine g_callVv h 27 cs_X8_182 rfl lyC_27 (ct_X3_makeFor w hc1) rfl rfl (Nat.le_of_ble_eq_true rfl) ⟨Nat.le_of_ble_eq_true rfl, Nat.le_of_ble_eq_true rfl⟩ dX8_rows_24 rfl ?_
    refine g_al0 h 28 dX8_rows_27 rfl ?_
    refine g_geta h 31 fF_X8_38_X8 lyC_0 rfl dX8_rows_28 rfl ?_
    refine g_geti h 34 fF_X8_186_X3 lyC_27 rfl dX8_rows_31 rfl ?_
    exact g_iret h dX8_rows_34 (my_r1 hf) (my_r2 hf)
  · have hf := my_ifT hc hf
    refine g_bipush h 12 bp_m3 dX8_rows_10 rfl ?_
    exact g_iret h dX8_rows_12 (my_r1 hf) (my_r2 hf)
def f_X8_send (σ : my_M) (x1 : Int32) (x2 : Int32) (x3 : Int32) : Option (Int32 × my_M) :=
(my_bnd (f_X2_has σ x1) fun r1 σ1 =>
(if r1 = 0 then
some ((-1), σ1)
else
(my_bnd (f_X8_isWithin σ1 x2 0 20) fun r2 σ2 =>
(if r2 = 0 then
some ((-2), σ2)
else
(my_bnd (f_X8_isWithin σ2 x3 0 5) fun r3 σ3 =>
(if r3 = 0 then
some ((-2), σ3)
else
(my_bnd (f_X0_add σ3 0 x1 x2 x3) fun r4 σ4 =>
(if r4 = 0 then
some ((-4), σ4)
else
some (((σ4 11 0) - 1), σ4)))))))))
set_option maxRecDepth 100000 in
set_option maxHeartbeats 4000000 in
theorem ct_X8_send (w : my_V) {σ : my_M} {x1 : Int32} {x2 : Int32} {x3 : Int32} {r : Int32} {τ : my_M} (hf : f_X8_send σ x1 x2 x3 = some (r, τ)) : Ct w layC mX8_send 3 [.ref (w.2.2.2 0), .int x1, .int x2, .int x3] σ (some (.int r)) τ := by
  refine my_met RX8 [some (.ref (w.2.2.2 0)), some (.int x1), some (.int x2), some (.int x3)] 0 (by decide) rfl (Nat.le_of_ble_eq_true rfl) rfl (fun X h => ?_)
  unfold f_X8_send at hf
  refine g_al0 h 1 dX8_send_0 rfl ?_
  refine g_geta h 4 fF_X8_12_X8 lyC_0 rfl dX8_send_1 rfl ?_
  refine g_il1 h 5 dX8_send_4 rfl ?_
  obtain ⟨r1, σ1, hc1, hf⟩ := my_ofb hf
  refine g_callVi h 8 cs_X8_95 rfl lyC_1 (ct_X2_has w hc1) rfl rfl (Nat.le_of_ble_eq_true rfl) ⟨Nat.le_of_ble_eq_true rfl, Nat.le_of_ble_eq_true rfl⟩ dX8_send_5 rfl ?_
  refine g_ifne h 13 11 dX8_send_8 (by decide) rfl (fun hc => ?_) (fun hc => ?_)
  · have hf := my_ifF hc hf
    refine g_il2 h 14 dX8_send_13 rfl ?_
    refine g_iconst h 15 ic_0 dX8_send_14 rfl ?_
    refine g_bipush h 17 bp_20 dX8_send_15 rfl ?_
    obtain ⟨r2, σ2, hc2, hf⟩ := my_ofb hf
    refine g_callSi h 20 cs_X8_120 (ct_X8_isWithin w hc2) rfl rfl (Nat.le_of_ble_eq_true rfl) ⟨Nat.le_of_ble_eq_true rfl, Nat.le_of_ble_eq_true rfl⟩ dX8_send_17 rfl ?_
    refine g_ifeq h 32 23 dX8_send_20 (by decide) rfl (fun hc => ?_) (fun hc => ?_)
    · have hf := my_ifT hc hf
      refine g_bipush h 34 bp_m2 dX8_send_32 rfl ?_
      exact g_iret h dX8_send_34 (my_r1 hf) (my_r2 hf)
    · have hf := my_ifF hc hf
      refine g_il3 h 24 dX8_send_23 rfl ?_
      refine g_iconst h 25 ic_0 dX8_send_24 rfl ?_
      refine g_iconst h 26 ic_5 dX8_send_25 rfl ?_
      obtain ⟨r3, σ3, hc3, hf⟩ := my_ofb hf
      refine g_callSi h 29 cs_X8_120 (ct_X8_isWithin w hc3) rfl rfl (Nat.le_of_ble_eq_true rfl) ⟨Nat.le_of_ble_eq_true rfl, Nat.le_of_ble_eq_true rfl⟩ dX8_send_26 rfl ?_
      refine g_ifne h 35 32 dX8_send_29 (by decide) rfl (fun hc => ?_) (fun hc => ?_)
      · have hf := my_ifF hc hf
        refine g_al0 h 36 dX8_send_35 rfl ?_
        refine g_geta h 39 fF_X8_21_X8 lyC_0 rfl dX8_send_36 rfl ?_
        refine g_il1 h 40 dX8_send_39 rfl ?_
        refine g_il2 h 41 dX8_send_40 rfl ?_
        refine g_il3 h 42 dX8_send_41 rfl ?_
        obtain ⟨r4, σ4, hc4, hf⟩ := my_ofb hf
        refine g_callVi h 45 cs_X8_138 rfl lyC_11 (ct_X0_add w hc4) rfl rfl (Nat.le_of_ble_eq_true rfl) ⟨Nat.le_of_ble_eq_true rfl, Nat.le_of_ble_eq_true rfl⟩ dX8_send_42 rfl ?_
        refine g_ifeq h 60 48 dX8_send_45 (by decide) rfl (fun hc => ?_) (fun hc => ?_)
        · have hf := my_ifT hc hf
          refine g_bipush h 62 bp_m4 dX8_send_60 rfl ?_
          exact g_iret h dX8_send_62 (my_r1 hf) (my_r2 hf)
        · have hf := my_ifF hc hf
          refine g_al0 h 49 dX8_send_48 rfl ?_
          refine g_geta h 52 fF_X8_21_X8 lyC_0 rfl dX8_send_49 rfl ?_
          refine g_geti h 55 fF_X8_90_X0 lyC_11 rfl dX8_send_52 rfl ?_
          refine g_iconst h 56 ic_1 dX8_send_55 rfl ?_
          refine g_isub h 57 dX8_send_56 rfl ?_
          refine g_goto h 62 dX8_send_57 (by decide) ?_
          exact g_iret h dX8_send_62 (my_r1 hf) (my_r2 hf)
      · have hf := my_ifT hc hf
        refine g_bipush h 34 bp_m2 dX8_send_32 rfl ?_
        exact g_iret h dX8_send_34 (my_r1 hf) (my_r2 hf)
  · have hf := my_ifT hc hf
    refine g_iconst h 12 ic_m1 dX8_send_11 rfl ?_
    exact g_iret h dX8_send_12 (my_r1 hf) (my_r2 hf)
def f_X8_sheet (σ : my_M) (x1 : Int32) (x2 : Int32) (x3 : Int32) : Option (Int32 × my_M) :=
(my_bnd (f_X8_isSheet (my_up σ 0 8 0) x1) fun r1 σ1 =>
(if r1 = 0 then
some ((-1), σ1)
else
(my_bnd (f_X8_isLane σ1 x2) fun r2 σ2 =>
(if r2 = 0 then
some ((-2), σ2)
else
(if x3 ≤ 60 then
(if 0 ≤ x3 then
(if my_ix x1 4 then
(my_bnd (f_X6_begin σ2 (Int32.toNatClampNeg x1) x2 x3) fun r4 σ4 =>
some (1, σ4))
else none)
else
(my_bnd (f_X8_faulted σ2 4) fun r5 σ5 =>
some (r5, σ5)))
else
some ((-2), σ2))))))
set_option maxRecDepth 100000 in
set_option maxHeartbeats 4000000 in
theorem ct_X8_sheet (w : my_V) {σ : my_M} {x1 : Int32} {x2 : Int32} {x3 : Int32} {r : Int32} {τ : my_M} (hf : f_X8_sheet σ x1 x2 x3 = some (r, τ)) : Ct w layC mX8_sheet 3 [.ref (w.2.2.2 0), .int x1, .int x2, .int x3] σ (some (.int r)) τ := by
  refine my_met RX8 [some (.ref (w.2.2.2 0)), some (.int x1), some (.int x2), some (.int x3)] 0 (by decide) rfl (Nat.le_of_ble_eq_true rfl) rfl (fun X h => ?_)
  unfold f_X8_sheet at hf
  refine g_al0 h 1 dX8_sheet_0 rfl ?_
  refine g_iconst h 2 ic_0 dX8_sheet_1 rfl ?_
  refine g_puti h 5 fP_X8_56_X8 lyC_0 rfl dX8_sheet_2 rfl ?_
  refine g_il1 h 6 dX8_sheet_5 rfl ?_
  obtain ⟨r1, σ1, hc1, hf⟩ := my_ofb hf
  refine g_callSi h 9 cs_X8_60 (ct_X8_isSheet w hc1) rfl rfl (Nat.le_of_ble_eq_true rfl) ⟨Nat.le_of_ble_eq_true rfl, Nat.le_of_ble_eq_true rfl⟩ dX8_sheet_6 rfl ?_
  refine g_ifne h 14 12 dX8_sheet_9 (by decide) rfl (fun hc => ?_) (fun hc => ?_)
  · have hf := my_ifF hc hf
    refine g_il2 h 15 dX8_sheet_14 rfl ?_
    obtain ⟨r2, σ2, hc2, hf⟩ := my_ofb hf
    refine g_callSi h 18 cs_X8_64 (ct_X8_isLane w hc2) rfl rfl (Nat.le_of_ble_eq_true rfl) ⟨Nat.le_of_ble_eq_true rfl, Nat.le_of_ble_eq_true rfl⟩ dX8_sheet_15 rfl ?_
    refine g_ifeq h 27 21 dX8_sheet_18 (by decide) rfl (fun hc => ?_) (fun hc => ?_)
    · have hf := my_ifT hc hf
      refine g_bipush h 29 bp_m2 dX8_sheet_27 rfl ?_
      exact g_iret h dX8_sheet_29 (my_r1 hf) (my_r2 hf)
    · have hf := my_ifF hc hf
      refine g_il3 h 22 dX8_sheet_21 rfl ?_
      refine g_bipush h 24 bp_60 dX8_sheet_22 rfl ?_
      refine g_icle h 30 27 dX8_sheet_24 (by decide) rfl (fun hc => ?_) (fun hc => ?_)
      · have hf := my_ifT hc hf
        refine g_il3 h 31 dX8_sheet_30 rfl ?_
        refine g_ifge h 40 34 dX8_sheet_31 (by decide) rfl (fun hc => ?_) (fun hc => ?_)
        · have hf := my_ifT hc hf
          refine g_al0 h 41 dX8_sheet_40 rfl ?_
          refine g_geta h 44 fF_X8_51_X8 lyC_0 rfl dX8_sheet_41 rfl ?_
          refine g_il1 h 45 dX8_sheet_44 rfl ?_
          obtain ⟨hq3, hf⟩ := my_chk hf
          refine g_aald h 46 lyC_31 rfl dX8_sheet_45 rfl hq3 ?_
          refine g_il2 h 47 dX8_sheet_46 rfl ?_
          refine g_il3 h 48 dX8_sheet_47 rfl ?_
          obtain ⟨r4, σ4, hc4, hf⟩ := my_ofb hf
          refine g_callVv h 51 cs_X8_213 rfl (lyC_X6 (my_ixlt hq3)) (ct_X6_begin w hc4) rfl rfl (Nat.le_of_ble_eq_true rfl) ⟨Nat.le_of_ble_eq_true rfl, Nat.le_of_ble_eq_true rfl⟩ dX8_sheet_48 rfl ?_
          refine g_iconst h 52 ic_1 dX8_sheet_51 rfl ?_
          exact g_iret h dX8_sheet_52 (my_r1 hf) (my_r2 hf)
        · have hf := my_ifF hc hf
          refine g_al0 h 35 dX8_sheet_34 rfl ?_
          refine g_iconst h 36 ic_4 dX8_sheet_35 rfl ?_
          obtain ⟨r5, σ5, hc5, hf⟩ := my_ofb hf
          refine g_callVi h 39 cs_X8_71 rfl lyC_0 (ct_X8_faulted w hc5) rfl rfl (Nat.le_of_ble_eq_true rfl) ⟨Nat.le_of_ble_eq_true rfl, Nat.le_of_ble_eq_true rfl⟩ dX8_sheet_36 rfl ?_
          exact g_iret h dX8_sheet_39 (my_r1 hf) (my_r2 hf)
      · have hf := my_ifF hc hf
        refine g_bipush h 29 bp_m2 dX8_sheet_27 rfl ?_
        exact g_iret h dX8_sheet_29 (my_r1 hf) (my_r2 hf)
  · have hf := my_ifT hc hf
    refine g_iconst h 13 ic_m1 dX8_sheet_12 rfl ?_
    exact g_iret h dX8_sheet_13 (my_r1 hf) (my_r2 hf)
def f_X8_tell (σ : my_M) (x1 : Int32) : Option (Int32 × my_M) :=
(my_bnd (f_X2_has σ x1) fun r1 σ1 =>
(if r1 = 0 then
some ((-1), σ1)
else
(if my_ix x1 4 then
(if (σ1 (3 + (Int32.toNatClampNeg x1)) 0) = 2 then
(my_bnd (f_X8_keenTelling σ1 (Int32.toNatClampNeg x1)) fun r5 σ5 =>
some (r5, σ5))
else
(if (σ1 (3 + (Int32.toNatClampNeg x1)) 0) = 1 then
(my_bnd (f_X8_broadTelling σ1 (Int32.toNatClampNeg x1)) fun r4 σ4 =>
some (r4, σ4))
else
(my_bnd (f_X8_plainTelling σ1 (Int32.toNatClampNeg x1)) fun r3 σ3 =>
some (r3, σ3))))
else none)))
set_option maxRecDepth 100000 in
set_option maxHeartbeats 4000000 in
theorem ct_X8_tell (w : my_V) {σ : my_M} {x1 : Int32} {r : Int32} {τ : my_M} (hf : f_X8_tell σ x1 = some (r, τ)) : Ct w layC mX8_tell 5 [.ref (w.2.2.2 0), .int x1] σ (some (.int r)) τ := by
  refine my_met RX8 [some (.ref (w.2.2.2 0)), some (.int x1), none] 1 (by decide) rfl (Nat.le_of_ble_eq_true rfl) rfl (fun X h => ?_)
  unfold f_X8_tell at hf
  refine g_al0 h 1 dX8_tell_0 rfl ?_
  refine g_geta h 4 fF_X8_12_X8 lyC_0 rfl dX8_tell_1 rfl ?_
  refine g_il1 h 5 dX8_tell_4 rfl ?_
  obtain ⟨r1, σ1, hc1, hf⟩ := my_ofb hf
  refine g_callVi h 8 cs_X8_95 rfl lyC_1 (ct_X2_has w hc1) rfl rfl (Nat.le_of_ble_eq_true rfl) ⟨Nat.le_of_ble_eq_true rfl, Nat.le_of_ble_eq_true rfl⟩ dX8_tell_5 rfl ?_
  refine g_ifne h 13 11 dX8_tell_8 (by decide) rfl (fun hc => ?_) (fun hc => ?_)
  · have hf := my_ifF hc hf
    refine g_al0 h 14 dX8_tell_13 rfl ?_
    refine g_geta h 17 fF_X8_12_X8 lyC_0 rfl dX8_tell_14 rfl ?_
    refine g_geta h 20 fF_X8_98_X2 lyC_1 rfl dX8_tell_17 rfl ?_
    refine g_il1 h 21 dX8_tell_20 rfl ?_
    obtain ⟨hq2, hf⟩ := my_chk hf
    refine g_aald h 22 lyC_2 rfl dX8_tell_21 rfl hq2 ?_
    refine g_as2 h 23 (Nat.le_of_ble_eq_true rfl) rfl dX8_tell_22 rfl ?_
    refine g_al2 h 24 dX8_tell_23 rfl ?_
    refine g_geti h 27 fF_X8_101_X1 (lyC_X1 (my_ixlt hq2)) rfl dX8_tell_24 rfl ?_
    refine g_iconst h 28 ic_2 dX8_tell_27 rfl ?_
    refine g_icne h 37 31 dX8_tell_28 (by decide) rfl (fun hc => ?_) (fun hc => ?_)
    · have hf := my_ifF hc hf
      refine g_al2 h 38 dX8_tell_37 rfl ?_
      refine g_geti h 41 fF_X8_101_X1 (lyC_X1 (my_ixlt hq2)) rfl dX8_tell_38 rfl ?_
      refine g_iconst h 42 ic_1 dX8_tell_41 rfl ?_
      refine g_icne h 53 45 dX8_tell_42 (by decide) rfl (fun hc => ?_) (fun hc => ?_)
      · have hf := my_ifF hc hf
        refine g_al0 h 54 dX8_tell_53 rfl ?_
        refine g_al2 h 55 dX8_tell_54 rfl ?_
        obtain ⟨r3, σ3, hc3, hf⟩ := my_ofb hf
        refine g_callVi h 58 cs_X8_246 rfl lyC_0 (ct_X8_plainTelling w hc3) rfl rfl (Nat.le_of_ble_eq_true rfl) ⟨Nat.le_of_ble_eq_true rfl, Nat.le_of_ble_eq_true rfl⟩ dX8_tell_55 rfl ?_
        exact g_iret h dX8_tell_58 (my_r1 hf) (my_r2 hf)
      · have hf := my_ifT hc hf
        refine g_al0 h 46 dX8_tell_45 rfl ?_
        refine g_al2 h 47 dX8_tell_46 rfl ?_
        obtain ⟨r4, σ4, hc4, hf⟩ := my_ofb hf
        refine g_callVi h 50 cs_X8_243 rfl lyC_0 (ct_X8_broadTelling w hc4) rfl rfl (Nat.le_of_ble_eq_true rfl) ⟨Nat.le_of_ble_eq_true rfl, Nat.le_of_ble_eq_true rfl⟩ dX8_tell_47 rfl ?_
        refine g_goto h 58 dX8_tell_50 (by decide) ?_
        exact g_iret h dX8_tell_58 (my_r1 hf) (my_r2 hf)
    · have hf := my_ifT hc hf
      refine g_al0 h 32 dX8_tell_31 rfl ?_
      refine g_al2 h 33 dX8_tell_32 rfl ?_
      obtain ⟨r5, σ5, hc5, hf⟩ := my_ofb hf
      refine g_callVi h 36 cs_X8_239 rfl lyC_0 (ct_X8_keenTelling w hc5) rfl rfl (Nat.le_of_ble_eq_true rfl) ⟨Nat.le_of_ble_eq_true rfl, Nat.le_of_ble_eq_true rfl⟩ dX8_tell_33 rfl ?_
      exact g_iret h dX8_tell_36 (my_r1 hf) (my_r2 hf)
  · have hf := my_ifT hc hf
    refine g_iconst h 12 ic_m1 dX8_tell_11 rfl ?_
    exact g_iret h dX8_tell_12 (my_r1 hf) (my_r2 hf)
def f_X8_trace (σ : my_M) : Option (Int32 × my_M) :=
some ((σ 0 7), σ)
set_option maxRecDepth 100000 in
set_option maxHeartbeats 4000000 in
theorem ct_X8_trace (w : my_V) {σ : my_M} {r : Int32} {τ : my_M} (hf : f_X8_trace σ = some (r, τ)) : Ct w layC mX8_trace 1 [.ref (w.2.2.2 0)] σ (some (.int r)) τ := by
  refine my_met RX8 [some (.ref (w.2.2.2 0))] 0 (by decide) rfl (Nat.le_of_ble_eq_true rfl) rfl (fun X h => ?_)
  unfold f_X8_trace at hf
  refine g_al0 h 1 dX8_trace_0 rfl ?_
  refine g_geti h 4 fF_X8_256_X8 lyC_0 rfl dX8_trace_1 rfl ?_
  exact g_iret h dX8_trace_4 (my_r1 hf) (my_r2 hf)
def f_X8_tune (σ : my_M) (x1 : Int32) (x2 : Int32) (x3 : Int32) : Option (Int32 × my_M) :=
(my_bnd (f_X2_has σ x1) fun r1 σ1 =>
(if r1 = 0 then
some ((-1), σ1)
else
(my_bnd (f_X2_hasBeat σ1 x2) fun r2 σ2 =>
(if r2 = 0 then
some ((-1), σ2)
else
(if x3 = (-1) then
(if my_ix x1 4 then
(my_bnd (f_X8_toldPitch σ2 (Int32.toNatClampNeg x1) x2) fun r4 σ4 =>
(if my_ix x1 4 then
(if my_ix x2 (my_len layC (7 + (Int32.toNatClampNeg x1))) then
some (r4, (my_up σ4 (7 + (Int32.toNatClampNeg x1)) (Int32.toNatClampNeg x2) x3))
else none)
else none))
else none)
else
(my_bnd (f_X2_hasBeat σ2 x3) fun r7 σ7 =>
(if r7 = 0 then
some ((-2), σ7)
else
(if my_ix x1 4 then
(my_bnd (f_X8_toldPitch σ7 (Int32.toNatClampNeg x1) x2) fun r9 σ9 =>
(if my_ix x1 4 then
(if my_ix x2 (my_len layC (7 + (Int32.toNatClampNeg x1))) then
some (r9, (my_up σ9 (7 + (Int32.toNatClampNeg x1)) (Int32.toNatClampNeg x2) x3))
else none)
else none))
else none))))))))
set_option maxRecDepth 100000 in
set_option maxHeartbeats 4000000 in
theorem ct_X8_tune (w : my_V) {σ : my_M} {x1 : Int32} {x2 : Int32} {x3 : Int32} {r : Int32} {τ : my_M} (hf : f_X8_tune σ x1 x2 x3 = some (r, τ)) : Ct w layC mX8_tune 4 [.ref (w.2.2.2 0), .int x1, .int x2, .int x3] σ (some (.int r)) τ := by
  refine my_met RX8 [some (.ref (w.2.2.2 0)), some (.int x1), some (.int x2), some (.int x3), none] 1 (by decide) rfl (Nat.le_of_ble_eq_true rfl) rfl (fun X h => ?_)
  unfold f_X8_tune at hf
  refine g_al0 h 1 dX8_tune_0 rfl ?_
  refine g_geta h 4 fF_X8_12_X8 lyC_0 rfl dX8_tune_1 rfl ?_
  refine g_il1 h 5 dX8_tune_4 rfl ?_
  obtain ⟨r1, σ1, hc1, hf⟩ := my_ofb hf
  refine g_callVi h 8 cs_X8_95 rfl lyC_1 (ct_X2_has w hc1) rfl rfl (Nat.le_of_ble_eq_true rfl) ⟨Nat.le_of_ble_eq_true rfl, Nat.le_of_ble_eq_true rfl⟩ dX8_tune_5 rfl ?_
  refine g_ifeq h 22 11 dX8_tune_8 (by decide) rfl (fun hc => ?_) (fun hc => ?_)
  · have hf := my_ifT hc hf
    refine g_iconst h 23 ic_m1 dX8_tune_22 rfl ?_
    exact g_iret h dX8_tune_23 (my_r1 hf) (my_r2 hf)
  · have hf := my_ifF hc hf
    refine g_al0 h 12 dX8_tune_11 rfl ?_
    refine g_geta h 15 fF_X8_12_X8 lyC_0 rfl dX8_tune_12 rfl ?_
    refine g_il2 h 16 dX8_tune_15 rfl ?_
    obtain ⟨r2, σ2, hc2, hf⟩ := my_ofb hf
    refine g_callVi h 19 cs_X8_128 rfl lyC_1 (ct_X2_hasBeat w hc2) rfl rfl (Nat.le_of_ble_eq_true rfl) ⟨Nat.le_of_ble_eq_true rfl, Nat.le_of_ble_eq_true rfl⟩ dX8_tune_16 rfl ?_
    refine g_ifne h 24 22 dX8_tune_19 (by decide) rfl (fun hc => ?_) (fun hc => ?_)
    · have hf := my_ifF hc hf
      refine g_il3 h 25 dX8_tune_24 rfl ?_
      refine g_iconst h 26 ic_m1 dX8_tune_25 rfl ?_
      refine g_iceq h 43 29 dX8_tune_26 (by decide) rfl (fun hc => ?_) (fun hc => ?_)
      · have hf := my_ifT hc hf
        refine g_al0 h 44 dX8_tune_43 rfl ?_
        refine g_al0 h 45 dX8_tune_44 rfl ?_
        refine g_geta h 48 fF_X8_12_X8 lyC_0 rfl dX8_tune_45 rfl ?_
        refine g_geta h 51 fF_X8_98_X2 lyC_1 rfl dX8_tune_48 rfl ?_
        refine g_il1 h 52 dX8_tune_51 rfl ?_
        obtain ⟨hq3, hf⟩ := my_chk hf
        refine g_aald h 53 lyC_2 rfl dX8_tune_52 rfl hq3 ?_
        refine g_il2 h 54 dX8_tune_53 rfl ?_
        obtain ⟨r4, σ4, hc4, hf⟩ := my_ofb hf
        refine g_callVi h 57 cs_X8_124 rfl lyC_0 (ct_X8_toldPitch w hc4) rfl rfl (Nat.le_of_ble_eq_true rfl) ⟨Nat.le_of_ble_eq_true rfl, Nat.le_of_ble_eq_true rfl⟩ dX8_tune_54 rfl ?_
        refine g_is4 h 59 (Nat.le_of_ble_eq_true rfl) rfl dX8_tune_57 rfl ?_
        refine g_al0 h 60 dX8_tune_59 rfl ?_
        refine g_geta h 63 fF_X8_12_X8 lyC_0 rfl dX8_tune_60 rfl ?_
        refine g_geta h 66 fF_X8_98_X2 lyC_1 rfl dX8_tune_63 rfl ?_
        refine g_il1 h 67 dX8_tune_66 rfl ?_
        obtain ⟨hq5, hf⟩ := my_chk hf
        refine g_aald h 68 lyC_2 rfl dX8_tune_67 rfl hq5 ?_
        refine g_geta h 71 fF_X8_112_X1 (lyC_X1 (my_ixlt hq5)) rfl dX8_tune_68 rfl ?_
        refine g_il2 h 72 dX8_tune_71 rfl ?_
        refine g_il3 h 73 dX8_tune_72 rfl ?_
        obtain ⟨hq6, hf⟩ := my_chk hf
        refine g_iast h 74 dX8_tune_73 rfl hq6 ?_
        refine g_il4 h 76 dX8_tune_74 rfl ?_
        exact g_iret h dX8_tune_76 (my_r1 hf) (my_r2 hf)
      · have hf := my_ifF hc hf
        refine g_al0 h 30 dX8_tune_29 rfl ?_
        refine g_geta h 33 fF_X8_12_X8 lyC_0 rfl dX8_tune_30 rfl ?_
        refine g_il3 h 34 dX8_tune_33 rfl ?_
        obtain ⟨r7, σ7, hc7, hf⟩ := my_ofb hf
        refine g_callVi h 37 cs_X8_128 rfl lyC_1 (ct_X2_hasBeat w hc7) rfl rfl (Nat.le_of_ble_eq_true rfl) ⟨Nat.le_of_ble_eq_true rfl, Nat.le_of_ble_eq_true rfl⟩ dX8_tune_34 rfl ?_
        refine g_ifne h 43 40 dX8_tune_37 (by decide) rfl (fun hc => ?_) (fun hc => ?_)
        · have hf := my_ifF hc hf
          refine g_al0 h 44 dX8_tune_43 rfl ?_
          refine g_al0 h 45 dX8_tune_44 rfl ?_
          refine g_geta h 48 fF_X8_12_X8 lyC_0 rfl dX8_tune_45 rfl ?_
          refine g_geta h 51 fF_X8_98_X2 lyC_1 rfl dX8_tune_48 rfl ?_
          refine g_il1 h 52 dX8_tune_51 rfl ?_
          obtain ⟨hq8, hf⟩ := my_chk hf
          refine g_aald h 53 lyC_2 rfl dX8_tune_52 rfl hq8 ?_
          refine g_il2 h 54 dX8_tune_53 rfl ?_
          obtain ⟨r9, σ9, hc9, hf⟩ := my_ofb hf
          refine g_callVi h 57 cs_X8_124 rfl lyC_0 (ct_X8_toldPitch w hc9) rfl rfl (Nat.le_of_ble_eq_true rfl) ⟨Nat.le_of_ble_eq_true rfl, Nat.le_of_ble_eq_true rfl⟩ dX8_tune_54 rfl ?_
          refine g_is4 h 59 (Nat.le_of_ble_eq_true rfl) rfl dX8_tune_57 rfl ?_
          refine g_al0 h 60 dX8_tune_59 rfl ?_
          refine g_geta h 63 fF_X8_12_X8 lyC_0 rfl dX8_tune_60 rfl ?_
          refine g_geta h 66 fF_X8_98_X2 lyC_1 rfl dX8_tune_63 rfl ?_
          refine g_il1 h 67 dX8_tune_66 rfl ?_
          obtain ⟨hq10, hf⟩ := my_chk hf
          refine g_aald h 68 lyC_2 rfl dX8_tune_67 rfl hq10 ?_
          refine g_geta h 71 fF_X8_112_X1 (lyC_X1 (my_ixlt hq10)) rfl dX8_tune_68 rfl ?_
          refine g_il2 h 72 dX8_tune_71 rfl ?_
          refine g_il3 h 73 dX8_tune_72 rfl ?_
          obtain ⟨hq11, hf⟩ := my_chk hf
          refine g_iast h 74 dX8_tune_73 rfl hq11 ?_
          refine g_il4 h 76 dX8_tune_74 rfl ?_
          exact g_iret h dX8_tune_76 (my_r1 hf) (my_r2 hf)
        · have hf := my_ifT hc hf
          refine g_bipush h 42 bp_m2 dX8_tune_40 rfl ?_
          exact g_iret h dX8_tune_42 (my_r1 hf) (my_r2 hf)
    · have hf := my_ifT hc hf
      refine g_iconst h 23 ic_m1 dX8_tune_22 rfl ?_
      exact g_iret h dX8_tune_23 (my_r1 hf) (my_r2 hf)
def f_X8_unsend (σ : my_M) (x1 : Int32) : Option (Int32 × my_M) :=
(my_bnd (f_X4_takeBackA σ 0 x1) fun r1 σ1 =>
(if r1 = 0 then
some ((-2), σ1)
else
some ((σ1 11 0), σ1)))
set_option maxRecDepth 100000 in
set_option maxHeartbeats 4000000 in
theorem ct_X8_unsend (w : my_V) {σ : my_M} {x1 : Int32} {r : Int32} {τ : my_M} (hf : f_X8_unsend σ x1 = some (r, τ)) : Ct w layC mX8_unsend 3 [.ref (w.2.2.2 0), .int x1] σ (some (.int r)) τ := by
  refine my_met RX8 [some (.ref (w.2.2.2 0)), some (.int x1)] 0 (by decide) rfl (Nat.le_of_ble_eq_true rfl) rfl (fun X h => ?_)
  unfold f_X8_unsend at hf
  refine g_al0 h 1 dX8_unsend_0 rfl ?_
  refine g_geta h 4 fF_X8_21_X8 lyC_0 rfl dX8_unsend_1 rfl ?_
  refine g_il1 h 5 dX8_unsend_4 rfl ?_
  obtain ⟨r1, σ1, hc1, hf⟩ := my_ofb hf
  refine g_callUi h 8 cs_X8_141A rfl lyC_11 (ct_X4_takeBackA w hc1) rfl rfl (Nat.le_of_ble_eq_true rfl) ⟨Nat.le_of_ble_eq_true rfl, Nat.le_of_ble_eq_true rfl⟩ dX8_unsend_5 rfl ?_
  refine g_ifeq h 21 11 dX8_unsend_8 (by decide) rfl (fun hc => ?_) (fun hc => ?_)
  · have hf := my_ifT hc hf
    refine g_bipush h 23 bp_m2 dX8_unsend_21 rfl ?_
    exact g_iret h dX8_unsend_23 (my_r1 hf) (my_r2 hf)
  · have hf := my_ifF hc hf
    refine g_al0 h 12 dX8_unsend_11 rfl ?_
    refine g_geta h 15 fF_X8_21_X8 lyC_0 rfl dX8_unsend_12 rfl ?_
    refine g_geti h 18 fF_X8_90_X0 lyC_11 rfl dX8_unsend_15 rfl ?_
    refine g_goto h 23 dX8_unsend_18 (by decide) ?_
    exact g_iret h dX8_unsend_23 (my_r1 hf) (my_r2 hf)
def f_X8_ways (σ : my_M) (x1 : Int32) (x2 : Int32) : Option (Int32 × my_M) :=
(my_bnd (f_X2_has σ x1) fun r1 σ1 =>
(if r1 = 0 then
some ((-1), σ1)
else
(my_bnd (f_X8_isWithin σ1 x2 (-1) 5) fun r2 σ2 =>
(if r2 = 0 then
some ((-2), σ2)
else
(my_bnd (f_X3_makeFor σ2 (σ2 1 2)) fun r3 σ3 =>
(if my_ix x1 4 then
(if x2 = (-1) then
(my_bnd (f_X3_countLike σ3 (7 + (Int32.toNatClampNeg x1))) fun r7 σ7 =>
some (r7, σ7))
else
(my_bnd (f_X3_firstLike σ3 (7 + (Int32.toNatClampNeg x1))) fun r5 σ5 =>
(my_bnd (f_X3_pitchOf σ5 r5 x2) fun r6 σ6 =>
some (r6, σ6))))
else none))))))
set_option maxRecDepth 100000 in
set_option maxHeartbeats 4000000 in
theorem ct_X8_ways (w : my_V) {σ : my_M} {x1 : Int32} {x2 : Int32} {r : Int32} {τ : my_M} (hf : f_X8_ways σ x1 x2 = some (r, τ)) : Ct w layC mX8_ways 12 [.ref (w.2.2.2 0), .int x1, .int x2] σ (some (.int r)) τ := by
  refine my_met RX8 [some (.ref (w.2.2.2 0)), some (.int x1), some (.int x2), none] 1 (by decide) rfl (Nat.le_of_ble_eq_true rfl) rfl (fun X h => ?_)
  unfold f_X8_ways at hf
  refine g_al0 h 1 dX8_ways_0 rfl ?_
  refine g_geta h 4 fF_X8_12_X8 lyC_0 rfl dX8_ways_1 rfl ?_
  refine g_il1 h 5 dX8_ways_4 rfl ?_
  obtain ⟨r1, σ1, hc1, hf⟩ := my_ofb hf
  refine g_callVi h 8 cs_X8_95 rfl lyC_1 (ct_X2_has w hc1) rfl rfl (Nat.le_of_ble_eq_true rfl) ⟨Nat.le_of_ble_eq_true rfl, Nat.le_of_ble_eq_true rfl⟩ dX8_ways_5 rfl ?_
  refine g_ifne h 13 11 dX8_ways_8 (by decide) rfl (fun hc => ?_) (fun hc => ?_)
  · have hf := my_ifF hc hf
    refine g_il2 h 14 dX8_ways_13 rfl ?_
    refine g_iconst h 15 ic_m1 dX8_ways_14 rfl ?_
    refine g_iconst h 16 ic_5 dX8_ways_15 rfl ?_
    obtain ⟨r2, σ2, hc2, hf⟩ := my_ofb hf
    refine g_callSi h 19 cs_X8_120 (ct_X8_isWithin w hc2) rfl rfl (Nat.le_of_ble_eq_true rfl) ⟨Nat.le_of_ble_eq_true rfl, Nat.le_of_ble_eq_true rfl⟩ dX8_ways_16 rfl ?_
    refine g_ifne h 25 22 dX8_ways_19 (by decide) rfl (fun hc => ?_) (fun hc => ?_)
    · have hf := my_ifF hc hf
      refine g_al0 h 26 dX8_ways_25 rfl ?_
      refine g_geta h 29 fF_X8_38_X8 lyC_0 rfl dX8_ways_26 rfl ?_
      refine g_al0 h 30 dX8_ways_29 rfl ?_
      refine g_geta h 33 fF_X8_12_X8 lyC_0 rfl dX8_ways_30 rfl ?_
      refine g_geti h 36 fF_X8_106_X2 lyC_1 rfl dX8_ways_33 rfl ?_
      obtain ⟨r3, σ3, hc3, hf⟩ := my_ofb hf
      refine g_callVv h 39 cs_X8_182 rfl lyC_27 (ct_X3_makeFor w hc3) rfl rfl (Nat.le_of_ble_eq_true rfl) ⟨Nat.le_of_ble_eq_true rfl, Nat.le_of_ble_eq_true rfl⟩ dX8_ways_36 rfl ?_
      refine g_al0 h 40 dX8_ways_39 rfl ?_
      refine g_geta h 43 fF_X8_12_X8 lyC_0 rfl dX8_ways_40 rfl ?_
      refine g_geta h 46 fF_X8_98_X2 lyC_1 rfl dX8_ways_43 rfl ?_
      refine g_il1 h 47 dX8_ways_46 rfl ?_
      obtain ⟨hq4, hf⟩ := my_chk hf
      refine g_aald h 48 lyC_2 rfl dX8_ways_47 rfl hq4 ?_
      refine g_geta h 51 fF_X8_112_X1 (lyC_X1 (my_ixlt hq4)) rfl dX8_ways_48 rfl ?_
      refine g_as3 h 52 (Nat.le_of_ble_eq_true rfl) rfl dX8_ways_51 rfl ?_
      refine g_il2 h 53 dX8_ways_52 rfl ?_
      refine g_iconst h 54 ic_m1 dX8_ways_53 rfl ?_
      refine g_icne h 68 57 dX8_ways_54 (by decide) rfl (fun hc => ?_) (fun hc => ?_)
      · have hf := my_ifF hc hf
        refine g_al0 h 69 dX8_ways_68 rfl ?_
        refine g_geta h 72 fF_X8_38_X8 lyC_0 rfl dX8_ways_69 rfl ?_
        refine g_al0 h 73 dX8_ways_72 rfl ?_
        refine g_geta h 76 fF_X8_38_X8 lyC_0 rfl dX8_ways_73 rfl ?_
        refine g_al3 h 77 dX8_ways_76 rfl ?_
        obtain ⟨r5, σ5, hc5, hf⟩ := my_ofb hf
        refine g_callVi h 80 cs_X8_191 rfl lyC_27 (ct_X3_firstLike w hc5) rfl rfl (Nat.le_of_ble_eq_true rfl) ⟨Nat.le_of_ble_eq_true rfl, Nat.le_of_ble_eq_true rfl⟩ dX8_ways_77 rfl ?_
        refine g_il2 h 81 dX8_ways_80 rfl ?_
        obtain ⟨r6, σ6, hc6, hf⟩ := my_ofb hf
        refine g_callVi h 84 cs_X8_194 rfl lyC_27 (ct_X3_pitchOf w hc6) rfl rfl (Nat.le_of_ble_eq_true rfl) ⟨Nat.le_of_ble_eq_true rfl, Nat.le_of_ble_eq_true rfl⟩ dX8_ways_81 rfl ?_
        exact g_iret h dX8_ways_84 (my_r1 hf) (my_r2 hf)
      · have hf := my_ifT hc hf
        refine g_al0 h 58 dX8_ways_57 rfl ?_
        refine g_geta h 61 fF_X8_38_X8 lyC_0 rfl dX8_ways_58 rfl ?_
        refine g_al3 h 62 dX8_ways_61 rfl ?_
        obtain ⟨r7, σ7, hc7, hf⟩ := my_ofb hf
        refine g_callVi h 65 cs_X8_187 rfl lyC_27 (ct_X3_countLike w hc7) rfl rfl (Nat.le_of_ble_eq_true rfl) ⟨Nat.le_of_ble_eq_true rfl, Nat.le_of_ble_eq_true rfl⟩ dX8_ways_62 rfl ?_
        refine g_goto h 84 dX8_ways_65 (by decide) ?_
        exact g_iret h dX8_ways_84 (my_r1 hf) (my_r2 hf)
    · have hf := my_ifT hc hf
      refine g_bipush h 24 bp_m2 dX8_ways_22 rfl ?_
      exact g_iret h dX8_ways_24 (my_r1 hf) (my_r2 hf)
  · have hf := my_ifT hc hf
    refine g_iconst h 12 ic_m1 dX8_ways_11 rfl ?_
    exact g_iret h dX8_ways_12 (my_r1 hf) (my_r2 hf)
