def f_X9_in (σ : my_M) (y0 : Int64) (y2 : Int64) (y4 : Int64) : Option (Int32 × my_M) :=
(if (lg_cmp y0 y2) < 0 then
some (0, σ)
else
(if my_b (if 0 < (lg_cmp y0 y4) then 0 else 1 : Int32) then some ((if 0 < (lg_cmp y0 y4) then 0 else 1 : Int32), σ) else none))
set_option maxRecDepth 100000 in
set_option maxHeartbeats 4000000 in
theorem ct_X9_in (w : my_V) {σ : my_M} {y0 : Int64} {y2 : Int64} {y4 : Int64} {r : Int32} {τ : my_M} (hf : f_X9_in σ y0 y2 y4 = some (r, τ)) : Ct w layR mX9_in 1 [.long y0, .long y2, .long y4] σ (some (.int r)) τ := by
  refine my_met RX9 [some (.long y0), none, some (.long y2), none, some (.long y4), none] 0 (by decide) rfl (Nat.le_of_ble_eq_true rfl) rfl (fun X h => ?_)
  unfold f_X9_in at hf
  refine g_ll0 h 1 dX9_in_0 rfl ?_
  refine g_ll2 h 2 dX9_in_1 rfl ?_
  refine g_lcmp h 3 dX9_in_2 rfl ?_
  refine g_iflt h 17 6 dX9_in_3 (by decide) rfl (fun hc => ?_) (fun hc => ?_)
  · have hf := my_ifT hc hf
    refine g_iconst h 18 ic_0 dX9_in_17 rfl ?_
    exact g_zret h dX9_in_18 (Or.inl rfl) (my_r1 hf) (my_r2 hf)
  · have hf := my_ifF hc hf
    refine g_ll0 h 7 dX9_in_6 rfl ?_
    refine g_ll4 h 9 dX9_in_7 rfl ?_
    refine g_lcmp h 10 dX9_in_9 rfl ?_
    refine g_ifgt_sel h 17 18 dX9_in_10 (by decide) dX9_in_13 ic_1 dX9_in_14 (by decide) dX9_in_17 ic_0 rfl ?_
    obtain ⟨hqz, hf⟩ := my_chk hf
    exact g_zret h dX9_in_18 hqz (my_r1 hf) (my_r2 hf)
def f_X9_noBeat (σ : my_M) (x1 : Int32) : Option (Int32 × my_M) :=
(my_bnd (f_X9_in σ (Int32.toInt64 x1) 0 ((Int32.toInt64 (σ 0 2)) - 1)) fun r1 σ1 =>
(if my_b (if r1 = 0 then 1 else 0 : Int32) then some ((if r1 = 0 then 1 else 0 : Int32), σ1) else none))
set_option maxRecDepth 100000 in
set_option maxHeartbeats 4000000 in
theorem ct_X9_noBeat (w : my_V) {σ : my_M} {x1 : Int32} {r : Int32} {τ : my_M} (hf : f_X9_noBeat σ x1 = some (r, τ)) : Ct w layR mX9_noBeat 2 [.ref (w.2.2.2 0), .int x1] σ (some (.int r)) τ := by
  refine my_met RX9 [some (.ref (w.2.2.2 0)), some (.int x1)] 0 (by decide) rfl (Nat.le_of_ble_eq_true rfl) rfl (fun X h => ?_)
  unfold f_X9_noBeat at hf
  refine g_il1 h 1 dX9_noBeat_0 rfl ?_
  refine g_i2l h 2 dX9_noBeat_1 rfl ?_
  refine g_lconst h 3 lc_0 dX9_noBeat_2 rfl ?_
  refine g_al0 h 4 dX9_noBeat_3 rfl ?_
  refine g_geti h 7 fF_X9_87_X9 lyR_0 rfl dX9_noBeat_4 rfl ?_
  refine g_i2l h 8 dX9_noBeat_7 rfl ?_
  refine g_lconst h 9 lc_1 dX9_noBeat_8 rfl ?_
  refine g_lsub h 10 dX9_noBeat_9 rfl ?_
  obtain ⟨r1, σ1, hc1, hf⟩ := my_ofb hf
  refine g_callSi h 13 cs_X9_83 (ct_X9_in w hc1) rfl rfl (Nat.le_of_ble_eq_true rfl) ⟨Nat.le_of_ble_eq_true rfl, Nat.le_of_ble_eq_true rfl⟩ dX9_noBeat_10 rfl ?_
  refine g_ifne_sel h 20 21 dX9_noBeat_13 (by decide) dX9_noBeat_16 ic_1 dX9_noBeat_17 (by decide) dX9_noBeat_20 ic_0 rfl ?_
  obtain ⟨hqz, hf⟩ := my_chk hf
  exact g_zret h dX9_noBeat_21 hqz (my_r1 hf) (my_r2 hf)
def f_X9_pitch (σ : my_M) (x1 : Int32) (x2 : Int32) : Option (Int32 × my_M) :=
(if my_ix ((6 * x1) + x2) (my_len layR 2) then
some ((σ 2 (Int32.toNatClampNeg ((6 * x1) + x2))), σ)
else none)
set_option maxRecDepth 100000 in
set_option maxHeartbeats 4000000 in
theorem ct_X9_pitch (w : my_V) {σ : my_M} {x1 : Int32} {x2 : Int32} {r : Int32} {τ : my_M} (hf : f_X9_pitch σ x1 x2 = some (r, τ)) : Ct w layR mX9_pitch 1 [.ref (w.2.2.2 0), .int x1, .int x2] σ (some (.int r)) τ := by
  refine my_met RX9 [some (.ref (w.2.2.2 0)), some (.int x1), some (.int x2)] 0 (by decide) rfl (Nat.le_of_ble_eq_true rfl) rfl (fun X h => ?_)
  unfold f_X9_pitch at hf
  refine g_al0 h 1 dX9_pitch_0 rfl ?_
  refine g_geta h 4 fF_X9_13_X9 lyR_0 rfl dX9_pitch_1 rfl ?_
  refine g_bipush h 6 bp_6 dX9_pitch_4 rfl ?_
  refine g_il1 h 7 dX9_pitch_6 rfl ?_
  refine g_imul h 8 dX9_pitch_7 rfl ?_
  refine g_il2 h 9 dX9_pitch_8 rfl ?_
  refine g_iadd h 10 dX9_pitch_9 rfl ?_
  obtain ⟨hq1, hf⟩ := my_chk hf
  refine g_iald h 11 dX9_pitch_10 rfl hq1 ?_
  exact g_iret h dX9_pitch_11 (my_r1 hf) (my_r2 hf)
def b_X9_airOf_0 (k0 : my_M → Int32 → Int32 → Int32 → Option (Int32 × my_M)) (σ : my_M) (x1 : Int32) (x2 : Int32) (x3 : Int32) : Option (Int32 × my_M) :=
(if (σ 0 11) ≤ x3 then
some (x2, σ)
else
(if my_ix x3 (my_len layR 7) then
(my_bnd (f_X9_noBeat σ (x1 - (σ 7 (Int32.toNatClampNeg x3)))) fun r2 σ2 =>
(if r2 = 0 then
(if my_ix x3 (my_len layR 6) then
(my_bnd (f_X9_pitch σ2 (σ2 6 (Int32.toNatClampNeg x3)) (x1 - (σ 7 (Int32.toNatClampNeg x3)))) fun r4 σ4 =>
(if r4 < 0 then
k0 σ4 x1 ((x2 ||| 0)) ((x3 + 1))
else
(if my_ix x3 (my_len layR 6) then
(my_bnd (f_X9_pitch σ4 (σ4 6 (Int32.toNatClampNeg x3)) (x1 - (σ 7 (Int32.toNatClampNeg x3)))) fun r6 σ6 =>
(if my_ix x3 (my_len layR 8) then
k0 σ6 x1 ((x2 ||| (1 <<< ((r6 + (σ6 8 (Int32.toNatClampNeg x3))) &&& 31)))) ((x3 + 1))
else none))
else none)))
else none)
else
k0 σ2 x1 ((x2 ||| 0)) ((x3 + 1))))
else none))
def g_X9_airOf : Nat → my_M → Int32 → Int32 → Int32 → Option (Int32 × my_M)
  | 0 => fun _ _ _ _ => none
  | n + 1 => b_X9_airOf_0 (g_X9_airOf n)
def f_X9_airOf (σ : my_M) (x1 : Int32) : Option (Int32 × my_M) :=
(g_X9_airOf my_NF) σ x1 0 0
set_option maxRecDepth 100000 in
set_option maxHeartbeats 4000000 in
theorem lp_X9_airOf (w : my_V) {X : my_X} {r : Int32} {τ : my_M} (h : my_OK X w layR cX9_airOf RX9 5 (some .int)) : ∀ n : Nat, (∀ (σ : my_M) (x1 : Int32) (x2 : Int32) (x3 : Int32), (g_X9_airOf n) σ x1 x2 x3 = some (r, τ) → Go X w layR 3 5 (some (.int r)) τ σ 4 [some (.ref (w.2.2.2 0)), some (.int x1), some (.int x2), some (.int x3), none] []) := by
  intro n
  induction n with
  | zero => exact fun _ _ _ _ hf => (my_nn hf).elim
  | succ n ih =>
    intro σ x1 x2 x3 hf
    replace hf : b_X9_airOf_0 (g_X9_airOf n) σ x1 x2 x3 = some (r, τ) := hf
    unfold b_X9_airOf_0 at hf
    refine g_il3 h 5 dX9_airOf_4 rfl ?_
    refine g_al0 h 6 dX9_airOf_5 rfl ?_
    refine g_geti h 9 fF_X9_139_X9 lyR_0 rfl dX9_airOf_6 rfl ?_
    refine g_icge h 80 12 dX9_airOf_9 (by decide) rfl (fun hc => ?_) (fun hc => ?_)
    · have hf := my_ifT hc hf
      refine g_il2 h 81 dX9_airOf_80 rfl ?_
      exact g_iret h dX9_airOf_81 (my_r1 hf) (my_r2 hf)
    · have hf := my_ifF hc hf
      refine g_il1 h 13 dX9_airOf_12 rfl ?_
      refine g_al0 h 14 dX9_airOf_13 rfl ?_
      refine g_geta h 17 fF_X9_28_X9 lyR_0 rfl dX9_airOf_14 rfl ?_
      refine g_il3 h 18 dX9_airOf_17 rfl ?_
      obtain ⟨hq1, hf⟩ := my_chk hf
      refine g_iald h 19 dX9_airOf_18 rfl hq1 ?_
      refine g_isub h 20 dX9_airOf_19 rfl ?_
      refine g_is4 h 22 (Nat.le_of_ble_eq_true rfl) rfl dX9_airOf_20 rfl ?_
      refine g_il2 h 23 dX9_airOf_22 rfl ?_
      refine g_al0 h 24 dX9_airOf_23 rfl ?_
      refine g_il4 h 26 dX9_airOf_24 rfl ?_
      obtain ⟨r2, σ2, hc2, hf⟩ := my_ofb hf
      refine g_callVi h 29 cs_X9_172 rfl lyR_0 (ct_X9_noBeat w hc2) rfl rfl (Nat.le_of_ble_eq_true rfl) ⟨Nat.le_of_ble_eq_true rfl, Nat.le_of_ble_eq_true rfl⟩ dX9_airOf_26 rfl ?_
      refine g_ifne h 71 32 dX9_airOf_29 (by decide) rfl (fun hc => ?_) (fun hc => ?_)
      · have hf := my_ifF hc hf
        refine g_iconst h 72 ic_0 dX9_airOf_71 rfl ?_
        refine g_ior h 73 dX9_airOf_72 rfl ?_
        refine g_is2 h 74 (Nat.le_of_ble_eq_true rfl) rfl dX9_airOf_73 rfl ?_
        refine g_inc3 h 77 (my_inc ic_1 _) (Nat.le_of_ble_eq_true rfl) rfl dX9_airOf_74 rfl ?_
        refine g_goto h 4 dX9_airOf_77 (by decide) ?_
        exact g_weak (ih _ _ _ _ hf) (w_s (w_s (w_s (w_s (w_n w_0)))))
      · have hf := my_ifT hc hf
        refine g_al0 h 33 dX9_airOf_32 rfl ?_
        refine g_al0 h 34 dX9_airOf_33 rfl ?_
        refine g_geta h 37 fF_X9_25_X9 lyR_0 rfl dX9_airOf_34 rfl ?_
        refine g_il3 h 38 dX9_airOf_37 rfl ?_
        obtain ⟨hq3, hf⟩ := my_chk hf
        refine g_iald h 39 dX9_airOf_38 rfl hq3 ?_
        refine g_il4 h 41 dX9_airOf_39 rfl ?_
        obtain ⟨r4, σ4, hc4, hf⟩ := my_ofb hf
        refine g_callVi h 44 cs_X9_145 rfl lyR_0 (ct_X9_pitch w hc4) rfl rfl (Nat.le_of_ble_eq_true rfl) ⟨Nat.le_of_ble_eq_true rfl, Nat.le_of_ble_eq_true rfl⟩ dX9_airOf_41 rfl ?_
        refine g_iflt h 71 47 dX9_airOf_44 (by decide) rfl (fun hc => ?_) (fun hc => ?_)
        · have hf := my_ifT hc hf
          refine g_iconst h 72 ic_0 dX9_airOf_71 rfl ?_
          refine g_ior h 73 dX9_airOf_72 rfl ?_
          refine g_is2 h 74 (Nat.le_of_ble_eq_true rfl) rfl dX9_airOf_73 rfl ?_
          refine g_inc3 h 77 (my_inc ic_1 _) (Nat.le_of_ble_eq_true rfl) rfl dX9_airOf_74 rfl ?_
          refine g_goto h 4 dX9_airOf_77 (by decide) ?_
          exact g_weak (ih _ _ _ _ hf) (w_s (w_s (w_s (w_s (w_n w_0)))))
        · have hf := my_ifF hc hf
          refine g_iconst h 48 ic_1 dX9_airOf_47 rfl ?_
          refine g_al0 h 49 dX9_airOf_48 rfl ?_
          refine g_al0 h 50 dX9_airOf_49 rfl ?_
          refine g_geta h 53 fF_X9_25_X9 lyR_0 rfl dX9_airOf_50 rfl ?_
          refine g_il3 h 54 dX9_airOf_53 rfl ?_
          obtain ⟨hq5, hf⟩ := my_chk hf
          refine g_iald h 55 dX9_airOf_54 rfl hq5 ?_
          refine g_il4 h 57 dX9_airOf_55 rfl ?_
          obtain ⟨r6, σ6, hc6, hf⟩ := my_ofb hf
          refine g_callVi h 60 cs_X9_145 rfl lyR_0 (ct_X9_pitch w hc6) rfl rfl (Nat.le_of_ble_eq_true rfl) ⟨Nat.le_of_ble_eq_true rfl, Nat.le_of_ble_eq_true rfl⟩ dX9_airOf_57 rfl ?_
          refine g_al0 h 61 dX9_airOf_60 rfl ?_
          refine g_geta h 64 fF_X9_31_X9 lyR_0 rfl dX9_airOf_61 rfl ?_
          refine g_il3 h 65 dX9_airOf_64 rfl ?_
          obtain ⟨hq7, hf⟩ := my_chk hf
          refine g_iald h 66 dX9_airOf_65 rfl hq7 ?_
          refine g_iadd h 67 dX9_airOf_66 rfl ?_
          refine g_ishl h 68 dX9_airOf_67 rfl ?_
          refine g_goto h 72 dX9_airOf_68 (by decide) ?_
          refine g_ior h 73 dX9_airOf_72 rfl ?_
          refine g_is2 h 74 (Nat.le_of_ble_eq_true rfl) rfl dX9_airOf_73 rfl ?_
          refine g_inc3 h 77 (my_inc ic_1 _) (Nat.le_of_ble_eq_true rfl) rfl dX9_airOf_74 rfl ?_
          refine g_goto h 4 dX9_airOf_77 (by decide) ?_
          exact g_weak (ih _ _ _ _ hf) (w_s (w_s (w_s (w_s (w_n w_0)))))
set_option maxRecDepth 100000 in
set_option maxHeartbeats 4000000 in
theorem ct_X9_airOf (w : my_V) {σ : my_M} {x1 : Int32} {r : Int32} {τ : my_M} (hf : f_X9_airOf σ x1 = some (r, τ)) : Ct w layR mX9_airOf 3 [.ref (w.2.2.2 0), .int x1] σ (some (.int r)) τ := by
  refine my_met RX9 [some (.ref (w.2.2.2 0)), some (.int x1), none, none, none] 3 (by decide) rfl (Nat.le_of_ble_eq_true rfl) rfl (fun X h => ?_)
  unfold f_X9_airOf at hf
  refine g_iconst h 1 ic_0 dX9_airOf_0 rfl ?_
  refine g_is2 h 2 (Nat.le_of_ble_eq_true rfl) rfl dX9_airOf_1 rfl ?_
  refine g_iconst h 3 ic_0 dX9_airOf_2 rfl ?_
  refine g_is3 h 4 (Nat.le_of_ble_eq_true rfl) rfl dX9_airOf_3 rfl ?_
  exact g_weak ((lp_X9_airOf w h my_NF) _ _ _ _ hf) (w_s (w_s (w_s (w_s (w_s w_0)))))
def f_X9_isMoment (σ : my_M) (x0 : Int32) : Option (Int32 × my_M) :=
(my_bnd (f_X9_in σ (Int32.toInt64 x0) 0 25) fun r1 σ1 =>
(if my_b r1 then some (r1, σ1) else none))
set_option maxRecDepth 100000 in
set_option maxHeartbeats 4000000 in
theorem ct_X9_isMoment (w : my_V) {σ : my_M} {x0 : Int32} {r : Int32} {τ : my_M} (hf : f_X9_isMoment σ x0 = some (r, τ)) : Ct w layR mX9_isMoment 2 [.int x0] σ (some (.int r)) τ := by
  refine my_met RX9 [some (.int x0)] 0 (by decide) rfl (Nat.le_of_ble_eq_true rfl) rfl (fun X h => ?_)
  unfold f_X9_isMoment at hf
  refine g_il0 h 1 dX9_isMoment_0 rfl ?_
  refine g_i2l h 2 dX9_isMoment_1 rfl ?_
  refine g_lconst h 3 lc_0 dX9_isMoment_2 rfl ?_
  refine g_ldc2 h 6 tw_kl_X9_200 dX9_isMoment_3 rfl ?_
  obtain ⟨r1, σ1, hc1, hf⟩ := my_ofb hf
  refine g_callSi h 9 cs_X9_83 (ct_X9_in w hc1) rfl rfl (Nat.le_of_ble_eq_true rfl) ⟨Nat.le_of_ble_eq_true rfl, Nat.le_of_ble_eq_true rfl⟩ dX9_isMoment_6 rfl ?_
  obtain ⟨hqz, hf⟩ := my_chk hf
  exact g_zret h dX9_isMoment_9 hqz (my_r1 hf) (my_r2 hf)
def f_X9_air (σ : my_M) (x1 : Int32) : Option (Int32 × my_M) :=
(my_bnd (f_X9_isMoment σ x1) fun r1 σ1 =>
(if r1 = 0 then
some ((-2), σ1)
else
(if (σ1 0 1) = 0 then
some ((-3), σ1)
else
(my_bnd (f_X9_airOf σ1 x1) fun r2 σ2 =>
some (r2, σ2)))))
set_option maxRecDepth 100000 in
set_option maxHeartbeats 4000000 in
theorem ct_X9_air (w : my_V) {σ : my_M} {x1 : Int32} {r : Int32} {τ : my_M} (hf : f_X9_air σ x1 = some (r, τ)) : Ct w layR mX9_air 4 [.ref (w.2.2.2 0), .int x1] σ (some (.int r)) τ := by
  refine my_met RX9 [some (.ref (w.2.2.2 0)), some (.int x1)] 0 (by decide) rfl (Nat.le_of_ble_eq_true rfl) rfl (fun X h => ?_)
  unfold f_X9_air at hf
  refine g_il1 h 1 dX9_air_0 rfl ?_
  obtain ⟨r1, σ1, hc1, hf⟩ := my_ofb hf
  refine g_callSi h 4 cs_X9_202 (ct_X9_isMoment w hc1) rfl rfl (Nat.le_of_ble_eq_true rfl) ⟨Nat.le_of_ble_eq_true rfl, Nat.le_of_ble_eq_true rfl⟩ dX9_air_1 rfl ?_
  refine g_ifne h 10 7 dX9_air_4 (by decide) rfl (fun hc => ?_) (fun hc => ?_)
  · have hf := my_ifF hc hf
    refine g_al0 h 11 dX9_air_10 rfl ?_
    refine g_geti h 14 fF_X9_80_X9 lyR_0 rfl dX9_air_11 rfl ?_
    refine g_ifne h 22 17 dX9_air_14 (by decide) rfl (fun hc => ?_) (fun hc => ?_)
    · have hf := my_ifF hc hf
      refine g_al0 h 23 dX9_air_22 rfl ?_
      refine g_il1 h 24 dX9_air_23 rfl ?_
      obtain ⟨r2, σ2, hc2, hf⟩ := my_ofb hf
      refine g_callVi h 27 cs_X9_205 rfl lyR_0 (ct_X9_airOf w hc2) rfl rfl (Nat.le_of_ble_eq_true rfl) ⟨Nat.le_of_ble_eq_true rfl, Nat.le_of_ble_eq_true rfl⟩ dX9_air_24 rfl ?_
      exact g_iret h dX9_air_27 (my_r1 hf) (my_r2 hf)
    · have hf := my_ifT hc hf
      refine g_bipush h 19 bp_m3 dX9_air_17 rfl ?_
      refine g_goto h 27 dX9_air_19 (by decide) ?_
      exact g_iret h dX9_air_27 (my_r1 hf) (my_r2 hf)
  · have hf := my_ifT hc hf
    refine g_bipush h 9 bp_m2 dX9_air_7 rfl ?_
    exact g_iret h dX9_air_9 (my_r1 hf) (my_r2 hf)
def f_X9_counts (σ : my_M) (x1 : Int32) (x2 : Int32) (x3 : Int32) : Option (Int32 × my_M) :=
(my_bnd (f_X9_in σ ((Int32.toInt64 x2) - (Int32.toInt64 x3)) (-1) 1) fun r1 σ1 =>
(if my_ix x1 (my_len layR 1) then
(if (σ1 1 (Int32.toNatClampNeg x1)) = 0 then
(if x2 = x3 then
some (1, σ1)
else
some (0, σ1))
else
(if my_ix x1 (my_len layR 1) then
(if (σ1 1 (Int32.toNatClampNeg x1)) = 1 then
(if r1 = 0 then
some (0, σ1)
else
some (1, σ1))
else
(if x2 = x3 then
some (2, σ1)
else
some ((if r1 = 0 then 0 else 1 : Int32), σ1)))
else none))
else none))
set_option maxRecDepth 100000 in
set_option maxHeartbeats 4000000 in
theorem ct_X9_counts (w : my_V) {σ : my_M} {x1 : Int32} {x2 : Int32} {x3 : Int32} {r : Int32} {τ : my_M} (hf : f_X9_counts σ x1 x2 x3 = some (r, τ)) : Ct w layR mX9_counts 2 [.ref (w.2.2.2 0), .int x1, .int x2, .int x3] σ (some (.int r)) τ := by
  refine my_met RX9 [some (.ref (w.2.2.2 0)), some (.int x1), some (.int x2), some (.int x3), none] 1 (by decide) rfl (Nat.le_of_ble_eq_true rfl) rfl (fun X h => ?_)
  unfold f_X9_counts at hf
  refine g_il2 h 1 dX9_counts_0 rfl ?_
  refine g_i2l h 2 dX9_counts_1 rfl ?_
  refine g_il3 h 3 dX9_counts_2 rfl ?_
  refine g_i2l h 4 dX9_counts_3 rfl ?_
  refine g_lsub h 5 dX9_counts_4 rfl ?_
  refine g_ldc2 h 8 tw_kl_X9_178 dX9_counts_5 rfl ?_
  refine g_lconst h 9 lc_1 dX9_counts_8 rfl ?_
  obtain ⟨r1, σ1, hc1, hf⟩ := my_ofb hf
  refine g_callSi h 12 cs_X9_83 (ct_X9_in w hc1) rfl rfl (Nat.le_of_ble_eq_true rfl) ⟨Nat.le_of_ble_eq_true rfl, Nat.le_of_ble_eq_true rfl⟩ dX9_counts_9 rfl ?_
  refine g_is4 h 14 (Nat.le_of_ble_eq_true rfl) rfl dX9_counts_12 rfl ?_
  refine g_al0 h 15 dX9_counts_14 rfl ?_
  refine g_geta h 18 fF_X9_7_X9 lyR_0 rfl dX9_counts_15 rfl ?_
  refine g_il1 h 19 dX9_counts_18 rfl ?_
  obtain ⟨hq2, hf⟩ := my_chk hf
  refine g_iald h 20 dX9_counts_19 rfl hq2 ?_
  refine g_ifne h 36 23 dX9_counts_20 (by decide) rfl (fun hc => ?_) (fun hc => ?_)
  · have hf := my_ifF hc hf
    refine g_al0 h 37 dX9_counts_36 rfl ?_
    refine g_geta h 40 fF_X9_7_X9 lyR_0 rfl dX9_counts_37 rfl ?_
    refine g_il1 h 41 dX9_counts_40 rfl ?_
    obtain ⟨hq3, hf⟩ := my_chk hf
    refine g_iald h 42 dX9_counts_41 rfl hq3 ?_
    refine g_iconst h 43 ic_1 dX9_counts_42 rfl ?_
    refine g_icne h 59 46 dX9_counts_43 (by decide) rfl (fun hc => ?_) (fun hc => ?_)
    · have hf := my_ifF hc hf
      refine g_il2 h 60 dX9_counts_59 rfl ?_
      refine g_il3 h 61 dX9_counts_60 rfl ?_
      refine g_icne h 68 64 dX9_counts_61 (by decide) rfl (fun hc => ?_) (fun hc => ?_)
      · have hf := my_ifF hc hf
        refine g_il4 h 70 dX9_counts_68 rfl ?_
        refine g_ifeq_sel h 77 78 dX9_counts_70 (by decide) dX9_counts_73 ic_1 dX9_counts_74 (by decide) dX9_counts_77 ic_0 rfl ?_
        exact g_iret h dX9_counts_78 (my_r1 hf) (my_r2 hf)
      · have hf := my_ifT hc hf
        refine g_iconst h 65 ic_2 dX9_counts_64 rfl ?_
        refine g_goto h 78 dX9_counts_65 (by decide) ?_
        exact g_iret h dX9_counts_78 (my_r1 hf) (my_r2 hf)
    · have hf := my_ifT hc hf
      refine g_il4 h 48 dX9_counts_46 rfl ?_
      refine g_ifeq h 55 51 dX9_counts_48 (by decide) rfl (fun hc => ?_) (fun hc => ?_)
      · have hf := my_ifT hc hf
        refine g_iconst h 56 ic_0 dX9_counts_55 rfl ?_
        refine g_goto h 78 dX9_counts_56 (by decide) ?_
        exact g_iret h dX9_counts_78 (my_r1 hf) (my_r2 hf)
      · have hf := my_ifF hc hf
        refine g_iconst h 52 ic_1 dX9_counts_51 rfl ?_
        refine g_goto h 78 dX9_counts_52 (by decide) ?_
        exact g_iret h dX9_counts_78 (my_r1 hf) (my_r2 hf)
  · have hf := my_ifT hc hf
    refine g_il2 h 24 dX9_counts_23 rfl ?_
    refine g_il3 h 25 dX9_counts_24 rfl ?_
    refine g_icne h 32 28 dX9_counts_25 (by decide) rfl (fun hc => ?_) (fun hc => ?_)
    · have hf := my_ifF hc hf
      refine g_iconst h 33 ic_0 dX9_counts_32 rfl ?_
      refine g_goto h 78 dX9_counts_33 (by decide) ?_
      exact g_iret h dX9_counts_78 (my_r1 hf) (my_r2 hf)
    · have hf := my_ifT hc hf
      refine g_iconst h 29 ic_1 dX9_counts_28 rfl ?_
      refine g_goto h 78 dX9_counts_29 (by decide) ?_
      exact g_iret h dX9_counts_78 (my_r1 hf) (my_r2 hf)
def b_X9_heardBy_0 (k0 : my_M → Int32 → Int32 → Int32 → Int32 → Int32 → Int32 → Option (Int32 × my_M)) (σ : my_M) (x1 : Int32) (x2 : Int32) (x3 : Int32) (x4 : Int32) (x5 : Int32) (x6 : Int32) : Option (Int32 × my_M) :=
(if (σ 0 2) ≤ x6 then
some (x5, σ)
else
(my_bnd (f_X9_noBeat σ (x6 + x3)) fun r1 σ1 =>
(if r1 = 0 then
(my_bnd (f_X9_pitch σ1 x2 x6) fun r2 σ2 =>
(if r2 < 0 then
k0 σ2 x1 x2 x3 x4 ((x5 + 0)) ((x6 + 1))
else
(my_bnd (f_X9_pitch σ2 x1 (x6 + x3)) fun r3 σ3 =>
(if (if r3 < 0 then 0 else 1 : Int32) = 0 then
k0 σ3 x1 x2 x3 x4 ((x5 + 0)) ((x6 + 1))
else
(my_bnd (f_X9_pitch σ3 x1 (x6 + x3)) fun r4 σ4 =>
(my_bnd (f_X9_pitch σ4 x2 x6) fun r5 σ5 =>
(my_bnd (f_X9_counts σ5 x1 r4 (r5 + x4)) fun r6 σ6 =>
k0 σ6 x1 x2 x3 x4 ((x5 + r6)) ((x6 + 1)))))))))
else
k0 σ1 x1 x2 x3 x4 ((x5 + 0)) ((x6 + 1)))))
def g_X9_heardBy : Nat → my_M → Int32 → Int32 → Int32 → Int32 → Int32 → Int32 → Option (Int32 × my_M)
  | 0 => fun _ _ _ _ _ _ _ => none
  | n + 1 => b_X9_heardBy_0 (g_X9_heardBy n)
def f_X9_heardBy (σ : my_M) (x1 : Int32) (x2 : Int32) (x3 : Int32) (x4 : Int32) : Option (Int32 × my_M) :=
(g_X9_heardBy my_NF) σ x1 x2 x3 x4 0 0
set_option maxRecDepth 100000 in
set_option maxHeartbeats 4000000 in
theorem lp_X9_heardBy (w : my_V) {X : my_X} {r : Int32} {τ : my_M} (h : my_OK X w layR cX9_heardBy RX9 8 (some .int)) : ∀ n : Nat, (∀ (σ : my_M) (x1 : Int32) (x2 : Int32) (x3 : Int32) (x4 : Int32) (x5 : Int32) (x6 : Int32), (g_X9_heardBy n) σ x1 x2 x3 x4 x5 x6 = some (r, τ) → Go X w layR 3 8 (some (.int r)) τ σ 6 [some (.ref (w.2.2.2 0)), some (.int x1), some (.int x2), some (.int x3), some (.int x4), some (.int x5), some (.int x6), none] []) := by
  intro n
  induction n with
  | zero => exact fun _ _ _ _ _ _ _ hf => (my_nn hf).elim
  | succ n ih =>
    intro σ x1 x2 x3 x4 x5 x6 hf
    replace hf : b_X9_heardBy_0 (g_X9_heardBy n) σ x1 x2 x3 x4 x5 x6 = some (r, τ) := hf
    unfold b_X9_heardBy_0 at hf
    refine g_il6 h 8 dX9_heardBy_6 rfl ?_
    refine g_al0 h 9 dX9_heardBy_8 rfl ?_
    refine g_geti h 12 fF_X9_87_X9 lyR_0 rfl dX9_heardBy_9 rfl ?_
    refine g_icge h 99 15 dX9_heardBy_12 (by decide) rfl (fun hc => ?_) (fun hc => ?_)
    · have hf := my_ifT hc hf
      refine g_il5 h 101 dX9_heardBy_99 rfl ?_
      exact g_iret h dX9_heardBy_101 (my_r1 hf) (my_r2 hf)
    · have hf := my_ifF hc hf
      refine g_al0 h 16 dX9_heardBy_15 rfl ?_
      refine g_il6 h 18 dX9_heardBy_16 rfl ?_
      refine g_il3 h 19 dX9_heardBy_18 rfl ?_
      refine g_iadd h 20 dX9_heardBy_19 rfl ?_
      obtain ⟨r1, σ1, hc1, hf⟩ := my_ofb hf
      refine g_callVi h 23 cs_X9_172 rfl lyR_0 (ct_X9_noBeat w hc1) rfl rfl (Nat.le_of_ble_eq_true rfl) ⟨Nat.le_of_ble_eq_true rfl, Nat.le_of_ble_eq_true rfl⟩ dX9_heardBy_20 rfl ?_
      refine g_ifne h 52 26 dX9_heardBy_23 (by decide) rfl (fun hc => ?_) (fun hc => ?_)
      · have hf := my_ifF hc hf
        refine g_iconst h 53 ic_0 dX9_heardBy_52 rfl ?_
        refine g_is7 h 55 (Nat.le_of_ble_eq_true rfl) rfl dX9_heardBy_53 rfl ?_
        refine g_il5 h 57 dX9_heardBy_55 rfl ?_
        refine g_il7 h 59 dX9_heardBy_57 rfl ?_
        refine g_ifeq h 89 62 dX9_heardBy_59 (by decide) rfl (fun _ => ?_) (fun hc => absurd hc (by decide))
        refine g_iconst h 90 ic_0 dX9_heardBy_89 rfl ?_
        refine g_iadd h 91 dX9_heardBy_90 rfl ?_
        refine g_is5 h 93 (Nat.le_of_ble_eq_true rfl) rfl dX9_heardBy_91 rfl ?_
        refine g_inc6 h 96 (my_inc ic_1 _) (Nat.le_of_ble_eq_true rfl) rfl dX9_heardBy_93 rfl ?_
        refine g_goto h 6 dX9_heardBy_96 (by decide) ?_
        exact g_weak (ih _ _ _ _ _ _ _ hf) (w_s (w_s (w_s (w_s (w_s (w_s (w_s (w_n w_0))))))))
      · have hf := my_ifT hc hf
        refine g_al0 h 27 dX9_heardBy_26 rfl ?_
        refine g_il2 h 28 dX9_heardBy_27 rfl ?_
        refine g_il6 h 30 dX9_heardBy_28 rfl ?_
        obtain ⟨r2, σ2, hc2, hf⟩ := my_ofb hf
        refine g_callVi h 33 cs_X9_145 rfl lyR_0 (ct_X9_pitch w hc2) rfl rfl (Nat.le_of_ble_eq_true rfl) ⟨Nat.le_of_ble_eq_true rfl, Nat.le_of_ble_eq_true rfl⟩ dX9_heardBy_30 rfl ?_
        refine g_iflt h 52 36 dX9_heardBy_33 (by decide) rfl (fun hc => ?_) (fun hc => ?_)
        · have hf := my_ifT hc hf
          refine g_iconst h 53 ic_0 dX9_heardBy_52 rfl ?_
          refine g_is7 h 55 (Nat.le_of_ble_eq_true rfl) rfl dX9_heardBy_53 rfl ?_
          refine g_il5 h 57 dX9_heardBy_55 rfl ?_
          refine g_il7 h 59 dX9_heardBy_57 rfl ?_
          refine g_ifeq h 89 62 dX9_heardBy_59 (by decide) rfl (fun _ => ?_) (fun hc => absurd hc (by decide))
          refine g_iconst h 90 ic_0 dX9_heardBy_89 rfl ?_
          refine g_iadd h 91 dX9_heardBy_90 rfl ?_
          refine g_is5 h 93 (Nat.le_of_ble_eq_true rfl) rfl dX9_heardBy_91 rfl ?_
          refine g_inc6 h 96 (my_inc ic_1 _) (Nat.le_of_ble_eq_true rfl) rfl dX9_heardBy_93 rfl ?_
          refine g_goto h 6 dX9_heardBy_96 (by decide) ?_
          exact g_weak (ih _ _ _ _ _ _ _ hf) (w_s (w_s (w_s (w_s (w_s (w_s (w_s (w_n w_0))))))))
        · have hf := my_ifF hc hf
          refine g_al0 h 37 dX9_heardBy_36 rfl ?_
          refine g_il1 h 38 dX9_heardBy_37 rfl ?_
          refine g_il6 h 40 dX9_heardBy_38 rfl ?_
          refine g_il3 h 41 dX9_heardBy_40 rfl ?_
          refine g_iadd h 42 dX9_heardBy_41 rfl ?_
          obtain ⟨r3, σ3, hc3, hf⟩ := my_ofb hf
          refine g_callVi h 45 cs_X9_145 rfl lyR_0 (ct_X9_pitch w hc3) rfl rfl (Nat.le_of_ble_eq_true rfl) ⟨Nat.le_of_ble_eq_true rfl, Nat.le_of_ble_eq_true rfl⟩ dX9_heardBy_42 rfl ?_
          refine g_iflt_sel h 52 53 dX9_heardBy_45 (by decide) dX9_heardBy_48 ic_1 dX9_heardBy_49 (by decide) dX9_heardBy_52 ic_0 rfl ?_
          refine g_is7 h 55 (Nat.le_of_ble_eq_true rfl) rfl dX9_heardBy_53 rfl ?_
          refine g_il5 h 57 dX9_heardBy_55 rfl ?_
          refine g_il7 h 59 dX9_heardBy_57 rfl ?_
          refine g_ifeq h 89 62 dX9_heardBy_59 (by decide) rfl (fun hc => ?_) (fun hc => ?_)
          · have hf := my_ifT hc hf
            refine g_iconst h 90 ic_0 dX9_heardBy_89 rfl ?_
            refine g_iadd h 91 dX9_heardBy_90 rfl ?_
            refine g_is5 h 93 (Nat.le_of_ble_eq_true rfl) rfl dX9_heardBy_91 rfl ?_
            refine g_inc6 h 96 (my_inc ic_1 _) (Nat.le_of_ble_eq_true rfl) rfl dX9_heardBy_93 rfl ?_
            refine g_goto h 6 dX9_heardBy_96 (by decide) ?_
            exact g_weak (ih _ _ _ _ _ _ _ hf) (w_s (w_s (w_s (w_s (w_s (w_s (w_s (w_n w_0))))))))
          · have hf := my_ifF hc hf
            refine g_al0 h 63 dX9_heardBy_62 rfl ?_
            refine g_il1 h 64 dX9_heardBy_63 rfl ?_
            refine g_al0 h 65 dX9_heardBy_64 rfl ?_
            refine g_il1 h 66 dX9_heardBy_65 rfl ?_
            refine g_il6 h 68 dX9_heardBy_66 rfl ?_
            refine g_il3 h 69 dX9_heardBy_68 rfl ?_
            refine g_iadd h 70 dX9_heardBy_69 rfl ?_
            obtain ⟨r4, σ4, hc4, hf⟩ := my_ofb hf
            refine g_callVi h 73 cs_X9_145 rfl lyR_0 (ct_X9_pitch w hc4) rfl rfl (Nat.le_of_ble_eq_true rfl) ⟨Nat.le_of_ble_eq_true rfl, Nat.le_of_ble_eq_true rfl⟩ dX9_heardBy_70 rfl ?_
            refine g_al0 h 74 dX9_heardBy_73 rfl ?_
            refine g_il2 h 75 dX9_heardBy_74 rfl ?_
            refine g_il6 h 77 dX9_heardBy_75 rfl ?_
            obtain ⟨r5, σ5, hc5, hf⟩ := my_ofb hf
            refine g_callVi h 80 cs_X9_145 rfl lyR_0 (ct_X9_pitch w hc5) rfl rfl (Nat.le_of_ble_eq_true rfl) ⟨Nat.le_of_ble_eq_true rfl, Nat.le_of_ble_eq_true rfl⟩ dX9_heardBy_77 rfl ?_
            refine g_il4 h 82 dX9_heardBy_80 rfl ?_
            refine g_iadd h 83 dX9_heardBy_82 rfl ?_
            obtain ⟨r6, σ6, hc6, hf⟩ := my_ofb hf
            refine g_callVi h 86 cs_X9_180 rfl lyR_0 (ct_X9_counts w hc6) rfl rfl (Nat.le_of_ble_eq_true rfl) ⟨Nat.le_of_ble_eq_true rfl, Nat.le_of_ble_eq_true rfl⟩ dX9_heardBy_83 rfl ?_
            refine g_goto h 90 dX9_heardBy_86 (by decide) ?_
            refine g_iadd h 91 dX9_heardBy_90 rfl ?_
            refine g_is5 h 93 (Nat.le_of_ble_eq_true rfl) rfl dX9_heardBy_91 rfl ?_
            refine g_inc6 h 96 (my_inc ic_1 _) (Nat.le_of_ble_eq_true rfl) rfl dX9_heardBy_93 rfl ?_
            refine g_goto h 6 dX9_heardBy_96 (by decide) ?_
            exact g_weak (ih _ _ _ _ _ _ _ hf) (w_s (w_s (w_s (w_s (w_s (w_s (w_s (w_n w_0))))))))
set_option maxRecDepth 100000 in
set_option maxHeartbeats 4000000 in
theorem ct_X9_heardBy (w : my_V) {σ : my_M} {x1 : Int32} {x2 : Int32} {x3 : Int32} {x4 : Int32} {r : Int32} {τ : my_M} (hf : f_X9_heardBy σ x1 x2 x3 x4 = some (r, τ)) : Ct w layR mX9_heardBy 3 [.ref (w.2.2.2 0), .int x1, .int x2, .int x3, .int x4] σ (some (.int r)) τ := by
  refine my_met RX9 [some (.ref (w.2.2.2 0)), some (.int x1), some (.int x2), some (.int x3), some (.int x4), none, none, none] 3 (by decide) rfl (Nat.le_of_ble_eq_true rfl) rfl (fun X h => ?_)
  unfold f_X9_heardBy at hf
  refine g_iconst h 1 ic_0 dX9_heardBy_0 rfl ?_
  refine g_is5 h 3 (Nat.le_of_ble_eq_true rfl) rfl dX9_heardBy_1 rfl ?_
  refine g_iconst h 4 ic_0 dX9_heardBy_3 rfl ?_
  refine g_is6 h 6 (Nat.le_of_ble_eq_true rfl) rfl dX9_heardBy_4 rfl ?_
  exact g_weak ((lp_X9_heardBy w h my_NF) _ _ _ _ _ _ _ hf) (w_s (w_s (w_s (w_s (w_s (w_s (w_s (w_s w_0))))))))
def b_X9_areSo_0 (k0 : my_M → Int32 → Int32 → Option (Int32 × my_M)) (σ : my_M) (x1 : Int32) (x2 : Int32) : Option (Int32 × my_M) :=
(if (σ 0 22) ≤ x2 then
(if my_b x1 then some (x1, σ) else none)
else
(if x1 = 0 then
k0 σ 0 ((x2 + 1))
else
(if my_ix x2 (my_len layR 12) then
(if my_ix x2 (my_len layR 13) then
(if my_ix x2 (my_len layR 14) then
(if my_ix x2 (my_len layR 15) then
(my_bnd (f_X9_heardBy σ (σ 12 (Int32.toNatClampNeg x2)) (σ 13 (Int32.toNatClampNeg x2)) (σ 14 (Int32.toNatClampNeg x2)) (σ 15 (Int32.toNatClampNeg x2))) fun r5 σ5 =>
(if my_ix x2 (my_len layR 16) then
k0 σ5 ((if r5 = (σ5 16 (Int32.toNatClampNeg x2)) then 1 else 0 : Int32)) ((x2 + 1))
else none))
else none)
else none)
else none)
else none)))
def g_X9_areSo : Nat → my_M → Int32 → Int32 → Option (Int32 × my_M)
  | 0 => fun _ _ _ => none
  | n + 1 => b_X9_areSo_0 (g_X9_areSo n)
def f_X9_areSo (σ : my_M) : Option (Int32 × my_M) :=
(g_X9_areSo my_NF) σ 1 0
set_option maxRecDepth 100000 in
set_option maxHeartbeats 4000000 in
theorem lp_X9_areSo (w : my_V) {X : my_X} {r : Int32} {τ : my_M} (h : my_OK X w layR cX9_areSo RX9 3 (some .boolean)) : ∀ n : Nat, (∀ (σ : my_M) (x1 : Int32) (x2 : Int32), (g_X9_areSo n) σ x1 x2 = some (r, τ) → Go X w layR 4 3 (some (.int r)) τ σ 4 [some (.ref (w.2.2.2 0)), some (.int x1), some (.int x2)] []) := by
  intro n
  induction n with
  | zero => exact fun _ _ _ hf => (my_nn hf).elim
  | succ n ih =>
    intro σ x1 x2 hf
    replace hf : b_X9_areSo_0 (g_X9_areSo n) σ x1 x2 = some (r, τ) := hf
    unfold b_X9_areSo_0 at hf
    refine g_il2 h 5 dX9_areSo_4 rfl ?_
    refine g_al0 h 6 dX9_areSo_5 rfl ?_
    refine g_geti h 9 fF_X9_142_X9 lyR_0 rfl dX9_areSo_6 rfl ?_
    refine g_icge h 65 12 dX9_areSo_9 (by decide) rfl (fun hc => ?_) (fun hc => ?_)
    · have hf := my_ifT hc hf
      refine g_il1 h 66 dX9_areSo_65 rfl ?_
      obtain ⟨hqz, hf⟩ := my_chk hf
      exact g_zret h dX9_areSo_66 hqz (my_r1 hf) (my_r2 hf)
    · have hf := my_ifF hc hf
      refine g_il1 h 13 dX9_areSo_12 rfl ?_
      refine g_ifeq h 57 16 dX9_areSo_13 (by decide) rfl (fun hc => ?_) (fun hc => ?_)
      · have hf := my_ifT hc hf
        refine g_iconst h 58 ic_0 dX9_areSo_57 rfl ?_
        refine g_is1 h 59 (Nat.le_of_ble_eq_true rfl) rfl dX9_areSo_58 rfl ?_
        refine g_inc2 h 62 (my_inc ic_1 _) (Nat.le_of_ble_eq_true rfl) rfl dX9_areSo_59 rfl ?_
        refine g_goto h 4 dX9_areSo_62 (by decide) ?_
        exact g_weak (ih _ _ _ hf) (w_s (w_s (w_s w_0)))
      · have hf := my_ifF hc hf
        refine g_al0 h 17 dX9_areSo_16 rfl ?_
        refine g_al0 h 18 dX9_areSo_17 rfl ?_
        refine g_geta h 21 fF_X9_43_X9 lyR_0 rfl dX9_areSo_18 rfl ?_
        refine g_il2 h 22 dX9_areSo_21 rfl ?_
        obtain ⟨hq1, hf⟩ := my_chk hf
        refine g_iald h 23 dX9_areSo_22 rfl hq1 ?_
        refine g_al0 h 24 dX9_areSo_23 rfl ?_
        refine g_geta h 27 fF_X9_46_X9 lyR_0 rfl dX9_areSo_24 rfl ?_
        refine g_il2 h 28 dX9_areSo_27 rfl ?_
        obtain ⟨hq2, hf⟩ := my_chk hf
        refine g_iald h 29 dX9_areSo_28 rfl hq2 ?_
        refine g_al0 h 30 dX9_areSo_29 rfl ?_
        refine g_geta h 33 fF_X9_49_X9 lyR_0 rfl dX9_areSo_30 rfl ?_
        refine g_il2 h 34 dX9_areSo_33 rfl ?_
        obtain ⟨hq3, hf⟩ := my_chk hf
        refine g_iald h 35 dX9_areSo_34 rfl hq3 ?_
        refine g_al0 h 36 dX9_areSo_35 rfl ?_
        refine g_geta h 39 fF_X9_52_X9 lyR_0 rfl dX9_areSo_36 rfl ?_
        refine g_il2 h 40 dX9_areSo_39 rfl ?_
        obtain ⟨hq4, hf⟩ := my_chk hf
        refine g_iald h 41 dX9_areSo_40 rfl hq4 ?_
        obtain ⟨r5, σ5, hc5, hf⟩ := my_ofb hf
        refine g_callVi h 44 cs_X9_191 rfl lyR_0 (ct_X9_heardBy w hc5) rfl rfl (Nat.le_of_ble_eq_true rfl) ⟨Nat.le_of_ble_eq_true rfl, Nat.le_of_ble_eq_true rfl⟩ dX9_areSo_41 rfl ?_
        refine g_al0 h 45 dX9_areSo_44 rfl ?_
        refine g_geta h 48 fF_X9_55_X9 lyR_0 rfl dX9_areSo_45 rfl ?_
        refine g_il2 h 49 dX9_areSo_48 rfl ?_
        obtain ⟨hq6, hf⟩ := my_chk hf
        refine g_iald h 50 dX9_areSo_49 rfl hq6 ?_
        refine g_icne_sel h 57 58 dX9_areSo_50 (by decide) dX9_areSo_53 ic_1 dX9_areSo_54 (by decide) dX9_areSo_57 ic_0 rfl ?_
        refine g_is1 h 59 (Nat.le_of_ble_eq_true rfl) rfl dX9_areSo_58 rfl ?_
        refine g_inc2 h 62 (my_inc ic_1 _) (Nat.le_of_ble_eq_true rfl) rfl dX9_areSo_59 rfl ?_
        refine g_goto h 4 dX9_areSo_62 (by decide) ?_
        exact g_weak (ih _ _ _ hf) (w_s (w_s (w_s w_0)))
set_option maxRecDepth 100000 in
set_option maxHeartbeats 4000000 in
theorem ct_X9_areSo (w : my_V) {σ : my_M} {r : Int32} {τ : my_M} (hf : f_X9_areSo σ = some (r, τ)) : Ct w layR mX9_areSo 4 [.ref (w.2.2.2 0)] σ (some (.int r)) τ := by
  refine my_met RX9 [some (.ref (w.2.2.2 0)), none, none] 2 (by decide) rfl (Nat.le_of_ble_eq_true rfl) rfl (fun X h => ?_)
  unfold f_X9_areSo at hf
  refine g_iconst h 1 ic_1 dX9_areSo_0 rfl ?_
  refine g_is1 h 2 (Nat.le_of_ble_eq_true rfl) rfl dX9_areSo_1 rfl ?_
  refine g_iconst h 3 ic_0 dX9_areSo_2 rfl ?_
  refine g_is2 h 4 (Nat.le_of_ble_eq_true rfl) rfl dX9_areSo_3 rfl ?_
  exact g_weak ((lp_X9_areSo w h my_NF) _ _ _ hf) (w_s (w_s (w_s w_0)))
def b_X9_bits_0 (k0 : my_M → Int32 → Int32 → Option (Int32 × my_M)) (σ : my_M) (x1 : Int32) (x2 : Int32) : Option (Int32 × my_M) :=
(if x2 ≤ 0 then
some (x1, σ)
else
k0 σ ((x1 + (x2 &&& 1))) ((x2 >>> (1 &&& 31))))
def g_X9_bits : Nat → my_M → Int32 → Int32 → Option (Int32 × my_M)
  | 0 => fun _ _ _ => none
  | n + 1 => b_X9_bits_0 (g_X9_bits n)
def f_X9_bits (σ : my_M) (x0 : Int32) : Option (Int32 × my_M) :=
(g_X9_bits my_NF) σ 0 x0
set_option maxRecDepth 100000 in
set_option maxHeartbeats 4000000 in
theorem lp_X9_bits (w : my_V) {X : my_X} {r : Int32} {τ : my_M} (h : my_OK X w layR cX9_bits RX9 3 (some .int)) : ∀ n : Nat, (∀ (σ : my_M) (x1 : Int32) (x2 : Int32), (g_X9_bits n) σ x1 x2 = some (r, τ) → Go X w layR 1 3 (some (.int r)) τ σ 4 [none, some (.int x1), some (.int x2)] []) := by
  intro n
  induction n with
  | zero => exact fun _ _ _ hf => (my_nn hf).elim
  | succ n ih =>
    intro σ x1 x2 hf
    replace hf : b_X9_bits_0 (g_X9_bits n) σ x1 x2 = some (r, τ) := hf
    unfold b_X9_bits_0 at hf
    refine g_il2 h 5 dX9_bits_4 rfl ?_
    refine g_ifle h 21 8 dX9_bits_5 (by decide) rfl (fun hc => ?_) (fun hc => ?_)
    · have hf := my_ifT hc hf
      refine g_il1 h 22 dX9_bits_21 rfl ?_
      exact g_iret h dX9_bits_22 (my_r1 hf) (my_r2 hf)
    · have hf := my_ifF hc hf
      refine g_il1 h 9 dX9_bits_8 rfl ?_
      refine g_il2 h 10 dX9_bits_9 rfl ?_
      refine g_iconst h 11 ic_1 dX9_bits_10 rfl ?_
      refine g_iand h 12 dX9_bits_11 rfl ?_
      refine g_iadd h 13 dX9_bits_12 rfl ?_
      refine g_is1 h 14 (Nat.le_of_ble_eq_true rfl) rfl dX9_bits_13 rfl ?_
      refine g_il2 h 15 dX9_bits_14 rfl ?_
      refine g_iconst h 16 ic_1 dX9_bits_15 rfl ?_
      refine g_ishr h 17 dX9_bits_16 rfl ?_
      refine g_is2 h 18 (Nat.le_of_ble_eq_true rfl) rfl dX9_bits_17 rfl ?_
      refine g_goto h 4 dX9_bits_18 (by decide) ?_
      exact g_weak (ih _ _ _ hf) (w_s (w_s (w_s w_0)))
set_option maxRecDepth 100000 in
set_option maxHeartbeats 4000000 in
theorem ct_X9_bits (w : my_V) {σ : my_M} {x0 : Int32} {r : Int32} {τ : my_M} (hf : f_X9_bits σ x0 = some (r, τ)) : Ct w layR mX9_bits 1 [.int x0] σ (some (.int r)) τ := by
  refine my_met RX9 [some (.int x0), none, none] 2 (by decide) rfl (Nat.le_of_ble_eq_true rfl) rfl (fun X h => ?_)
  unfold f_X9_bits at hf
  refine g_iconst h 1 ic_0 dX9_bits_0 rfl ?_
  refine g_is1 h 2 (Nat.le_of_ble_eq_true rfl) rfl dX9_bits_1 rfl ?_
  refine g_il0 h 3 dX9_bits_2 rfl ?_
  refine g_is2 h 4 (Nat.le_of_ble_eq_true rfl) rfl dX9_bits_3 rfl ?_
  exact g_weak ((lp_X9_bits w h my_NF) _ _ _ hf) (w_n (w_s (w_s w_0)))
def b_X9_areUnlike_0 (k0 : my_M → Int32 → Int32 → Option (Int32 × my_M)) (σ : my_M) (x1 : Int32) (x2 : Int32) : Option (Int32 × my_M) :=
(if (σ 0 2) ≤ x2 then
(my_bnd (f_X9_bits σ x1) fun r1 σ1 =>
(if my_b (if r1 = (σ1 0 2) then 1 else 0 : Int32) then some ((if r1 = (σ1 0 2) then 1 else 0 : Int32), σ1) else none))
else
(if my_ix x2 (my_len layR 5) then
k0 σ ((x1 ||| (1 <<< ((σ 5 (Int32.toNatClampNeg x2)) &&& 31)))) ((x2 + 1))
else none))
def g_X9_areUnlike : Nat → my_M → Int32 → Int32 → Option (Int32 × my_M)
  | 0 => fun _ _ _ => none
  | n + 1 => b_X9_areUnlike_0 (g_X9_areUnlike n)
def f_X9_areUnlike (σ : my_M) : Option (Int32 × my_M) :=
(g_X9_areUnlike my_NF) σ 0 0
set_option maxRecDepth 100000 in
set_option maxHeartbeats 4000000 in
theorem lp_X9_areUnlike (w : my_V) {X : my_X} {r : Int32} {τ : my_M} (h : my_OK X w layR cX9_areUnlike RX9 3 (some .boolean)) : ∀ n : Nat, (∀ (σ : my_M) (x1 : Int32) (x2 : Int32), (g_X9_areUnlike n) σ x1 x2 = some (r, τ) → Go X w layR 2 3 (some (.int r)) τ σ 4 [some (.ref (w.2.2.2 0)), some (.int x1), some (.int x2)] []) := by
  intro n
  induction n with
  | zero => exact fun _ _ _ hf => (my_nn hf).elim
  | succ n ih =>
    intro σ x1 x2 hf
    replace hf : b_X9_areUnlike_0 (g_X9_areUnlike n) σ x1 x2 = some (r, τ) := hf
    unfold b_X9_areUnlike_0 at hf
    refine g_il2 h 5 dX9_areUnlike_4 rfl ?_
    refine g_al0 h 6 dX9_areUnlike_5 rfl ?_
    refine g_geti h 9 fF_X9_87_X9 lyR_0 rfl dX9_areUnlike_6 rfl ?_
    refine g_icge h 29 12 dX9_areUnlike_9 (by decide) rfl (fun hc => ?_) (fun hc => ?_)
    · have hf := my_ifT hc hf
      refine g_il1 h 30 dX9_areUnlike_29 rfl ?_
      obtain ⟨r1, σ1, hc1, hf⟩ := my_ofb hf
      refine g_callSi h 33 cs_X9_148 (ct_X9_bits w hc1) rfl rfl (Nat.le_of_ble_eq_true rfl) ⟨Nat.le_of_ble_eq_true rfl, Nat.le_of_ble_eq_true rfl⟩ dX9_areUnlike_30 rfl ?_
      refine g_al0 h 34 dX9_areUnlike_33 rfl ?_
      refine g_geti h 37 fF_X9_87_X9 lyR_0 rfl dX9_areUnlike_34 rfl ?_
      refine g_icne_sel h 44 45 dX9_areUnlike_37 (by decide) dX9_areUnlike_40 ic_1 dX9_areUnlike_41 (by decide) dX9_areUnlike_44 ic_0 rfl ?_
      obtain ⟨hqz, hf⟩ := my_chk hf
      exact g_zret h dX9_areUnlike_45 hqz (my_r1 hf) (my_r2 hf)
    · have hf := my_ifF hc hf
      refine g_il1 h 13 dX9_areUnlike_12 rfl ?_
      refine g_iconst h 14 ic_1 dX9_areUnlike_13 rfl ?_
      refine g_al0 h 15 dX9_areUnlike_14 rfl ?_
      refine g_geta h 18 fF_X9_22_X9 lyR_0 rfl dX9_areUnlike_15 rfl ?_
      refine g_il2 h 19 dX9_areUnlike_18 rfl ?_
      obtain ⟨hq2, hf⟩ := my_chk hf
      refine g_iald h 20 dX9_areUnlike_19 rfl hq2 ?_
      refine g_ishl h 21 dX9_areUnlike_20 rfl ?_
      refine g_ior h 22 dX9_areUnlike_21 rfl ?_
      refine g_is1 h 23 (Nat.le_of_ble_eq_true rfl) rfl dX9_areUnlike_22 rfl ?_
      refine g_inc2 h 26 (my_inc ic_1 _) (Nat.le_of_ble_eq_true rfl) rfl dX9_areUnlike_23 rfl ?_
      refine g_goto h 4 dX9_areUnlike_26 (by decide) ?_
      exact g_weak (ih _ _ _ hf) (w_s (w_s (w_s w_0)))
set_option maxRecDepth 100000 in
set_option maxHeartbeats 4000000 in
theorem ct_X9_areUnlike (w : my_V) {σ : my_M} {r : Int32} {τ : my_M} (hf : f_X9_areUnlike σ = some (r, τ)) : Ct w layR mX9_areUnlike 2 [.ref (w.2.2.2 0)] σ (some (.int r)) τ := by
  refine my_met RX9 [some (.ref (w.2.2.2 0)), none, none] 2 (by decide) rfl (Nat.le_of_ble_eq_true rfl) rfl (fun X h => ?_)
  unfold f_X9_areUnlike at hf
  refine g_iconst h 1 ic_0 dX9_areUnlike_0 rfl ?_
  refine g_is1 h 2 (Nat.le_of_ble_eq_true rfl) rfl dX9_areUnlike_1 rfl ?_
  refine g_iconst h 3 ic_0 dX9_areUnlike_2 rfl ?_
  refine g_is2 h 4 (Nat.le_of_ble_eq_true rfl) rfl dX9_areUnlike_3 rfl ?_
  exact g_weak ((lp_X9_areUnlike w h my_NF) _ _ _ hf) (w_s (w_s (w_s w_0)))
def f_X9_failed (σ : my_M) (x1 : Int32) : Option (Int32 × my_M) :=
some (((-10) - x1), (my_up σ 0 0 x1))
set_option maxRecDepth 100000 in
set_option maxHeartbeats 4000000 in
theorem ct_X9_failed (w : my_V) {σ : my_M} {x1 : Int32} {r : Int32} {τ : my_M} (hf : f_X9_failed σ x1 = some (r, τ)) : Ct w layR mX9_failed 1 [.ref (w.2.2.2 0), .int x1] σ (some (.int r)) τ := by
  refine my_met RX9 [some (.ref (w.2.2.2 0)), some (.int x1)] 0 (by decide) rfl (Nat.le_of_ble_eq_true rfl) rfl (fun X h => ?_)
  unfold f_X9_failed at hf
  refine g_al0 h 1 dX9_failed_0 rfl ?_
  refine g_il1 h 2 dX9_failed_1 rfl ?_
  refine g_puti h 5 fP_X9_72_X9 lyR_0 rfl dX9_failed_2 rfl ?_
  refine g_bipush h 7 bp_m10 dX9_failed_5 rfl ?_
  refine g_il1 h 8 dX9_failed_7 rfl ?_
  refine g_isub h 9 dX9_failed_8 rfl ?_
  exact g_iret h dX9_failed_9 (my_r1 hf) (my_r2 hf)
def f_X9_noCaller (σ : my_M) (x1 : Int32) : Option (Int32 × my_M) :=
(my_bnd (f_X9_in σ (Int32.toInt64 x1) 0 ((Int32.toInt64 (σ 0 1)) - 1)) fun r1 σ1 =>
(if my_b (if r1 = 0 then 1 else 0 : Int32) then some ((if r1 = 0 then 1 else 0 : Int32), σ1) else none))
set_option maxRecDepth 100000 in
set_option maxHeartbeats 4000000 in
theorem ct_X9_noCaller (w : my_V) {σ : my_M} {x1 : Int32} {r : Int32} {τ : my_M} (hf : f_X9_noCaller σ x1 = some (r, τ)) : Ct w layR mX9_noCaller 2 [.ref (w.2.2.2 0), .int x1] σ (some (.int r)) τ := by
  refine my_met RX9 [some (.ref (w.2.2.2 0)), some (.int x1)] 0 (by decide) rfl (Nat.le_of_ble_eq_true rfl) rfl (fun X h => ?_)
  unfold f_X9_noCaller at hf
  refine g_il1 h 1 dX9_noCaller_0 rfl ?_
  refine g_i2l h 2 dX9_noCaller_1 rfl ?_
  refine g_lconst h 3 lc_0 dX9_noCaller_2 rfl ?_
  refine g_al0 h 4 dX9_noCaller_3 rfl ?_
  refine g_geti h 7 fF_X9_80_X9 lyR_0 rfl dX9_noCaller_4 rfl ?_
  refine g_i2l h 8 dX9_noCaller_7 rfl ?_
  refine g_lconst h 9 lc_1 dX9_noCaller_8 rfl ?_
  refine g_lsub h 10 dX9_noCaller_9 rfl ?_
  obtain ⟨r1, σ1, hc1, hf⟩ := my_ofb hf
  refine g_callSi h 13 cs_X9_83 (ct_X9_in w hc1) rfl rfl (Nat.le_of_ble_eq_true rfl) ⟨Nat.le_of_ble_eq_true rfl, Nat.le_of_ble_eq_true rfl⟩ dX9_noCaller_10 rfl ?_
  refine g_ifne_sel h 20 21 dX9_noCaller_13 (by decide) dX9_noCaller_16 ic_1 dX9_noCaller_17 (by decide) dX9_noCaller_20 ic_0 rfl ?_
  obtain ⟨hqz, hf⟩ := my_chk hf
  exact g_zret h dX9_noCaller_21 hqz (my_r1 hf) (my_r2 hf)
def f_X9_refused (σ : my_M) (x1 : Int32) : Option (Int32 × my_M) :=
some (x1, (my_up σ 0 0 0))
set_option maxRecDepth 100000 in
set_option maxHeartbeats 4000000 in
theorem ct_X9_refused (w : my_V) {σ : my_M} {x1 : Int32} {r : Int32} {τ : my_M} (hf : f_X9_refused σ x1 = some (r, τ)) : Ct w layR mX9_refused 1 [.ref (w.2.2.2 0), .int x1] σ (some (.int r)) τ := by
  refine my_met RX9 [some (.ref (w.2.2.2 0)), some (.int x1)] 0 (by decide) rfl (Nat.le_of_ble_eq_true rfl) rfl (fun X h => ?_)
  unfold f_X9_refused at hf
  refine g_al0 h 1 dX9_refused_0 rfl ?_
  refine g_iconst h 2 ic_0 dX9_refused_1 rfl ?_
  refine g_puti h 5 fP_X9_72_X9 lyR_0 rfl dX9_refused_2 rfl ?_
  refine g_il1 h 6 dX9_refused_5 rfl ?_
  exact g_iret h dX9_refused_6 (my_r1 hf) (my_r2 hf)
def f_X9_as (σ : my_M) (x1 : Int32) (x2 : Int32) : Option (Int32 × my_M) :=
(my_bnd (f_X9_noCaller σ x1) fun r1 σ1 =>
(if r1 = 0 then
(my_bnd (f_X9_in σ1 (Int32.toInt64 x2) 0 2) fun r2 σ2 =>
(if r2 = 0 then
(my_bnd (f_X9_refused σ2 (-2)) fun r6 σ6 =>
some (r6, σ6))
else
(if my_ix x1 (my_len layR 1) then
(if (σ2 1 (Int32.toNatClampNeg x1)) < x2 then
(my_bnd (f_X9_failed σ2 2) fun r4 σ4 =>
some (r4, σ4))
else
(my_bnd (f_X9_refused σ2 1) fun r5 σ5 =>
some (r5, σ5)))
else none)))
else
(my_bnd (f_X9_refused σ1 (-1)) fun r7 σ7 =>
some (r7, σ7))))
set_option maxRecDepth 100000 in
set_option maxHeartbeats 4000000 in
theorem ct_X9_as (w : my_V) {σ : my_M} {x1 : Int32} {x2 : Int32} {r : Int32} {τ : my_M} (hf : f_X9_as σ x1 x2 = some (r, τ)) : Ct w layR mX9_as 3 [.ref (w.2.2.2 0), .int x1, .int x2] σ (some (.int r)) τ := by
  refine my_met RX9 [some (.ref (w.2.2.2 0)), some (.int x1), some (.int x2)] 0 (by decide) rfl (Nat.le_of_ble_eq_true rfl) rfl (fun X h => ?_)
  unfold f_X9_as at hf
  refine g_al0 h 1 dX9_as_0 rfl ?_
  refine g_il1 h 2 dX9_as_1 rfl ?_
  obtain ⟨r1, σ1, hc1, hf⟩ := my_ofb hf
  refine g_callVi h 5 cs_X9_165 rfl lyR_0 (ct_X9_noCaller w hc1) rfl rfl (Nat.le_of_ble_eq_true rfl) ⟨Nat.le_of_ble_eq_true rfl, Nat.le_of_ble_eq_true rfl⟩ dX9_as_2 rfl ?_
  refine g_ifeq h 14 8 dX9_as_5 (by decide) rfl (fun hc => ?_) (fun hc => ?_)
  · have hf := my_ifT hc hf
    refine g_il2 h 15 dX9_as_14 rfl ?_
    refine g_i2l h 16 dX9_as_15 rfl ?_
    refine g_lconst h 17 lc_0 dX9_as_16 rfl ?_
    refine g_ldc2 h 20 tw_kl_X9_109 dX9_as_17 rfl ?_
    obtain ⟨r2, σ2, hc2, hf⟩ := my_ofb hf
    refine g_callSi h 23 cs_X9_83 (ct_X9_in w hc2) rfl rfl (Nat.le_of_ble_eq_true rfl) ⟨Nat.le_of_ble_eq_true rfl, Nat.le_of_ble_eq_true rfl⟩ dX9_as_20 rfl ?_
    refine g_ifne h 33 26 dX9_as_23 (by decide) rfl (fun hc => ?_) (fun hc => ?_)
    · have hf := my_ifF hc hf
      refine g_al0 h 34 dX9_as_33 rfl ?_
      refine g_geta h 37 fF_X9_7_X9 lyR_0 rfl dX9_as_34 rfl ?_
      refine g_il1 h 38 dX9_as_37 rfl ?_
      obtain ⟨hq3, hf⟩ := my_chk hf
      refine g_iald h 39 dX9_as_38 rfl hq3 ?_
      refine g_il2 h 40 dX9_as_39 rfl ?_
      refine g_iclt h 51 43 dX9_as_40 (by decide) rfl (fun hc => ?_) (fun hc => ?_)
      · have hf := my_ifT hc hf
        refine g_al0 h 52 dX9_as_51 rfl ?_
        refine g_iconst h 53 ic_2 dX9_as_52 rfl ?_
        obtain ⟨r4, σ4, hc4, hf⟩ := my_ofb hf
        refine g_callVi h 56 cs_X9_117 rfl lyR_0 (ct_X9_failed w hc4) rfl rfl (Nat.le_of_ble_eq_true rfl) ⟨Nat.le_of_ble_eq_true rfl, Nat.le_of_ble_eq_true rfl⟩ dX9_as_53 rfl ?_
        exact g_iret h dX9_as_56 (my_r1 hf) (my_r2 hf)
      · have hf := my_ifF hc hf
        refine g_al0 h 44 dX9_as_43 rfl ?_
        refine g_iconst h 45 ic_1 dX9_as_44 rfl ?_
        obtain ⟨r5, σ5, hc5, hf⟩ := my_ofb hf
        refine g_callVi h 48 cs_X9_129 rfl lyR_0 (ct_X9_refused w hc5) rfl rfl (Nat.le_of_ble_eq_true rfl) ⟨Nat.le_of_ble_eq_true rfl, Nat.le_of_ble_eq_true rfl⟩ dX9_as_45 rfl ?_
        refine g_goto h 56 dX9_as_48 (by decide) ?_
        exact g_iret h dX9_as_56 (my_r1 hf) (my_r2 hf)
    · have hf := my_ifT hc hf
      refine g_al0 h 27 dX9_as_26 rfl ?_
      refine g_bipush h 29 bp_m2 dX9_as_27 rfl ?_
      obtain ⟨r6, σ6, hc6, hf⟩ := my_ofb hf
      refine g_callVi h 32 cs_X9_129 rfl lyR_0 (ct_X9_refused w hc6) rfl rfl (Nat.le_of_ble_eq_true rfl) ⟨Nat.le_of_ble_eq_true rfl, Nat.le_of_ble_eq_true rfl⟩ dX9_as_29 rfl ?_
      exact g_iret h dX9_as_32 (my_r1 hf) (my_r2 hf)
  · have hf := my_ifF hc hf
    refine g_al0 h 9 dX9_as_8 rfl ?_
    refine g_iconst h 10 ic_m1 dX9_as_9 rfl ?_
    obtain ⟨r7, σ7, hc7, hf⟩ := my_ofb hf
    refine g_callVi h 13 cs_X9_129 rfl lyR_0 (ct_X9_refused w hc7) rfl rfl (Nat.le_of_ble_eq_true rfl) ⟨Nat.le_of_ble_eq_true rfl, Nat.le_of_ble_eq_true rfl⟩ dX9_as_10 rfl ?_
    exact g_iret h dX9_as_13 (my_r1 hf) (my_r2 hf)
def f_X9_back (σ : my_M) (x1 : Int32) : Option (Int32 × my_M) :=
(my_bnd (f_X9_in σ (Int32.toInt64 x1) 0 (Int32.toInt64 (σ 0 22))) fun r1 σ1 =>
(if r1 = 0 then
some ((-2), σ1)
else
some (((my_up σ1 0 22 ((σ1 0 22) - x1)) 0 22), (my_up σ1 0 22 ((σ1 0 22) - x1)))))
set_option maxRecDepth 100000 in
set_option maxHeartbeats 4000000 in
theorem ct_X9_back (w : my_V) {σ : my_M} {x1 : Int32} {r : Int32} {τ : my_M} (hf : f_X9_back σ x1 = some (r, τ)) : Ct w layR mX9_back 2 [.ref (w.2.2.2 0), .int x1] σ (some (.int r)) τ := by
  refine my_met RX9 [some (.ref (w.2.2.2 0)), some (.int x1)] 0 (by decide) rfl (Nat.le_of_ble_eq_true rfl) rfl (fun X h => ?_)
  unfold f_X9_back at hf
  refine g_il1 h 1 dX9_back_0 rfl ?_
  refine g_i2l h 2 dX9_back_1 rfl ?_
  refine g_lconst h 3 lc_0 dX9_back_2 rfl ?_
  refine g_al0 h 4 dX9_back_3 rfl ?_
  refine g_geti h 7 fF_X9_142_X9 lyR_0 rfl dX9_back_4 rfl ?_
  refine g_i2l h 8 dX9_back_7 rfl ?_
  obtain ⟨r1, σ1, hc1, hf⟩ := my_ofb hf
  refine g_callSi h 11 cs_X9_83 (ct_X9_in w hc1) rfl rfl (Nat.le_of_ble_eq_true rfl) ⟨Nat.le_of_ble_eq_true rfl, Nat.le_of_ble_eq_true rfl⟩ dX9_back_8 rfl ?_
  refine g_ifne h 17 14 dX9_back_11 (by decide) rfl (fun hc => ?_) (fun hc => ?_)
  · have hf := my_ifF hc hf
    refine g_al0 h 18 dX9_back_17 rfl ?_
    refine g_dup h 19 rfl dX9_back_18 rfl ?_
    refine g_geti h 22 fF_X9_142_X9 lyR_0 rfl dX9_back_19 rfl ?_
    refine g_il1 h 23 dX9_back_22 rfl ?_
    refine g_isub h 24 dX9_back_23 rfl ?_
    refine g_puti h 27 fP_X9_142_X9 lyR_0 rfl dX9_back_24 rfl ?_
    refine g_al0 h 28 dX9_back_27 rfl ?_
    refine g_geti h 31 fF_X9_142_X9 lyR_0 rfl dX9_back_28 rfl ?_
    exact g_iret h dX9_back_31 (my_r1 hf) (my_r2 hf)
  · have hf := my_ifT hc hf
    refine g_bipush h 16 bp_m2 dX9_back_14 rfl ?_
    exact g_iret h dX9_back_16 (my_r1 hf) (my_r2 hf)
def f_X9_isBeyond (σ : my_M) (x0 : Int32) (y1 : Int64) (x3 : Int32) : Option (Int32 × my_M) :=
(if x0 < 0 then
some (1, σ)
else
(if (lg_cmp y1 0) < 0 then
some (1, σ)
else
(if my_b (if (lg_cmp ((Int32.toInt64 x0) + y1) (Int32.toInt64 x3)) ≤ 0 then 0 else 1 : Int32) then some ((if (lg_cmp ((Int32.toInt64 x0) + y1) (Int32.toInt64 x3)) ≤ 0 then 0 else 1 : Int32), σ) else none)))
set_option maxRecDepth 100000 in
set_option maxHeartbeats 4000000 in
theorem ct_X9_isBeyond (w : my_V) {σ : my_M} {x0 : Int32} {y1 : Int64} {x3 : Int32} {r : Int32} {τ : my_M} (hf : f_X9_isBeyond σ x0 y1 x3 = some (r, τ)) : Ct w layR mX9_isBeyond 1 [.int x0, .long y1, .int x3] σ (some (.int r)) τ := by
  refine my_met RX9 [some (.int x0), some (.long y1), none, some (.int x3)] 0 (by decide) rfl (Nat.le_of_ble_eq_true rfl) rfl (fun X h => ?_)
  unfold f_X9_isBeyond at hf
  refine g_il0 h 1 dX9_isBeyond_0 rfl ?_
  refine g_iflt h 20 4 dX9_isBeyond_1 (by decide) rfl (fun hc => ?_) (fun hc => ?_)
  · have hf := my_ifT hc hf
    refine g_iconst h 21 ic_1 dX9_isBeyond_20 rfl ?_
    refine g_goto h 25 dX9_isBeyond_21 (by decide) ?_
    exact g_zret h dX9_isBeyond_25 (Or.inr rfl) (my_r1 hf) (my_r2 hf)
  · have hf := my_ifF hc hf
    refine g_ll1 h 5 dX9_isBeyond_4 rfl ?_
    refine g_lconst h 6 lc_0 dX9_isBeyond_5 rfl ?_
    refine g_lcmp h 7 dX9_isBeyond_6 rfl ?_
    refine g_iflt h 20 10 dX9_isBeyond_7 (by decide) rfl (fun hc => ?_) (fun hc => ?_)
    · have hf := my_ifT hc hf
      refine g_iconst h 21 ic_1 dX9_isBeyond_20 rfl ?_
      refine g_goto h 25 dX9_isBeyond_21 (by decide) ?_
      exact g_zret h dX9_isBeyond_25 (Or.inr rfl) (my_r1 hf) (my_r2 hf)
    · have hf := my_ifF hc hf
      refine g_il0 h 11 dX9_isBeyond_10 rfl ?_
      refine g_i2l h 12 dX9_isBeyond_11 rfl ?_
      refine g_ll1 h 13 dX9_isBeyond_12 rfl ?_
      refine g_ladd h 14 dX9_isBeyond_13 rfl ?_
      refine g_il3 h 15 dX9_isBeyond_14 rfl ?_
      refine g_i2l h 16 dX9_isBeyond_15 rfl ?_
      refine g_lcmp h 17 dX9_isBeyond_16 rfl ?_
      refine g_ifle_sel h 24 25 dX9_isBeyond_17 (by decide) dX9_isBeyond_20 ic_1 dX9_isBeyond_21 (by decide) dX9_isBeyond_24 ic_0 rfl ?_
      obtain ⟨hqz, hf⟩ := my_chk hf
      exact g_zret h dX9_isBeyond_25 hqz (my_r1 hf) (my_r2 hf)
def f_X9_cellsBarred (σ : my_M) (x1 : Int32) (x2 : Int32) (x3 : Int32) (y4 : Int64) : Option (Int32 × my_M) :=
(if my_ix x1 (my_len layR 17) then
(if (σ 17 (Int32.toNatClampNeg x1)) < 0 then
(if my_ix x1 (my_len layR 17) then
(if 0 ≤ (σ 17 (Int32.toNatClampNeg x1)) then
(if 0 ≤ (lg_cmp y4 0) then
(if my_ix x1 (my_len layR 17) then
(my_bnd (f_X9_isBeyond σ x3 y4 (σ 17 (Int32.toNatClampNeg x1))) fun r4 σ4 =>
(if r4 = 0 then
some (0, σ4)
else
(my_bnd (f_X9_failed σ4 3) fun r5 σ5 =>
some (r5, σ5))))
else none)
else
(my_bnd (f_X9_failed σ 4) fun r6 σ6 =>
some (r6, σ6)))
else
(my_bnd (f_X9_failed σ 1) fun r7 σ7 =>
some (r7, σ7)))
else none)
else
(if my_ix x1 (my_len layR 18) then
(if (σ 18 (Int32.toNatClampNeg x1)) = x2 then
(if my_ix x1 (my_len layR 17) then
(if 0 ≤ (σ 17 (Int32.toNatClampNeg x1)) then
(if 0 ≤ (lg_cmp y4 0) then
(if my_ix x1 (my_len layR 17) then
(my_bnd (f_X9_isBeyond σ x3 y4 (σ 17 (Int32.toNatClampNeg x1))) fun r11 σ11 =>
(if r11 = 0 then
some (0, σ11)
else
(my_bnd (f_X9_failed σ11 3) fun r12 σ12 =>
some (r12, σ12))))
else none)
else
(my_bnd (f_X9_failed σ 4) fun r13 σ13 =>
some (r13, σ13)))
else
(my_bnd (f_X9_failed σ 1) fun r14 σ14 =>
some (r14, σ14)))
else none)
else
(my_bnd (f_X9_failed σ 2) fun r15 σ15 =>
some (r15, σ15)))
else none))
else none)
set_option maxRecDepth 100000 in
set_option maxHeartbeats 4000000 in
theorem ct_X9_cellsBarred (w : my_V) {σ : my_M} {x1 : Int32} {x2 : Int32} {x3 : Int32} {y4 : Int64} {r : Int32} {τ : my_M} (hf : f_X9_cellsBarred σ x1 x2 x3 y4 = some (r, τ)) : Ct w layR mX9_cellsBarred 2 [.ref (w.2.2.2 0), .int x1, .int x2, .int x3, .long y4] σ (some (.int r)) τ := by
  refine my_met RX9 [some (.ref (w.2.2.2 0)), some (.int x1), some (.int x2), some (.int x3), some (.long y4), none] 0 (by decide) rfl (Nat.le_of_ble_eq_true rfl) rfl (fun X h => ?_)
  unfold f_X9_cellsBarred at hf
  refine g_al0 h 1 dX9_cellsBarred_0 rfl ?_
  refine g_geta h 4 fF_X9_58_X9 lyR_0 rfl dX9_cellsBarred_1 rfl ?_
  refine g_il1 h 5 dX9_cellsBarred_4 rfl ?_
  obtain ⟨hq1, hf⟩ := my_chk hf
  refine g_iald h 6 dX9_cellsBarred_5 rfl hq1 ?_
  refine g_iflt h 25 9 dX9_cellsBarred_6 (by decide) rfl (fun hc => ?_) (fun hc => ?_)
  · have hf := my_ifT hc hf
    refine g_al0 h 26 dX9_cellsBarred_25 rfl ?_
    refine g_geta h 29 fF_X9_58_X9 lyR_0 rfl dX9_cellsBarred_26 rfl ?_
    refine g_il1 h 30 dX9_cellsBarred_29 rfl ?_
    obtain ⟨hq2, hf⟩ := my_chk hf
    refine g_iald h 31 dX9_cellsBarred_30 rfl hq2 ?_
    refine g_ifge h 40 34 dX9_cellsBarred_31 (by decide) rfl (fun hc => ?_) (fun hc => ?_)
    · have hf := my_ifT hc hf
      refine g_ll4 h 42 dX9_cellsBarred_40 rfl ?_
      refine g_lconst h 43 lc_0 dX9_cellsBarred_42 rfl ?_
      refine g_lcmp h 44 dX9_cellsBarred_43 rfl ?_
      refine g_ifge h 53 47 dX9_cellsBarred_44 (by decide) rfl (fun hc => ?_) (fun hc => ?_)
      · have hf := my_ifT hc hf
        refine g_il3 h 54 dX9_cellsBarred_53 rfl ?_
        refine g_ll4 h 56 dX9_cellsBarred_54 rfl ?_
        refine g_al0 h 57 dX9_cellsBarred_56 rfl ?_
        refine g_geta h 60 fF_X9_58_X9 lyR_0 rfl dX9_cellsBarred_57 rfl ?_
        refine g_il1 h 61 dX9_cellsBarred_60 rfl ?_
        obtain ⟨hq3, hf⟩ := my_chk hf
        refine g_iald h 62 dX9_cellsBarred_61 rfl hq3 ?_
        obtain ⟨r4, σ4, hc4, hf⟩ := my_ofb hf
        refine g_callSi h 65 cs_X9_121 (ct_X9_isBeyond w hc4) rfl rfl (Nat.le_of_ble_eq_true rfl) ⟨Nat.le_of_ble_eq_true rfl, Nat.le_of_ble_eq_true rfl⟩ dX9_cellsBarred_62 rfl ?_
        refine g_ifeq h 76 68 dX9_cellsBarred_65 (by decide) rfl (fun hc => ?_) (fun hc => ?_)
        · have hf := my_ifT hc hf
          refine g_iconst h 77 ic_0 dX9_cellsBarred_76 rfl ?_
          exact g_iret h dX9_cellsBarred_77 (my_r1 hf) (my_r2 hf)
        · have hf := my_ifF hc hf
          refine g_al0 h 69 dX9_cellsBarred_68 rfl ?_
          refine g_iconst h 70 ic_3 dX9_cellsBarred_69 rfl ?_
          obtain ⟨r5, σ5, hc5, hf⟩ := my_ofb hf
          refine g_callVi h 73 cs_X9_117 rfl lyR_0 (ct_X9_failed w hc5) rfl rfl (Nat.le_of_ble_eq_true rfl) ⟨Nat.le_of_ble_eq_true rfl, Nat.le_of_ble_eq_true rfl⟩ dX9_cellsBarred_70 rfl ?_
          refine g_goto h 77 dX9_cellsBarred_73 (by decide) ?_
          exact g_iret h dX9_cellsBarred_77 (my_r1 hf) (my_r2 hf)
      · have hf := my_ifF hc hf
        refine g_al0 h 48 dX9_cellsBarred_47 rfl ?_
        refine g_iconst h 49 ic_4 dX9_cellsBarred_48 rfl ?_
        obtain ⟨r6, σ6, hc6, hf⟩ := my_ofb hf
        refine g_callVi h 52 cs_X9_117 rfl lyR_0 (ct_X9_failed w hc6) rfl rfl (Nat.le_of_ble_eq_true rfl) ⟨Nat.le_of_ble_eq_true rfl, Nat.le_of_ble_eq_true rfl⟩ dX9_cellsBarred_49 rfl ?_
        exact g_iret h dX9_cellsBarred_52 (my_r1 hf) (my_r2 hf)
    · have hf := my_ifF hc hf
      refine g_al0 h 35 dX9_cellsBarred_34 rfl ?_
      refine g_iconst h 36 ic_1 dX9_cellsBarred_35 rfl ?_
      obtain ⟨r7, σ7, hc7, hf⟩ := my_ofb hf
      refine g_callVi h 39 cs_X9_117 rfl lyR_0 (ct_X9_failed w hc7) rfl rfl (Nat.le_of_ble_eq_true rfl) ⟨Nat.le_of_ble_eq_true rfl, Nat.le_of_ble_eq_true rfl⟩ dX9_cellsBarred_36 rfl ?_
      exact g_iret h dX9_cellsBarred_39 (my_r1 hf) (my_r2 hf)
  · have hf := my_ifF hc hf
    refine g_al0 h 10 dX9_cellsBarred_9 rfl ?_
    refine g_geta h 13 fF_X9_61_X9 lyR_0 rfl dX9_cellsBarred_10 rfl ?_
    refine g_il1 h 14 dX9_cellsBarred_13 rfl ?_
    obtain ⟨hq8, hf⟩ := my_chk hf
    refine g_iald h 15 dX9_cellsBarred_14 rfl hq8 ?_
    refine g_il2 h 16 dX9_cellsBarred_15 rfl ?_
    refine g_iceq h 25 19 dX9_cellsBarred_16 (by decide) rfl (fun hc => ?_) (fun hc => ?_)
    · have hf := my_ifT hc hf
      refine g_al0 h 26 dX9_cellsBarred_25 rfl ?_
      refine g_geta h 29 fF_X9_58_X9 lyR_0 rfl dX9_cellsBarred_26 rfl ?_
      refine g_il1 h 30 dX9_cellsBarred_29 rfl ?_
      obtain ⟨hq9, hf⟩ := my_chk hf
      refine g_iald h 31 dX9_cellsBarred_30 rfl hq9 ?_
      refine g_ifge h 40 34 dX9_cellsBarred_31 (by decide) rfl (fun hc => ?_) (fun hc => ?_)
      · have hf := my_ifT hc hf
        refine g_ll4 h 42 dX9_cellsBarred_40 rfl ?_
        refine g_lconst h 43 lc_0 dX9_cellsBarred_42 rfl ?_
        refine g_lcmp h 44 dX9_cellsBarred_43 rfl ?_
        refine g_ifge h 53 47 dX9_cellsBarred_44 (by decide) rfl (fun hc => ?_) (fun hc => ?_)
        · have hf := my_ifT hc hf
          refine g_il3 h 54 dX9_cellsBarred_53 rfl ?_
          refine g_ll4 h 56 dX9_cellsBarred_54 rfl ?_
          refine g_al0 h 57 dX9_cellsBarred_56 rfl ?_
          refine g_geta h 60 fF_X9_58_X9 lyR_0 rfl dX9_cellsBarred_57 rfl ?_
          refine g_il1 h 61 dX9_cellsBarred_60 rfl ?_
          obtain ⟨hq10, hf⟩ := my_chk hf
          refine g_iald h 62 dX9_cellsBarred_61 rfl hq10 ?_
          obtain ⟨r11, σ11, hc11, hf⟩ := my_ofb hf
          refine g_callSi h 65 cs_X9_121 (ct_X9_isBeyond w hc11) rfl rfl (Nat.le_of_ble_eq_true rfl) ⟨Nat.le_of_ble_eq_true rfl, Nat.le_of_ble_eq_true rfl⟩ dX9_cellsBarred_62 rfl ?_
          refine g_ifeq h 76 68 dX9_cellsBarred_65 (by decide) rfl (fun hc => ?_) (fun hc => ?_)
          · have hf := my_ifT hc hf
            refine g_iconst h 77 ic_0 dX9_cellsBarred_76 rfl ?_
            exact g_iret h dX9_cellsBarred_77 (my_r1 hf) (my_r2 hf)
          · have hf := my_ifF hc hf
            refine g_al0 h 69 dX9_cellsBarred_68 rfl ?_
            refine g_iconst h 70 ic_3 dX9_cellsBarred_69 rfl ?_
            obtain ⟨r12, σ12, hc12, hf⟩ := my_ofb hf
            refine g_callVi h 73 cs_X9_117 rfl lyR_0 (ct_X9_failed w hc12) rfl rfl (Nat.le_of_ble_eq_true rfl) ⟨Nat.le_of_ble_eq_true rfl, Nat.le_of_ble_eq_true rfl⟩ dX9_cellsBarred_70 rfl ?_
            refine g_goto h 77 dX9_cellsBarred_73 (by decide) ?_
            exact g_iret h dX9_cellsBarred_77 (my_r1 hf) (my_r2 hf)
        · have hf := my_ifF hc hf
          refine g_al0 h 48 dX9_cellsBarred_47 rfl ?_
          refine g_iconst h 49 ic_4 dX9_cellsBarred_48 rfl ?_
          obtain ⟨r13, σ13, hc13, hf⟩ := my_ofb hf
          refine g_callVi h 52 cs_X9_117 rfl lyR_0 (ct_X9_failed w hc13) rfl rfl (Nat.le_of_ble_eq_true rfl) ⟨Nat.le_of_ble_eq_true rfl, Nat.le_of_ble_eq_true rfl⟩ dX9_cellsBarred_49 rfl ?_
          exact g_iret h dX9_cellsBarred_52 (my_r1 hf) (my_r2 hf)
      · have hf := my_ifF hc hf
        refine g_al0 h 35 dX9_cellsBarred_34 rfl ?_
        refine g_iconst h 36 ic_1 dX9_cellsBarred_35 rfl ?_
        obtain ⟨r14, σ14, hc14, hf⟩ := my_ofb hf
        refine g_callVi h 39 cs_X9_117 rfl lyR_0 (ct_X9_failed w hc14) rfl rfl (Nat.le_of_ble_eq_true rfl) ⟨Nat.le_of_ble_eq_true rfl, Nat.le_of_ble_eq_true rfl⟩ dX9_cellsBarred_36 rfl ?_
        exact g_iret h dX9_cellsBarred_39 (my_r1 hf) (my_r2 hf)
    · have hf := my_ifF hc hf
      refine g_al0 h 20 dX9_cellsBarred_19 rfl ?_
      refine g_iconst h 21 ic_2 dX9_cellsBarred_20 rfl ?_
      obtain ⟨r15, σ15, hc15, hf⟩ := my_ofb hf
      refine g_callVi h 24 cs_X9_117 rfl lyR_0 (ct_X9_failed w hc15) rfl rfl (Nat.le_of_ble_eq_true rfl) ⟨Nat.le_of_ble_eq_true rfl, Nat.le_of_ble_eq_true rfl⟩ dX9_cellsBarred_21 rfl ?_
      exact g_iret h dX9_cellsBarred_24 (my_r1 hf) (my_r2 hf)
def f_X9_noSheet (σ : my_M) (x0 : Int32) : Option (Int32 × my_M) :=
(my_bnd (f_X9_in σ (Int32.toInt64 x0) 0 3) fun r1 σ1 =>
(if my_b (if r1 = 0 then 1 else 0 : Int32) then some ((if r1 = 0 then 1 else 0 : Int32), σ1) else none))
set_option maxRecDepth 100000 in
set_option maxHeartbeats 4000000 in
theorem ct_X9_noSheet (w : my_V) {σ : my_M} {x0 : Int32} {r : Int32} {τ : my_M} (hf : f_X9_noSheet σ x0 = some (r, τ)) : Ct w layR mX9_noSheet 2 [.int x0] σ (some (.int r)) τ := by
  refine my_met RX9 [some (.int x0)] 0 (by decide) rfl (Nat.le_of_ble_eq_true rfl) rfl (fun X h => ?_)
  unfold f_X9_noSheet at hf
  refine g_il0 h 1 dX9_noSheet_0 rfl ?_
  refine g_i2l h 2 dX9_noSheet_1 rfl ?_
  refine g_lconst h 3 lc_0 dX9_noSheet_2 rfl ?_
  refine g_ldc2 h 6 tw_kl_X9_219 dX9_noSheet_3 rfl ?_
  obtain ⟨r1, σ1, hc1, hf⟩ := my_ofb hf
  refine g_callSi h 9 cs_X9_83 (ct_X9_in w hc1) rfl rfl (Nat.le_of_ble_eq_true rfl) ⟨Nat.le_of_ble_eq_true rfl, Nat.le_of_ble_eq_true rfl⟩ dX9_noSheet_6 rfl ?_
  refine g_ifne_sel h 16 17 dX9_noSheet_9 (by decide) dX9_noSheet_12 ic_1 dX9_noSheet_13 (by decide) dX9_noSheet_16 ic_0 rfl ?_
  obtain ⟨hqz, hf⟩ := my_chk hf
  exact g_zret h dX9_noSheet_17 hqz (my_r1 hf) (my_r2 hf)
def f_X9_codeAt (σ : my_M) (x1 : Int32) (x2 : Int32) : Option (Int32 × my_M) :=
(if x2 ≤ (σ 0 5) then
some ((-9), σ)
else
(if my_ix (x1 + (σ 0 5)) (my_len layR 19) then
some ((σ 19 (Int32.toNatClampNeg (x1 + (σ 0 5)))), σ)
else none))
set_option maxRecDepth 100000 in
set_option maxHeartbeats 4000000 in
theorem ct_X9_codeAt (w : my_V) {σ : my_M} {x1 : Int32} {x2 : Int32} {r : Int32} {τ : my_M} (hf : f_X9_codeAt σ x1 x2 = some (r, τ)) : Ct w layR mX9_codeAt 1 [.ref (w.2.2.2 0), .int x1, .int x2] σ (some (.int r)) τ := by
  refine my_met RX9 [some (.ref (w.2.2.2 0)), some (.int x1), some (.int x2)] 0 (by decide) rfl (Nat.le_of_ble_eq_true rfl) rfl (fun X h => ?_)
  unfold f_X9_codeAt at hf
  refine g_al0 h 1 dX9_codeAt_0 rfl ?_
  refine g_geti h 4 fF_X9_90_X9 lyR_0 rfl dX9_codeAt_1 rfl ?_
  refine g_il2 h 5 dX9_codeAt_4 rfl ?_
  refine g_icge h 22 8 dX9_codeAt_5 (by decide) rfl (fun hc => ?_) (fun hc => ?_)
  · have hf := my_ifT hc hf
    refine g_bipush h 24 bp_m9 dX9_codeAt_22 rfl ?_
    exact g_iret h dX9_codeAt_24 (my_r1 hf) (my_r2 hf)
  · have hf := my_ifF hc hf
    refine g_al0 h 9 dX9_codeAt_8 rfl ?_
    refine g_geta h 12 fF_X9_64_X9 lyR_0 rfl dX9_codeAt_9 rfl ?_
    refine g_il1 h 13 dX9_codeAt_12 rfl ?_
    refine g_al0 h 14 dX9_codeAt_13 rfl ?_
    refine g_geti h 17 fF_X9_90_X9 lyR_0 rfl dX9_codeAt_14 rfl ?_
    refine g_iadd h 18 dX9_codeAt_17 rfl ?_
    obtain ⟨hq1, hf⟩ := my_chk hf
    refine g_iald h 19 dX9_codeAt_18 rfl hq1 ?_
    refine g_goto h 24 dX9_codeAt_19 (by decide) ?_
    exact g_iret h dX9_codeAt_24 (my_r1 hf) (my_r2 hf)
def f_X9_readsSign (σ : my_M) (x1 : Int32) (x2 : Int32) (x3 : Int32) : Option (Int32 × my_M) :=
(my_bnd (f_X9_codeAt σ x1 x2) fun r1 σ1 =>
(if r1 = 45 then
(if r1 = 45 then
(if my_ix ((6 * (σ1 0 6)) + x3) (my_len layR 4) then
some (1, (my_up (my_up σ1 4 (Int32.toNatClampNeg ((6 * (σ1 0 6)) + x3)) (-9)) 0 5 (((my_up σ1 4 (Int32.toNatClampNeg ((6 * (σ1 0 6)) + x3)) (-9)) 0 5) + 1)))
else none)
else
(if my_ix ((6 * (σ1 0 6)) + x3) (my_len layR 4) then
some (1, (my_up (my_up σ1 4 (Int32.toNatClampNeg ((6 * (σ1 0 6)) + x3)) (r1 - 48)) 0 5 (((my_up σ1 4 (Int32.toNatClampNeg ((6 * (σ1 0 6)) + x3)) (r1 - 48)) 0 5) + 1)))
else none))
else
(my_bnd (f_X9_in σ1 ((Int32.toInt64 r1) - 48) 0 ((Int32.toInt64 (σ1 0 7)) - 1)) fun r4 σ4 =>
(if r4 = 0 then
some (0, σ4)
else
(if r1 = 45 then
(if my_ix ((6 * (σ4 0 6)) + x3) (my_len layR 4) then
some (1, (my_up (my_up σ4 4 (Int32.toNatClampNeg ((6 * (σ4 0 6)) + x3)) (-9)) 0 5 (((my_up σ4 4 (Int32.toNatClampNeg ((6 * (σ4 0 6)) + x3)) (-9)) 0 5) + 1)))
else none)
else
(if my_ix ((6 * (σ4 0 6)) + x3) (my_len layR 4) then
some (1, (my_up (my_up σ4 4 (Int32.toNatClampNeg ((6 * (σ4 0 6)) + x3)) (r1 - 48)) 0 5 (((my_up σ4 4 (Int32.toNatClampNeg ((6 * (σ4 0 6)) + x3)) (r1 - 48)) 0 5) + 1)))
else none))))))
set_option maxRecDepth 100000 in
set_option maxHeartbeats 4000000 in
theorem ct_X9_readsSign (w : my_V) {σ : my_M} {x1 : Int32} {x2 : Int32} {x3 : Int32} {r : Int32} {τ : my_M} (hf : f_X9_readsSign σ x1 x2 x3 = some (r, τ)) : Ct w layR mX9_readsSign 2 [.ref (w.2.2.2 0), .int x1, .int x2, .int x3] σ (some (.int r)) τ := by
  refine my_met RX9 [some (.ref (w.2.2.2 0)), some (.int x1), some (.int x2), some (.int x3), none] 1 (by decide) rfl (Nat.le_of_ble_eq_true rfl) rfl (fun X h => ?_)
  unfold f_X9_readsSign at hf
  refine g_al0 h 1 dX9_readsSign_0 rfl ?_
  refine g_il1 h 2 dX9_readsSign_1 rfl ?_
  refine g_il2 h 3 dX9_readsSign_2 rfl ?_
  obtain ⟨r1, σ1, hc1, hf⟩ := my_ofb hf
  refine g_callVi h 6 cs_X9_93 rfl lyR_0 (ct_X9_codeAt w hc1) rfl rfl (Nat.le_of_ble_eq_true rfl) ⟨Nat.le_of_ble_eq_true rfl, Nat.le_of_ble_eq_true rfl⟩ dX9_readsSign_3 rfl ?_
  refine g_is4 h 8 (Nat.le_of_ble_eq_true rfl) rfl dX9_readsSign_6 rfl ?_
  refine g_il4 h 10 dX9_readsSign_8 rfl ?_
  refine g_bipush h 12 bp_45 dX9_readsSign_10 rfl ?_
  refine g_iceq h 38 15 dX9_readsSign_12 (by decide) rfl (fun hc => ?_) (fun hc => ?_)
  · have hf := my_ifT hc hf
    refine g_al0 h 39 dX9_readsSign_38 rfl ?_
    refine g_geta h 42 fF_X9_19_X9 lyR_0 rfl dX9_readsSign_39 rfl ?_
    refine g_bipush h 44 bp_6 dX9_readsSign_42 rfl ?_
    refine g_al0 h 45 dX9_readsSign_44 rfl ?_
    refine g_geti h 48 fF_X9_102_X9 lyR_0 rfl dX9_readsSign_45 rfl ?_
    refine g_imul h 49 dX9_readsSign_48 rfl ?_
    refine g_il3 h 50 dX9_readsSign_49 rfl ?_
    refine g_iadd h 51 dX9_readsSign_50 rfl ?_
    refine g_il4 h 53 dX9_readsSign_51 rfl ?_
    refine g_bipush h 55 bp_45 dX9_readsSign_53 rfl ?_
    refine g_icne h 63 58 dX9_readsSign_55 (by decide) rfl (fun hc => ?_) (fun hc => ?_)
    · have hf := my_ifF hc hf
      refine g_il4 h 65 dX9_readsSign_63 rfl ?_
      refine g_bipush h 67 bp_48 dX9_readsSign_65 rfl ?_
      refine g_isub h 68 dX9_readsSign_67 rfl ?_
      obtain ⟨hq2, hf⟩ := my_chk hf
      refine g_iast h 69 dX9_readsSign_68 rfl hq2 ?_
      refine g_al0 h 70 dX9_readsSign_69 rfl ?_
      refine g_dup h 71 rfl dX9_readsSign_70 rfl ?_
      refine g_geti h 74 fF_X9_90_X9 lyR_0 rfl dX9_readsSign_71 rfl ?_
      refine g_iconst h 75 ic_1 dX9_readsSign_74 rfl ?_
      refine g_iadd h 76 dX9_readsSign_75 rfl ?_
      refine g_puti h 79 fP_X9_90_X9 lyR_0 rfl dX9_readsSign_76 rfl ?_
      refine g_iconst h 80 ic_1 dX9_readsSign_79 rfl ?_
      exact g_zret h dX9_readsSign_80 (Or.inr rfl) (my_r1 hf) (my_r2 hf)
    · have hf := my_ifT hc hf
      refine g_bipush h 60 bp_m9 dX9_readsSign_58 rfl ?_
      refine g_goto h 68 dX9_readsSign_60 (by decide) ?_
      obtain ⟨hq3, hf⟩ := my_chk hf
      refine g_iast h 69 dX9_readsSign_68 rfl hq3 ?_
      refine g_al0 h 70 dX9_readsSign_69 rfl ?_
      refine g_dup h 71 rfl dX9_readsSign_70 rfl ?_
      refine g_geti h 74 fF_X9_90_X9 lyR_0 rfl dX9_readsSign_71 rfl ?_
      refine g_iconst h 75 ic_1 dX9_readsSign_74 rfl ?_
      refine g_iadd h 76 dX9_readsSign_75 rfl ?_
      refine g_puti h 79 fP_X9_90_X9 lyR_0 rfl dX9_readsSign_76 rfl ?_
      refine g_iconst h 80 ic_1 dX9_readsSign_79 rfl ?_
      exact g_zret h dX9_readsSign_80 (Or.inr rfl) (my_r1 hf) (my_r2 hf)
  · have hf := my_ifF hc hf
    refine g_il4 h 17 dX9_readsSign_15 rfl ?_
    refine g_i2l h 18 dX9_readsSign_17 rfl ?_
    refine g_ldc2 h 21 tw_kl_X9_97 dX9_readsSign_18 rfl ?_
    refine g_lsub h 22 dX9_readsSign_21 rfl ?_
    refine g_lconst h 23 lc_0 dX9_readsSign_22 rfl ?_
    refine g_al0 h 24 dX9_readsSign_23 rfl ?_
    refine g_geti h 27 fF_X9_99_X9 lyR_0 rfl dX9_readsSign_24 rfl ?_
    refine g_i2l h 28 dX9_readsSign_27 rfl ?_
    refine g_lconst h 29 lc_1 dX9_readsSign_28 rfl ?_
    refine g_lsub h 30 dX9_readsSign_29 rfl ?_
    obtain ⟨r4, σ4, hc4, hf⟩ := my_ofb hf
    refine g_callSi h 33 cs_X9_83 (ct_X9_in w hc4) rfl rfl (Nat.le_of_ble_eq_true rfl) ⟨Nat.le_of_ble_eq_true rfl, Nat.le_of_ble_eq_true rfl⟩ dX9_readsSign_30 rfl ?_
    refine g_ifne h 38 36 dX9_readsSign_33 (by decide) rfl (fun hc => ?_) (fun hc => ?_)
    · have hf := my_ifF hc hf
      refine g_al0 h 39 dX9_readsSign_38 rfl ?_
      refine g_geta h 42 fF_X9_19_X9 lyR_0 rfl dX9_readsSign_39 rfl ?_
      refine g_bipush h 44 bp_6 dX9_readsSign_42 rfl ?_
      refine g_al0 h 45 dX9_readsSign_44 rfl ?_
      refine g_geti h 48 fF_X9_102_X9 lyR_0 rfl dX9_readsSign_45 rfl ?_
      refine g_imul h 49 dX9_readsSign_48 rfl ?_
      refine g_il3 h 50 dX9_readsSign_49 rfl ?_
      refine g_iadd h 51 dX9_readsSign_50 rfl ?_
      refine g_il4 h 53 dX9_readsSign_51 rfl ?_
      refine g_bipush h 55 bp_45 dX9_readsSign_53 rfl ?_
      refine g_icne h 63 58 dX9_readsSign_55 (by decide) rfl (fun hc => ?_) (fun hc => ?_)
      · have hf := my_ifF hc hf
        refine g_il4 h 65 dX9_readsSign_63 rfl ?_
        refine g_bipush h 67 bp_48 dX9_readsSign_65 rfl ?_
        refine g_isub h 68 dX9_readsSign_67 rfl ?_
        obtain ⟨hq5, hf⟩ := my_chk hf
        refine g_iast h 69 dX9_readsSign_68 rfl hq5 ?_
        refine g_al0 h 70 dX9_readsSign_69 rfl ?_
        refine g_dup h 71 rfl dX9_readsSign_70 rfl ?_
        refine g_geti h 74 fF_X9_90_X9 lyR_0 rfl dX9_readsSign_71 rfl ?_
        refine g_iconst h 75 ic_1 dX9_readsSign_74 rfl ?_
        refine g_iadd h 76 dX9_readsSign_75 rfl ?_
        refine g_puti h 79 fP_X9_90_X9 lyR_0 rfl dX9_readsSign_76 rfl ?_
        refine g_iconst h 80 ic_1 dX9_readsSign_79 rfl ?_
        exact g_zret h dX9_readsSign_80 (Or.inr rfl) (my_r1 hf) (my_r2 hf)
      · have hf := my_ifT hc hf
        refine g_bipush h 60 bp_m9 dX9_readsSign_58 rfl ?_
        refine g_goto h 68 dX9_readsSign_60 (by decide) ?_
        obtain ⟨hq6, hf⟩ := my_chk hf
        refine g_iast h 69 dX9_readsSign_68 rfl hq6 ?_
        refine g_al0 h 70 dX9_readsSign_69 rfl ?_
        refine g_dup h 71 rfl dX9_readsSign_70 rfl ?_
        refine g_geti h 74 fF_X9_90_X9 lyR_0 rfl dX9_readsSign_71 rfl ?_
        refine g_iconst h 75 ic_1 dX9_readsSign_74 rfl ?_
        refine g_iadd h 76 dX9_readsSign_75 rfl ?_
        refine g_puti h 79 fP_X9_90_X9 lyR_0 rfl dX9_readsSign_76 rfl ?_
        refine g_iconst h 80 ic_1 dX9_readsSign_79 rfl ?_
        exact g_zret h dX9_readsSign_80 (Or.inr rfl) (my_r1 hf) (my_r2 hf)
    · have hf := my_ifT hc hf
      refine g_iconst h 37 ic_0 dX9_readsSign_36 rfl ?_
      exact g_zret h dX9_readsSign_37 (Or.inl rfl) (my_r1 hf) (my_r2 hf)
def b_X9_readsCaller_0 (k0 : my_M → Int32 → Int32 → Int32 → Int32 → Int32 → Option (Int32 × my_M)) (σ : my_M) (x1 : Int32) (x2 : Int32) (x3 : Int32) (x4 : Int32) (x5 : Int32) : Option (Int32 × my_M) :=
(if (σ 0 7) ≤ x5 then
(if x3 = 112 then
(if my_ix (σ 0 6) (my_len layR 3) then
(if my_b x4 then some (x4, (my_up (my_up σ 3 (Int32.toNatClampNeg (σ 0 6)) 0) 0 6 (((my_up σ 3 (Int32.toNatClampNeg (σ 0 6)) 0) 0 6) + (if x4 = 0 then 0 else 1 : Int32)))) else none)
else none)
else
(if my_ix (σ 0 6) (my_len layR 3) then
(if my_b x4 then some (x4, (my_up (my_up σ 3 (Int32.toNatClampNeg (σ 0 6)) (if x3 = 98 then 1 else 2 : Int32)) 0 6 (((my_up σ 3 (Int32.toNatClampNeg (σ 0 6)) (if x3 = 98 then 1 else 2 : Int32)) 0 6) + (if x4 = 0 then 0 else 1 : Int32)))) else none)
else none))
else
(if x4 = 0 then
(if x3 = 112 then
(if my_ix (σ 0 6) (my_len layR 3) then
(if my_b x4 then some (x4, (my_up (my_up σ 3 (Int32.toNatClampNeg (σ 0 6)) 0) 0 6 (((my_up σ 3 (Int32.toNatClampNeg (σ 0 6)) 0) 0 6) + (if x4 = 0 then 0 else 1 : Int32)))) else none)
else none)
else
(if my_ix (σ 0 6) (my_len layR 3) then
(if my_b x4 then some (x4, (my_up (my_up σ 3 (Int32.toNatClampNeg (σ 0 6)) (if x3 = 98 then 1 else 2 : Int32)) 0 6 (((my_up σ 3 (Int32.toNatClampNeg (σ 0 6)) (if x3 = 98 then 1 else 2 : Int32)) 0 6) + (if x4 = 0 then 0 else 1 : Int32)))) else none)
else none))
else
(my_bnd (f_X9_readsSign σ x1 x2 x5) fun r5 σ5 =>
k0 σ5 x1 x2 x3 r5 ((x5 + 1)))))
def g_X9_readsCaller : Nat → my_M → Int32 → Int32 → Int32 → Int32 → Int32 → Option (Int32 × my_M)
  | 0 => fun _ _ _ _ _ _ => none
  | n + 1 => b_X9_readsCaller_0 (g_X9_readsCaller n)
def f_X9_readsCaller (σ : my_M) (x1 : Int32) (x2 : Int32) : Option (Int32 × my_M) :=
(if (σ 0 6) = 4 then
some (0, σ)
else
(my_bnd (f_X9_codeAt σ x1 x2) fun r1 σ1 =>
(if r1 = 59 then
(my_bnd (f_X9_codeAt (my_up σ1 0 5 ((σ1 0 5) + 1)) x1 x2) fun r2 σ2 =>
(if r2 = 112 then
(g_X9_readsCaller my_NF) (my_up σ2 0 5 ((σ2 0 5) + 1)) x1 x2 r2 1 0
else
(if r2 = 98 then
(g_X9_readsCaller my_NF) (my_up σ2 0 5 ((σ2 0 5) + 1)) x1 x2 r2 1 0
else
(if r2 = 107 then
(g_X9_readsCaller my_NF) (my_up σ2 0 5 ((σ2 0 5) + 1)) x1 x2 r2 1 0
else
some (0, σ2)))))
else
some (0, σ1))))
set_option maxRecDepth 100000 in
set_option maxHeartbeats 4000000 in
theorem lp_X9_readsCaller (w : my_V) {X : my_X} {r : Int32} {τ : my_M} (h : my_OK X w layR cX9_readsCaller RX9 6 (some .boolean)) : ∀ n : Nat, (∀ (σ : my_M) (x1 : Int32) (x2 : Int32) (x3 : Int32) (x4 : Int32) (x5 : Int32), (g_X9_readsCaller n) σ x1 x2 x3 x4 x5 = some (r, τ) → Go X w layR 3 6 (some (.int r)) τ σ 74 [some (.ref (w.2.2.2 0)), some (.int x1), some (.int x2), some (.int x3), some (.int x4), some (.int x5)] []) := by
  intro n
  induction n with
  | zero => exact fun _ _ _ _ _ _ hf => (my_nn hf).elim
  | succ n ih =>
    intro σ x1 x2 x3 x4 x5 hf
    replace hf : b_X9_readsCaller_0 (g_X9_readsCaller n) σ x1 x2 x3 x4 x5 = some (r, τ) := hf
    unfold b_X9_readsCaller_0 at hf
    refine g_il5 h 76 dX9_readsCaller_74 rfl ?_
    refine g_al0 h 77 dX9_readsCaller_76 rfl ?_
    refine g_geti h 80 fF_X9_99_X9 lyR_0 rfl dX9_readsCaller_77 rfl ?_
    refine g_icge h 104 83 dX9_readsCaller_80 (by decide) rfl (fun hc => ?_) (fun hc => ?_)
    · have hf := my_ifT hc hf
      refine g_al0 h 105 dX9_readsCaller_104 rfl ?_
      refine g_geta h 108 fF_X9_16_X9 lyR_0 rfl dX9_readsCaller_105 rfl ?_
      refine g_al0 h 109 dX9_readsCaller_108 rfl ?_
      refine g_geti h 112 fF_X9_102_X9 lyR_0 rfl dX9_readsCaller_109 rfl ?_
      refine g_il3 h 113 dX9_readsCaller_112 rfl ?_
      refine g_bipush h 115 bp_112 dX9_readsCaller_113 rfl ?_
      refine g_icne h 122 118 dX9_readsCaller_115 (by decide) rfl (fun hc => ?_) (fun hc => ?_)
      · have hf := my_ifF hc hf
        refine g_il3 h 123 dX9_readsCaller_122 rfl ?_
        refine g_bipush h 125 bp_98 dX9_readsCaller_123 rfl ?_
        refine g_icne_sel h 132 133 dX9_readsCaller_125 (by decide) dX9_readsCaller_128 ic_1 dX9_readsCaller_129 (by decide) dX9_readsCaller_132 ic_2 rfl ?_
        obtain ⟨hq1, hf⟩ := my_chk hf
        refine g_iast h 134 dX9_readsCaller_133 rfl hq1 ?_
        refine g_al0 h 135 dX9_readsCaller_134 rfl ?_
        refine g_dup h 136 rfl dX9_readsCaller_135 rfl ?_
        refine g_geti h 139 fF_X9_102_X9 lyR_0 rfl dX9_readsCaller_136 rfl ?_
        refine g_il4 h 141 dX9_readsCaller_139 rfl ?_
        refine g_ifeq_sel h 148 149 dX9_readsCaller_141 (by decide) dX9_readsCaller_144 ic_1 dX9_readsCaller_145 (by decide) dX9_readsCaller_148 ic_0 rfl ?_
        refine g_iadd h 150 dX9_readsCaller_149 rfl ?_
        refine g_puti h 153 fP_X9_102_X9 lyR_0 rfl dX9_readsCaller_150 rfl ?_
        refine g_il4 h 155 dX9_readsCaller_153 rfl ?_
        obtain ⟨hqz, hf⟩ := my_chk hf
        exact g_zret h dX9_readsCaller_155 hqz (my_r1 hf) (my_r2 hf)
      · have hf := my_ifT hc hf
        refine g_iconst h 119 ic_0 dX9_readsCaller_118 rfl ?_
        refine g_goto h 133 dX9_readsCaller_119 (by decide) ?_
        obtain ⟨hq2, hf⟩ := my_chk hf
        refine g_iast h 134 dX9_readsCaller_133 rfl hq2 ?_
        refine g_al0 h 135 dX9_readsCaller_134 rfl ?_
        refine g_dup h 136 rfl dX9_readsCaller_135 rfl ?_
        refine g_geti h 139 fF_X9_102_X9 lyR_0 rfl dX9_readsCaller_136 rfl ?_
        refine g_il4 h 141 dX9_readsCaller_139 rfl ?_
        refine g_ifeq_sel h 148 149 dX9_readsCaller_141 (by decide) dX9_readsCaller_144 ic_1 dX9_readsCaller_145 (by decide) dX9_readsCaller_148 ic_0 rfl ?_
        refine g_iadd h 150 dX9_readsCaller_149 rfl ?_
        refine g_puti h 153 fP_X9_102_X9 lyR_0 rfl dX9_readsCaller_150 rfl ?_
        refine g_il4 h 155 dX9_readsCaller_153 rfl ?_
        obtain ⟨hqz, hf⟩ := my_chk hf
        exact g_zret h dX9_readsCaller_155 hqz (my_r1 hf) (my_r2 hf)
    · have hf := my_ifF hc hf
      refine g_il4 h 85 dX9_readsCaller_83 rfl ?_
      refine g_ifeq h 104 88 dX9_readsCaller_85 (by decide) rfl (fun hc => ?_) (fun hc => ?_)
      · have hf := my_ifT hc hf
        refine g_al0 h 105 dX9_readsCaller_104 rfl ?_
        refine g_geta h 108 fF_X9_16_X9 lyR_0 rfl dX9_readsCaller_105 rfl ?_
        refine g_al0 h 109 dX9_readsCaller_108 rfl ?_
        refine g_geti h 112 fF_X9_102_X9 lyR_0 rfl dX9_readsCaller_109 rfl ?_
        refine g_il3 h 113 dX9_readsCaller_112 rfl ?_
        refine g_bipush h 115 bp_112 dX9_readsCaller_113 rfl ?_
        refine g_icne h 122 118 dX9_readsCaller_115 (by decide) rfl (fun hc => ?_) (fun hc => ?_)
        · have hf := my_ifF hc hf
          refine g_il3 h 123 dX9_readsCaller_122 rfl ?_
          refine g_bipush h 125 bp_98 dX9_readsCaller_123 rfl ?_
          refine g_icne_sel h 132 133 dX9_readsCaller_125 (by decide) dX9_readsCaller_128 ic_1 dX9_readsCaller_129 (by decide) dX9_readsCaller_132 ic_2 rfl ?_
          obtain ⟨hq3, hf⟩ := my_chk hf
          refine g_iast h 134 dX9_readsCaller_133 rfl hq3 ?_
          refine g_al0 h 135 dX9_readsCaller_134 rfl ?_
          refine g_dup h 136 rfl dX9_readsCaller_135 rfl ?_
          refine g_geti h 139 fF_X9_102_X9 lyR_0 rfl dX9_readsCaller_136 rfl ?_
          refine g_il4 h 141 dX9_readsCaller_139 rfl ?_
          refine g_ifeq_sel h 148 149 dX9_readsCaller_141 (by decide) dX9_readsCaller_144 ic_1 dX9_readsCaller_145 (by decide) dX9_readsCaller_148 ic_0 rfl ?_
          refine g_iadd h 150 dX9_readsCaller_149 rfl ?_
          refine g_puti h 153 fP_X9_102_X9 lyR_0 rfl dX9_readsCaller_150 rfl ?_
          refine g_il4 h 155 dX9_readsCaller_153 rfl ?_
          obtain ⟨hqz, hf⟩ := my_chk hf
          exact g_zret h dX9_readsCaller_155 hqz (my_r1 hf) (my_r2 hf)
        · have hf := my_ifT hc hf
          refine g_iconst h 119 ic_0 dX9_readsCaller_118 rfl ?_
          refine g_goto h 133 dX9_readsCaller_119 (by decide) ?_
          obtain ⟨hq4, hf⟩ := my_chk hf
          refine g_iast h 134 dX9_readsCaller_133 rfl hq4 ?_
          refine g_al0 h 135 dX9_readsCaller_134 rfl ?_
          refine g_dup h 136 rfl dX9_readsCaller_135 rfl ?_
          refine g_geti h 139 fF_X9_102_X9 lyR_0 rfl dX9_readsCaller_136 rfl ?_
          refine g_il4 h 141 dX9_readsCaller_139 rfl ?_
          refine g_ifeq_sel h 148 149 dX9_readsCaller_141 (by decide) dX9_readsCaller_144 ic_1 dX9_readsCaller_145 (by decide) dX9_readsCaller_148 ic_0 rfl ?_
          refine g_iadd h 150 dX9_readsCaller_149 rfl ?_
          refine g_puti h 153 fP_X9_102_X9 lyR_0 rfl dX9_readsCaller_150 rfl ?_
          refine g_il4 h 155 dX9_readsCaller_153 rfl ?_
          obtain ⟨hqz, hf⟩ := my_chk hf
          exact g_zret h dX9_readsCaller_155 hqz (my_r1 hf) (my_r2 hf)
      · have hf := my_ifF hc hf
        refine g_al0 h 89 dX9_readsCaller_88 rfl ?_
        refine g_il1 h 90 dX9_readsCaller_89 rfl ?_
        refine g_il2 h 91 dX9_readsCaller_90 rfl ?_
        refine g_il5 h 93 dX9_readsCaller_91 rfl ?_
        obtain ⟨r5, σ5, hc5, hf⟩ := my_ofb hf
        refine g_callVi h 96 cs_X9_105 rfl lyR_0 (ct_X9_readsSign w hc5) rfl rfl (Nat.le_of_ble_eq_true rfl) ⟨Nat.le_of_ble_eq_true rfl, Nat.le_of_ble_eq_true rfl⟩ dX9_readsCaller_93 rfl ?_
        refine g_is4 h 98 (Nat.le_of_ble_eq_true rfl) rfl dX9_readsCaller_96 rfl ?_
        refine g_inc5 h 101 (my_inc ic_1 _) (Nat.le_of_ble_eq_true rfl) rfl dX9_readsCaller_98 rfl ?_
        refine g_goto h 74 dX9_readsCaller_101 (by decide) ?_
        exact g_weak (ih _ _ _ _ _ _ hf) (w_s (w_s (w_s (w_s (w_s (w_s w_0))))))
set_option maxRecDepth 100000 in
set_option maxHeartbeats 4000000 in
theorem ct_X9_readsCaller (w : my_V) {σ : my_M} {x1 : Int32} {x2 : Int32} {r : Int32} {τ : my_M} (hf : f_X9_readsCaller σ x1 x2 = some (r, τ)) : Ct w layR mX9_readsCaller 3 [.ref (w.2.2.2 0), .int x1, .int x2] σ (some (.int r)) τ := by
  refine my_met RX9 [some (.ref (w.2.2.2 0)), some (.int x1), some (.int x2), none, none, none] 3 (by decide) rfl (Nat.le_of_ble_eq_true rfl) rfl (fun X h => ?_)
  unfold f_X9_readsCaller at hf
  refine g_al0 h 1 dX9_readsCaller_0 rfl ?_
  refine g_geti h 4 fF_X9_102_X9 lyR_0 rfl dX9_readsCaller_1 rfl ?_
  refine g_iconst h 5 ic_4 dX9_readsCaller_4 rfl ?_
  refine g_iceq h 19 8 dX9_readsCaller_5 (by decide) rfl (fun hc => ?_) (fun hc => ?_)
  · have hf := my_ifT hc hf
    refine g_iconst h 20 ic_0 dX9_readsCaller_19 rfl ?_
    exact g_zret h dX9_readsCaller_20 (Or.inl rfl) (my_r1 hf) (my_r2 hf)
  · have hf := my_ifF hc hf
    refine g_al0 h 9 dX9_readsCaller_8 rfl ?_
    refine g_il1 h 10 dX9_readsCaller_9 rfl ?_
    refine g_il2 h 11 dX9_readsCaller_10 rfl ?_
    obtain ⟨r1, σ1, hc1, hf⟩ := my_ofb hf
    refine g_callVi h 14 cs_X9_93 rfl lyR_0 (ct_X9_codeAt w hc1) rfl rfl (Nat.le_of_ble_eq_true rfl) ⟨Nat.le_of_ble_eq_true rfl, Nat.le_of_ble_eq_true rfl⟩ dX9_readsCaller_11 rfl ?_
    refine g_bipush h 16 bp_59 dX9_readsCaller_14 rfl ?_
    refine g_iceq h 21 19 dX9_readsCaller_16 (by decide) rfl (fun hc => ?_) (fun hc => ?_)
    · have hf := my_ifT hc hf
      refine g_al0 h 22 dX9_readsCaller_21 rfl ?_
      refine g_dup h 23 rfl dX9_readsCaller_22 rfl ?_
      refine g_geti h 26 fF_X9_90_X9 lyR_0 rfl dX9_readsCaller_23 rfl ?_
      refine g_iconst h 27 ic_1 dX9_readsCaller_26 rfl ?_
      refine g_iadd h 28 dX9_readsCaller_27 rfl ?_
      refine g_puti h 31 fP_X9_90_X9 lyR_0 rfl dX9_readsCaller_28 rfl ?_
      refine g_al0 h 32 dX9_readsCaller_31 rfl ?_
      refine g_il1 h 33 dX9_readsCaller_32 rfl ?_
      refine g_il2 h 34 dX9_readsCaller_33 rfl ?_
      obtain ⟨r2, σ2, hc2, hf⟩ := my_ofb hf
      refine g_callVi h 37 cs_X9_93 rfl lyR_0 (ct_X9_codeAt w hc2) rfl rfl (Nat.le_of_ble_eq_true rfl) ⟨Nat.le_of_ble_eq_true rfl, Nat.le_of_ble_eq_true rfl⟩ dX9_readsCaller_34 rfl ?_
      refine g_is3 h 38 (Nat.le_of_ble_eq_true rfl) rfl dX9_readsCaller_37 rfl ?_
      refine g_il3 h 39 dX9_readsCaller_38 rfl ?_
      refine g_bipush h 41 bp_112 dX9_readsCaller_39 rfl ?_
      refine g_iceq h 58 44 dX9_readsCaller_41 (by decide) rfl (fun hc => ?_) (fun hc => ?_)
      · have hf := my_ifT hc hf
        refine g_al0 h 59 dX9_readsCaller_58 rfl ?_
        refine g_dup h 60 rfl dX9_readsCaller_59 rfl ?_
        refine g_geti h 63 fF_X9_90_X9 lyR_0 rfl dX9_readsCaller_60 rfl ?_
        refine g_iconst h 64 ic_1 dX9_readsCaller_63 rfl ?_
        refine g_iadd h 65 dX9_readsCaller_64 rfl ?_
        refine g_puti h 68 fP_X9_90_X9 lyR_0 rfl dX9_readsCaller_65 rfl ?_
        refine g_iconst h 69 ic_1 dX9_readsCaller_68 rfl ?_
        refine g_is4 h 71 (Nat.le_of_ble_eq_true rfl) rfl dX9_readsCaller_69 rfl ?_
        refine g_iconst h 72 ic_0 dX9_readsCaller_71 rfl ?_
        refine g_is5 h 74 (Nat.le_of_ble_eq_true rfl) rfl dX9_readsCaller_72 rfl ?_
        exact g_weak ((lp_X9_readsCaller w h my_NF) _ _ _ _ _ _ hf) (w_s (w_s (w_s (w_s (w_s (w_s w_0))))))
      · have hf := my_ifF hc hf
        refine g_il3 h 45 dX9_readsCaller_44 rfl ?_
        refine g_bipush h 47 bp_98 dX9_readsCaller_45 rfl ?_
        refine g_iceq h 58 50 dX9_readsCaller_47 (by decide) rfl (fun hc => ?_) (fun hc => ?_)
        · have hf := my_ifT hc hf
          refine g_al0 h 59 dX9_readsCaller_58 rfl ?_
          refine g_dup h 60 rfl dX9_readsCaller_59 rfl ?_
          refine g_geti h 63 fF_X9_90_X9 lyR_0 rfl dX9_readsCaller_60 rfl ?_
          refine g_iconst h 64 ic_1 dX9_readsCaller_63 rfl ?_
          refine g_iadd h 65 dX9_readsCaller_64 rfl ?_
          refine g_puti h 68 fP_X9_90_X9 lyR_0 rfl dX9_readsCaller_65 rfl ?_
          refine g_iconst h 69 ic_1 dX9_readsCaller_68 rfl ?_
          refine g_is4 h 71 (Nat.le_of_ble_eq_true rfl) rfl dX9_readsCaller_69 rfl ?_
          refine g_iconst h 72 ic_0 dX9_readsCaller_71 rfl ?_
          refine g_is5 h 74 (Nat.le_of_ble_eq_true rfl) rfl dX9_readsCaller_72 rfl ?_
          exact g_weak ((lp_X9_readsCaller w h my_NF) _ _ _ _ _ _ hf) (w_s (w_s (w_s (w_s (w_s (w_s w_0))))))
        · have hf := my_ifF hc hf
          refine g_il3 h 51 dX9_readsCaller_50 rfl ?_
          refine g_bipush h 53 bp_107 dX9_readsCaller_51 rfl ?_
          refine g_iceq h 58 56 dX9_readsCaller_53 (by decide) rfl (fun hc => ?_) (fun hc => ?_)
          · have hf := my_ifT hc hf
            refine g_al0 h 59 dX9_readsCaller_58 rfl ?_
            refine g_dup h 60 rfl dX9_readsCaller_59 rfl ?_
            refine g_geti h 63 fF_X9_90_X9 lyR_0 rfl dX9_readsCaller_60 rfl ?_
            refine g_iconst h 64 ic_1 dX9_readsCaller_63 rfl ?_
            refine g_iadd h 65 dX9_readsCaller_64 rfl ?_
            refine g_puti h 68 fP_X9_90_X9 lyR_0 rfl dX9_readsCaller_65 rfl ?_
            refine g_iconst h 69 ic_1 dX9_readsCaller_68 rfl ?_
            refine g_is4 h 71 (Nat.le_of_ble_eq_true rfl) rfl dX9_readsCaller_69 rfl ?_
            refine g_iconst h 72 ic_0 dX9_readsCaller_71 rfl ?_
            refine g_is5 h 74 (Nat.le_of_ble_eq_true rfl) rfl dX9_readsCaller_72 rfl ?_
            exact g_weak ((lp_X9_readsCaller w h my_NF) _ _ _ _ _ _ hf) (w_s (w_s (w_s (w_s (w_s (w_s w_0))))))
          · have hf := my_ifF hc hf
            refine g_iconst h 57 ic_0 dX9_readsCaller_56 rfl ?_
            exact g_zret h dX9_readsCaller_57 (Or.inl rfl) (my_r1 hf) (my_r2 hf)
    · have hf := my_ifF hc hf
      refine g_iconst h 20 ic_0 dX9_readsCaller_19 rfl ?_
      exact g_zret h dX9_readsCaller_20 (Or.inl rfl) (my_r1 hf) (my_r2 hf)
def b_X9_readsCallers_0 (k0 : my_M → Int32 → Int32 → Int32 → Option (Int32 × my_M)) (σ : my_M) (x1 : Int32) (x2 : Int32) (x3 : Int32) : Option (Int32 × my_M) :=
(if x3 = 0 then
(if my_b x3 then some (x3, σ) else none)
else
(if (σ 0 6) < 1 then
(my_bnd (f_X9_readsCaller σ x1 x2) fun r1 σ1 =>
k0 σ1 x1 x2 r1)
else
(if x2 ≤ (σ 0 5) then
(if my_b x3 then some (x3, σ) else none)
else
(my_bnd (f_X9_readsCaller σ x1 x2) fun r2 σ2 =>
k0 σ2 x1 x2 r2))))
def g_X9_readsCallers : Nat → my_M → Int32 → Int32 → Int32 → Option (Int32 × my_M)
  | 0 => fun _ _ _ _ => none
  | n + 1 => b_X9_readsCallers_0 (g_X9_readsCallers n)
def f_X9_readsCallers (σ : my_M) (x1 : Int32) (x2 : Int32) : Option (Int32 × my_M) :=
(my_bnd (f_X9_codeAt (my_up (my_up σ 0 5 0) 0 6 0) x1 x2) fun r1 σ1 =>
(if r1 = 99 then
(my_bnd (f_X9_codeAt (my_up σ1 0 5 ((σ1 0 5) + 1)) x1 x2) fun r2 σ2 =>
(my_bnd (f_X9_in (my_up σ2 0 7 (r2 - 48)) (Int32.toInt64 ((my_up σ2 0 7 (r2 - 48)) 0 7)) 2 6) fun r3 σ3 =>
(if r3 = 0 then
some (0, σ3)
else
(g_X9_readsCallers my_NF) (my_up σ3 0 5 ((σ3 0 5) + 1)) x1 x2 1)))
else
some (0, σ1)))
set_option maxRecDepth 100000 in
set_option maxHeartbeats 4000000 in
theorem lp_X9_readsCallers (w : my_V) {X : my_X} {r : Int32} {τ : my_M} (h : my_OK X w layR cX9_readsCallers RX9 4 (some .boolean)) : ∀ n : Nat, (∀ (σ : my_M) (x1 : Int32) (x2 : Int32) (x3 : Int32), (g_X9_readsCallers n) σ x1 x2 x3 = some (r, τ) → Go X w layR 4 4 (some (.int r)) τ σ 77 [some (.ref (w.2.2.2 0)), some (.int x1), some (.int x2), some (.int x3)] []) := by
  intro n
  induction n with
  | zero => exact fun _ _ _ _ hf => (my_nn hf).elim
  | succ n ih =>
    intro σ x1 x2 x3 hf
    replace hf : b_X9_readsCallers_0 (g_X9_readsCallers n) σ x1 x2 x3 = some (r, τ) := hf
    unfold b_X9_readsCallers_0 at hf
    refine g_il3 h 78 dX9_readsCallers_77 rfl ?_
    refine g_ifeq h 107 81 dX9_readsCallers_78 (by decide) rfl (fun hc => ?_) (fun hc => ?_)
    · have hf := my_ifT hc hf
      refine g_il3 h 108 dX9_readsCallers_107 rfl ?_
      obtain ⟨hqz, hf⟩ := my_chk hf
      exact g_zret h dX9_readsCallers_108 hqz (my_r1 hf) (my_r2 hf)
    · have hf := my_ifF hc hf
      refine g_al0 h 82 dX9_readsCallers_81 rfl ?_
      refine g_geti h 85 fF_X9_102_X9 lyR_0 rfl dX9_readsCallers_82 rfl ?_
      refine g_iconst h 86 ic_1 dX9_readsCallers_85 rfl ?_
      refine g_iclt h 97 89 dX9_readsCallers_86 (by decide) rfl (fun hc => ?_) (fun hc => ?_)
      · have hf := my_ifT hc hf
        refine g_al0 h 98 dX9_readsCallers_97 rfl ?_
        refine g_il1 h 99 dX9_readsCallers_98 rfl ?_
        refine g_il2 h 100 dX9_readsCallers_99 rfl ?_
        obtain ⟨r1, σ1, hc1, hf⟩ := my_ofb hf
        refine g_callVi h 103 cs_X9_113 rfl lyR_0 (ct_X9_readsCaller w hc1) rfl rfl (Nat.le_of_ble_eq_true rfl) ⟨Nat.le_of_ble_eq_true rfl, Nat.le_of_ble_eq_true rfl⟩ dX9_readsCallers_100 rfl ?_
        refine g_is3 h 104 (Nat.le_of_ble_eq_true rfl) rfl dX9_readsCallers_103 rfl ?_
        refine g_goto h 77 dX9_readsCallers_104 (by decide) ?_
        exact g_weak (ih _ _ _ _ hf) (w_s (w_s (w_s (w_s w_0))))
      · have hf := my_ifF hc hf
        refine g_al0 h 90 dX9_readsCallers_89 rfl ?_
        refine g_geti h 93 fF_X9_90_X9 lyR_0 rfl dX9_readsCallers_90 rfl ?_
        refine g_il2 h 94 dX9_readsCallers_93 rfl ?_
        refine g_icge h 107 97 dX9_readsCallers_94 (by decide) rfl (fun hc => ?_) (fun hc => ?_)
        · have hf := my_ifT hc hf
          refine g_il3 h 108 dX9_readsCallers_107 rfl ?_
          obtain ⟨hqz, hf⟩ := my_chk hf
          exact g_zret h dX9_readsCallers_108 hqz (my_r1 hf) (my_r2 hf)
        · have hf := my_ifF hc hf
          refine g_al0 h 98 dX9_readsCallers_97 rfl ?_
          refine g_il1 h 99 dX9_readsCallers_98 rfl ?_
          refine g_il2 h 100 dX9_readsCallers_99 rfl ?_
          obtain ⟨r2, σ2, hc2, hf⟩ := my_ofb hf
          refine g_callVi h 103 cs_X9_113 rfl lyR_0 (ct_X9_readsCaller w hc2) rfl rfl (Nat.le_of_ble_eq_true rfl) ⟨Nat.le_of_ble_eq_true rfl, Nat.le_of_ble_eq_true rfl⟩ dX9_readsCallers_100 rfl ?_
          refine g_is3 h 104 (Nat.le_of_ble_eq_true rfl) rfl dX9_readsCallers_103 rfl ?_
          refine g_goto h 77 dX9_readsCallers_104 (by decide) ?_
          exact g_weak (ih _ _ _ _ hf) (w_s (w_s (w_s (w_s w_0))))
set_option maxRecDepth 100000 in
set_option maxHeartbeats 4000000 in
theorem ct_X9_readsCallers (w : my_V) {σ : my_M} {x1 : Int32} {x2 : Int32} {r : Int32} {τ : my_M} (hf : f_X9_readsCallers σ x1 x2 = some (r, τ)) : Ct w layR mX9_readsCallers 4 [.ref (w.2.2.2 0), .int x1, .int x2] σ (some (.int r)) τ := by
  refine my_met RX9 [some (.ref (w.2.2.2 0)), some (.int x1), some (.int x2), none] 1 (by decide) rfl (Nat.le_of_ble_eq_true rfl) rfl (fun X h => ?_)
  unfold f_X9_readsCallers at hf
  refine g_al0 h 1 dX9_readsCallers_0 rfl ?_
  refine g_iconst h 2 ic_0 dX9_readsCallers_1 rfl ?_
  refine g_puti h 5 fP_X9_90_X9 lyR_0 rfl dX9_readsCallers_2 rfl ?_
  refine g_al0 h 6 dX9_readsCallers_5 rfl ?_
  refine g_iconst h 7 ic_0 dX9_readsCallers_6 rfl ?_
  refine g_puti h 10 fP_X9_102_X9 lyR_0 rfl dX9_readsCallers_7 rfl ?_
  refine g_al0 h 11 dX9_readsCallers_10 rfl ?_
  refine g_il1 h 12 dX9_readsCallers_11 rfl ?_
  refine g_il2 h 13 dX9_readsCallers_12 rfl ?_
  obtain ⟨r1, σ1, hc1, hf⟩ := my_ofb hf
  refine g_callVi h 16 cs_X9_93 rfl lyR_0 (ct_X9_codeAt w hc1) rfl rfl (Nat.le_of_ble_eq_true rfl) ⟨Nat.le_of_ble_eq_true rfl, Nat.le_of_ble_eq_true rfl⟩ dX9_readsCallers_13 rfl ?_
  refine g_bipush h 18 bp_99 dX9_readsCallers_16 rfl ?_
  refine g_iceq h 23 21 dX9_readsCallers_18 (by decide) rfl (fun hc => ?_) (fun hc => ?_)
  · have hf := my_ifT hc hf
    refine g_al0 h 24 dX9_readsCallers_23 rfl ?_
    refine g_dup h 25 rfl dX9_readsCallers_24 rfl ?_
    refine g_geti h 28 fF_X9_90_X9 lyR_0 rfl dX9_readsCallers_25 rfl ?_
    refine g_iconst h 29 ic_1 dX9_readsCallers_28 rfl ?_
    refine g_iadd h 30 dX9_readsCallers_29 rfl ?_
    refine g_puti h 33 fP_X9_90_X9 lyR_0 rfl dX9_readsCallers_30 rfl ?_
    refine g_al0 h 34 dX9_readsCallers_33 rfl ?_
    refine g_al0 h 35 dX9_readsCallers_34 rfl ?_
    refine g_il1 h 36 dX9_readsCallers_35 rfl ?_
    refine g_il2 h 37 dX9_readsCallers_36 rfl ?_
    obtain ⟨r2, σ2, hc2, hf⟩ := my_ofb hf
    refine g_callVi h 40 cs_X9_93 rfl lyR_0 (ct_X9_codeAt w hc2) rfl rfl (Nat.le_of_ble_eq_true rfl) ⟨Nat.le_of_ble_eq_true rfl, Nat.le_of_ble_eq_true rfl⟩ dX9_readsCallers_37 rfl ?_
    refine g_bipush h 42 bp_48 dX9_readsCallers_40 rfl ?_
    refine g_isub h 43 dX9_readsCallers_42 rfl ?_
    refine g_puti h 46 fP_X9_99_X9 lyR_0 rfl dX9_readsCallers_43 rfl ?_
    refine g_al0 h 47 dX9_readsCallers_46 rfl ?_
    refine g_geti h 50 fF_X9_99_X9 lyR_0 rfl dX9_readsCallers_47 rfl ?_
    refine g_i2l h 51 dX9_readsCallers_50 rfl ?_
    refine g_ldc2 h 54 tw_kl_X9_109 dX9_readsCallers_51 rfl ?_
    refine g_ldc2 h 57 tw_kl_X9_111 dX9_readsCallers_54 rfl ?_
    obtain ⟨r3, σ3, hc3, hf⟩ := my_ofb hf
    refine g_callSi h 60 cs_X9_83 (ct_X9_in w hc3) rfl rfl (Nat.le_of_ble_eq_true rfl) ⟨Nat.le_of_ble_eq_true rfl, Nat.le_of_ble_eq_true rfl⟩ dX9_readsCallers_57 rfl ?_
    refine g_ifne h 65 63 dX9_readsCallers_60 (by decide) rfl (fun hc => ?_) (fun hc => ?_)
    · have hf := my_ifF hc hf
      refine g_al0 h 66 dX9_readsCallers_65 rfl ?_
      refine g_dup h 67 rfl dX9_readsCallers_66 rfl ?_
      refine g_geti h 70 fF_X9_90_X9 lyR_0 rfl dX9_readsCallers_67 rfl ?_
      refine g_iconst h 71 ic_1 dX9_readsCallers_70 rfl ?_
      refine g_iadd h 72 dX9_readsCallers_71 rfl ?_
      refine g_puti h 75 fP_X9_90_X9 lyR_0 rfl dX9_readsCallers_72 rfl ?_
      refine g_iconst h 76 ic_1 dX9_readsCallers_75 rfl ?_
      refine g_is3 h 77 (Nat.le_of_ble_eq_true rfl) rfl dX9_readsCallers_76 rfl ?_
      exact g_weak ((lp_X9_readsCallers w h my_NF) _ _ _ _ hf) (w_s (w_s (w_s (w_s w_0))))
    · have hf := my_ifT hc hf
      refine g_iconst h 64 ic_0 dX9_readsCallers_63 rfl ?_
      exact g_zret h dX9_readsCallers_64 (Or.inl rfl) (my_r1 hf) (my_r2 hf)
  · have hf := my_ifF hc hf
    refine g_iconst h 22 ic_0 dX9_readsCallers_21 rfl ?_
    exact g_zret h dX9_readsCallers_22 (Or.inl rfl) (my_r1 hf) (my_r2 hf)
def b_X9_callers_0 (k0 : my_M → Int32 → Option (Int32 × my_M)) (k1 : my_M → Int32 → Int32 → Option (Int32 × my_M)) (σ : my_M) (x6 : Int32) : Option (Int32 × my_M) :=
(if (σ 0 1) ≤ x6 then
(my_bnd (f_X9_refused (my_up (my_up σ 0 11 0) 0 22 0) ((my_up (my_up σ 0 11 0) 0 22 0) 0 1)) fun r1 σ1 =>
some (r1, σ1))
else
(if my_ix x6 (my_len layR 3) then
(if my_ix x6 (my_len layR 1) then
k1 (my_up σ 1 (Int32.toNatClampNeg x6) (σ 3 (Int32.toNatClampNeg x6))) x6 0
else none)
else none))
def b_X9_callers_1 (k0 : my_M → Int32 → Option (Int32 × my_M)) (k1 : my_M → Int32 → Int32 → Option (Int32 × my_M)) (σ : my_M) (x6 : Int32) (x7 : Int32) : Option (Int32 × my_M) :=
(if (σ 0 2) ≤ x7 then
k0 σ ((x6 + 1))
else
(if my_ix ((6 * x6) + x7) (my_len layR 4) then
(if my_ix ((6 * x6) + x7) (my_len layR 2) then
k1 (my_up σ 2 (Int32.toNatClampNeg ((6 * x6) + x7)) (σ 4 (Int32.toNatClampNeg ((6 * x6) + x7)))) x6 ((x7 + 1))
else none)
else none))
def g_X9_callers : Nat → (my_M → Int32 → Option (Int32 × my_M)) × (my_M → Int32 → Int32 → Option (Int32 × my_M))
  | 0 => (fun _ _ => none, fun _ _ _ => none)
  | n + 1 => (b_X9_callers_0 (g_X9_callers n).1 (g_X9_callers n).2, b_X9_callers_1 (g_X9_callers n).1 (g_X9_callers n).2)
def f_X9_callers (σ : my_M) (x1 : Int32) (x2 : Int32) (x3 : Int32) (x4 : Int32) : Option (Int32 × my_M) :=
(my_bnd (f_X9_noSheet σ x1) fun r1 σ1 =>
(if r1 = 0 then
(my_bnd (f_X9_in σ1 (Int32.toInt64 x2) 0 2) fun r2 σ2 =>
(if r2 = 0 then
(my_bnd (f_X9_refused σ2 (-2)) fun r6 σ6 =>
some (r6, σ6))
else
(my_bnd (f_X9_cellsBarred σ2 x1 x2 x3 (Int32.toInt64 x4)) fun r3 σ3 =>
(if 0 ≤ r3 then
(my_bnd (f_X9_readsCallers σ3 ((60 * x1) + x3) x4) fun r4 σ4 =>
(if r4 = 0 then
(my_bnd (f_X9_refused σ4 ((-100) - (σ4 0 5))) fun r5 σ5 =>
some (r5, σ5))
else
(g_X9_callers my_NF).1 (my_up (my_up σ4 0 1 (σ4 0 6)) 0 2 ((my_up σ4 0 1 (σ4 0 6)) 0 7)) 0))
else
some (r3, σ3)))))
else
(my_bnd (f_X9_refused σ1 (-1)) fun r7 σ7 =>
some (r7, σ7))))
set_option maxRecDepth 100000 in
set_option maxHeartbeats 4000000 in
theorem lp_X9_callers (w : my_V) {X : my_X} {r : Int32} {τ : my_M} (h : my_OK X w layR cX9_callers RX9 8 (some .int)) : ∀ n : Nat, (∀ (σ : my_M) (x6 : Int32), (g_X9_callers n).1 σ x6 = some (r, τ) → Go X w layR 5 8 (some (.int r)) τ σ 98 [some (.ref (w.2.2.2 0)), none, none, none, none, none, some (.int x6), none] []) ∧ (∀ (σ : my_M) (x6 : Int32) (x7 : Int32), (g_X9_callers n).2 σ x6 x7 = some (r, τ) → Go X w layR 5 8 (some (.int r)) τ σ 124 [some (.ref (w.2.2.2 0)), none, none, none, none, none, some (.int x6), some (.int x7)] []) := by
  intro n
  induction n with
  | zero => exact ⟨fun _ _ hf => (my_nn hf).elim, fun _ _ _ hf => (my_nn hf).elim⟩
  | succ n ih =>
    refine ⟨?_, ?_⟩
    · intro σ x6 hf
      replace hf : b_X9_callers_0 (g_X9_callers n).1 (g_X9_callers n).2 σ x6 = some (r, τ) := hf
      unfold b_X9_callers_0 at hf
      refine g_il6 h 100 dX9_callers_98 rfl ?_
      refine g_al0 h 101 dX9_callers_100 rfl ?_
      refine g_geti h 104 fF_X9_80_X9 lyR_0 rfl dX9_callers_101 rfl ?_
      refine g_icge h 171 107 dX9_callers_104 (by decide) rfl (fun hc => ?_) (fun hc => ?_)
      · have hf := my_ifT hc hf
        refine g_al0 h 172 dX9_callers_171 rfl ?_
        refine g_iconst h 173 ic_0 dX9_callers_172 rfl ?_
        refine g_puti h 176 fP_X9_139_X9 lyR_0 rfl dX9_callers_173 rfl ?_
        refine g_al0 h 177 dX9_callers_176 rfl ?_
        refine g_iconst h 178 ic_0 dX9_callers_177 rfl ?_
        refine g_puti h 181 fP_X9_142_X9 lyR_0 rfl dX9_callers_178 rfl ?_
        refine g_al0 h 182 dX9_callers_181 rfl ?_
        refine g_al0 h 183 dX9_callers_182 rfl ?_
        refine g_geti h 186 fF_X9_80_X9 lyR_0 rfl dX9_callers_183 rfl ?_
        obtain ⟨r1, σ1, hc1, hf⟩ := my_ofb hf
        refine g_callVi h 189 cs_X9_129 rfl lyR_0 (ct_X9_refused w hc1) rfl rfl (Nat.le_of_ble_eq_true rfl) ⟨Nat.le_of_ble_eq_true rfl, Nat.le_of_ble_eq_true rfl⟩ dX9_callers_186 rfl ?_
        exact g_iret h dX9_callers_189 (my_r1 hf) (my_r2 hf)
      · have hf := my_ifF hc hf
        refine g_al0 h 108 dX9_callers_107 rfl ?_
        refine g_geta h 111 fF_X9_7_X9 lyR_0 rfl dX9_callers_108 rfl ?_
        refine g_il6 h 113 dX9_callers_111 rfl ?_
        refine g_al0 h 114 dX9_callers_113 rfl ?_
        refine g_geta h 117 fF_X9_16_X9 lyR_0 rfl dX9_callers_114 rfl ?_
        refine g_il6 h 119 dX9_callers_117 rfl ?_
        obtain ⟨hq2, hf⟩ := my_chk hf
        refine g_iald h 120 dX9_callers_119 rfl hq2 ?_
        obtain ⟨hq3, hf⟩ := my_chk hf
        refine g_iast h 121 dX9_callers_120 rfl hq3 ?_
        refine g_iconst h 122 ic_0 dX9_callers_121 rfl ?_
        refine g_is7 h 124 (Nat.le_of_ble_eq_true rfl) rfl dX9_callers_122 rfl ?_
        exact g_weak (ih.2 _ _ _ hf) (w_s (w_s (w_s (w_s (w_s (w_s (w_s (w_s w_0))))))))
    · intro σ x6 x7 hf
      replace hf : b_X9_callers_1 (g_X9_callers n).1 (g_X9_callers n).2 σ x6 x7 = some (r, τ) := hf
      unfold b_X9_callers_1 at hf
      refine g_il7 h 126 dX9_callers_124 rfl ?_
      refine g_al0 h 127 dX9_callers_126 rfl ?_
      refine g_geti h 130 fF_X9_87_X9 lyR_0 rfl dX9_callers_127 rfl ?_
      refine g_icge h 165 133 dX9_callers_130 (by decide) rfl (fun hc => ?_) (fun hc => ?_)
      · have hf := my_ifT hc hf
        refine g_inc6 h 168 (my_inc ic_1 _) (Nat.le_of_ble_eq_true rfl) rfl dX9_callers_165 rfl ?_
        refine g_goto h 98 dX9_callers_168 (by decide) ?_
        exact g_weak (ih.1 _ _ hf) (w_s (w_s (w_s (w_s (w_s (w_s (w_s (w_n w_0))))))))
      · have hf := my_ifF hc hf
        refine g_al0 h 134 dX9_callers_133 rfl ?_
        refine g_geta h 137 fF_X9_13_X9 lyR_0 rfl dX9_callers_134 rfl ?_
        refine g_bipush h 139 bp_6 dX9_callers_137 rfl ?_
        refine g_il6 h 141 dX9_callers_139 rfl ?_
        refine g_imul h 142 dX9_callers_141 rfl ?_
        refine g_il7 h 144 dX9_callers_142 rfl ?_
        refine g_iadd h 145 dX9_callers_144 rfl ?_
        refine g_al0 h 146 dX9_callers_145 rfl ?_
        refine g_geta h 149 fF_X9_19_X9 lyR_0 rfl dX9_callers_146 rfl ?_
        refine g_bipush h 151 bp_6 dX9_callers_149 rfl ?_
        refine g_il6 h 153 dX9_callers_151 rfl ?_
        refine g_imul h 154 dX9_callers_153 rfl ?_
        refine g_il7 h 156 dX9_callers_154 rfl ?_
        refine g_iadd h 157 dX9_callers_156 rfl ?_
        obtain ⟨hq1, hf⟩ := my_chk hf
        refine g_iald h 158 dX9_callers_157 rfl hq1 ?_
        obtain ⟨hq2, hf⟩ := my_chk hf
        refine g_iast h 159 dX9_callers_158 rfl hq2 ?_
        refine g_inc7 h 162 (my_inc ic_1 _) (Nat.le_of_ble_eq_true rfl) rfl dX9_callers_159 rfl ?_
        refine g_goto h 124 dX9_callers_162 (by decide) ?_
        exact g_weak (ih.2 _ _ _ hf) (w_s (w_s (w_s (w_s (w_s (w_s (w_s (w_s w_0))))))))
set_option maxRecDepth 100000 in
set_option maxHeartbeats 4000000 in
theorem ct_X9_callers (w : my_V) {σ : my_M} {x1 : Int32} {x2 : Int32} {x3 : Int32} {x4 : Int32} {r : Int32} {τ : my_M} (hf : f_X9_callers σ x1 x2 x3 x4 = some (r, τ)) : Ct w layR mX9_callers 5 [.ref (w.2.2.2 0), .int x1, .int x2, .int x3, .int x4] σ (some (.int r)) τ := by
  refine my_met RX9 [some (.ref (w.2.2.2 0)), some (.int x1), some (.int x2), some (.int x3), some (.int x4), none, none, none] 3 (by decide) rfl (Nat.le_of_ble_eq_true rfl) rfl (fun X h => ?_)
  unfold f_X9_callers at hf
  refine g_il1 h 1 dX9_callers_0 rfl ?_
  obtain ⟨r1, σ1, hc1, hf⟩ := my_ofb hf
  refine g_callSi h 4 cs_X9_125 (ct_X9_noSheet w hc1) rfl rfl (Nat.le_of_ble_eq_true rfl) ⟨Nat.le_of_ble_eq_true rfl, Nat.le_of_ble_eq_true rfl⟩ dX9_callers_1 rfl ?_
  refine g_ifeq h 13 7 dX9_callers_4 (by decide) rfl (fun hc => ?_) (fun hc => ?_)
  · have hf := my_ifT hc hf
    refine g_il2 h 14 dX9_callers_13 rfl ?_
    refine g_i2l h 15 dX9_callers_14 rfl ?_
    refine g_lconst h 16 lc_0 dX9_callers_15 rfl ?_
    refine g_ldc2 h 19 tw_kl_X9_109 dX9_callers_16 rfl ?_
    obtain ⟨r2, σ2, hc2, hf⟩ := my_ofb hf
    refine g_callSi h 22 cs_X9_83 (ct_X9_in w hc2) rfl rfl (Nat.le_of_ble_eq_true rfl) ⟨Nat.le_of_ble_eq_true rfl, Nat.le_of_ble_eq_true rfl⟩ dX9_callers_19 rfl ?_
    refine g_ifne h 32 25 dX9_callers_22 (by decide) rfl (fun hc => ?_) (fun hc => ?_)
    · have hf := my_ifF hc hf
      refine g_al0 h 33 dX9_callers_32 rfl ?_
      refine g_il1 h 34 dX9_callers_33 rfl ?_
      refine g_il2 h 35 dX9_callers_34 rfl ?_
      refine g_il3 h 36 dX9_callers_35 rfl ?_
      refine g_il4 h 38 dX9_callers_36 rfl ?_
      refine g_i2l h 39 dX9_callers_38 rfl ?_
      obtain ⟨r3, σ3, hc3, hf⟩ := my_ofb hf
      refine g_callVi h 42 cs_X9_132 rfl lyR_0 (ct_X9_cellsBarred w hc3) rfl rfl (Nat.le_of_ble_eq_true rfl) ⟨Nat.le_of_ble_eq_true rfl, Nat.le_of_ble_eq_true rfl⟩ dX9_callers_39 rfl ?_
      refine g_is5 h 44 (Nat.le_of_ble_eq_true rfl) rfl dX9_callers_42 rfl ?_
      refine g_il5 h 46 dX9_callers_44 rfl ?_
      refine g_ifge h 52 49 dX9_callers_46 (by decide) rfl (fun hc => ?_) (fun hc => ?_)
      · have hf := my_ifT hc hf
        refine g_al0 h 53 dX9_callers_52 rfl ?_
        refine g_bipush h 55 bp_60 dX9_callers_53 rfl ?_
        refine g_il1 h 56 dX9_callers_55 rfl ?_
        refine g_imul h 57 dX9_callers_56 rfl ?_
        refine g_il3 h 58 dX9_callers_57 rfl ?_
        refine g_iadd h 59 dX9_callers_58 rfl ?_
        refine g_il4 h 61 dX9_callers_59 rfl ?_
        obtain ⟨r4, σ4, hc4, hf⟩ := my_ofb hf
        refine g_callVi h 64 cs_X9_136 rfl lyR_0 (ct_X9_readsCallers w hc4) rfl rfl (Nat.le_of_ble_eq_true rfl) ⟨Nat.le_of_ble_eq_true rfl, Nat.le_of_ble_eq_true rfl⟩ dX9_callers_61 rfl ?_
        refine g_ifne h 79 67 dX9_callers_64 (by decide) rfl (fun hc => ?_) (fun hc => ?_)
        · have hf := my_ifF hc hf
          refine g_al0 h 80 dX9_callers_79 rfl ?_
          refine g_al0 h 81 dX9_callers_80 rfl ?_
          refine g_geti h 84 fF_X9_102_X9 lyR_0 rfl dX9_callers_81 rfl ?_
          refine g_puti h 87 fP_X9_80_X9 lyR_0 rfl dX9_callers_84 rfl ?_
          refine g_al0 h 88 dX9_callers_87 rfl ?_
          refine g_al0 h 89 dX9_callers_88 rfl ?_
          refine g_geti h 92 fF_X9_99_X9 lyR_0 rfl dX9_callers_89 rfl ?_
          refine g_puti h 95 fP_X9_87_X9 lyR_0 rfl dX9_callers_92 rfl ?_
          refine g_iconst h 96 ic_0 dX9_callers_95 rfl ?_
          refine g_is6 h 98 (Nat.le_of_ble_eq_true rfl) rfl dX9_callers_96 rfl ?_
          exact g_weak ((lp_X9_callers w h my_NF).1 _ _ hf) (w_s (w_n (w_n (w_n (w_n (w_n (w_s (w_s w_0))))))))
        · have hf := my_ifT hc hf
          refine g_al0 h 68 dX9_callers_67 rfl ?_
          refine g_bipush h 70 bp_m100 dX9_callers_68 rfl ?_
          refine g_al0 h 71 dX9_callers_70 rfl ?_
          refine g_geti h 74 fF_X9_90_X9 lyR_0 rfl dX9_callers_71 rfl ?_
          refine g_isub h 75 dX9_callers_74 rfl ?_
          obtain ⟨r5, σ5, hc5, hf⟩ := my_ofb hf
          refine g_callVi h 78 cs_X9_129 rfl lyR_0 (ct_X9_refused w hc5) rfl rfl (Nat.le_of_ble_eq_true rfl) ⟨Nat.le_of_ble_eq_true rfl, Nat.le_of_ble_eq_true rfl⟩ dX9_callers_75 rfl ?_
          exact g_iret h dX9_callers_78 (my_r1 hf) (my_r2 hf)
      · have hf := my_ifF hc hf
        refine g_il5 h 51 dX9_callers_49 rfl ?_
        exact g_iret h dX9_callers_51 (my_r1 hf) (my_r2 hf)
    · have hf := my_ifT hc hf
      refine g_al0 h 26 dX9_callers_25 rfl ?_
      refine g_bipush h 28 bp_m2 dX9_callers_26 rfl ?_
      obtain ⟨r6, σ6, hc6, hf⟩ := my_ofb hf
      refine g_callVi h 31 cs_X9_129 rfl lyR_0 (ct_X9_refused w hc6) rfl rfl (Nat.le_of_ble_eq_true rfl) ⟨Nat.le_of_ble_eq_true rfl, Nat.le_of_ble_eq_true rfl⟩ dX9_callers_28 rfl ?_
      exact g_iret h dX9_callers_31 (my_r1 hf) (my_r2 hf)
  · have hf := my_ifF hc hf
    refine g_al0 h 8 dX9_callers_7 rfl ?_
    refine g_iconst h 9 ic_m1 dX9_callers_8 rfl ?_
    obtain ⟨r7, σ7, hc7, hf⟩ := my_ofb hf
    refine g_callVi h 12 cs_X9_129 rfl lyR_0 (ct_X9_refused w hc7) rfl rfl (Nat.le_of_ble_eq_true rfl) ⟨Nat.le_of_ble_eq_true rfl, Nat.le_of_ble_eq_true rfl⟩ dX9_callers_9 rfl ?_
    exact g_iret h dX9_callers_12 (my_r1 hf) (my_r2 hf)
def f_X9_lost (σ : my_M) : Option (Int64 × my_M) :=
some ((-9223372036854775808), σ)
set_option maxRecDepth 100000 in
set_option maxHeartbeats 4000000 in
theorem ct_X9_lost (w : my_V) {σ : my_M} {r : Int64} {τ : my_M} (hf : f_X9_lost σ = some (r, τ)) : Ct w layR mX9_lost 1 [] σ (some (.long r)) τ := by
  refine my_met RX9 [] 0 (by decide) rfl (Nat.le_of_ble_eq_true rfl) rfl (fun X h => ?_)
  unfold f_X9_lost at hf
  refine g_ldc2 h 3 tw_kl_X9_70 dX9_lost_0 rfl ?_
  exact g_lret h dX9_lost_3 (my_r1l hf) (my_r2 hf)
def f_X9_failedLong (σ : my_M) (x1 : Int32) : Option (Int64 × my_M) :=
(my_bnd (f_X9_lost (my_up σ 0 0 x1)) fun r1 σ1 =>
some (r1, σ1))
set_option maxRecDepth 100000 in
set_option maxHeartbeats 4000000 in
theorem ct_X9_failedLong (w : my_V) {σ : my_M} {x1 : Int32} {r : Int64} {τ : my_M} (hf : f_X9_failedLong σ x1 = some (r, τ)) : Ct w layR mX9_failedLong 2 [.ref (w.2.2.2 0), .int x1] σ (some (.long r)) τ := by
  refine my_met RX9 [some (.ref (w.2.2.2 0)), some (.int x1)] 0 (by decide) rfl (Nat.le_of_ble_eq_true rfl) rfl (fun X h => ?_)
  unfold f_X9_failedLong at hf
  refine g_al0 h 1 dX9_failedLong_0 rfl ?_
  refine g_il1 h 2 dX9_failedLong_1 rfl ?_
  refine g_puti h 5 fP_X9_72_X9 lyR_0 rfl dX9_failedLong_2 rfl ?_
  obtain ⟨r1, σ1, hc1, hf⟩ := my_ofb hf
  refine g_callSl h 8 cs_X9_76 (ct_X9_lost w hc1) rfl rfl (Nat.le_of_ble_eq_true rfl) ⟨Nat.le_of_ble_eq_true rfl, Nat.le_of_ble_eq_true rfl⟩ dX9_failedLong_5 rfl ?_
  exact g_lret h dX9_failedLong_8 (my_r1l hf) (my_r2 hf)
def f_X9_noCell (σ : my_M) (x1 : Int32) (x2 : Int32) : Option (Int32 × my_M) :=
(if my_ix x1 (my_len layR 17) then
(if 0 ≤ (σ 17 (Int32.toNatClampNeg x1)) then
(if my_ix x1 (my_len layR 17) then
(my_bnd (f_X9_in σ (Int32.toInt64 x2) 0 ((Int32.toInt64 (σ 17 (Int32.toNatClampNeg x1))) - 1)) fun r3 σ3 =>
some ((if r3 = 0 then 3 else 0 : Int32), σ3))
else none)
else
some (1, σ))
else none)
set_option maxRecDepth 100000 in
set_option maxHeartbeats 4000000 in
theorem ct_X9_noCell (w : my_V) {σ : my_M} {x1 : Int32} {x2 : Int32} {r : Int32} {τ : my_M} (hf : f_X9_noCell σ x1 x2 = some (r, τ)) : Ct w layR mX9_noCell 2 [.ref (w.2.2.2 0), .int x1, .int x2] σ (some (.int r)) τ := by
  refine my_met RX9 [some (.ref (w.2.2.2 0)), some (.int x1), some (.int x2)] 0 (by decide) rfl (Nat.le_of_ble_eq_true rfl) rfl (fun X h => ?_)
  unfold f_X9_noCell at hf
  refine g_al0 h 1 dX9_noCell_0 rfl ?_
  refine g_geta h 4 fF_X9_58_X9 lyR_0 rfl dX9_noCell_1 rfl ?_
  refine g_il1 h 5 dX9_noCell_4 rfl ?_
  obtain ⟨hq1, hf⟩ := my_chk hf
  refine g_iald h 6 dX9_noCell_5 rfl hq1 ?_
  refine g_ifge h 13 9 dX9_noCell_6 (by decide) rfl (fun hc => ?_) (fun hc => ?_)
  · have hf := my_ifT hc hf
    refine g_il2 h 14 dX9_noCell_13 rfl ?_
    refine g_i2l h 15 dX9_noCell_14 rfl ?_
    refine g_lconst h 16 lc_0 dX9_noCell_15 rfl ?_
    refine g_al0 h 17 dX9_noCell_16 rfl ?_
    refine g_geta h 20 fF_X9_58_X9 lyR_0 rfl dX9_noCell_17 rfl ?_
    refine g_il1 h 21 dX9_noCell_20 rfl ?_
    obtain ⟨hq2, hf⟩ := my_chk hf
    refine g_iald h 22 dX9_noCell_21 rfl hq2 ?_
    refine g_i2l h 23 dX9_noCell_22 rfl ?_
    refine g_lconst h 24 lc_1 dX9_noCell_23 rfl ?_
    refine g_lsub h 25 dX9_noCell_24 rfl ?_
    obtain ⟨r3, σ3, hc3, hf⟩ := my_ofb hf
    refine g_callSi h 28 cs_X9_83 (ct_X9_in w hc3) rfl rfl (Nat.le_of_ble_eq_true rfl) ⟨Nat.le_of_ble_eq_true rfl, Nat.le_of_ble_eq_true rfl⟩ dX9_noCell_25 rfl ?_
    refine g_ifeq_sel h 35 36 dX9_noCell_28 (by decide) dX9_noCell_31 ic_0 dX9_noCell_32 (by decide) dX9_noCell_35 ic_3 rfl ?_
    exact g_iret h dX9_noCell_36 (my_r1 hf) (my_r2 hf)
  · have hf := my_ifF hc hf
    refine g_iconst h 10 ic_1 dX9_noCell_9 rfl ?_
    refine g_goto h 36 dX9_noCell_10 (by decide) ?_
    exact g_iret h dX9_noCell_36 (my_r1 hf) (my_r2 hf)
def f_X9_cell (σ : my_M) (x1 : Int32) (x2 : Int32) (x3 : Int32) : Option (Int64 × my_M) :=
(my_bnd (f_X9_noSheet (my_up σ 0 0 0) x1) fun r1 σ1 =>
(if r1 = 0 then
(my_bnd (f_X9_in σ1 (Int32.toInt64 x3) 0 2) fun r3 σ3 =>
(if r3 = 0 then
(my_bnd (f_X9_lost σ3) fun r15 σ15 =>
some (r15, σ15))
else
(if my_ix x1 (my_len layR 17) then
(if (σ3 17 (Int32.toNatClampNeg x1)) < 0 then
(my_bnd (f_X9_noCell σ3 x1 x2) fun r5 σ5 =>
(if r5 ≤ 0 then
(if my_ix ((60 * x1) + x2) (my_len layR 19) then
some ((Int32.toInt64 (σ5 19 (Int32.toNatClampNeg ((60 * x1) + x2)))), σ5)
else none)
else
(my_bnd (f_X9_noCell σ5 x1 x2) fun r7 σ7 =>
(my_bnd (f_X9_failedLong σ7 r7) fun r8 σ8 =>
some (r8, σ8)))))
else
(if my_ix x1 (my_len layR 18) then
(if (σ3 18 (Int32.toNatClampNeg x1)) = x3 then
(my_bnd (f_X9_noCell σ3 x1 x2) fun r10 σ10 =>
(if r10 ≤ 0 then
(if my_ix ((60 * x1) + x2) (my_len layR 19) then
some ((Int32.toInt64 (σ10 19 (Int32.toNatClampNeg ((60 * x1) + x2)))), σ10)
else none)
else
(my_bnd (f_X9_noCell σ10 x1 x2) fun r12 σ12 =>
(my_bnd (f_X9_failedLong σ12 r12) fun r13 σ13 =>
some (r13, σ13)))))
else
(my_bnd (f_X9_failedLong σ3 2) fun r14 σ14 =>
some (r14, σ14)))
else none))
else none)))
else
(my_bnd (f_X9_lost σ1) fun r2 σ2 =>
some (r2, σ2))))
set_option maxRecDepth 100000 in
set_option maxHeartbeats 4000000 in
theorem ct_X9_cell (w : my_V) {σ : my_M} {x1 : Int32} {x2 : Int32} {x3 : Int32} {r : Int64} {τ : my_M} (hf : f_X9_cell σ x1 x2 x3 = some (r, τ)) : Ct w layR mX9_cell 3 [.ref (w.2.2.2 0), .int x1, .int x2, .int x3] σ (some (.long r)) τ := by
  refine my_met RX9 [some (.ref (w.2.2.2 0)), some (.int x1), some (.int x2), some (.int x3)] 0 (by decide) rfl (Nat.le_of_ble_eq_true rfl) rfl (fun X h => ?_)
  unfold f_X9_cell at hf
  refine g_al0 h 1 dX9_cell_0 rfl ?_
  refine g_iconst h 2 ic_0 dX9_cell_1 rfl ?_
  refine g_puti h 5 fP_X9_72_X9 lyR_0 rfl dX9_cell_2 rfl ?_
  refine g_il1 h 6 dX9_cell_5 rfl ?_
  obtain ⟨r1, σ1, hc1, hf⟩ := my_ofb hf
  refine g_callSi h 9 cs_X9_125 (ct_X9_noSheet w hc1) rfl rfl (Nat.le_of_ble_eq_true rfl) ⟨Nat.le_of_ble_eq_true rfl, Nat.le_of_ble_eq_true rfl⟩ dX9_cell_6 rfl ?_
  refine g_ifne h 24 12 dX9_cell_9 (by decide) rfl (fun hc => ?_) (fun hc => ?_)
  · have hf := my_ifF hc hf
    obtain ⟨r2, σ2, hc2, hf⟩ := my_ofb hf
    refine g_callSl h 27 cs_X9_76 (ct_X9_lost w hc2) rfl rfl (Nat.le_of_ble_eq_true rfl) ⟨Nat.le_of_ble_eq_true rfl, Nat.le_of_ble_eq_true rfl⟩ dX9_cell_24 rfl ?_
    exact g_lret h dX9_cell_27 (my_r1l hf) (my_r2 hf)
  · have hf := my_ifT hc hf
    refine g_il3 h 13 dX9_cell_12 rfl ?_
    refine g_i2l h 14 dX9_cell_13 rfl ?_
    refine g_lconst h 15 lc_0 dX9_cell_14 rfl ?_
    refine g_ldc2 h 18 tw_kl_X9_109 dX9_cell_15 rfl ?_
    obtain ⟨r3, σ3, hc3, hf⟩ := my_ofb hf
    refine g_callSi h 21 cs_X9_83 (ct_X9_in w hc3) rfl rfl (Nat.le_of_ble_eq_true rfl) ⟨Nat.le_of_ble_eq_true rfl, Nat.le_of_ble_eq_true rfl⟩ dX9_cell_18 rfl ?_
    refine g_ifne h 28 24 dX9_cell_21 (by decide) rfl (fun hc => ?_) (fun hc => ?_)
    · have hf := my_ifF hc hf
      refine g_al0 h 29 dX9_cell_28 rfl ?_
      refine g_geta h 32 fF_X9_58_X9 lyR_0 rfl dX9_cell_29 rfl ?_
      refine g_il1 h 33 dX9_cell_32 rfl ?_
      obtain ⟨hq4, hf⟩ := my_chk hf
      refine g_iald h 34 dX9_cell_33 rfl hq4 ?_
      refine g_iflt h 53 37 dX9_cell_34 (by decide) rfl (fun hc => ?_) (fun hc => ?_)
      · have hf := my_ifT hc hf
        refine g_al0 h 54 dX9_cell_53 rfl ?_
        refine g_il1 h 55 dX9_cell_54 rfl ?_
        refine g_il2 h 56 dX9_cell_55 rfl ?_
        obtain ⟨r5, σ5, hc5, hf⟩ := my_ofb hf
        refine g_callVi h 59 cs_X9_277 rfl lyR_0 (ct_X9_noCell w hc5) rfl rfl (Nat.le_of_ble_eq_true rfl) ⟨Nat.le_of_ble_eq_true rfl, Nat.le_of_ble_eq_true rfl⟩ dX9_cell_56 rfl ?_
        refine g_ifle h 75 62 dX9_cell_59 (by decide) rfl (fun hc => ?_) (fun hc => ?_)
        · have hf := my_ifT hc hf
          refine g_al0 h 76 dX9_cell_75 rfl ?_
          refine g_geta h 79 fF_X9_64_X9 lyR_0 rfl dX9_cell_76 rfl ?_
          refine g_bipush h 81 bp_60 dX9_cell_79 rfl ?_
          refine g_il1 h 82 dX9_cell_81 rfl ?_
          refine g_imul h 83 dX9_cell_82 rfl ?_
          refine g_il2 h 84 dX9_cell_83 rfl ?_
          refine g_iadd h 85 dX9_cell_84 rfl ?_
          obtain ⟨hq6, hf⟩ := my_chk hf
          refine g_iald h 86 dX9_cell_85 rfl hq6 ?_
          refine g_i2l h 87 dX9_cell_86 rfl ?_
          exact g_lret h dX9_cell_87 (my_r1l hf) (my_r2 hf)
        · have hf := my_ifF hc hf
          refine g_al0 h 63 dX9_cell_62 rfl ?_
          refine g_al0 h 64 dX9_cell_63 rfl ?_
          refine g_il1 h 65 dX9_cell_64 rfl ?_
          refine g_il2 h 66 dX9_cell_65 rfl ?_
          obtain ⟨r7, σ7, hc7, hf⟩ := my_ofb hf
          refine g_callVi h 69 cs_X9_277 rfl lyR_0 (ct_X9_noCell w hc7) rfl rfl (Nat.le_of_ble_eq_true rfl) ⟨Nat.le_of_ble_eq_true rfl, Nat.le_of_ble_eq_true rfl⟩ dX9_cell_66 rfl ?_
          obtain ⟨r8, σ8, hc8, hf⟩ := my_ofb hf
          refine g_callVl h 72 cs_X9_280 rfl lyR_0 (ct_X9_failedLong w hc8) rfl rfl (Nat.le_of_ble_eq_true rfl) ⟨Nat.le_of_ble_eq_true rfl, Nat.le_of_ble_eq_true rfl⟩ dX9_cell_69 rfl ?_
          refine g_goto h 87 dX9_cell_72 (by decide) ?_
          exact g_lret h dX9_cell_87 (my_r1l hf) (my_r2 hf)
      · have hf := my_ifF hc hf
        refine g_al0 h 38 dX9_cell_37 rfl ?_
        refine g_geta h 41 fF_X9_61_X9 lyR_0 rfl dX9_cell_38 rfl ?_
        refine g_il1 h 42 dX9_cell_41 rfl ?_
        obtain ⟨hq9, hf⟩ := my_chk hf
        refine g_iald h 43 dX9_cell_42 rfl hq9 ?_
        refine g_il3 h 44 dX9_cell_43 rfl ?_
        refine g_iceq h 53 47 dX9_cell_44 (by decide) rfl (fun hc => ?_) (fun hc => ?_)
        · have hf := my_ifT hc hf
          refine g_al0 h 54 dX9_cell_53 rfl ?_
          refine g_il1 h 55 dX9_cell_54 rfl ?_
          refine g_il2 h 56 dX9_cell_55 rfl ?_
          obtain ⟨r10, σ10, hc10, hf⟩ := my_ofb hf
          refine g_callVi h 59 cs_X9_277 rfl lyR_0 (ct_X9_noCell w hc10) rfl rfl (Nat.le_of_ble_eq_true rfl) ⟨Nat.le_of_ble_eq_true rfl, Nat.le_of_ble_eq_true rfl⟩ dX9_cell_56 rfl ?_
          refine g_ifle h 75 62 dX9_cell_59 (by decide) rfl (fun hc => ?_) (fun hc => ?_)
          · have hf := my_ifT hc hf
            refine g_al0 h 76 dX9_cell_75 rfl ?_
            refine g_geta h 79 fF_X9_64_X9 lyR_0 rfl dX9_cell_76 rfl ?_
            refine g_bipush h 81 bp_60 dX9_cell_79 rfl ?_
            refine g_il1 h 82 dX9_cell_81 rfl ?_
            refine g_imul h 83 dX9_cell_82 rfl ?_
            refine g_il2 h 84 dX9_cell_83 rfl ?_
            refine g_iadd h 85 dX9_cell_84 rfl ?_
            obtain ⟨hq11, hf⟩ := my_chk hf
            refine g_iald h 86 dX9_cell_85 rfl hq11 ?_
            refine g_i2l h 87 dX9_cell_86 rfl ?_
            exact g_lret h dX9_cell_87 (my_r1l hf) (my_r2 hf)
          · have hf := my_ifF hc hf
            refine g_al0 h 63 dX9_cell_62 rfl ?_
            refine g_al0 h 64 dX9_cell_63 rfl ?_
            refine g_il1 h 65 dX9_cell_64 rfl ?_
            refine g_il2 h 66 dX9_cell_65 rfl ?_
            obtain ⟨r12, σ12, hc12, hf⟩ := my_ofb hf
            refine g_callVi h 69 cs_X9_277 rfl lyR_0 (ct_X9_noCell w hc12) rfl rfl (Nat.le_of_ble_eq_true rfl) ⟨Nat.le_of_ble_eq_true rfl, Nat.le_of_ble_eq_true rfl⟩ dX9_cell_66 rfl ?_
            obtain ⟨r13, σ13, hc13, hf⟩ := my_ofb hf
            refine g_callVl h 72 cs_X9_280 rfl lyR_0 (ct_X9_failedLong w hc13) rfl rfl (Nat.le_of_ble_eq_true rfl) ⟨Nat.le_of_ble_eq_true rfl, Nat.le_of_ble_eq_true rfl⟩ dX9_cell_69 rfl ?_
            refine g_goto h 87 dX9_cell_72 (by decide) ?_
            exact g_lret h dX9_cell_87 (my_r1l hf) (my_r2 hf)
        · have hf := my_ifF hc hf
          refine g_al0 h 48 dX9_cell_47 rfl ?_
          refine g_iconst h 49 ic_2 dX9_cell_48 rfl ?_
          obtain ⟨r14, σ14, hc14, hf⟩ := my_ofb hf
          refine g_callVl h 52 cs_X9_280 rfl lyR_0 (ct_X9_failedLong w hc14) rfl rfl (Nat.le_of_ble_eq_true rfl) ⟨Nat.le_of_ble_eq_true rfl, Nat.le_of_ble_eq_true rfl⟩ dX9_cell_49 rfl ?_
          exact g_lret h dX9_cell_52 (my_r1l hf) (my_r2 hf)
    · have hf := my_ifT hc hf
      obtain ⟨r15, σ15, hc15, hf⟩ := my_ofb hf
      refine g_callSl h 27 cs_X9_76 (ct_X9_lost w hc15) rfl rfl (Nat.le_of_ble_eq_true rfl) ⟨Nat.le_of_ble_eq_true rfl, Nat.le_of_ble_eq_true rfl⟩ dX9_cell_24 rfl ?_
      exact g_lret h dX9_cell_27 (my_r1l hf) (my_r2 hf)
def b_X9_clash_0 (k0 : my_M → Int32 → Int32 → Int32 → Int32 → Option (Int32 × my_M)) (k1 : my_M → Int32 → Int32 → Int32 → Int32 → Int32 → Option (Int32 × my_M)) (σ : my_M) (x1 : Int32) (x2 : Int32) (x3 : Int32) (x4 : Int32) : Option (Int32 × my_M) :=
(if 5 < x4 then
some (x3, σ)
else
k1 σ x1 x2 x3 x4 ((-5)))
def b_X9_clash_1 (k0 : my_M → Int32 → Int32 → Int32 → Int32 → Option (Int32 × my_M)) (k1 : my_M → Int32 → Int32 → Int32 → Int32 → Int32 → Option (Int32 × my_M)) (σ : my_M) (x1 : Int32) (x2 : Int32) (x3 : Int32) (x4 : Int32) (x5 : Int32) : Option (Int32 × my_M) :=
(if 5 < x5 then
k0 σ x1 x2 x3 ((x4 + 1))
else
(my_bnd (f_X9_heardBy σ x1 x2 x4 x5) fun r1 σ1 =>
(if r1 ≤ x3 then
k1 σ1 x1 x2 x3 x4 ((x5 + 1))
else
k1 σ1 x1 x2 r1 x4 ((x5 + 1)))))
def g_X9_clash : Nat → (my_M → Int32 → Int32 → Int32 → Int32 → Option (Int32 × my_M)) × (my_M → Int32 → Int32 → Int32 → Int32 → Int32 → Option (Int32 × my_M))
  | 0 => (fun _ _ _ _ _ => none, fun _ _ _ _ _ _ => none)
  | n + 1 => (b_X9_clash_0 (g_X9_clash n).1 (g_X9_clash n).2, b_X9_clash_1 (g_X9_clash n).1 (g_X9_clash n).2)
def f_X9_clash (σ : my_M) (x1 : Int32) (x2 : Int32) : Option (Int32 × my_M) :=
(my_bnd (f_X9_noCaller σ x1) fun r1 σ1 =>
(if r1 = 0 then
(my_bnd (f_X9_noCaller σ1 x2) fun r2 σ2 =>
(if r2 = 0 then
(g_X9_clash my_NF).1 σ2 x1 x2 0 ((-5))
else
some ((-1), σ2)))
else
some ((-1), σ1)))
set_option maxRecDepth 100000 in
set_option maxHeartbeats 4000000 in
theorem lp_X9_clash (w : my_V) {X : my_X} {r : Int32} {τ : my_M} (h : my_OK X w layR cX9_clash RX9 7 (some .int)) : ∀ n : Nat, (∀ (σ : my_M) (x1 : Int32) (x2 : Int32) (x3 : Int32) (x4 : Int32), (g_X9_clash n).1 σ x1 x2 x3 x4 = some (r, τ) → Go X w layR 4 7 (some (.int r)) τ σ 24 [some (.ref (w.2.2.2 0)), some (.int x1), some (.int x2), some (.int x3), some (.int x4), none, none] []) ∧ (∀ (σ : my_M) (x1 : Int32) (x2 : Int32) (x3 : Int32) (x4 : Int32) (x5 : Int32), (g_X9_clash n).2 σ x1 x2 x3 x4 x5 = some (r, τ) → Go X w layR 4 7 (some (.int r)) τ σ 34 [some (.ref (w.2.2.2 0)), some (.int x1), some (.int x2), some (.int x3), some (.int x4), some (.int x5), none] []) := by
  intro n
  induction n with
  | zero => exact ⟨fun _ _ _ _ _ hf => (my_nn hf).elim, fun _ _ _ _ _ _ hf => (my_nn hf).elim⟩
  | succ n ih =>
    refine ⟨?_, ?_⟩
    · intro σ x1 x2 x3 x4 hf
      replace hf : b_X9_clash_0 (g_X9_clash n).1 (g_X9_clash n).2 σ x1 x2 x3 x4 = some (r, τ) := hf
      unfold b_X9_clash_0 at hf
      refine g_il4 h 26 dX9_clash_24 rfl ?_
      refine g_iconst h 27 ic_5 dX9_clash_26 rfl ?_
      refine g_icgt h 77 30 dX9_clash_27 (by decide) rfl (fun hc => ?_) (fun hc => ?_)
      · have hf := my_ifT hc hf
        refine g_il3 h 78 dX9_clash_77 rfl ?_
        exact g_iret h dX9_clash_78 (my_r1 hf) (my_r2 hf)
      · have hf := my_ifF hc hf
        refine g_bipush h 32 bp_m5 dX9_clash_30 rfl ?_
        refine g_is5 h 34 (Nat.le_of_ble_eq_true rfl) rfl dX9_clash_32 rfl ?_
        exact g_weak (ih.2 _ _ _ _ _ _ hf) (w_s (w_s (w_s (w_s (w_s (w_s (w_s w_0)))))))
    · intro σ x1 x2 x3 x4 x5 hf
      replace hf : b_X9_clash_1 (g_X9_clash n).1 (g_X9_clash n).2 σ x1 x2 x3 x4 x5 = some (r, τ) := hf
      unfold b_X9_clash_1 at hf
      refine g_il5 h 36 dX9_clash_34 rfl ?_
      refine g_iconst h 37 ic_5 dX9_clash_36 rfl ?_
      refine g_icgt h 71 40 dX9_clash_37 (by decide) rfl (fun hc => ?_) (fun hc => ?_)
      · have hf := my_ifT hc hf
        refine g_inc4 h 74 (my_inc ic_1 _) (Nat.le_of_ble_eq_true rfl) rfl dX9_clash_71 rfl ?_
        refine g_goto h 24 dX9_clash_74 (by decide) ?_
        exact g_weak (ih.1 _ _ _ _ _ hf) (w_s (w_s (w_s (w_s (w_s (w_n (w_s w_0)))))))
      · have hf := my_ifF hc hf
        refine g_al0 h 41 dX9_clash_40 rfl ?_
        refine g_il1 h 42 dX9_clash_41 rfl ?_
        refine g_il2 h 43 dX9_clash_42 rfl ?_
        refine g_il4 h 45 dX9_clash_43 rfl ?_
        refine g_il5 h 47 dX9_clash_45 rfl ?_
        obtain ⟨r1, σ1, hc1, hf⟩ := my_ofb hf
        refine g_callVi h 50 cs_X9_191 rfl lyR_0 (ct_X9_heardBy w hc1) rfl rfl (Nat.le_of_ble_eq_true rfl) ⟨Nat.le_of_ble_eq_true rfl, Nat.le_of_ble_eq_true rfl⟩ dX9_clash_47 rfl ?_
        refine g_is6 h 52 (Nat.le_of_ble_eq_true rfl) rfl dX9_clash_50 rfl ?_
        refine g_il6 h 54 dX9_clash_52 rfl ?_
        refine g_il3 h 55 dX9_clash_54 rfl ?_
        refine g_icle h 63 58 dX9_clash_55 (by decide) rfl (fun hc => ?_) (fun hc => ?_)
        · have hf := my_ifT hc hf
          refine g_il3 h 64 dX9_clash_63 rfl ?_
          refine g_is3 h 65 (Nat.le_of_ble_eq_true rfl) rfl dX9_clash_64 rfl ?_
          refine g_inc5 h 68 (my_inc ic_1 _) (Nat.le_of_ble_eq_true rfl) rfl dX9_clash_65 rfl ?_
          refine g_goto h 34 dX9_clash_68 (by decide) ?_
          exact g_weak (ih.2 _ _ _ _ _ _ hf) (w_s (w_s (w_s (w_s (w_s (w_s (w_n w_0)))))))
        · have hf := my_ifF hc hf
          refine g_il6 h 60 dX9_clash_58 rfl ?_
          refine g_goto h 64 dX9_clash_60 (by decide) ?_
          refine g_is3 h 65 (Nat.le_of_ble_eq_true rfl) rfl dX9_clash_64 rfl ?_
          refine g_inc5 h 68 (my_inc ic_1 _) (Nat.le_of_ble_eq_true rfl) rfl dX9_clash_65 rfl ?_
          refine g_goto h 34 dX9_clash_68 (by decide) ?_
          exact g_weak (ih.2 _ _ _ _ _ _ hf) (w_s (w_s (w_s (w_s (w_s (w_s (w_n w_0)))))))
set_option maxRecDepth 100000 in
set_option maxHeartbeats 4000000 in
theorem ct_X9_clash (w : my_V) {σ : my_M} {x1 : Int32} {x2 : Int32} {r : Int32} {τ : my_M} (hf : f_X9_clash σ x1 x2 = some (r, τ)) : Ct w layR mX9_clash 4 [.ref (w.2.2.2 0), .int x1, .int x2] σ (some (.int r)) τ := by
  refine my_met RX9 [some (.ref (w.2.2.2 0)), some (.int x1), some (.int x2), none, none, none, none] 4 (by decide) rfl (Nat.le_of_ble_eq_true rfl) rfl (fun X h => ?_)
  unfold f_X9_clash at hf
  refine g_al0 h 1 dX9_clash_0 rfl ?_
  refine g_il1 h 2 dX9_clash_1 rfl ?_
  obtain ⟨r1, σ1, hc1, hf⟩ := my_ofb hf
  refine g_callVi h 5 cs_X9_165 rfl lyR_0 (ct_X9_noCaller w hc1) rfl rfl (Nat.le_of_ble_eq_true rfl) ⟨Nat.le_of_ble_eq_true rfl, Nat.le_of_ble_eq_true rfl⟩ dX9_clash_2 rfl ?_
  refine g_ifne h 16 8 dX9_clash_5 (by decide) rfl (fun hc => ?_) (fun hc => ?_)
  · have hf := my_ifF hc hf
    refine g_iconst h 17 ic_m1 dX9_clash_16 rfl ?_
    exact g_iret h dX9_clash_17 (my_r1 hf) (my_r2 hf)
  · have hf := my_ifT hc hf
    refine g_al0 h 9 dX9_clash_8 rfl ?_
    refine g_il2 h 10 dX9_clash_9 rfl ?_
    obtain ⟨r2, σ2, hc2, hf⟩ := my_ofb hf
    refine g_callVi h 13 cs_X9_165 rfl lyR_0 (ct_X9_noCaller w hc2) rfl rfl (Nat.le_of_ble_eq_true rfl) ⟨Nat.le_of_ble_eq_true rfl, Nat.le_of_ble_eq_true rfl⟩ dX9_clash_10 rfl ?_
    refine g_ifeq h 18 16 dX9_clash_13 (by decide) rfl (fun hc => ?_) (fun hc => ?_)
    · have hf := my_ifT hc hf
      refine g_iconst h 19 ic_0 dX9_clash_18 rfl ?_
      refine g_is3 h 20 (Nat.le_of_ble_eq_true rfl) rfl dX9_clash_19 rfl ?_
      refine g_bipush h 22 bp_m5 dX9_clash_20 rfl ?_
      refine g_is4 h 24 (Nat.le_of_ble_eq_true rfl) rfl dX9_clash_22 rfl ?_
      exact g_weak ((lp_X9_clash w h my_NF).1 _ _ _ _ _ hf) (w_s (w_s (w_s (w_s (w_s (w_s (w_s w_0)))))))
    · have hf := my_ifF hc hf
      refine g_iconst h 17 ic_m1 dX9_clash_16 rfl ?_
      exact g_iret h dX9_clash_17 (my_r1 hf) (my_r2 hf)
def b_X9_copy_0 (k0 : my_M → Int32 → Int32 → Int32 → Int32 → Int32 → Int32 → Option (Int32 × my_M)) (k1 : my_M → Int32 → Int32 → Int32 → Int32 → Option (Int32 × my_M)) (σ : my_M) (x1 : Int32) (x2 : Int32) (x3 : Int32) (x4 : Int32) (x5 : Int32) (x6 : Int32) : Option (Int32 × my_M) :=
(if x5 ≤ x6 then
k1 σ x3 x4 x5 0
else
(if my_ix (((60 * x1) + x2) + x6) (my_len layR 19) then
(if my_ix x6 (my_len layR 20) then
k0 (my_up σ 20 (Int32.toNatClampNeg x6) (σ 19 (Int32.toNatClampNeg (((60 * x1) + x2) + x6)))) x1 x2 x3 x4 x5 ((x6 + 1))
else none)
else none))
def b_X9_copy_1 (k0 : my_M → Int32 → Int32 → Int32 → Int32 → Int32 → Int32 → Option (Int32 × my_M)) (k1 : my_M → Int32 → Int32 → Int32 → Int32 → Option (Int32 × my_M)) (σ : my_M) (x3 : Int32) (x4 : Int32) (x5 : Int32) (x6 : Int32) : Option (Int32 × my_M) :=
(if x5 ≤ x6 then
(my_bnd (f_X9_refused σ x5) fun r1 σ1 =>
some (r1, σ1))
else
(if my_ix x6 (my_len layR 20) then
(if my_ix (((60 * x3) + x4) + x6) (my_len layR 19) then
k1 (my_up σ 19 (Int32.toNatClampNeg (((60 * x3) + x4) + x6)) (σ 20 (Int32.toNatClampNeg x6))) x3 x4 x5 ((x6 + 1))
else none)
else none))
def g_X9_copy : Nat → (my_M → Int32 → Int32 → Int32 → Int32 → Int32 → Int32 → Option (Int32 × my_M)) × (my_M → Int32 → Int32 → Int32 → Int32 → Option (Int32 × my_M))
  | 0 => (fun _ _ _ _ _ _ _ => none, fun _ _ _ _ _ => none)
  | n + 1 => (b_X9_copy_0 (g_X9_copy n).1 (g_X9_copy n).2, b_X9_copy_1 (g_X9_copy n).1 (g_X9_copy n).2)
def f_X9_copy (σ : my_M) (x1 : Int32) (x2 : Int32) (x3 : Int32) (x4 : Int32) (x5 : Int32) : Option (Int32 × my_M) :=
(my_bnd (f_X9_noSheet σ x1) fun r1 σ1 =>
(if r1 = 0 then
(my_bnd (f_X9_noSheet σ1 x3) fun r3 σ3 =>
(if r3 = 0 then
(if my_ix x1 (my_len layR 17) then
(if (σ3 17 (Int32.toNatClampNeg x1)) < 0 then
(my_bnd (f_X9_failed σ3 1) fun r5 σ5 =>
some (r5, σ5))
else
(if my_ix x3 (my_len layR 17) then
(if 0 ≤ (σ3 17 (Int32.toNatClampNeg x3)) then
(if my_ix x1 (my_len layR 18) then
(if my_ix x3 (my_len layR 18) then
(if (σ3 18 (Int32.toNatClampNeg x1)) = (σ3 18 (Int32.toNatClampNeg x3)) then
(if my_ix x1 (my_len layR 17) then
(my_bnd (f_X9_isBeyond σ3 x2 (Int32.toInt64 x5) (σ3 17 (Int32.toNatClampNeg x1))) fun r10 σ10 =>
(if r10 = 0 then
(if my_ix x3 (my_len layR 17) then
(my_bnd (f_X9_isBeyond σ10 x4 (Int32.toInt64 x5) (σ10 17 (Int32.toNatClampNeg x3))) fun r13 σ13 =>
(if r13 = 0 then
(g_X9_copy my_NF).1 σ13 x1 x2 x3 x4 x5 0
else
(my_bnd (f_X9_failed σ13 3) fun r14 σ14 =>
some (r14, σ14))))
else none)
else
(my_bnd (f_X9_failed σ10 3) fun r11 σ11 =>
some (r11, σ11))))
else none)
else
(my_bnd (f_X9_failed σ3 2) fun r15 σ15 =>
some (r15, σ15)))
else none)
else none)
else
(my_bnd (f_X9_failed σ3 1) fun r16 σ16 =>
some (r16, σ16)))
else none))
else none)
else
(my_bnd (f_X9_refused σ3 (-1)) fun r17 σ17 =>
some (r17, σ17))))
else
(my_bnd (f_X9_refused σ1 (-1)) fun r2 σ2 =>
some (r2, σ2))))
set_option maxRecDepth 100000 in
set_option maxHeartbeats 4000000 in
theorem lp_X9_copy (w : my_V) {X : my_X} {r : Int32} {τ : my_M} (h : my_OK X w layR cX9_copy RX9 7 (some .int)) : ∀ n : Nat, (∀ (σ : my_M) (x1 : Int32) (x2 : Int32) (x3 : Int32) (x4 : Int32) (x5 : Int32) (x6 : Int32), (g_X9_copy n).1 σ x1 x2 x3 x4 x5 x6 = some (r, τ) → Go X w layR 3 7 (some (.int r)) τ σ 107 [some (.ref (w.2.2.2 0)), some (.int x1), some (.int x2), some (.int x3), some (.int x4), some (.int x5), some (.int x6)] []) ∧ (∀ (σ : my_M) (x3 : Int32) (x4 : Int32) (x5 : Int32) (x6 : Int32), (g_X9_copy n).2 σ x3 x4 x5 x6 = some (r, τ) → Go X w layR 3 7 (some (.int r)) τ σ 144 [some (.ref (w.2.2.2 0)), none, none, some (.int x3), some (.int x4), some (.int x5), some (.int x6)] []) := by
  intro n
  induction n with
  | zero => exact ⟨fun _ _ _ _ _ _ _ hf => (my_nn hf).elim, fun _ _ _ _ _ hf => (my_nn hf).elim⟩
  | succ n ih =>
    refine ⟨?_, ?_⟩
    · intro σ x1 x2 x3 x4 x5 x6 hf
      replace hf : b_X9_copy_0 (g_X9_copy n).1 (g_X9_copy n).2 σ x1 x2 x3 x4 x5 x6 = some (r, τ) := hf
      unfold b_X9_copy_0 at hf
      refine g_il6 h 109 dX9_copy_107 rfl ?_
      refine g_il5 h 111 dX9_copy_109 rfl ?_
      refine g_icge h 141 114 dX9_copy_111 (by decide) rfl (fun hc => ?_) (fun hc => ?_)
      · have hf := my_ifT hc hf
        refine g_iconst h 142 ic_0 dX9_copy_141 rfl ?_
        refine g_is6 h 144 (Nat.le_of_ble_eq_true rfl) rfl dX9_copy_142 rfl ?_
        exact g_weak (ih.2 _ _ _ _ _ hf) (w_s (w_n (w_n (w_s (w_s (w_s (w_s w_0)))))))
      · have hf := my_ifF hc hf
        refine g_al0 h 115 dX9_copy_114 rfl ?_
        refine g_geta h 118 fF_X9_67_X9 lyR_0 rfl dX9_copy_115 rfl ?_
        refine g_il6 h 120 dX9_copy_118 rfl ?_
        refine g_al0 h 121 dX9_copy_120 rfl ?_
        refine g_geta h 124 fF_X9_64_X9 lyR_0 rfl dX9_copy_121 rfl ?_
        refine g_bipush h 126 bp_60 dX9_copy_124 rfl ?_
        refine g_il1 h 127 dX9_copy_126 rfl ?_
        refine g_imul h 128 dX9_copy_127 rfl ?_
        refine g_il2 h 129 dX9_copy_128 rfl ?_
        refine g_iadd h 130 dX9_copy_129 rfl ?_
        refine g_il6 h 132 dX9_copy_130 rfl ?_
        refine g_iadd h 133 dX9_copy_132 rfl ?_
        obtain ⟨hq1, hf⟩ := my_chk hf
        refine g_iald h 134 dX9_copy_133 rfl hq1 ?_
        obtain ⟨hq2, hf⟩ := my_chk hf
        refine g_iast h 135 dX9_copy_134 rfl hq2 ?_
        refine g_inc6 h 138 (my_inc ic_1 _) (Nat.le_of_ble_eq_true rfl) rfl dX9_copy_135 rfl ?_
        refine g_goto h 107 dX9_copy_138 (by decide) ?_
        exact g_weak (ih.1 _ _ _ _ _ _ _ hf) (w_s (w_s (w_s (w_s (w_s (w_s (w_s w_0)))))))
    · intro σ x3 x4 x5 x6 hf
      replace hf : b_X9_copy_1 (g_X9_copy n).1 (g_X9_copy n).2 σ x3 x4 x5 x6 = some (r, τ) := hf
      unfold b_X9_copy_1 at hf
      refine g_il6 h 146 dX9_copy_144 rfl ?_
      refine g_il5 h 148 dX9_copy_146 rfl ?_
      refine g_icge h 179 151 dX9_copy_148 (by decide) rfl (fun hc => ?_) (fun hc => ?_)
      · have hf := my_ifT hc hf
        refine g_al0 h 180 dX9_copy_179 rfl ?_
        refine g_il5 h 182 dX9_copy_180 rfl ?_
        obtain ⟨r1, σ1, hc1, hf⟩ := my_ofb hf
        refine g_callVi h 185 cs_X9_129 rfl lyR_0 (ct_X9_refused w hc1) rfl rfl (Nat.le_of_ble_eq_true rfl) ⟨Nat.le_of_ble_eq_true rfl, Nat.le_of_ble_eq_true rfl⟩ dX9_copy_182 rfl ?_
        exact g_iret h dX9_copy_185 (my_r1 hf) (my_r2 hf)
      · have hf := my_ifF hc hf
        refine g_al0 h 152 dX9_copy_151 rfl ?_
        refine g_geta h 155 fF_X9_64_X9 lyR_0 rfl dX9_copy_152 rfl ?_
        refine g_bipush h 157 bp_60 dX9_copy_155 rfl ?_
        refine g_il3 h 158 dX9_copy_157 rfl ?_
        refine g_imul h 159 dX9_copy_158 rfl ?_
        refine g_il4 h 161 dX9_copy_159 rfl ?_
        refine g_iadd h 162 dX9_copy_161 rfl ?_
        refine g_il6 h 164 dX9_copy_162 rfl ?_
        refine g_iadd h 165 dX9_copy_164 rfl ?_
        refine g_al0 h 166 dX9_copy_165 rfl ?_
        refine g_geta h 169 fF_X9_67_X9 lyR_0 rfl dX9_copy_166 rfl ?_
        refine g_il6 h 171 dX9_copy_169 rfl ?_
        obtain ⟨hq2, hf⟩ := my_chk hf
        refine g_iald h 172 dX9_copy_171 rfl hq2 ?_
        obtain ⟨hq3, hf⟩ := my_chk hf
        refine g_iast h 173 dX9_copy_172 rfl hq3 ?_
        refine g_inc6 h 176 (my_inc ic_1 _) (Nat.le_of_ble_eq_true rfl) rfl dX9_copy_173 rfl ?_
        refine g_goto h 144 dX9_copy_176 (by decide) ?_
        exact g_weak (ih.2 _ _ _ _ _ hf) (w_s (w_s (w_s (w_s (w_s (w_s (w_s w_0)))))))
set_option maxRecDepth 100000 in
set_option maxHeartbeats 4000000 in
theorem ct_X9_copy (w : my_V) {σ : my_M} {x1 : Int32} {x2 : Int32} {x3 : Int32} {x4 : Int32} {x5 : Int32} {r : Int32} {τ : my_M} (hf : f_X9_copy σ x1 x2 x3 x4 x5 = some (r, τ)) : Ct w layR mX9_copy 3 [.ref (w.2.2.2 0), .int x1, .int x2, .int x3, .int x4, .int x5] σ (some (.int r)) τ := by
  refine my_met RX9 [some (.ref (w.2.2.2 0)), some (.int x1), some (.int x2), some (.int x3), some (.int x4), some (.int x5), none] 1 (by decide) rfl (Nat.le_of_ble_eq_true rfl) rfl (fun X h => ?_)
  unfold f_X9_copy at hf
  refine g_il1 h 1 dX9_copy_0 rfl ?_
  obtain ⟨r1, σ1, hc1, hf⟩ := my_ofb hf
  refine g_callSi h 4 cs_X9_125 (ct_X9_noSheet w hc1) rfl rfl (Nat.le_of_ble_eq_true rfl) ⟨Nat.le_of_ble_eq_true rfl, Nat.le_of_ble_eq_true rfl⟩ dX9_copy_1 rfl ?_
  refine g_ifne h 14 7 dX9_copy_4 (by decide) rfl (fun hc => ?_) (fun hc => ?_)
  · have hf := my_ifF hc hf
    refine g_al0 h 15 dX9_copy_14 rfl ?_
    refine g_iconst h 16 ic_m1 dX9_copy_15 rfl ?_
    obtain ⟨r2, σ2, hc2, hf⟩ := my_ofb hf
    refine g_callVi h 19 cs_X9_129 rfl lyR_0 (ct_X9_refused w hc2) rfl rfl (Nat.le_of_ble_eq_true rfl) ⟨Nat.le_of_ble_eq_true rfl, Nat.le_of_ble_eq_true rfl⟩ dX9_copy_16 rfl ?_
    exact g_iret h dX9_copy_19 (my_r1 hf) (my_r2 hf)
  · have hf := my_ifT hc hf
    refine g_il3 h 8 dX9_copy_7 rfl ?_
    obtain ⟨r3, σ3, hc3, hf⟩ := my_ofb hf
    refine g_callSi h 11 cs_X9_125 (ct_X9_noSheet w hc3) rfl rfl (Nat.le_of_ble_eq_true rfl) ⟨Nat.le_of_ble_eq_true rfl, Nat.le_of_ble_eq_true rfl⟩ dX9_copy_8 rfl ?_
    refine g_ifeq h 20 14 dX9_copy_11 (by decide) rfl (fun hc => ?_) (fun hc => ?_)
    · have hf := my_ifT hc hf
      refine g_al0 h 21 dX9_copy_20 rfl ?_
      refine g_geta h 24 fF_X9_58_X9 lyR_0 rfl dX9_copy_21 rfl ?_
      refine g_il1 h 25 dX9_copy_24 rfl ?_
      obtain ⟨hq4, hf⟩ := my_chk hf
      refine g_iald h 26 dX9_copy_25 rfl hq4 ?_
      refine g_iflt h 38 29 dX9_copy_26 (by decide) rfl (fun hc => ?_) (fun hc => ?_)
      · have hf := my_ifT hc hf
        refine g_al0 h 39 dX9_copy_38 rfl ?_
        refine g_iconst h 40 ic_1 dX9_copy_39 rfl ?_
        obtain ⟨r5, σ5, hc5, hf⟩ := my_ofb hf
        refine g_callVi h 43 cs_X9_117 rfl lyR_0 (ct_X9_failed w hc5) rfl rfl (Nat.le_of_ble_eq_true rfl) ⟨Nat.le_of_ble_eq_true rfl, Nat.le_of_ble_eq_true rfl⟩ dX9_copy_40 rfl ?_
        exact g_iret h dX9_copy_43 (my_r1 hf) (my_r2 hf)
      · have hf := my_ifF hc hf
        refine g_al0 h 30 dX9_copy_29 rfl ?_
        refine g_geta h 33 fF_X9_58_X9 lyR_0 rfl dX9_copy_30 rfl ?_
        refine g_il3 h 34 dX9_copy_33 rfl ?_
        obtain ⟨hq6, hf⟩ := my_chk hf
        refine g_iald h 35 dX9_copy_34 rfl hq6 ?_
        refine g_ifge h 44 38 dX9_copy_35 (by decide) rfl (fun hc => ?_) (fun hc => ?_)
        · have hf := my_ifT hc hf
          refine g_al0 h 45 dX9_copy_44 rfl ?_
          refine g_geta h 48 fF_X9_61_X9 lyR_0 rfl dX9_copy_45 rfl ?_
          refine g_il1 h 49 dX9_copy_48 rfl ?_
          obtain ⟨hq7, hf⟩ := my_chk hf
          refine g_iald h 50 dX9_copy_49 rfl hq7 ?_
          refine g_al0 h 51 dX9_copy_50 rfl ?_
          refine g_geta h 54 fF_X9_61_X9 lyR_0 rfl dX9_copy_51 rfl ?_
          refine g_il3 h 55 dX9_copy_54 rfl ?_
          obtain ⟨hq8, hf⟩ := my_chk hf
          refine g_iald h 56 dX9_copy_55 rfl hq8 ?_
          refine g_iceq h 65 59 dX9_copy_56 (by decide) rfl (fun hc => ?_) (fun hc => ?_)
          · have hf := my_ifT hc hf
            refine g_il2 h 66 dX9_copy_65 rfl ?_
            refine g_il5 h 68 dX9_copy_66 rfl ?_
            refine g_i2l h 69 dX9_copy_68 rfl ?_
            refine g_al0 h 70 dX9_copy_69 rfl ?_
            refine g_geta h 73 fF_X9_58_X9 lyR_0 rfl dX9_copy_70 rfl ?_
            refine g_il1 h 74 dX9_copy_73 rfl ?_
            obtain ⟨hq9, hf⟩ := my_chk hf
            refine g_iald h 75 dX9_copy_74 rfl hq9 ?_
            obtain ⟨r10, σ10, hc10, hf⟩ := my_ofb hf
            refine g_callSi h 78 cs_X9_121 (ct_X9_isBeyond w hc10) rfl rfl (Nat.le_of_ble_eq_true rfl) ⟨Nat.le_of_ble_eq_true rfl, Nat.le_of_ble_eq_true rfl⟩ dX9_copy_75 rfl ?_
            refine g_ifne h 98 81 dX9_copy_78 (by decide) rfl (fun hc => ?_) (fun hc => ?_)
            · have hf := my_ifF hc hf
              refine g_al0 h 99 dX9_copy_98 rfl ?_
              refine g_iconst h 100 ic_3 dX9_copy_99 rfl ?_
              obtain ⟨r11, σ11, hc11, hf⟩ := my_ofb hf
              refine g_callVi h 103 cs_X9_117 rfl lyR_0 (ct_X9_failed w hc11) rfl rfl (Nat.le_of_ble_eq_true rfl) ⟨Nat.le_of_ble_eq_true rfl, Nat.le_of_ble_eq_true rfl⟩ dX9_copy_100 rfl ?_
              exact g_iret h dX9_copy_103 (my_r1 hf) (my_r2 hf)
            · have hf := my_ifT hc hf
              refine g_il4 h 83 dX9_copy_81 rfl ?_
              refine g_il5 h 85 dX9_copy_83 rfl ?_
              refine g_i2l h 86 dX9_copy_85 rfl ?_
              refine g_al0 h 87 dX9_copy_86 rfl ?_
              refine g_geta h 90 fF_X9_58_X9 lyR_0 rfl dX9_copy_87 rfl ?_
              refine g_il3 h 91 dX9_copy_90 rfl ?_
              obtain ⟨hq12, hf⟩ := my_chk hf
              refine g_iald h 92 dX9_copy_91 rfl hq12 ?_
              obtain ⟨r13, σ13, hc13, hf⟩ := my_ofb hf
              refine g_callSi h 95 cs_X9_121 (ct_X9_isBeyond w hc13) rfl rfl (Nat.le_of_ble_eq_true rfl) ⟨Nat.le_of_ble_eq_true rfl, Nat.le_of_ble_eq_true rfl⟩ dX9_copy_92 rfl ?_
              refine g_ifeq h 104 98 dX9_copy_95 (by decide) rfl (fun hc => ?_) (fun hc => ?_)
              · have hf := my_ifT hc hf
                refine g_iconst h 105 ic_0 dX9_copy_104 rfl ?_
                refine g_is6 h 107 (Nat.le_of_ble_eq_true rfl) rfl dX9_copy_105 rfl ?_
                exact g_weak ((lp_X9_copy w h my_NF).1 _ _ _ _ _ _ _ hf) (w_s (w_s (w_s (w_s (w_s (w_s (w_s w_0)))))))
              · have hf := my_ifF hc hf
                refine g_al0 h 99 dX9_copy_98 rfl ?_
                refine g_iconst h 100 ic_3 dX9_copy_99 rfl ?_
                obtain ⟨r14, σ14, hc14, hf⟩ := my_ofb hf
                refine g_callVi h 103 cs_X9_117 rfl lyR_0 (ct_X9_failed w hc14) rfl rfl (Nat.le_of_ble_eq_true rfl) ⟨Nat.le_of_ble_eq_true rfl, Nat.le_of_ble_eq_true rfl⟩ dX9_copy_100 rfl ?_
                exact g_iret h dX9_copy_103 (my_r1 hf) (my_r2 hf)
          · have hf := my_ifF hc hf
            refine g_al0 h 60 dX9_copy_59 rfl ?_
            refine g_iconst h 61 ic_2 dX9_copy_60 rfl ?_
            obtain ⟨r15, σ15, hc15, hf⟩ := my_ofb hf
            refine g_callVi h 64 cs_X9_117 rfl lyR_0 (ct_X9_failed w hc15) rfl rfl (Nat.le_of_ble_eq_true rfl) ⟨Nat.le_of_ble_eq_true rfl, Nat.le_of_ble_eq_true rfl⟩ dX9_copy_61 rfl ?_
            exact g_iret h dX9_copy_64 (my_r1 hf) (my_r2 hf)
        · have hf := my_ifF hc hf
          refine g_al0 h 39 dX9_copy_38 rfl ?_
          refine g_iconst h 40 ic_1 dX9_copy_39 rfl ?_
          obtain ⟨r16, σ16, hc16, hf⟩ := my_ofb hf
          refine g_callVi h 43 cs_X9_117 rfl lyR_0 (ct_X9_failed w hc16) rfl rfl (Nat.le_of_ble_eq_true rfl) ⟨Nat.le_of_ble_eq_true rfl, Nat.le_of_ble_eq_true rfl⟩ dX9_copy_40 rfl ?_
          exact g_iret h dX9_copy_43 (my_r1 hf) (my_r2 hf)
    · have hf := my_ifF hc hf
      refine g_al0 h 15 dX9_copy_14 rfl ?_
      refine g_iconst h 16 ic_m1 dX9_copy_15 rfl ?_
      obtain ⟨r17, σ17, hc17, hf⟩ := my_ofb hf
      refine g_callVi h 19 cs_X9_129 rfl lyR_0 (ct_X9_refused w hc17) rfl rfl (Nat.le_of_ble_eq_true rfl) ⟨Nat.le_of_ble_eq_true rfl, Nat.le_of_ble_eq_true rfl⟩ dX9_copy_16 rfl ?_
      exact g_iret h dX9_copy_19 (my_r1 hf) (my_r2 hf)
def b_X9_countsOfAll_0 (k0 : my_M → Int32 → Int32 → Int32 → Int32 → Int32 → Option (Int32 × my_M)) (σ : my_M) (x1 : Int32) (x2 : Int32) (x3 : Int32) (x4 : Int32) (x5 : Int32) : Option (Int32 × my_M) :=
(if 12 ≤ x5 then
some (x4, σ)
else
(if ((x3 >>> (x5 &&& 31)) &&& 1) = 1 then
(my_bnd (f_X9_counts σ x1 x2 x5) fun r1 σ1 =>
(if r1 ≤ x4 then
k0 σ1 x1 x2 x3 x4 ((x5 + 1))
else
k0 σ1 x1 x2 x3 r1 ((x5 + 1))))
else
(if 0 ≤ x4 then
k0 σ x1 x2 x3 x4 ((x5 + 1))
else
k0 σ x1 x2 x3 0 ((x5 + 1)))))
def g_X9_countsOfAll : Nat → my_M → Int32 → Int32 → Int32 → Int32 → Int32 → Option (Int32 × my_M)
  | 0 => fun _ _ _ _ _ _ => none
  | n + 1 => b_X9_countsOfAll_0 (g_X9_countsOfAll n)
def f_X9_countsOfAll (σ : my_M) (x1 : Int32) (x2 : Int32) (x3 : Int32) : Option (Int32 × my_M) :=
(g_X9_countsOfAll my_NF) σ x1 x2 x3 0 0
set_option maxRecDepth 100000 in
set_option maxHeartbeats 4000000 in
theorem lp_X9_countsOfAll (w : my_V) {X : my_X} {r : Int32} {τ : my_M} (h : my_OK X w layR cX9_countsOfAll RX9 7 (some .int)) : ∀ n : Nat, (∀ (σ : my_M) (x1 : Int32) (x2 : Int32) (x3 : Int32) (x4 : Int32) (x5 : Int32), (g_X9_countsOfAll n) σ x1 x2 x3 x4 x5 = some (r, τ) → Go X w layR 3 7 (some (.int r)) τ σ 6 [some (.ref (w.2.2.2 0)), some (.int x1), some (.int x2), some (.int x3), some (.int x4), some (.int x5), none] []) := by
  intro n
  induction n with
  | zero => exact fun _ _ _ _ _ _ hf => (my_nn hf).elim
  | succ n ih =>
    intro σ x1 x2 x3 x4 x5 hf
    replace hf : b_X9_countsOfAll_0 (g_X9_countsOfAll n) σ x1 x2 x3 x4 x5 = some (r, τ) := hf
    unfold b_X9_countsOfAll_0 at hf
    refine g_il5 h 8 dX9_countsOfAll_6 rfl ?_
    refine g_bipush h 10 bp_12 dX9_countsOfAll_8 rfl ?_
    refine g_icge h 59 13 dX9_countsOfAll_10 (by decide) rfl (fun hc => ?_) (fun hc => ?_)
    · have hf := my_ifT hc hf
      refine g_il4 h 61 dX9_countsOfAll_59 rfl ?_
      exact g_iret h dX9_countsOfAll_61 (my_r1 hf) (my_r2 hf)
    · have hf := my_ifF hc hf
      refine g_il3 h 14 dX9_countsOfAll_13 rfl ?_
      refine g_il5 h 16 dX9_countsOfAll_14 rfl ?_
      refine g_ishr h 17 dX9_countsOfAll_16 rfl ?_
      refine g_iconst h 18 ic_1 dX9_countsOfAll_17 rfl ?_
      refine g_iand h 19 dX9_countsOfAll_18 rfl ?_
      refine g_iconst h 20 ic_1 dX9_countsOfAll_19 rfl ?_
      refine g_icne h 34 23 dX9_countsOfAll_20 (by decide) rfl (fun hc => ?_) (fun hc => ?_)
      · have hf := my_ifF hc hf
        refine g_iconst h 35 ic_0 dX9_countsOfAll_34 rfl ?_
        refine g_is6 h 37 (Nat.le_of_ble_eq_true rfl) rfl dX9_countsOfAll_35 rfl ?_
        refine g_il6 h 39 dX9_countsOfAll_37 rfl ?_
        refine g_il4 h 41 dX9_countsOfAll_39 rfl ?_
        refine g_icle h 49 44 dX9_countsOfAll_41 (by decide) rfl (fun hc => ?_) (fun hc => ?_)
        · have hf := my_ifT hc hf
          refine g_il4 h 51 dX9_countsOfAll_49 rfl ?_
          refine g_is4 h 53 (Nat.le_of_ble_eq_true rfl) rfl dX9_countsOfAll_51 rfl ?_
          refine g_inc5 h 56 (my_inc ic_1 _) (Nat.le_of_ble_eq_true rfl) rfl dX9_countsOfAll_53 rfl ?_
          refine g_goto h 6 dX9_countsOfAll_56 (by decide) ?_
          exact g_weak (ih _ _ _ _ _ _ hf) (w_s (w_s (w_s (w_s (w_s (w_s (w_n w_0)))))))
        · have hf := my_ifF hc hf
          refine g_il6 h 46 dX9_countsOfAll_44 rfl ?_
          refine g_goto h 51 dX9_countsOfAll_46 (by decide) ?_
          refine g_is4 h 53 (Nat.le_of_ble_eq_true rfl) rfl dX9_countsOfAll_51 rfl ?_
          refine g_inc5 h 56 (my_inc ic_1 _) (Nat.le_of_ble_eq_true rfl) rfl dX9_countsOfAll_53 rfl ?_
          refine g_goto h 6 dX9_countsOfAll_56 (by decide) ?_
          exact g_weak (ih _ _ _ _ _ _ hf) (w_s (w_s (w_s (w_s (w_s (w_s (w_n w_0)))))))
      · have hf := my_ifT hc hf
        refine g_al0 h 24 dX9_countsOfAll_23 rfl ?_
        refine g_il1 h 25 dX9_countsOfAll_24 rfl ?_
        refine g_il2 h 26 dX9_countsOfAll_25 rfl ?_
        refine g_il5 h 28 dX9_countsOfAll_26 rfl ?_
        obtain ⟨r1, σ1, hc1, hf⟩ := my_ofb hf
        refine g_callVi h 31 cs_X9_180 rfl lyR_0 (ct_X9_counts w hc1) rfl rfl (Nat.le_of_ble_eq_true rfl) ⟨Nat.le_of_ble_eq_true rfl, Nat.le_of_ble_eq_true rfl⟩ dX9_countsOfAll_28 rfl ?_
        refine g_goto h 35 dX9_countsOfAll_31 (by decide) ?_
        refine g_is6 h 37 (Nat.le_of_ble_eq_true rfl) rfl dX9_countsOfAll_35 rfl ?_
        refine g_il6 h 39 dX9_countsOfAll_37 rfl ?_
        refine g_il4 h 41 dX9_countsOfAll_39 rfl ?_
        refine g_icle h 49 44 dX9_countsOfAll_41 (by decide) rfl (fun hc => ?_) (fun hc => ?_)
        · have hf := my_ifT hc hf
          refine g_il4 h 51 dX9_countsOfAll_49 rfl ?_
          refine g_is4 h 53 (Nat.le_of_ble_eq_true rfl) rfl dX9_countsOfAll_51 rfl ?_
          refine g_inc5 h 56 (my_inc ic_1 _) (Nat.le_of_ble_eq_true rfl) rfl dX9_countsOfAll_53 rfl ?_
          refine g_goto h 6 dX9_countsOfAll_56 (by decide) ?_
          exact g_weak (ih _ _ _ _ _ _ hf) (w_s (w_s (w_s (w_s (w_s (w_s (w_n w_0)))))))
        · have hf := my_ifF hc hf
          refine g_il6 h 46 dX9_countsOfAll_44 rfl ?_
          refine g_goto h 51 dX9_countsOfAll_46 (by decide) ?_
          refine g_is4 h 53 (Nat.le_of_ble_eq_true rfl) rfl dX9_countsOfAll_51 rfl ?_
          refine g_inc5 h 56 (my_inc ic_1 _) (Nat.le_of_ble_eq_true rfl) rfl dX9_countsOfAll_53 rfl ?_
          refine g_goto h 6 dX9_countsOfAll_56 (by decide) ?_
          exact g_weak (ih _ _ _ _ _ _ hf) (w_s (w_s (w_s (w_s (w_s (w_s (w_n w_0)))))))
set_option maxRecDepth 100000 in
set_option maxHeartbeats 4000000 in
theorem ct_X9_countsOfAll (w : my_V) {σ : my_M} {x1 : Int32} {x2 : Int32} {x3 : Int32} {r : Int32} {τ : my_M} (hf : f_X9_countsOfAll σ x1 x2 x3 = some (r, τ)) : Ct w layR mX9_countsOfAll 3 [.ref (w.2.2.2 0), .int x1, .int x2, .int x3] σ (some (.int r)) τ := by
  refine my_met RX9 [some (.ref (w.2.2.2 0)), some (.int x1), some (.int x2), some (.int x3), none, none, none] 3 (by decide) rfl (Nat.le_of_ble_eq_true rfl) rfl (fun X h => ?_)
  unfold f_X9_countsOfAll at hf
  refine g_iconst h 1 ic_0 dX9_countsOfAll_0 rfl ?_
  refine g_is4 h 3 (Nat.le_of_ble_eq_true rfl) rfl dX9_countsOfAll_1 rfl ?_
  refine g_iconst h 4 ic_0 dX9_countsOfAll_3 rfl ?_
  refine g_is5 h 6 (Nat.le_of_ble_eq_true rfl) rfl dX9_countsOfAll_4 rfl ?_
  exact g_weak ((lp_X9_countsOfAll w h my_NF) _ _ _ _ _ _ hf) (w_s (w_s (w_s (w_s (w_s (w_s (w_s w_0)))))))
def f_X9_sends (σ : my_M) (x1 : Int32) (x2 : Int32) (x3 : Int32) : Option (Int32 × my_M) :=
(if (σ 0 11) = 8 then
some (0, σ)
else
(if my_ix (σ 0 11) (my_len layR 6) then
(if my_ix ((my_up σ 6 (Int32.toNatClampNeg (σ 0 11)) x1) 0 11) (my_len layR 7) then
(if my_ix ((my_up (my_up σ 6 (Int32.toNatClampNeg (σ 0 11)) x1) 7 (Int32.toNatClampNeg ((my_up σ 6 (Int32.toNatClampNeg (σ 0 11)) x1) 0 11)) x2) 0 11) (my_len layR 8) then
some (1, (my_up (my_up (my_up (my_up σ 6 (Int32.toNatClampNeg (σ 0 11)) x1) 7 (Int32.toNatClampNeg ((my_up σ 6 (Int32.toNatClampNeg (σ 0 11)) x1) 0 11)) x2) 8 (Int32.toNatClampNeg ((my_up (my_up σ 6 (Int32.toNatClampNeg (σ 0 11)) x1) 7 (Int32.toNatClampNeg ((my_up σ 6 (Int32.toNatClampNeg (σ 0 11)) x1) 0 11)) x2) 0 11)) x3) 0 11 (((my_up (my_up (my_up σ 6 (Int32.toNatClampNeg (σ 0 11)) x1) 7 (Int32.toNatClampNeg ((my_up σ 6 (Int32.toNatClampNeg (σ 0 11)) x1) 0 11)) x2) 8 (Int32.toNatClampNeg ((my_up (my_up σ 6 (Int32.toNatClampNeg (σ 0 11)) x1) 7 (Int32.toNatClampNeg ((my_up σ 6 (Int32.toNatClampNeg (σ 0 11)) x1) 0 11)) x2) 0 11)) x3) 0 11) + 1)))
else none)
else none)
else none))
set_option maxRecDepth 100000 in
set_option maxHeartbeats 4000000 in
theorem ct_X9_sends (w : my_V) {σ : my_M} {x1 : Int32} {x2 : Int32} {x3 : Int32} {r : Int32} {τ : my_M} (hf : f_X9_sends σ x1 x2 x3 = some (r, τ)) : Ct w layR mX9_sends 1 [.ref (w.2.2.2 0), .int x1, .int x2, .int x3] σ (some (.int r)) τ := by
  refine my_met RX9 [some (.ref (w.2.2.2 0)), some (.int x1), some (.int x2), some (.int x3)] 0 (by decide) rfl (Nat.le_of_ble_eq_true rfl) rfl (fun X h => ?_)
  unfold f_X9_sends at hf
  refine g_al0 h 1 dX9_sends_0 rfl ?_
  refine g_geti h 4 fF_X9_139_X9 lyR_0 rfl dX9_sends_1 rfl ?_
  refine g_bipush h 6 bp_8 dX9_sends_4 rfl ?_
  refine g_icne h 11 9 dX9_sends_6 (by decide) rfl (fun hc => ?_) (fun hc => ?_)
  · have hf := my_ifF hc hf
    refine g_al0 h 12 dX9_sends_11 rfl ?_
    refine g_geta h 15 fF_X9_25_X9 lyR_0 rfl dX9_sends_12 rfl ?_
    refine g_al0 h 16 dX9_sends_15 rfl ?_
    refine g_geti h 19 fF_X9_139_X9 lyR_0 rfl dX9_sends_16 rfl ?_
    refine g_il1 h 20 dX9_sends_19 rfl ?_
    obtain ⟨hq1, hf⟩ := my_chk hf
    refine g_iast h 21 dX9_sends_20 rfl hq1 ?_
    refine g_al0 h 22 dX9_sends_21 rfl ?_
    refine g_geta h 25 fF_X9_28_X9 lyR_0 rfl dX9_sends_22 rfl ?_
    refine g_al0 h 26 dX9_sends_25 rfl ?_
    refine g_geti h 29 fF_X9_139_X9 lyR_0 rfl dX9_sends_26 rfl ?_
    refine g_il2 h 30 dX9_sends_29 rfl ?_
    obtain ⟨hq2, hf⟩ := my_chk hf
    refine g_iast h 31 dX9_sends_30 rfl hq2 ?_
    refine g_al0 h 32 dX9_sends_31 rfl ?_
    refine g_geta h 35 fF_X9_31_X9 lyR_0 rfl dX9_sends_32 rfl ?_
    refine g_al0 h 36 dX9_sends_35 rfl ?_
    refine g_geti h 39 fF_X9_139_X9 lyR_0 rfl dX9_sends_36 rfl ?_
    refine g_il3 h 40 dX9_sends_39 rfl ?_
    obtain ⟨hq3, hf⟩ := my_chk hf
    refine g_iast h 41 dX9_sends_40 rfl hq3 ?_
    refine g_al0 h 42 dX9_sends_41 rfl ?_
    refine g_dup h 43 rfl dX9_sends_42 rfl ?_
    refine g_geti h 46 fF_X9_139_X9 lyR_0 rfl dX9_sends_43 rfl ?_
    refine g_iconst h 47 ic_1 dX9_sends_46 rfl ?_
    refine g_iadd h 48 dX9_sends_47 rfl ?_
    refine g_puti h 51 fP_X9_139_X9 lyR_0 rfl dX9_sends_48 rfl ?_
    refine g_iconst h 52 ic_1 dX9_sends_51 rfl ?_
    exact g_zret h dX9_sends_52 (Or.inr rfl) (my_r1 hf) (my_r2 hf)
  · have hf := my_ifT hc hf
    refine g_iconst h 10 ic_0 dX9_sends_9 rfl ?_
    exact g_zret h dX9_sends_10 (Or.inl rfl) (my_r1 hf) (my_r2 hf)
def f_X9_doesPair (σ : my_M) (x1 : Int32) (x2 : Int32) : Option (Int32 × my_M) :=
(if x2 = 9 then
(if (if (σ 0 11) < x1 then 0 else 1 : Int32) = 0 then
(if my_b (if (σ 0 11) < x1 then 0 else 1 : Int32) then some ((if (σ 0 11) < x1 then 0 else 1 : Int32), (my_up σ 0 11 ((σ 0 11) - 0))) else none)
else
(if my_b (if (σ 0 11) < x1 then 0 else 1 : Int32) then some ((if (σ 0 11) < x1 then 0 else 1 : Int32), (my_up σ 0 11 ((σ 0 11) - x1))) else none))
else
(my_bnd (f_X9_noCaller σ x2) fun r1 σ1 =>
(if r1 = 0 then
(my_bnd (f_X9_sends σ1 x2 x1 0) fun r2 σ2 =>
(if my_b (if r2 = 0 then 0 else 1 : Int32) then some ((if r2 = 0 then 0 else 1 : Int32), σ2) else none))
else
some (0, σ1))))
set_option maxRecDepth 100000 in
set_option maxHeartbeats 4000000 in
theorem ct_X9_doesPair (w : my_V) {σ : my_M} {x1 : Int32} {x2 : Int32} {r : Int32} {τ : my_M} (hf : f_X9_doesPair σ x1 x2 = some (r, τ)) : Ct w layR mX9_doesPair 3 [.ref (w.2.2.2 0), .int x1, .int x2] σ (some (.int r)) τ := by
  refine my_met RX9 [some (.ref (w.2.2.2 0)), some (.int x1), some (.int x2), none] 1 (by decide) rfl (Nat.le_of_ble_eq_true rfl) rfl (fun X h => ?_)
  unfold f_X9_doesPair at hf
  refine g_il2 h 1 dX9_doesPair_0 rfl ?_
  refine g_bipush h 3 bp_9 dX9_doesPair_1 rfl ?_
  refine g_icne h 40 6 dX9_doesPair_3 (by decide) rfl (fun hc => ?_) (fun hc => ?_)
  · have hf := my_ifF hc hf
    refine g_al0 h 41 dX9_doesPair_40 rfl ?_
    refine g_il2 h 42 dX9_doesPair_41 rfl ?_
    obtain ⟨r1, σ1, hc1, hf⟩ := my_ofb hf
    refine g_callVi h 45 cs_X9_165 rfl lyR_0 (ct_X9_noCaller w hc1) rfl rfl (Nat.le_of_ble_eq_true rfl) ⟨Nat.le_of_ble_eq_true rfl, Nat.le_of_ble_eq_true rfl⟩ dX9_doesPair_42 rfl ?_
    refine g_ifne h 62 48 dX9_doesPair_45 (by decide) rfl (fun hc => ?_) (fun hc => ?_)
    · have hf := my_ifF hc hf
      refine g_iconst h 63 ic_0 dX9_doesPair_62 rfl ?_
      exact g_zret h dX9_doesPair_63 (Or.inl rfl) (my_r1 hf) (my_r2 hf)
    · have hf := my_ifT hc hf
      refine g_al0 h 49 dX9_doesPair_48 rfl ?_
      refine g_il2 h 50 dX9_doesPair_49 rfl ?_
      refine g_il1 h 51 dX9_doesPair_50 rfl ?_
      refine g_iconst h 52 ic_0 dX9_doesPair_51 rfl ?_
      obtain ⟨r2, σ2, hc2, hf⟩ := my_ofb hf
      refine g_callVi h 55 cs_X9_197 rfl lyR_0 (ct_X9_sends w hc2) rfl rfl (Nat.le_of_ble_eq_true rfl) ⟨Nat.le_of_ble_eq_true rfl, Nat.le_of_ble_eq_true rfl⟩ dX9_doesPair_52 rfl ?_
      refine g_ifeq_sel h 62 63 dX9_doesPair_55 (by decide) dX9_doesPair_58 ic_1 dX9_doesPair_59 (by decide) dX9_doesPair_62 ic_0 rfl ?_
      obtain ⟨hqz, hf⟩ := my_chk hf
      exact g_zret h dX9_doesPair_63 hqz (my_r1 hf) (my_r2 hf)
  · have hf := my_ifT hc hf
    refine g_il1 h 7 dX9_doesPair_6 rfl ?_
    refine g_al0 h 8 dX9_doesPair_7 rfl ?_
    refine g_geti h 11 fF_X9_139_X9 lyR_0 rfl dX9_doesPair_8 rfl ?_
    refine g_icgt_sel h 18 19 dX9_doesPair_11 (by decide) dX9_doesPair_14 ic_1 dX9_doesPair_15 (by decide) dX9_doesPair_18 ic_0 rfl ?_
    refine g_is3 h 20 (Nat.le_of_ble_eq_true rfl) rfl dX9_doesPair_19 rfl ?_
    refine g_al0 h 21 dX9_doesPair_20 rfl ?_
    refine g_dup h 22 rfl dX9_doesPair_21 rfl ?_
    refine g_geti h 25 fF_X9_139_X9 lyR_0 rfl dX9_doesPair_22 rfl ?_
    refine g_il3 h 26 dX9_doesPair_25 rfl ?_
    refine g_ifeq h 33 29 dX9_doesPair_26 (by decide) rfl (fun hc => ?_) (fun hc => ?_)
    · have hf := my_ifT hc hf
      refine g_iconst h 34 ic_0 dX9_doesPair_33 rfl ?_
      refine g_isub h 35 dX9_doesPair_34 rfl ?_
      refine g_puti h 38 fP_X9_139_X9 lyR_0 rfl dX9_doesPair_35 rfl ?_
      refine g_il3 h 39 dX9_doesPair_38 rfl ?_
      obtain ⟨hqz, hf⟩ := my_chk hf
      exact g_zret h dX9_doesPair_39 hqz (my_r1 hf) (my_r2 hf)
    · have hf := my_ifF hc hf
      refine g_il1 h 30 dX9_doesPair_29 rfl ?_
      refine g_goto h 34 dX9_doesPair_30 (by decide) ?_
      refine g_isub h 35 dX9_doesPair_34 rfl ?_
      refine g_puti h 38 fP_X9_139_X9 lyR_0 rfl dX9_doesPair_35 rfl ?_
      refine g_il3 h 39 dX9_doesPair_38 rfl ?_
      obtain ⟨hqz, hf⟩ := my_chk hf
      exact g_zret h dX9_doesPair_39 hqz (my_r1 hf) (my_r2 hf)
def b_X9_firstOfTwo_0 (k0 : my_M → Int32 → Int32 → Option (Int32 × my_M)) (σ : my_M) (x1 : Int32) (x2 : Int32) : Option (Int32 × my_M) :=
(if x2 < 0 then
some (x1, σ)
else
(my_bnd (f_X9_airOf σ x2) fun r1 σ1 =>
(my_bnd (f_X9_bits σ1 r1) fun r2 σ2 =>
(if r2 ≤ 1 then
k0 σ2 x1 ((x2 + (-1)))
else
k0 σ2 x2 ((x2 + (-1)))))))
def g_X9_firstOfTwo : Nat → my_M → Int32 → Int32 → Option (Int32 × my_M)
  | 0 => fun _ _ _ => none
  | n + 1 => b_X9_firstOfTwo_0 (g_X9_firstOfTwo n)
def f_X9_firstOfTwo (σ : my_M) : Option (Int32 × my_M) :=
(g_X9_firstOfTwo my_NF) σ ((-9)) 25
set_option maxRecDepth 100000 in
set_option maxHeartbeats 4000000 in
theorem lp_X9_firstOfTwo (w : my_V) {X : my_X} {r : Int32} {τ : my_M} (h : my_OK X w layR cX9_firstOfTwo RX9 3 (some .int)) : ∀ n : Nat, (∀ (σ : my_M) (x1 : Int32) (x2 : Int32), (g_X9_firstOfTwo n) σ x1 x2 = some (r, τ) → Go X w layR 4 3 (some (.int r)) τ σ 6 [some (.ref (w.2.2.2 0)), some (.int x1), some (.int x2)] []) := by
  intro n
  induction n with
  | zero => exact fun _ _ _ hf => (my_nn hf).elim
  | succ n ih =>
    intro σ x1 x2 hf
    replace hf : b_X9_firstOfTwo_0 (g_X9_firstOfTwo n) σ x1 x2 = some (r, τ) := hf
    unfold b_X9_firstOfTwo_0 at hf
    refine g_il2 h 7 dX9_firstOfTwo_6 rfl ?_
    refine g_iflt h 34 10 dX9_firstOfTwo_7 (by decide) rfl (fun hc => ?_) (fun hc => ?_)
    · have hf := my_ifT hc hf
      refine g_il1 h 35 dX9_firstOfTwo_34 rfl ?_
      exact g_iret h dX9_firstOfTwo_35 (my_r1 hf) (my_r2 hf)
    · have hf := my_ifF hc hf
      refine g_al0 h 11 dX9_firstOfTwo_10 rfl ?_
      refine g_il2 h 12 dX9_firstOfTwo_11 rfl ?_
      obtain ⟨r1, σ1, hc1, hf⟩ := my_ofb hf
      refine g_callVi h 15 cs_X9_205 rfl lyR_0 (ct_X9_airOf w hc1) rfl rfl (Nat.le_of_ble_eq_true rfl) ⟨Nat.le_of_ble_eq_true rfl, Nat.le_of_ble_eq_true rfl⟩ dX9_firstOfTwo_12 rfl ?_
      obtain ⟨r2, σ2, hc2, hf⟩ := my_ofb hf
      refine g_callSi h 18 cs_X9_148 (ct_X9_bits w hc2) rfl rfl (Nat.le_of_ble_eq_true rfl) ⟨Nat.le_of_ble_eq_true rfl, Nat.le_of_ble_eq_true rfl⟩ dX9_firstOfTwo_15 rfl ?_
      refine g_iconst h 19 ic_1 dX9_firstOfTwo_18 rfl ?_
      refine g_icle h 26 22 dX9_firstOfTwo_19 (by decide) rfl (fun hc => ?_) (fun hc => ?_)
      · have hf := my_ifT hc hf
        refine g_il1 h 27 dX9_firstOfTwo_26 rfl ?_
        refine g_is1 h 28 (Nat.le_of_ble_eq_true rfl) rfl dX9_firstOfTwo_27 rfl ?_
        refine g_inc2 h 31 (my_inc ic_m1 _) (Nat.le_of_ble_eq_true rfl) rfl dX9_firstOfTwo_28 rfl ?_
        refine g_goto h 6 dX9_firstOfTwo_31 (by decide) ?_
        exact g_weak (ih _ _ _ hf) (w_s (w_s (w_s w_0)))
      · have hf := my_ifF hc hf
        refine g_il2 h 23 dX9_firstOfTwo_22 rfl ?_
        refine g_goto h 27 dX9_firstOfTwo_23 (by decide) ?_
        refine g_is1 h 28 (Nat.le_of_ble_eq_true rfl) rfl dX9_firstOfTwo_27 rfl ?_
        refine g_inc2 h 31 (my_inc ic_m1 _) (Nat.le_of_ble_eq_true rfl) rfl dX9_firstOfTwo_28 rfl ?_
        refine g_goto h 6 dX9_firstOfTwo_31 (by decide) ?_
        exact g_weak (ih _ _ _ hf) (w_s (w_s (w_s w_0)))
set_option maxRecDepth 100000 in
set_option maxHeartbeats 4000000 in
theorem ct_X9_firstOfTwo (w : my_V) {σ : my_M} {r : Int32} {τ : my_M} (hf : f_X9_firstOfTwo σ = some (r, τ)) : Ct w layR mX9_firstOfTwo 4 [.ref (w.2.2.2 0)] σ (some (.int r)) τ := by
  refine my_met RX9 [some (.ref (w.2.2.2 0)), none, none] 2 (by decide) rfl (Nat.le_of_ble_eq_true rfl) rfl (fun X h => ?_)
  unfold f_X9_firstOfTwo at hf
  refine g_bipush h 2 bp_m9 dX9_firstOfTwo_0 rfl ?_
  refine g_is1 h 3 (Nat.le_of_ble_eq_true rfl) rfl dX9_firstOfTwo_2 rfl ?_
  refine g_bipush h 5 bp_25 dX9_firstOfTwo_3 rfl ?_
  refine g_is2 h 6 (Nat.le_of_ble_eq_true rfl) rfl dX9_firstOfTwo_5 rfl ?_
  exact g_weak ((lp_X9_firstOfTwo w h my_NF) _ _ _ hf) (w_s (w_s (w_s w_0)))
def b_X9_lastThatSounds_0 (k0 : my_M → Int32 → Int32 → Option (Int32 × my_M)) (σ : my_M) (x1 : Int32) (x2 : Int32) : Option (Int32 × my_M) :=
(if 26 ≤ x2 then
some (x1, σ)
else
(my_bnd (f_X9_airOf σ x2) fun r1 σ1 =>
(if r1 = 0 then
k0 σ1 x1 ((x2 + 1))
else
k0 σ1 x2 ((x2 + 1)))))
def g_X9_lastThatSounds : Nat → my_M → Int32 → Int32 → Option (Int32 × my_M)
  | 0 => fun _ _ _ => none
  | n + 1 => b_X9_lastThatSounds_0 (g_X9_lastThatSounds n)
def f_X9_lastThatSounds (σ : my_M) : Option (Int32 × my_M) :=
(g_X9_lastThatSounds my_NF) σ ((-9)) 0
set_option maxRecDepth 100000 in
set_option maxHeartbeats 4000000 in
theorem lp_X9_lastThatSounds (w : my_V) {X : my_X} {r : Int32} {τ : my_M} (h : my_OK X w layR cX9_lastThatSounds RX9 3 (some .int)) : ∀ n : Nat, (∀ (σ : my_M) (x1 : Int32) (x2 : Int32), (g_X9_lastThatSounds n) σ x1 x2 = some (r, τ) → Go X w layR 4 3 (some (.int r)) τ σ 5 [some (.ref (w.2.2.2 0)), some (.int x1), some (.int x2)] []) := by
  intro n
  induction n with
  | zero => exact fun _ _ _ hf => (my_nn hf).elim
  | succ n ih =>
    intro σ x1 x2 hf
    replace hf : b_X9_lastThatSounds_0 (g_X9_lastThatSounds n) σ x1 x2 = some (r, τ) := hf
    unfold b_X9_lastThatSounds_0 at hf
    refine g_il2 h 6 dX9_lastThatSounds_5 rfl ?_
    refine g_bipush h 8 bp_26 dX9_lastThatSounds_6 rfl ?_
    refine g_icge h 31 11 dX9_lastThatSounds_8 (by decide) rfl (fun hc => ?_) (fun hc => ?_)
    · have hf := my_ifT hc hf
      refine g_il1 h 32 dX9_lastThatSounds_31 rfl ?_
      exact g_iret h dX9_lastThatSounds_32 (my_r1 hf) (my_r2 hf)
    · have hf := my_ifF hc hf
      refine g_al0 h 12 dX9_lastThatSounds_11 rfl ?_
      refine g_il2 h 13 dX9_lastThatSounds_12 rfl ?_
      obtain ⟨r1, σ1, hc1, hf⟩ := my_ofb hf
      refine g_callVi h 16 cs_X9_205 rfl lyR_0 (ct_X9_airOf w hc1) rfl rfl (Nat.le_of_ble_eq_true rfl) ⟨Nat.le_of_ble_eq_true rfl, Nat.le_of_ble_eq_true rfl⟩ dX9_lastThatSounds_13 rfl ?_
      refine g_ifeq h 23 19 dX9_lastThatSounds_16 (by decide) rfl (fun hc => ?_) (fun hc => ?_)
      · have hf := my_ifT hc hf
        refine g_il1 h 24 dX9_lastThatSounds_23 rfl ?_
        refine g_is1 h 25 (Nat.le_of_ble_eq_true rfl) rfl dX9_lastThatSounds_24 rfl ?_
        refine g_inc2 h 28 (my_inc ic_1 _) (Nat.le_of_ble_eq_true rfl) rfl dX9_lastThatSounds_25 rfl ?_
        refine g_goto h 5 dX9_lastThatSounds_28 (by decide) ?_
        exact g_weak (ih _ _ _ hf) (w_s (w_s (w_s w_0)))
      · have hf := my_ifF hc hf
        refine g_il2 h 20 dX9_lastThatSounds_19 rfl ?_
        refine g_goto h 24 dX9_lastThatSounds_20 (by decide) ?_
        refine g_is1 h 25 (Nat.le_of_ble_eq_true rfl) rfl dX9_lastThatSounds_24 rfl ?_
        refine g_inc2 h 28 (my_inc ic_1 _) (Nat.le_of_ble_eq_true rfl) rfl dX9_lastThatSounds_25 rfl ?_
        refine g_goto h 5 dX9_lastThatSounds_28 (by decide) ?_
        exact g_weak (ih _ _ _ hf) (w_s (w_s (w_s w_0)))
set_option maxRecDepth 100000 in
set_option maxHeartbeats 4000000 in
theorem ct_X9_lastThatSounds (w : my_V) {σ : my_M} {r : Int32} {τ : my_M} (hf : f_X9_lastThatSounds σ = some (r, τ)) : Ct w layR mX9_lastThatSounds 4 [.ref (w.2.2.2 0)] σ (some (.int r)) τ := by
  refine my_met RX9 [some (.ref (w.2.2.2 0)), none, none] 2 (by decide) rfl (Nat.le_of_ble_eq_true rfl) rfl (fun X h => ?_)
  unfold f_X9_lastThatSounds at hf
  refine g_bipush h 2 bp_m9 dX9_lastThatSounds_0 rfl ?_
  refine g_is1 h 3 (Nat.le_of_ble_eq_true rfl) rfl dX9_lastThatSounds_2 rfl ?_
  refine g_iconst h 4 ic_0 dX9_lastThatSounds_3 rfl ?_
  refine g_is2 h 5 (Nat.le_of_ble_eq_true rfl) rfl dX9_lastThatSounds_4 rfl ?_
  exact g_weak ((lp_X9_lastThatSounds w h my_NF) _ _ _ hf) (w_s (w_s (w_s w_0)))
def b_X9_listensTo_0 (k0 : my_M → Int32 → Int32 → Int32 → Int32 → Option (Int32 × my_M)) (σ : my_M) (x1 : Int32) (x2 : Int32) (x3 : Int32) (x4 : Int32) : Option (Int32 × my_M) :=
(if (σ 0 2) ≤ x4 then
some (x3, σ)
else
(my_bnd (f_X9_pitch σ x1 x4) fun r1 σ1 =>
(if r1 < 0 then
k0 σ1 x1 x2 ((x3 + 0)) ((x4 + 1))
else
(my_bnd (f_X9_isMoment σ1 (x2 + x4)) fun r2 σ2 =>
(if r2 = 0 then
k0 σ2 x1 x2 ((x3 + 0)) ((x4 + 1))
else
(my_bnd (f_X9_pitch σ2 x1 x4) fun r3 σ3 =>
(my_bnd (f_X9_airOf σ3 (x2 + x4)) fun r4 σ4 =>
(my_bnd (f_X9_countsOfAll σ4 x1 r3 r4) fun r5 σ5 =>
k0 σ5 x1 x2 ((x3 + r5)) ((x4 + 1))))))))))
def g_X9_listensTo : Nat → my_M → Int32 → Int32 → Int32 → Int32 → Option (Int32 × my_M)
  | 0 => fun _ _ _ _ _ => none
  | n + 1 => b_X9_listensTo_0 (g_X9_listensTo n)
def f_X9_listensTo (σ : my_M) (x1 : Int32) (x2 : Int32) : Option (Int32 × my_M) :=
(g_X9_listensTo my_NF) σ x1 x2 0 0
set_option maxRecDepth 100000 in
set_option maxHeartbeats 4000000 in
theorem lp_X9_listensTo (w : my_V) {X : my_X} {r : Int32} {τ : my_M} (h : my_OK X w layR cX9_listensTo RX9 5 (some .int)) : ∀ n : Nat, (∀ (σ : my_M) (x1 : Int32) (x2 : Int32) (x3 : Int32) (x4 : Int32), (g_X9_listensTo n) σ x1 x2 x3 x4 = some (r, τ) → Go X w layR 4 5 (some (.int r)) τ σ 5 [some (.ref (w.2.2.2 0)), some (.int x1), some (.int x2), some (.int x3), some (.int x4)] []) := by
  intro n
  induction n with
  | zero => exact fun _ _ _ _ _ hf => (my_nn hf).elim
  | succ n ih =>
    intro σ x1 x2 x3 x4 hf
    replace hf : b_X9_listensTo_0 (g_X9_listensTo n) σ x1 x2 x3 x4 = some (r, τ) := hf
    unfold b_X9_listensTo_0 at hf
    refine g_il4 h 7 dX9_listensTo_5 rfl ?_
    refine g_al0 h 8 dX9_listensTo_7 rfl ?_
    refine g_geti h 11 fF_X9_87_X9 lyR_0 rfl dX9_listensTo_8 rfl ?_
    refine g_icge h 67 14 dX9_listensTo_11 (by decide) rfl (fun hc => ?_) (fun hc => ?_)
    · have hf := my_ifT hc hf
      refine g_il3 h 68 dX9_listensTo_67 rfl ?_
      exact g_iret h dX9_listensTo_68 (my_r1 hf) (my_r2 hf)
    · have hf := my_ifF hc hf
      refine g_il3 h 15 dX9_listensTo_14 rfl ?_
      refine g_al0 h 16 dX9_listensTo_15 rfl ?_
      refine g_il1 h 17 dX9_listensTo_16 rfl ?_
      refine g_il4 h 19 dX9_listensTo_17 rfl ?_
      obtain ⟨r1, σ1, hc1, hf⟩ := my_ofb hf
      refine g_callVi h 22 cs_X9_145 rfl lyR_0 (ct_X9_pitch w hc1) rfl rfl (Nat.le_of_ble_eq_true rfl) ⟨Nat.le_of_ble_eq_true rfl, Nat.le_of_ble_eq_true rfl⟩ dX9_listensTo_19 rfl ?_
      refine g_iflt h 35 25 dX9_listensTo_22 (by decide) rfl (fun hc => ?_) (fun hc => ?_)
      · have hf := my_ifT hc hf
        refine g_iconst h 36 ic_0 dX9_listensTo_35 rfl ?_
        refine g_goto h 59 dX9_listensTo_36 (by decide) ?_
        refine g_iadd h 60 dX9_listensTo_59 rfl ?_
        refine g_is3 h 61 (Nat.le_of_ble_eq_true rfl) rfl dX9_listensTo_60 rfl ?_
        refine g_inc4 h 64 (my_inc ic_1 _) (Nat.le_of_ble_eq_true rfl) rfl dX9_listensTo_61 rfl ?_
        refine g_goto h 5 dX9_listensTo_64 (by decide) ?_
        exact g_weak (ih _ _ _ _ _ hf) (w_s (w_s (w_s (w_s (w_s w_0)))))
      · have hf := my_ifF hc hf
        refine g_il2 h 26 dX9_listensTo_25 rfl ?_
        refine g_il4 h 28 dX9_listensTo_26 rfl ?_
        refine g_iadd h 29 dX9_listensTo_28 rfl ?_
        obtain ⟨r2, σ2, hc2, hf⟩ := my_ofb hf
        refine g_callSi h 32 cs_X9_202 (ct_X9_isMoment w hc2) rfl rfl (Nat.le_of_ble_eq_true rfl) ⟨Nat.le_of_ble_eq_true rfl, Nat.le_of_ble_eq_true rfl⟩ dX9_listensTo_29 rfl ?_
        refine g_ifne h 39 35 dX9_listensTo_32 (by decide) rfl (fun hc => ?_) (fun hc => ?_)
        · have hf := my_ifF hc hf
          refine g_al0 h 40 dX9_listensTo_39 rfl ?_
          refine g_il1 h 41 dX9_listensTo_40 rfl ?_
          refine g_al0 h 42 dX9_listensTo_41 rfl ?_
          refine g_il1 h 43 dX9_listensTo_42 rfl ?_
          refine g_il4 h 45 dX9_listensTo_43 rfl ?_
          obtain ⟨r3, σ3, hc3, hf⟩ := my_ofb hf
          refine g_callVi h 48 cs_X9_145 rfl lyR_0 (ct_X9_pitch w hc3) rfl rfl (Nat.le_of_ble_eq_true rfl) ⟨Nat.le_of_ble_eq_true rfl, Nat.le_of_ble_eq_true rfl⟩ dX9_listensTo_45 rfl ?_
          refine g_al0 h 49 dX9_listensTo_48 rfl ?_
          refine g_il2 h 50 dX9_listensTo_49 rfl ?_
          refine g_il4 h 52 dX9_listensTo_50 rfl ?_
          refine g_iadd h 53 dX9_listensTo_52 rfl ?_
          obtain ⟨r4, σ4, hc4, hf⟩ := my_ofb hf
          refine g_callVi h 56 cs_X9_205 rfl lyR_0 (ct_X9_airOf w hc4) rfl rfl (Nat.le_of_ble_eq_true rfl) ⟨Nat.le_of_ble_eq_true rfl, Nat.le_of_ble_eq_true rfl⟩ dX9_listensTo_53 rfl ?_
          obtain ⟨r5, σ5, hc5, hf⟩ := my_ofb hf
          refine g_callVi h 59 cs_X9_208 rfl lyR_0 (ct_X9_countsOfAll w hc5) rfl rfl (Nat.le_of_ble_eq_true rfl) ⟨Nat.le_of_ble_eq_true rfl, Nat.le_of_ble_eq_true rfl⟩ dX9_listensTo_56 rfl ?_
          refine g_iadd h 60 dX9_listensTo_59 rfl ?_
          refine g_is3 h 61 (Nat.le_of_ble_eq_true rfl) rfl dX9_listensTo_60 rfl ?_
          refine g_inc4 h 64 (my_inc ic_1 _) (Nat.le_of_ble_eq_true rfl) rfl dX9_listensTo_61 rfl ?_
          refine g_goto h 5 dX9_listensTo_64 (by decide) ?_
          exact g_weak (ih _ _ _ _ _ hf) (w_s (w_s (w_s (w_s (w_s w_0)))))
        · have hf := my_ifT hc hf
          refine g_iconst h 36 ic_0 dX9_listensTo_35 rfl ?_
          refine g_goto h 59 dX9_listensTo_36 (by decide) ?_
          refine g_iadd h 60 dX9_listensTo_59 rfl ?_
          refine g_is3 h 61 (Nat.le_of_ble_eq_true rfl) rfl dX9_listensTo_60 rfl ?_
          refine g_inc4 h 64 (my_inc ic_1 _) (Nat.le_of_ble_eq_true rfl) rfl dX9_listensTo_61 rfl ?_
          refine g_goto h 5 dX9_listensTo_64 (by decide) ?_
          exact g_weak (ih _ _ _ _ _ hf) (w_s (w_s (w_s (w_s (w_s w_0)))))
set_option maxRecDepth 100000 in
set_option maxHeartbeats 4000000 in
theorem ct_X9_listensTo (w : my_V) {σ : my_M} {x1 : Int32} {x2 : Int32} {r : Int32} {τ : my_M} (hf : f_X9_listensTo σ x1 x2 = some (r, τ)) : Ct w layR mX9_listensTo 4 [.ref (w.2.2.2 0), .int x1, .int x2] σ (some (.int r)) τ := by
  refine my_met RX9 [some (.ref (w.2.2.2 0)), some (.int x1), some (.int x2), none, none] 2 (by decide) rfl (Nat.le_of_ble_eq_true rfl) rfl (fun X h => ?_)
  unfold f_X9_listensTo at hf
  refine g_iconst h 1 ic_0 dX9_listensTo_0 rfl ?_
  refine g_is3 h 2 (Nat.le_of_ble_eq_true rfl) rfl dX9_listensTo_1 rfl ?_
  refine g_iconst h 3 ic_0 dX9_listensTo_2 rfl ?_
  refine g_is4 h 5 (Nat.le_of_ble_eq_true rfl) rfl dX9_listensTo_3 rfl ?_
  exact g_weak ((lp_X9_listensTo w h my_NF) _ _ _ _ _ hf) (w_s (w_s (w_s (w_s (w_s w_0)))))
def b_X9_loudestOf_0 (k0 : my_M → Int32 → Int32 → Int32 → Option (Int32 × my_M)) (σ : my_M) (x1 : Int32) (x2 : Int32) (x3 : Int32) : Option (Int32 × my_M) :=
(if 26 ≤ x3 then
some (x2, σ)
else
(my_bnd (f_X9_listensTo σ x1 x3) fun r1 σ1 =>
(my_bnd (f_X9_listensTo σ1 x1 x2) fun r2 σ2 =>
(if r1 ≤ r2 then
k0 σ2 x1 x2 ((x3 + 1))
else
k0 σ2 x1 x3 ((x3 + 1))))))
def g_X9_loudestOf : Nat → my_M → Int32 → Int32 → Int32 → Option (Int32 × my_M)
  | 0 => fun _ _ _ _ => none
  | n + 1 => b_X9_loudestOf_0 (g_X9_loudestOf n)
def f_X9_loudestOf (σ : my_M) (x1 : Int32) : Option (Int32 × my_M) :=
(g_X9_loudestOf my_NF) σ x1 0 1
set_option maxRecDepth 100000 in
set_option maxHeartbeats 4000000 in
theorem lp_X9_loudestOf (w : my_V) {X : my_X} {r : Int32} {τ : my_M} (h : my_OK X w layR cX9_loudestOf RX9 4 (some .int)) : ∀ n : Nat, (∀ (σ : my_M) (x1 : Int32) (x2 : Int32) (x3 : Int32), (g_X9_loudestOf n) σ x1 x2 x3 = some (r, τ) → Go X w layR 5 4 (some (.int r)) τ σ 4 [some (.ref (w.2.2.2 0)), some (.int x1), some (.int x2), some (.int x3)] []) := by
  intro n
  induction n with
  | zero => exact fun _ _ _ _ hf => (my_nn hf).elim
  | succ n ih =>
    intro σ x1 x2 x3 hf
    replace hf : b_X9_loudestOf_0 (g_X9_loudestOf n) σ x1 x2 x3 = some (r, τ) := hf
    unfold b_X9_loudestOf_0 at hf
    refine g_il3 h 5 dX9_loudestOf_4 rfl ?_
    refine g_bipush h 7 bp_26 dX9_loudestOf_5 rfl ?_
    refine g_icge h 37 10 dX9_loudestOf_7 (by decide) rfl (fun hc => ?_) (fun hc => ?_)
    · have hf := my_ifT hc hf
      refine g_il2 h 38 dX9_loudestOf_37 rfl ?_
      exact g_iret h dX9_loudestOf_38 (my_r1 hf) (my_r2 hf)
    · have hf := my_ifF hc hf
      refine g_al0 h 11 dX9_loudestOf_10 rfl ?_
      refine g_il1 h 12 dX9_loudestOf_11 rfl ?_
      refine g_il3 h 13 dX9_loudestOf_12 rfl ?_
      obtain ⟨r1, σ1, hc1, hf⟩ := my_ofb hf
      refine g_callVi h 16 cs_X9_211 rfl lyR_0 (ct_X9_listensTo w hc1) rfl rfl (Nat.le_of_ble_eq_true rfl) ⟨Nat.le_of_ble_eq_true rfl, Nat.le_of_ble_eq_true rfl⟩ dX9_loudestOf_13 rfl ?_
      refine g_al0 h 17 dX9_loudestOf_16 rfl ?_
      refine g_il1 h 18 dX9_loudestOf_17 rfl ?_
      refine g_il2 h 19 dX9_loudestOf_18 rfl ?_
      obtain ⟨r2, σ2, hc2, hf⟩ := my_ofb hf
      refine g_callVi h 22 cs_X9_211 rfl lyR_0 (ct_X9_listensTo w hc2) rfl rfl (Nat.le_of_ble_eq_true rfl) ⟨Nat.le_of_ble_eq_true rfl, Nat.le_of_ble_eq_true rfl⟩ dX9_loudestOf_19 rfl ?_
      refine g_icle h 29 25 dX9_loudestOf_22 (by decide) rfl (fun hc => ?_) (fun hc => ?_)
      · have hf := my_ifT hc hf
        refine g_il2 h 30 dX9_loudestOf_29 rfl ?_
        refine g_is2 h 31 (Nat.le_of_ble_eq_true rfl) rfl dX9_loudestOf_30 rfl ?_
        refine g_inc3 h 34 (my_inc ic_1 _) (Nat.le_of_ble_eq_true rfl) rfl dX9_loudestOf_31 rfl ?_
        refine g_goto h 4 dX9_loudestOf_34 (by decide) ?_
        exact g_weak (ih _ _ _ _ hf) (w_s (w_s (w_s (w_s w_0))))
      · have hf := my_ifF hc hf
        refine g_il3 h 26 dX9_loudestOf_25 rfl ?_
        refine g_goto h 30 dX9_loudestOf_26 (by decide) ?_
        refine g_is2 h 31 (Nat.le_of_ble_eq_true rfl) rfl dX9_loudestOf_30 rfl ?_
        refine g_inc3 h 34 (my_inc ic_1 _) (Nat.le_of_ble_eq_true rfl) rfl dX9_loudestOf_31 rfl ?_
        refine g_goto h 4 dX9_loudestOf_34 (by decide) ?_
        exact g_weak (ih _ _ _ _ hf) (w_s (w_s (w_s (w_s w_0))))
set_option maxRecDepth 100000 in
set_option maxHeartbeats 4000000 in
theorem ct_X9_loudestOf (w : my_V) {σ : my_M} {x1 : Int32} {r : Int32} {τ : my_M} (hf : f_X9_loudestOf σ x1 = some (r, τ)) : Ct w layR mX9_loudestOf 5 [.ref (w.2.2.2 0), .int x1] σ (some (.int r)) τ := by
  refine my_met RX9 [some (.ref (w.2.2.2 0)), some (.int x1), none, none] 2 (by decide) rfl (Nat.le_of_ble_eq_true rfl) rfl (fun X h => ?_)
  unfold f_X9_loudestOf at hf
  refine g_iconst h 1 ic_0 dX9_loudestOf_0 rfl ?_
  refine g_is2 h 2 (Nat.le_of_ble_eq_true rfl) rfl dX9_loudestOf_1 rfl ?_
  refine g_iconst h 3 ic_1 dX9_loudestOf_2 rfl ?_
  refine g_is3 h 4 (Nat.le_of_ble_eq_true rfl) rfl dX9_loudestOf_3 rfl ?_
  exact g_weak ((lp_X9_loudestOf w h my_NF) _ _ _ _ hf) (w_s (w_s (w_s (w_s w_0))))
def b_X9_manyThatSound_0 (k0 : my_M → Int32 → Int32 → Option (Int32 × my_M)) (σ : my_M) (x1 : Int32) (x2 : Int32) : Option (Int32 × my_M) :=
(if 26 ≤ x2 then
some (x1, σ)
else
(my_bnd (f_X9_airOf σ x2) fun r1 σ1 =>
k0 σ1 ((x1 + (if r1 = 0 then 0 else 1 : Int32))) ((x2 + 1))))
def g_X9_manyThatSound : Nat → my_M → Int32 → Int32 → Option (Int32 × my_M)
  | 0 => fun _ _ _ => none
  | n + 1 => b_X9_manyThatSound_0 (g_X9_manyThatSound n)
def f_X9_manyThatSound (σ : my_M) : Option (Int32 × my_M) :=
(g_X9_manyThatSound my_NF) σ 0 0
set_option maxRecDepth 100000 in
set_option maxHeartbeats 4000000 in
theorem lp_X9_manyThatSound (w : my_V) {X : my_X} {r : Int32} {τ : my_M} (h : my_OK X w layR cX9_manyThatSound RX9 3 (some .int)) : ∀ n : Nat, (∀ (σ : my_M) (x1 : Int32) (x2 : Int32), (g_X9_manyThatSound n) σ x1 x2 = some (r, τ) → Go X w layR 4 3 (some (.int r)) τ σ 4 [some (.ref (w.2.2.2 0)), some (.int x1), some (.int x2)] []) := by
  intro n
  induction n with
  | zero => exact fun _ _ _ hf => (my_nn hf).elim
  | succ n ih =>
    intro σ x1 x2 hf
    replace hf : b_X9_manyThatSound_0 (g_X9_manyThatSound n) σ x1 x2 = some (r, τ) := hf
    unfold b_X9_manyThatSound_0 at hf
    refine g_il2 h 5 dX9_manyThatSound_4 rfl ?_
    refine g_bipush h 7 bp_26 dX9_manyThatSound_5 rfl ?_
    refine g_icge h 32 10 dX9_manyThatSound_7 (by decide) rfl (fun hc => ?_) (fun hc => ?_)
    · have hf := my_ifT hc hf
      refine g_il1 h 33 dX9_manyThatSound_32 rfl ?_
      exact g_iret h dX9_manyThatSound_33 (my_r1 hf) (my_r2 hf)
    · have hf := my_ifF hc hf
      refine g_il1 h 11 dX9_manyThatSound_10 rfl ?_
      refine g_al0 h 12 dX9_manyThatSound_11 rfl ?_
      refine g_il2 h 13 dX9_manyThatSound_12 rfl ?_
      obtain ⟨r1, σ1, hc1, hf⟩ := my_ofb hf
      refine g_callVi h 16 cs_X9_205 rfl lyR_0 (ct_X9_airOf w hc1) rfl rfl (Nat.le_of_ble_eq_true rfl) ⟨Nat.le_of_ble_eq_true rfl, Nat.le_of_ble_eq_true rfl⟩ dX9_manyThatSound_13 rfl ?_
      refine g_ifeq_sel h 23 24 dX9_manyThatSound_16 (by decide) dX9_manyThatSound_19 ic_1 dX9_manyThatSound_20 (by decide) dX9_manyThatSound_23 ic_0 rfl ?_
      refine g_iadd h 25 dX9_manyThatSound_24 rfl ?_
      refine g_is1 h 26 (Nat.le_of_ble_eq_true rfl) rfl dX9_manyThatSound_25 rfl ?_
      refine g_inc2 h 29 (my_inc ic_1 _) (Nat.le_of_ble_eq_true rfl) rfl dX9_manyThatSound_26 rfl ?_
      refine g_goto h 4 dX9_manyThatSound_29 (by decide) ?_
      exact g_weak (ih _ _ _ hf) (w_s (w_s (w_s w_0)))
set_option maxRecDepth 100000 in
set_option maxHeartbeats 4000000 in
theorem ct_X9_manyThatSound (w : my_V) {σ : my_M} {r : Int32} {τ : my_M} (hf : f_X9_manyThatSound σ = some (r, τ)) : Ct w layR mX9_manyThatSound 4 [.ref (w.2.2.2 0)] σ (some (.int r)) τ := by
  refine my_met RX9 [some (.ref (w.2.2.2 0)), none, none] 2 (by decide) rfl (Nat.le_of_ble_eq_true rfl) rfl (fun X h => ?_)
  unfold f_X9_manyThatSound at hf
  refine g_iconst h 1 ic_0 dX9_manyThatSound_0 rfl ?_
  refine g_is1 h 2 (Nat.le_of_ble_eq_true rfl) rfl dX9_manyThatSound_1 rfl ?_
  refine g_iconst h 3 ic_0 dX9_manyThatSound_2 rfl ?_
  refine g_is2 h 4 (Nat.le_of_ble_eq_true rfl) rfl dX9_manyThatSound_3 rfl ?_
  exact g_weak ((lp_X9_manyThatSound w h my_NF) _ _ _ hf) (w_s (w_s (w_s w_0)))
