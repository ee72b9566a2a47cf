def f_X9_tell (σ : my_M) (x1 : Int32) : Option (Int32 × my_M) :=
(my_bnd (f_X9_noCaller σ x1) fun r1 σ1 =>
(if r1 = 0 then
(if my_ix x1 (my_len layR 1) then
(if (σ1 1 (Int32.toNatClampNeg x1)) = 2 then
(my_bnd (f_X9_traced σ1 3) fun r12 σ12 =>
(if (σ1 1 (Int32.toNatClampNeg x1)) ≤ 0 then
(my_bnd (f_X9_traced σ12 1) fun r13 σ13 =>
(if (σ1 1 (Int32.toNatClampNeg x1)) = 2 then
(my_bnd (f_X9_traced σ13 1) fun r15 σ15 =>
(my_bnd (f_X9_freeOf σ15 x1) fun r16 σ16 =>
(if (σ1 1 (Int32.toNatClampNeg x1)) = 0 then
some (((σ15 0 2) - r16), σ16)
else
(if (σ1 1 (Int32.toNatClampNeg x1)) = 1 then
some ((((σ15 0 2) - r16) + 100), σ16)
else
some (((2 * ((σ15 0 2) - r16)) + 100), σ16)))))
else
(my_bnd (f_X9_freeOf σ13 x1) fun r14 σ14 =>
(if (σ1 1 (Int32.toNatClampNeg x1)) = 0 then
some (((σ13 0 2) - r14), σ14)
else
(if (σ1 1 (Int32.toNatClampNeg x1)) = 1 then
some ((((σ13 0 2) - r14) + 100), σ14)
else
some (((2 * ((σ13 0 2) - r14)) + 100), σ14))))))
else
(my_bnd (f_X9_traced σ12 2) fun r17 σ17 =>
(my_bnd (f_X9_traced σ17 1) fun r18 σ18 =>
(if (σ1 1 (Int32.toNatClampNeg x1)) = 2 then
(my_bnd (f_X9_traced σ18 1) fun r20 σ20 =>
(my_bnd (f_X9_freeOf σ20 x1) fun r21 σ21 =>
(if (σ1 1 (Int32.toNatClampNeg x1)) = 0 then
some (((σ20 0 2) - r21), σ21)
else
(if (σ1 1 (Int32.toNatClampNeg x1)) = 1 then
some ((((σ20 0 2) - r21) + 100), σ21)
else
some (((2 * ((σ20 0 2) - r21)) + 100), σ21)))))
else
(my_bnd (f_X9_freeOf σ18 x1) fun r19 σ19 =>
(if (σ1 1 (Int32.toNatClampNeg x1)) = 0 then
some (((σ18 0 2) - r19), σ19)
else
(if (σ1 1 (Int32.toNatClampNeg x1)) = 1 then
some ((((σ18 0 2) - r19) + 100), σ19)
else
some (((2 * ((σ18 0 2) - r19)) + 100), σ19)))))))))
else
(if (σ1 1 (Int32.toNatClampNeg x1)) ≤ 0 then
(my_bnd (f_X9_traced σ1 1) fun r3 σ3 =>
(if (σ1 1 (Int32.toNatClampNeg x1)) = 2 then
(my_bnd (f_X9_traced σ3 1) fun r5 σ5 =>
(my_bnd (f_X9_freeOf σ5 x1) fun r6 σ6 =>
(if (σ1 1 (Int32.toNatClampNeg x1)) = 0 then
some (((σ5 0 2) - r6), σ6)
else
(if (σ1 1 (Int32.toNatClampNeg x1)) = 1 then
some ((((σ5 0 2) - r6) + 100), σ6)
else
some (((2 * ((σ5 0 2) - r6)) + 100), σ6)))))
else
(my_bnd (f_X9_freeOf σ3 x1) fun r4 σ4 =>
(if (σ1 1 (Int32.toNatClampNeg x1)) = 0 then
some (((σ3 0 2) - r4), σ4)
else
(if (σ1 1 (Int32.toNatClampNeg x1)) = 1 then
some ((((σ3 0 2) - r4) + 100), σ4)
else
some (((2 * ((σ3 0 2) - r4)) + 100), σ4))))))
else
(my_bnd (f_X9_traced σ1 2) fun r7 σ7 =>
(my_bnd (f_X9_traced σ7 1) fun r8 σ8 =>
(if (σ1 1 (Int32.toNatClampNeg x1)) = 2 then
(my_bnd (f_X9_traced σ8 1) fun r10 σ10 =>
(my_bnd (f_X9_freeOf σ10 x1) fun r11 σ11 =>
(if (σ1 1 (Int32.toNatClampNeg x1)) = 0 then
some (((σ10 0 2) - r11), σ11)
else
(if (σ1 1 (Int32.toNatClampNeg x1)) = 1 then
some ((((σ10 0 2) - r11) + 100), σ11)
else
some (((2 * ((σ10 0 2) - r11)) + 100), σ11)))))
else
(my_bnd (f_X9_freeOf σ8 x1) fun r9 σ9 =>
(if (σ1 1 (Int32.toNatClampNeg x1)) = 0 then
some (((σ8 0 2) - r9), σ9)
else
(if (σ1 1 (Int32.toNatClampNeg x1)) = 1 then
some ((((σ8 0 2) - r9) + 100), σ9)
else
some (((2 * ((σ8 0 2) - r9)) + 100), σ9)))))))))
else none)
else
some ((-1), σ1)))
set_option maxRecDepth 100000 in
set_option maxHeartbeats 4000000 in
theorem ct_X9_tell (w : my_V) {σ : my_M} {x1 : Int32} {r : Int32} {τ : my_M} (hf : f_X9_tell σ x1 = some (r, τ)) : Ct w layR mX9_tell 3 [.ref (w.2.2.2 0), .int x1] σ (some (.int r)) τ := by
  refine my_met RX9 [some (.ref (w.2.2.2 0)), some (.int x1), none, none] 2 (by decide) rfl (Nat.le_of_ble_eq_true rfl) rfl (fun X h => ?_)
  unfold f_X9_tell at hf
  refine g_al0 h 1 dX9_tell_0 rfl ?_
  refine g_il1 h 2 dX9_tell_1 rfl ?_
  obtain ⟨r1, σ1, hc1, hf⟩ := my_ofb hf
  refine g_callVi h 5 cs_X9_165 rfl lyR_0 (ct_X9_noCaller w hc1) rfl rfl (Nat.le_of_ble_eq_true rfl) ⟨Nat.le_of_ble_eq_true rfl, Nat.le_of_ble_eq_true rfl⟩ dX9_tell_2 rfl ?_
  refine g_ifeq h 10 8 dX9_tell_5 (by decide) rfl (fun hc => ?_) (fun hc => ?_)
  · have hf := my_ifT hc hf
    refine g_al0 h 11 dX9_tell_10 rfl ?_
    refine g_geta h 14 fF_X9_7_X9 lyR_0 rfl dX9_tell_11 rfl ?_
    refine g_il1 h 15 dX9_tell_14 rfl ?_
    obtain ⟨hq2, hf⟩ := my_chk hf
    refine g_iald h 16 dX9_tell_15 rfl hq2 ?_
    refine g_is2 h 17 (Nat.le_of_ble_eq_true rfl) rfl dX9_tell_16 rfl ?_
    refine g_il2 h 18 dX9_tell_17 rfl ?_
    refine g_iconst h 19 ic_2 dX9_tell_18 rfl ?_
    refine g_icne h 27 22 dX9_tell_19 (by decide) rfl (fun hc => ?_) (fun hc => ?_)
    · have hf := my_ifF hc hf
      refine g_il2 h 28 dX9_tell_27 rfl ?_
      refine g_ifle h 36 31 dX9_tell_28 (by decide) rfl (fun hc => ?_) (fun hc => ?_)
      · have hf := my_ifT hc hf
        refine g_al0 h 37 dX9_tell_36 rfl ?_
        refine g_iconst h 38 ic_1 dX9_tell_37 rfl ?_
        obtain ⟨r3, σ3, hc3, hf⟩ := my_ofb hf
        refine g_callVv h 41 cs_X9_287 rfl lyR_0 (ct_X9_traced w hc3) rfl rfl (Nat.le_of_ble_eq_true rfl) ⟨Nat.le_of_ble_eq_true rfl, Nat.le_of_ble_eq_true rfl⟩ dX9_tell_38 rfl ?_
        refine g_il2 h 42 dX9_tell_41 rfl ?_
        refine g_iconst h 43 ic_2 dX9_tell_42 rfl ?_
        refine g_icne h 51 46 dX9_tell_43 (by decide) rfl (fun hc => ?_) (fun hc => ?_)
        · have hf := my_ifF hc hf
          refine g_al0 h 52 dX9_tell_51 rfl ?_
          refine g_geti h 55 fF_X9_87_X9 lyR_0 rfl dX9_tell_52 rfl ?_
          refine g_al0 h 56 dX9_tell_55 rfl ?_
          refine g_il1 h 57 dX9_tell_56 rfl ?_
          obtain ⟨r4, σ4, hc4, hf⟩ := my_ofb hf
          refine g_callVi h 60 cs_X9_155 rfl lyR_0 (ct_X9_freeOf w hc4) rfl rfl (Nat.le_of_ble_eq_true rfl) ⟨Nat.le_of_ble_eq_true rfl, Nat.le_of_ble_eq_true rfl⟩ dX9_tell_57 rfl ?_
          refine g_isub h 61 dX9_tell_60 rfl ?_
          refine g_is3 h 62 (Nat.le_of_ble_eq_true rfl) rfl dX9_tell_61 rfl ?_
          refine g_il2 h 63 dX9_tell_62 rfl ?_
          refine g_ifne h 70 66 dX9_tell_63 (by decide) rfl (fun hc => ?_) (fun hc => ?_)
          · have hf := my_ifF hc hf
            refine g_il2 h 71 dX9_tell_70 rfl ?_
            refine g_iconst h 72 ic_1 dX9_tell_71 rfl ?_
            refine g_icne h 82 75 dX9_tell_72 (by decide) rfl (fun hc => ?_) (fun hc => ?_)
            · have hf := my_ifF hc hf
              refine g_iconst h 83 ic_2 dX9_tell_82 rfl ?_
              refine g_il3 h 84 dX9_tell_83 rfl ?_
              refine g_imul h 85 dX9_tell_84 rfl ?_
              refine g_bipush h 87 bp_100 dX9_tell_85 rfl ?_
              refine g_iadd h 88 dX9_tell_87 rfl ?_
              exact g_iret h dX9_tell_88 (my_r1 hf) (my_r2 hf)
            · have hf := my_ifT hc hf
              refine g_il3 h 76 dX9_tell_75 rfl ?_
              refine g_bipush h 78 bp_100 dX9_tell_76 rfl ?_
              refine g_iadd h 79 dX9_tell_78 rfl ?_
              refine g_goto h 88 dX9_tell_79 (by decide) ?_
              exact g_iret h dX9_tell_88 (my_r1 hf) (my_r2 hf)
          · have hf := my_ifT hc hf
            refine g_il3 h 67 dX9_tell_66 rfl ?_
            refine g_goto h 88 dX9_tell_67 (by decide) ?_
            exact g_iret h dX9_tell_88 (my_r1 hf) (my_r2 hf)
        · have hf := my_ifT hc hf
          refine g_al0 h 47 dX9_tell_46 rfl ?_
          refine g_iconst h 48 ic_1 dX9_tell_47 rfl ?_
          obtain ⟨r5, σ5, hc5, hf⟩ := my_ofb hf
          refine g_callVv h 51 cs_X9_287 rfl lyR_0 (ct_X9_traced w hc5) rfl rfl (Nat.le_of_ble_eq_true rfl) ⟨Nat.le_of_ble_eq_true rfl, Nat.le_of_ble_eq_true rfl⟩ dX9_tell_48 rfl ?_
          refine g_al0 h 52 dX9_tell_51 rfl ?_
          refine g_geti h 55 fF_X9_87_X9 lyR_0 rfl dX9_tell_52 rfl ?_
          refine g_al0 h 56 dX9_tell_55 rfl ?_
          refine g_il1 h 57 dX9_tell_56 rfl ?_
          obtain ⟨r6, σ6, hc6, hf⟩ := my_ofb hf
          refine g_callVi h 60 cs_X9_155 rfl lyR_0 (ct_X9_freeOf w hc6) rfl rfl (Nat.le_of_ble_eq_true rfl) ⟨Nat.le_of_ble_eq_true rfl, Nat.le_of_ble_eq_true rfl⟩ dX9_tell_57 rfl ?_
          refine g_isub h 61 dX9_tell_60 rfl ?_
          refine g_is3 h 62 (Nat.le_of_ble_eq_true rfl) rfl dX9_tell_61 rfl ?_
          refine g_il2 h 63 dX9_tell_62 rfl ?_
          refine g_ifne h 70 66 dX9_tell_63 (by decide) rfl (fun hc => ?_) (fun hc => ?_)
          · have hf := my_ifF hc hf
            refine g_il2 h 71 dX9_tell_70 rfl ?_
            refine g_iconst h 72 ic_1 dX9_tell_71 rfl ?_
            refine g_icne h 82 75 dX9_tell_72 (by decide) rfl (fun hc => ?_) (fun hc => ?_)
            · have hf := my_ifF hc hf
              refine g_iconst h 83 ic_2 dX9_tell_82 rfl ?_
              refine g_il3 h 84 dX9_tell_83 rfl ?_
              refine g_imul h 85 dX9_tell_84 rfl ?_
              refine g_bipush h 87 bp_100 dX9_tell_85 rfl ?_
              refine g_iadd h 88 dX9_tell_87 rfl ?_
              exact g_iret h dX9_tell_88 (my_r1 hf) (my_r2 hf)
            · have hf := my_ifT hc hf
              refine g_il3 h 76 dX9_tell_75 rfl ?_
              refine g_bipush h 78 bp_100 dX9_tell_76 rfl ?_
              refine g_iadd h 79 dX9_tell_78 rfl ?_
              refine g_goto h 88 dX9_tell_79 (by decide) ?_
              exact g_iret h dX9_tell_88 (my_r1 hf) (my_r2 hf)
          · have hf := my_ifT hc hf
            refine g_il3 h 67 dX9_tell_66 rfl ?_
            refine g_goto h 88 dX9_tell_67 (by decide) ?_
            exact g_iret h dX9_tell_88 (my_r1 hf) (my_r2 hf)
      · have hf := my_ifF hc hf
        refine g_al0 h 32 dX9_tell_31 rfl ?_
        refine g_iconst h 33 ic_2 dX9_tell_32 rfl ?_
        obtain ⟨r7, σ7, hc7, hf⟩ := my_ofb hf
        refine g_callVv h 36 cs_X9_287 rfl lyR_0 (ct_X9_traced w hc7) rfl rfl (Nat.le_of_ble_eq_true rfl) ⟨Nat.le_of_ble_eq_true rfl, Nat.le_of_ble_eq_true rfl⟩ dX9_tell_33 rfl ?_
        refine g_al0 h 37 dX9_tell_36 rfl ?_
        refine g_iconst h 38 ic_1 dX9_tell_37 rfl ?_
        obtain ⟨r8, σ8, hc8, hf⟩ := my_ofb hf
        refine g_callVv h 41 cs_X9_287 rfl lyR_0 (ct_X9_traced w hc8) rfl rfl (Nat.le_of_ble_eq_true rfl) ⟨Nat.le_of_ble_eq_true rfl, Nat.le_of_ble_eq_true rfl⟩ dX9_tell_38 rfl ?_
        refine g_il2 h 42 dX9_tell_41 rfl ?_
        refine g_iconst h 43 ic_2 dX9_tell_42 rfl ?_
        refine g_icne h 51 46 dX9_tell_43 (by decide) rfl (fun hc => ?_) (fun hc => ?_)
        · have hf := my_ifF hc hf
          refine g_al0 h 52 dX9_tell_51 rfl ?_
          refine g_geti h 55 fF_X9_87_X9 lyR_0 rfl dX9_tell_52 rfl ?_
          refine g_al0 h 56 dX9_tell_55 rfl ?_
          refine g_il1 h 57 dX9_tell_56 rfl ?_
          obtain ⟨r9, σ9, hc9, hf⟩ := my_ofb hf
          refine g_callVi h 60 cs_X9_155 rfl lyR_0 (ct_X9_freeOf w hc9) rfl rfl (Nat.le_of_ble_eq_true rfl) ⟨Nat.le_of_ble_eq_true rfl, Nat.le_of_ble_eq_true rfl⟩ dX9_tell_57 rfl ?_
          refine g_isub h 61 dX9_tell_60 rfl ?_
          refine g_is3 h 62 (Nat.le_of_ble_eq_true rfl) rfl dX9_tell_61 rfl ?_
          refine g_il2 h 63 dX9_tell_62 rfl ?_
          refine g_ifne h 70 66 dX9_tell_63 (by decide) rfl (fun hc => ?_) (fun hc => ?_)
          · have hf := my_ifF hc hf
            refine g_il2 h 71 dX9_tell_70 rfl ?_
            refine g_iconst h 72 ic_1 dX9_tell_71 rfl ?_
            refine g_icne h 82 75 dX9_tell_72 (by decide) rfl (fun hc => ?_) (fun hc => ?_)
            · have hf := my_ifF hc hf
              refine g_iconst h 83 ic_2 dX9_tell_82 rfl ?_
              refine g_il3 h 84 dX9_tell_83 rfl ?_
              refine g_imul h 85 dX9_tell_84 rfl ?_
              refine g_bipush h 87 bp_100 dX9_tell_85 rfl ?_
              refine g_iadd h 88 dX9_tell_87 rfl ?_
              exact g_iret h dX9_tell_88 (my_r1 hf) (my_r2 hf)
            · have hf := my_ifT hc hf
              refine g_il3 h 76 dX9_tell_75 rfl ?_
              refine g_bipush h 78 bp_100 dX9_tell_76 rfl ?_
              refine g_iadd h 79 dX9_tell_78 rfl ?_
              refine g_goto h 88 dX9_tell_79 (by decide) ?_
              exact g_iret h dX9_tell_88 (my_r1 hf) (my_r2 hf)
          · have hf := my_ifT hc hf
            refine g_il3 h 67 dX9_tell_66 rfl ?_
            refine g_goto h 88 dX9_tell_67 (by decide) ?_
            exact g_iret h dX9_tell_88 (my_r1 hf) (my_r2 hf)
        · have hf := my_ifT hc hf
          refine g_al0 h 47 dX9_tell_46 rfl ?_
          refine g_iconst h 48 ic_1 dX9_tell_47 rfl ?_
          obtain ⟨r10, σ10, hc10, hf⟩ := my_ofb hf
          refine g_callVv h 51 cs_X9_287 rfl lyR_0 (ct_X9_traced w hc10) rfl rfl (Nat.le_of_ble_eq_true rfl) ⟨Nat.le_of_ble_eq_true rfl, Nat.le_of_ble_eq_true rfl⟩ dX9_tell_48 rfl ?_
          refine g_al0 h 52 dX9_tell_51 rfl ?_
          refine g_geti h 55 fF_X9_87_X9 lyR_0 rfl dX9_tell_52 rfl ?_
          refine g_al0 h 56 dX9_tell_55 rfl ?_
          refine g_il1 h 57 dX9_tell_56 rfl ?_
          obtain ⟨r11, σ11, hc11, hf⟩ := my_ofb hf
          refine g_callVi h 60 cs_X9_155 rfl lyR_0 (ct_X9_freeOf w hc11) rfl rfl (Nat.le_of_ble_eq_true rfl) ⟨Nat.le_of_ble_eq_true rfl, Nat.le_of_ble_eq_true rfl⟩ dX9_tell_57 rfl ?_
          refine g_isub h 61 dX9_tell_60 rfl ?_
          refine g_is3 h 62 (Nat.le_of_ble_eq_true rfl) rfl dX9_tell_61 rfl ?_
          refine g_il2 h 63 dX9_tell_62 rfl ?_
          refine g_ifne h 70 66 dX9_tell_63 (by decide) rfl (fun hc => ?_) (fun hc => ?_)
          · have hf := my_ifF hc hf
            refine g_il2 h 71 dX9_tell_70 rfl ?_
            refine g_iconst h 72 ic_1 dX9_tell_71 rfl ?_
            refine g_icne h 82 75 dX9_tell_72 (by decide) rfl (fun hc => ?_) (fun hc => ?_)
            · have hf := my_ifF hc hf
              refine g_iconst h 83 ic_2 dX9_tell_82 rfl ?_
              refine g_il3 h 84 dX9_tell_83 rfl ?_
              refine g_imul h 85 dX9_tell_84 rfl ?_
              refine g_bipush h 87 bp_100 dX9_tell_85 rfl ?_
              refine g_iadd h 88 dX9_tell_87 rfl ?_
              exact g_iret h dX9_tell_88 (my_r1 hf) (my_r2 hf)
            · have hf := my_ifT hc hf
              refine g_il3 h 76 dX9_tell_75 rfl ?_
              refine g_bipush h 78 bp_100 dX9_tell_76 rfl ?_
              refine g_iadd h 79 dX9_tell_78 rfl ?_
              refine g_goto h 88 dX9_tell_79 (by decide) ?_
              exact g_iret h dX9_tell_88 (my_r1 hf) (my_r2 hf)
          · have hf := my_ifT hc hf
            refine g_il3 h 67 dX9_tell_66 rfl ?_
            refine g_goto h 88 dX9_tell_67 (by decide) ?_
            exact g_iret h dX9_tell_88 (my_r1 hf) (my_r2 hf)
    · have hf := my_ifT hc hf
      refine g_al0 h 23 dX9_tell_22 rfl ?_
      refine g_iconst h 24 ic_3 dX9_tell_23 rfl ?_
      obtain ⟨r12, σ12, hc12, hf⟩ := my_ofb hf
      refine g_callVv h 27 cs_X9_287 rfl lyR_0 (ct_X9_traced w hc12) rfl rfl (Nat.le_of_ble_eq_true rfl) ⟨Nat.le_of_ble_eq_true rfl, Nat.le_of_ble_eq_true rfl⟩ dX9_tell_24 rfl ?_
      refine g_il2 h 28 dX9_tell_27 rfl ?_
      refine g_ifle h 36 31 dX9_tell_28 (by decide) rfl (fun hc => ?_) (fun hc => ?_)
      · have hf := my_ifT hc hf
        refine g_al0 h 37 dX9_tell_36 rfl ?_
        refine g_iconst h 38 ic_1 dX9_tell_37 rfl ?_
        obtain ⟨r13, σ13, hc13, hf⟩ := my_ofb hf
        refine g_callVv h 41 cs_X9_287 rfl lyR_0 (ct_X9_traced w hc13) rfl rfl (Nat.le_of_ble_eq_true rfl) ⟨Nat.le_of_ble_eq_true rfl, Nat.le_of_ble_eq_true rfl⟩ dX9_tell_38 rfl ?_
        refine g_il2 h 42 dX9_tell_41 rfl ?_
        refine g_iconst h 43 ic_2 dX9_tell_42 rfl ?_
        refine g_icne h 51 46 dX9_tell_43 (by decide) rfl (fun hc => ?_) (fun hc => ?_)
        · have hf := my_ifF hc hf
          refine g_al0 h 52 dX9_tell_51 rfl ?_
          refine g_geti h 55 fF_X9_87_X9 lyR_0 rfl dX9_tell_52 rfl ?_
          refine g_al0 h 56 dX9_tell_55 rfl ?_
          refine g_il1 h 57 dX9_tell_56 rfl ?_
          obtain ⟨r14, σ14, hc14, hf⟩ := my_ofb hf
          refine g_callVi h 60 cs_X9_155 rfl lyR_0 (ct_X9_freeOf w hc14) rfl rfl (Nat.le_of_ble_eq_true rfl) ⟨Nat.le_of_ble_eq_true rfl, Nat.le_of_ble_eq_true rfl⟩ dX9_tell_57 rfl ?_
          refine g_isub h 61 dX9_tell_60 rfl ?_
          refine g_is3 h 62 (Nat.le_of_ble_eq_true rfl) rfl dX9_tell_61 rfl ?_
          refine g_il2 h 63 dX9_tell_62 rfl ?_
          refine g_ifne h 70 66 dX9_tell_63 (by decide) rfl (fun hc => ?_) (fun hc => ?_)
          · have hf := my_ifF hc hf
            refine g_il2 h 71 dX9_tell_70 rfl ?_
            refine g_iconst h 72 ic_1 dX9_tell_71 rfl ?_
            refine g_icne h 82 75 dX9_tell_72 (by decide) rfl (fun hc => ?_) (fun hc => ?_)
            · have hf := my_ifF hc hf
              refine g_iconst h 83 ic_2 dX9_tell_82 rfl ?_
              refine g_il3 h 84 dX9_tell_83 rfl ?_
              refine g_imul h 85 dX9_tell_84 rfl ?_
              refine g_bipush h 87 bp_100 dX9_tell_85 rfl ?_
              refine g_iadd h 88 dX9_tell_87 rfl ?_
              exact g_iret h dX9_tell_88 (my_r1 hf) (my_r2 hf)
            · have hf := my_ifT hc hf
              refine g_il3 h 76 dX9_tell_75 rfl ?_
              refine g_bipush h 78 bp_100 dX9_tell_76 rfl ?_
              refine g_iadd h 79 dX9_tell_78 rfl ?_
              refine g_goto h 88 dX9_tell_79 (by decide) ?_
              exact g_iret h dX9_tell_88 (my_r1 hf) (my_r2 hf)
          · have hf := my_ifT hc hf
            refine g_il3 h 67 dX9_tell_66 rfl ?_
            refine g_goto h 88 dX9_tell_67 (by decide) ?_
            exact g_iret h dX9_tell_88 (my_r1 hf) (my_r2 hf)
        · have hf := my_ifT hc hf
          refine g_al0 h 47 dX9_tell_46 rfl ?_
          refine g_iconst h 48 ic_1 dX9_tell_47 rfl ?_
          obtain ⟨r15, σ15, hc15, hf⟩ := my_ofb hf
          refine g_callVv h 51 cs_X9_287 rfl lyR_0 (ct_X9_traced w hc15) rfl rfl (Nat.le_of_ble_eq_true rfl) ⟨Nat.le_of_ble_eq_true rfl, Nat.le_of_ble_eq_true rfl⟩ dX9_tell_48 rfl ?_
          refine g_al0 h 52 dX9_tell_51 rfl ?_
          refine g_geti h 55 fF_X9_87_X9 lyR_0 rfl dX9_tell_52 rfl ?_
          refine g_al0 h 56 dX9_tell_55 rfl ?_
          refine g_il1 h 57 dX9_tell_56 rfl ?_
          obtain ⟨r16, σ16, hc16, hf⟩ := my_ofb hf
          refine g_callVi h 60 cs_X9_155 rfl lyR_0 (ct_X9_freeOf w hc16) rfl rfl (Nat.le_of_ble_eq_true rfl) ⟨Nat.le_of_ble_eq_true rfl, Nat.le_of_ble_eq_true rfl⟩ dX9_tell_57 rfl ?_
          refine g_isub h 61 dX9_tell_60 rfl ?_
          refine g_is3 h 62 (Nat.le_of_ble_eq_true rfl) rfl dX9_tell_61 rfl ?_
          refine g_il2 h 63 dX9_tell_62 rfl ?_
          refine g_ifne h 70 66 dX9_tell_63 (by decide) rfl (fun hc => ?_) (fun hc => ?_)
          · have hf := my_ifF hc hf
            refine g_il2 h 71 dX9_tell_70 rfl ?_
            refine g_iconst h 72 ic_1 dX9_tell_71 rfl ?_
            refine g_icne h 82 75 dX9_tell_72 (by decide) rfl (fun hc => ?_) (fun hc => ?_)
            · have hf := my_ifF hc hf
              refine g_iconst h 83 ic_2 dX9_tell_82 rfl ?_
              refine g_il3 h 84 dX9_tell_83 rfl ?_
              refine g_imul h 85 dX9_tell_84 rfl ?_
              refine g_bipush h 87 bp_100 dX9_tell_85 rfl ?_
              refine g_iadd h 88 dX9_tell_87 rfl ?_
              exact g_iret h dX9_tell_88 (my_r1 hf) (my_r2 hf)
            · have hf := my_ifT hc hf
              refine g_il3 h 76 dX9_tell_75 rfl ?_
              refine g_bipush h 78 bp_100 dX9_tell_76 rfl ?_
              refine g_iadd h 79 dX9_tell_78 rfl ?_
              refine g_goto h 88 dX9_tell_79 (by decide) ?_
              exact g_iret h dX9_tell_88 (my_r1 hf) (my_r2 hf)
          · have hf := my_ifT hc hf
            refine g_il3 h 67 dX9_tell_66 rfl ?_
            refine g_goto h 88 dX9_tell_67 (by decide) ?_
            exact g_iret h dX9_tell_88 (my_r1 hf) (my_r2 hf)
      · have hf := my_ifF hc hf
        refine g_al0 h 32 dX9_tell_31 rfl ?_
        refine g_iconst h 33 ic_2 dX9_tell_32 rfl ?_
        obtain ⟨r17, σ17, hc17, hf⟩ := my_ofb hf
        refine g_callVv h 36 cs_X9_287 rfl lyR_0 (ct_X9_traced w hc17) rfl rfl (Nat.le_of_ble_eq_true rfl) ⟨Nat.le_of_ble_eq_true rfl, Nat.le_of_ble_eq_true rfl⟩ dX9_tell_33 rfl ?_
        refine g_al0 h 37 dX9_tell_36 rfl ?_
        refine g_iconst h 38 ic_1 dX9_tell_37 rfl ?_
        obtain ⟨r18, σ18, hc18, hf⟩ := my_ofb hf
        refine g_callVv h 41 cs_X9_287 rfl lyR_0 (ct_X9_traced w hc18) rfl rfl (Nat.le_of_ble_eq_true rfl) ⟨Nat.le_of_ble_eq_true rfl, Nat.le_of_ble_eq_true rfl⟩ dX9_tell_38 rfl ?_
        refine g_il2 h 42 dX9_tell_41 rfl ?_
        refine g_iconst h 43 ic_2 dX9_tell_42 rfl ?_
        refine g_icne h 51 46 dX9_tell_43 (by decide) rfl (fun hc => ?_) (fun hc => ?_)
        · have hf := my_ifF hc hf
          refine g_al0 h 52 dX9_tell_51 rfl ?_
          refine g_geti h 55 fF_X9_87_X9 lyR_0 rfl dX9_tell_52 rfl ?_
          refine g_al0 h 56 dX9_tell_55 rfl ?_
          refine g_il1 h 57 dX9_tell_56 rfl ?_
          obtain ⟨r19, σ19, hc19, hf⟩ := my_ofb hf
          refine g_callVi h 60 cs_X9_155 rfl lyR_0 (ct_X9_freeOf w hc19) rfl rfl (Nat.le_of_ble_eq_true rfl) ⟨Nat.le_of_ble_eq_true rfl, Nat.le_of_ble_eq_true rfl⟩ dX9_tell_57 rfl ?_
          refine g_isub h 61 dX9_tell_60 rfl ?_
          refine g_is3 h 62 (Nat.le_of_ble_eq_true rfl) rfl dX9_tell_61 rfl ?_
          refine g_il2 h 63 dX9_tell_62 rfl ?_
          refine g_ifne h 70 66 dX9_tell_63 (by decide) rfl (fun hc => ?_) (fun hc => ?_)
          · have hf := my_ifF hc hf
            refine g_il2 h 71 dX9_tell_70 rfl ?_
            refine g_iconst h 72 ic_1 dX9_tell_71 rfl ?_
            refine g_icne h 82 75 dX9_tell_72 (by decide) rfl (fun hc => ?_) (fun hc => ?_)
            · have hf := my_ifF hc hf
              refine g_iconst h 83 ic_2 dX9_tell_82 rfl ?_
              refine g_il3 h 84 dX9_tell_83 rfl ?_
              refine g_imul h 85 dX9_tell_84 rfl ?_
              refine g_bipush h 87 bp_100 dX9_tell_85 rfl ?_
              refine g_iadd h 88 dX9_tell_87 rfl ?_
              exact g_iret h dX9_tell_88 (my_r1 hf) (my_r2 hf)
            · have hf := my_ifT hc hf
              refine g_il3 h 76 dX9_tell_75 rfl ?_
              refine g_bipush h 78 bp_100 dX9_tell_76 rfl ?_
              refine g_iadd h 79 dX9_tell_78 rfl ?_
              refine g_goto h 88 dX9_tell_79 (by decide) ?_
              exact g_iret h dX9_tell_88 (my_r1 hf) (my_r2 hf)
          · have hf := my_ifT hc hf
            refine g_il3 h 67 dX9_tell_66 rfl ?_
            refine g_goto h 88 dX9_tell_67 (by decide) ?_
            exact g_iret h dX9_tell_88 (my_r1 hf) (my_r2 hf)
        · have hf := my_ifT hc hf
          refine g_al0 h 47 dX9_tell_46 rfl ?_
          refine g_iconst h 48 ic_1 dX9_tell_47 rfl ?_
          obtain ⟨r20, σ20, hc20, hf⟩ := my_ofb hf
          refine g_callVv h 51 cs_X9_287 rfl lyR_0 (ct_X9_traced w hc20) rfl rfl (Nat.le_of_ble_eq_true rfl) ⟨Nat.le_of_ble_eq_true rfl, Nat.le_of_ble_eq_true rfl⟩ dX9_tell_48 rfl ?_
          refine g_al0 h 52 dX9_tell_51 rfl ?_
          refine g_geti h 55 fF_X9_87_X9 lyR_0 rfl dX9_tell_52 rfl ?_
          refine g_al0 h 56 dX9_tell_55 rfl ?_
          refine g_il1 h 57 dX9_tell_56 rfl ?_
          obtain ⟨r21, σ21, hc21, hf⟩ := my_ofb hf
          refine g_callVi h 60 cs_X9_155 rfl lyR_0 (ct_X9_freeOf w hc21) rfl rfl (Nat.le_of_ble_eq_true rfl) ⟨Nat.le_of_ble_eq_true rfl, Nat.le_of_ble_eq_true rfl⟩ dX9_tell_57 rfl ?_
          refine g_isub h 61 dX9_tell_60 rfl ?_
          refine g_is3 h 62 (Nat.le_of_ble_eq_true rfl) rfl dX9_tell_61 rfl ?_
          refine g_il2 h 63 dX9_tell_62 rfl ?_
          refine g_ifne h 70 66 dX9_tell_63 (by decide) rfl (fun hc => ?_) (fun hc => ?_)
          · have hf := my_ifF hc hf
            refine g_il2 h 71 dX9_tell_70 rfl ?_
            refine g_iconst h 72 ic_1 dX9_tell_71 rfl ?_
            refine g_icne h 82 75 dX9_tell_72 (by decide) rfl (fun hc => ?_) (fun hc => ?_)
            · have hf := my_ifF hc hf
              refine g_iconst h 83 ic_2 dX9_tell_82 rfl ?_
              refine g_il3 h 84 dX9_tell_83 rfl ?_
              refine g_imul h 85 dX9_tell_84 rfl ?_
              refine g_bipush h 87 bp_100 dX9_tell_85 rfl ?_
              refine g_iadd h 88 dX9_tell_87 rfl ?_
              exact g_iret h dX9_tell_88 (my_r1 hf) (my_r2 hf)
            · have hf := my_ifT hc hf
              refine g_il3 h 76 dX9_tell_75 rfl ?_
              refine g_bipush h 78 bp_100 dX9_tell_76 rfl ?_
              refine g_iadd h 79 dX9_tell_78 rfl ?_
              refine g_goto h 88 dX9_tell_79 (by decide) ?_
              exact g_iret h dX9_tell_88 (my_r1 hf) (my_r2 hf)
          · have hf := my_ifT hc hf
            refine g_il3 h 67 dX9_tell_66 rfl ?_
            refine g_goto h 88 dX9_tell_67 (by decide) ?_
            exact g_iret h dX9_tell_88 (my_r1 hf) (my_r2 hf)
  · have hf := my_ifF hc hf
    refine g_iconst h 9 ic_m1 dX9_tell_8 rfl ?_
    exact g_iret h dX9_tell_9 (my_r1 hf) (my_r2 hf)
def f_X9_trace (σ : my_M) : Option (Int32 × my_M) :=
some ((σ 0 32), σ)
set_option maxRecDepth 100000 in
set_option maxHeartbeats 4000000 in
theorem ct_X9_trace (w : my_V) {σ : my_M} {r : Int32} {τ : my_M} (hf : f_X9_trace σ = some (r, τ)) : Ct w layR mX9_trace 1 [.ref (w.2.2.2 0)] σ (some (.int r)) τ := by
  refine my_met RX9 [some (.ref (w.2.2.2 0))] 0 (by decide) rfl (Nat.le_of_ble_eq_true rfl) rfl (fun X h => ?_)
  unfold f_X9_trace at hf
  refine g_al0 h 1 dX9_trace_0 rfl ?_
  refine g_geti h 4 fF_X9_284_X9 lyR_0 rfl dX9_trace_1 rfl ?_
  exact g_iret h dX9_trace_4 (my_r1 hf) (my_r2 hf)
def f_X9_tune (σ : my_M) (x1 : Int32) (x2 : Int32) (x3 : Int32) : Option (Int32 × my_M) :=
(my_bnd (f_X9_noCaller σ x1) fun r1 σ1 =>
(if r1 = 0 then
(my_bnd (f_X9_noBeat σ1 x2) fun r2 σ2 =>
(if r2 = 0 then
(my_bnd (f_X9_in σ2 (Int32.toInt64 x3) (-1) ((Int32.toInt64 (σ2 0 2)) - 1)) fun r3 σ3 =>
(if r3 = 0 then
some ((-2), σ3)
else
(my_bnd (f_X9_pitch σ3 x1 x2) fun r4 σ4 =>
(if 0 ≤ x3 then
(if my_ix ((6 * x1) + x2) (my_len layR 2) then
some (r4, (my_up σ4 2 (Int32.toNatClampNeg ((6 * x1) + x2)) x3))
else none)
else
(if my_ix ((6 * x1) + x2) (my_len layR 2) then
some (r4, (my_up σ4 2 (Int32.toNatClampNeg ((6 * x1) + x2)) (-9)))
else none)))))
else
some ((-1), σ2)))
else
some ((-1), σ1)))
set_option maxRecDepth 100000 in
set_option maxHeartbeats 4000000 in
theorem ct_X9_tune (w : my_V) {σ : my_M} {x1 : Int32} {x2 : Int32} {x3 : Int32} {r : Int32} {τ : my_M} (hf : f_X9_tune σ x1 x2 x3 = some (r, τ)) : Ct w layR mX9_tune 3 [.ref (w.2.2.2 0), .int x1, .int x2, .int x3] σ (some (.int r)) τ := by
  refine my_met RX9 [some (.ref (w.2.2.2 0)), some (.int x1), some (.int x2), some (.int x3), none] 1 (by decide) rfl (Nat.le_of_ble_eq_true rfl) rfl (fun X h => ?_)
  unfold f_X9_tune at hf
  refine g_al0 h 1 dX9_tune_0 rfl ?_
  refine g_il1 h 2 dX9_tune_1 rfl ?_
  obtain ⟨r1, σ1, hc1, hf⟩ := my_ofb hf
  refine g_callVi h 5 cs_X9_165 rfl lyR_0 (ct_X9_noCaller w hc1) rfl rfl (Nat.le_of_ble_eq_true rfl) ⟨Nat.le_of_ble_eq_true rfl, Nat.le_of_ble_eq_true rfl⟩ dX9_tune_2 rfl ?_
  refine g_ifne h 16 8 dX9_tune_5 (by decide) rfl (fun hc => ?_) (fun hc => ?_)
  · have hf := my_ifF hc hf
    refine g_iconst h 17 ic_m1 dX9_tune_16 rfl ?_
    exact g_iret h dX9_tune_17 (my_r1 hf) (my_r2 hf)
  · have hf := my_ifT hc hf
    refine g_al0 h 9 dX9_tune_8 rfl ?_
    refine g_il2 h 10 dX9_tune_9 rfl ?_
    obtain ⟨r2, σ2, hc2, hf⟩ := my_ofb hf
    refine g_callVi h 13 cs_X9_172 rfl lyR_0 (ct_X9_noBeat w hc2) rfl rfl (Nat.le_of_ble_eq_true rfl) ⟨Nat.le_of_ble_eq_true rfl, Nat.le_of_ble_eq_true rfl⟩ dX9_tune_10 rfl ?_
    refine g_ifeq h 18 16 dX9_tune_13 (by decide) rfl (fun hc => ?_) (fun hc => ?_)
    · have hf := my_ifT hc hf
      refine g_il3 h 19 dX9_tune_18 rfl ?_
      refine g_i2l h 20 dX9_tune_19 rfl ?_
      refine g_ldc2 h 23 tw_kl_X9_178 dX9_tune_20 rfl ?_
      refine g_al0 h 24 dX9_tune_23 rfl ?_
      refine g_geti h 27 fF_X9_87_X9 lyR_0 rfl dX9_tune_24 rfl ?_
      refine g_i2l h 28 dX9_tune_27 rfl ?_
      refine g_lconst h 29 lc_1 dX9_tune_28 rfl ?_
      refine g_lsub h 30 dX9_tune_29 rfl ?_
      obtain ⟨r3, σ3, hc3, hf⟩ := my_ofb hf
      refine g_callSi h 33 cs_X9_83 (ct_X9_in w hc3) rfl rfl (Nat.le_of_ble_eq_true rfl) ⟨Nat.le_of_ble_eq_true rfl, Nat.le_of_ble_eq_true rfl⟩ dX9_tune_30 rfl ?_
      refine g_ifne h 39 36 dX9_tune_33 (by decide) rfl (fun hc => ?_) (fun hc => ?_)
      · have hf := my_ifF hc hf
        refine g_al0 h 40 dX9_tune_39 rfl ?_
        refine g_il1 h 41 dX9_tune_40 rfl ?_
        refine g_il2 h 42 dX9_tune_41 rfl ?_
        obtain ⟨r4, σ4, hc4, hf⟩ := my_ofb hf
        refine g_callVi h 45 cs_X9_145 rfl lyR_0 (ct_X9_pitch w hc4) rfl rfl (Nat.le_of_ble_eq_true rfl) ⟨Nat.le_of_ble_eq_true rfl, Nat.le_of_ble_eq_true rfl⟩ dX9_tune_42 rfl ?_
        refine g_is4 h 47 (Nat.le_of_ble_eq_true rfl) rfl dX9_tune_45 rfl ?_
        refine g_al0 h 48 dX9_tune_47 rfl ?_
        refine g_geta h 51 fF_X9_13_X9 lyR_0 rfl dX9_tune_48 rfl ?_
        refine g_bipush h 53 bp_6 dX9_tune_51 rfl ?_
        refine g_il1 h 54 dX9_tune_53 rfl ?_
        refine g_imul h 55 dX9_tune_54 rfl ?_
        refine g_il2 h 56 dX9_tune_55 rfl ?_
        refine g_iadd h 57 dX9_tune_56 rfl ?_
        refine g_il3 h 58 dX9_tune_57 rfl ?_
        refine g_ifge h 66 61 dX9_tune_58 (by decide) rfl (fun hc => ?_) (fun hc => ?_)
        · have hf := my_ifT hc hf
          refine g_il3 h 67 dX9_tune_66 rfl ?_
          obtain ⟨hq5, hf⟩ := my_chk hf
          refine g_iast h 68 dX9_tune_67 rfl hq5 ?_
          refine g_il4 h 70 dX9_tune_68 rfl ?_
          exact g_iret h dX9_tune_70 (my_r1 hf) (my_r2 hf)
        · have hf := my_ifF hc hf
          refine g_bipush h 63 bp_m9 dX9_tune_61 rfl ?_
          refine g_goto h 67 dX9_tune_63 (by decide) ?_
          obtain ⟨hq6, hf⟩ := my_chk hf
          refine g_iast h 68 dX9_tune_67 rfl hq6 ?_
          refine g_il4 h 70 dX9_tune_68 rfl ?_
          exact g_iret h dX9_tune_70 (my_r1 hf) (my_r2 hf)
      · have hf := my_ifT hc hf
        refine g_bipush h 38 bp_m2 dX9_tune_36 rfl ?_
        exact g_iret h dX9_tune_38 (my_r1 hf) (my_r2 hf)
    · have hf := my_ifF hc hf
      refine g_iconst h 17 ic_m1 dX9_tune_16 rfl ?_
      exact g_iret h dX9_tune_17 (my_r1 hf) (my_r2 hf)
def f_X9_unsend (σ : my_M) (x1 : Int32) : Option (Int32 × my_M) :=
(my_bnd (f_X9_in σ (Int32.toInt64 x1) 0 (Int32.toInt64 (σ 0 11))) fun r1 σ1 =>
(if r1 = 0 then
some ((-2), σ1)
else
some (((my_up σ1 0 11 ((σ1 0 11) - x1)) 0 11), (my_up σ1 0 11 ((σ1 0 11) - x1)))))
set_option maxRecDepth 100000 in
set_option maxHeartbeats 4000000 in
theorem ct_X9_unsend (w : my_V) {σ : my_M} {x1 : Int32} {r : Int32} {τ : my_M} (hf : f_X9_unsend σ x1 = some (r, τ)) : Ct w layR mX9_unsend 2 [.ref (w.2.2.2 0), .int x1] σ (some (.int r)) τ := by
  refine my_met RX9 [some (.ref (w.2.2.2 0)), some (.int x1)] 0 (by decide) rfl (Nat.le_of_ble_eq_true rfl) rfl (fun X h => ?_)
  unfold f_X9_unsend at hf
  refine g_il1 h 1 dX9_unsend_0 rfl ?_
  refine g_i2l h 2 dX9_unsend_1 rfl ?_
  refine g_lconst h 3 lc_0 dX9_unsend_2 rfl ?_
  refine g_al0 h 4 dX9_unsend_3 rfl ?_
  refine g_geti h 7 fF_X9_139_X9 lyR_0 rfl dX9_unsend_4 rfl ?_
  refine g_i2l h 8 dX9_unsend_7 rfl ?_
  obtain ⟨r1, σ1, hc1, hf⟩ := my_ofb hf
  refine g_callSi h 11 cs_X9_83 (ct_X9_in w hc1) rfl rfl (Nat.le_of_ble_eq_true rfl) ⟨Nat.le_of_ble_eq_true rfl, Nat.le_of_ble_eq_true rfl⟩ dX9_unsend_8 rfl ?_
  refine g_ifne h 17 14 dX9_unsend_11 (by decide) rfl (fun hc => ?_) (fun hc => ?_)
  · have hf := my_ifF hc hf
    refine g_al0 h 18 dX9_unsend_17 rfl ?_
    refine g_dup h 19 rfl dX9_unsend_18 rfl ?_
    refine g_geti h 22 fF_X9_139_X9 lyR_0 rfl dX9_unsend_19 rfl ?_
    refine g_il1 h 23 dX9_unsend_22 rfl ?_
    refine g_isub h 24 dX9_unsend_23 rfl ?_
    refine g_puti h 27 fP_X9_139_X9 lyR_0 rfl dX9_unsend_24 rfl ?_
    refine g_al0 h 28 dX9_unsend_27 rfl ?_
    refine g_geti h 31 fF_X9_139_X9 lyR_0 rfl dX9_unsend_28 rfl ?_
    exact g_iret h dX9_unsend_31 (my_r1 hf) (my_r2 hf)
  · have hf := my_ifT hc hf
    refine g_bipush h 16 bp_m2 dX9_unsend_14 rfl ?_
    exact g_iret h dX9_unsend_16 (my_r1 hf) (my_r2 hf)
def b_X9_ways_0 (k0 : my_M → Int32 → Int32 → Int32 → Int32 → Int32 → Option (Int32 × my_M)) (σ : my_M) (x1 : Int32) (x2 : Int32) (x3 : Int32) (x4 : Int32) (x5 : Int32) : Option (Int32 × my_M) :=
(if x5 = 0 then
(if 0 ≤ x2 then
some (x4, σ)
else
some (x3, σ))
else
(my_bnd (f_X9_hasThoseOf σ x1) fun r1 σ1 =>
(if r1 = 0 then
(my_bnd (f_X9_triesNext σ1) fun r2 σ2 =>
k0 σ2 x1 x2 ((x3 + 0)) x4 r2)
else
(my_bnd (f_X9_isGood σ1) fun r3 σ3 =>
(if (if r3 = 0 then 0 else 1 : Int32) = 0 then
(my_bnd (f_X9_triesNext σ3) fun r4 σ4 =>
k0 σ4 x1 x2 ((x3 + (if (if r3 = 0 then 0 else 1 : Int32) = 0 then 0 else 1 : Int32))) x4 r4)
else
(if x3 = 0 then
(if x2 < 0 then
(my_bnd (f_X9_triesNext σ3) fun r6 σ6 =>
k0 σ6 x1 x2 ((x3 + (if (if r3 = 0 then 0 else 1 : Int32) = 0 then 0 else 1 : Int32))) x4 r6)
else
(my_bnd (f_X9_noBeat σ3 x2) fun r7 σ7 =>
(if r7 = 0 then
(if my_ix x2 (my_len layR 5) then
(my_bnd (f_X9_triesNext σ7) fun r10 σ10 =>
k0 σ10 x1 x2 ((x3 + (if (if r3 = 0 then 0 else 1 : Int32) = 0 then 0 else 1 : Int32))) ((σ7 5 (Int32.toNatClampNeg x2))) r10)
else none)
else
(my_bnd (f_X9_triesNext σ7) fun r8 σ8 =>
k0 σ8 x1 x2 ((x3 + (if (if r3 = 0 then 0 else 1 : Int32) = 0 then 0 else 1 : Int32))) x4 r8))))
else
(my_bnd (f_X9_triesNext σ3) fun r5 σ5 =>
k0 σ5 x1 x2 ((x3 + (if (if r3 = 0 then 0 else 1 : Int32) = 0 then 0 else 1 : Int32))) x4 r5)))))))
def g_X9_ways : Nat → my_M → Int32 → Int32 → Int32 → Int32 → Int32 → Option (Int32 × my_M)
  | 0 => fun _ _ _ _ _ _ => none
  | n + 1 => b_X9_ways_0 (g_X9_ways n)
def f_X9_ways (σ : my_M) (x1 : Int32) (x2 : Int32) : Option (Int32 × my_M) :=
(my_bnd (f_X9_noCaller σ x1) fun r1 σ1 =>
(if r1 = 0 then
(my_bnd (f_X9_in σ1 (Int32.toInt64 x2) (-1) 5) fun r2 σ2 =>
(if r2 = 0 then
some ((-2), σ2)
else
(my_bnd (f_X9_triesFirst σ2) fun r3 σ3 =>
(g_X9_ways my_NF) σ3 x1 x2 0 ((-9)) 1)))
else
some ((-1), σ1)))
set_option maxRecDepth 100000 in
set_option maxHeartbeats 4000000 in
theorem lp_X9_ways (w : my_V) {X : my_X} {r : Int32} {τ : my_M} (h : my_OK X w layR cX9_ways RX9 7 (some .int)) : ∀ n : Nat, (∀ (σ : my_M) (x1 : Int32) (x2 : Int32) (x3 : Int32) (x4 : Int32) (x5 : Int32), (g_X9_ways n) σ x1 x2 x3 x4 x5 = some (r, τ) → Go X w layR 4 7 (some (.int r)) τ σ 40 [some (.ref (w.2.2.2 0)), some (.int x1), some (.int x2), some (.int x3), some (.int x4), some (.int x5), none] []) := by
  intro n
  induction n with
  | zero => exact fun _ _ _ _ _ _ hf => (my_nn hf).elim
  | succ n ih =>
    intro σ x1 x2 x3 x4 x5 hf
    replace hf : b_X9_ways_0 (g_X9_ways n) σ x1 x2 x3 x4 x5 = some (r, τ) := hf
    unfold b_X9_ways_0 at hf
    refine g_il5 h 42 dX9_ways_40 rfl ?_
    refine g_ifeq h 123 45 dX9_ways_42 (by decide) rfl (fun hc => ?_) (fun hc => ?_)
    · have hf := my_ifT hc hf
      refine g_il2 h 124 dX9_ways_123 rfl ?_
      refine g_ifge h 131 127 dX9_ways_124 (by decide) rfl (fun hc => ?_) (fun hc => ?_)
      · have hf := my_ifT hc hf
        refine g_il4 h 133 dX9_ways_131 rfl ?_
        exact g_iret h dX9_ways_133 (my_r1 hf) (my_r2 hf)
      · have hf := my_ifF hc hf
        refine g_il3 h 128 dX9_ways_127 rfl ?_
        refine g_goto h 133 dX9_ways_128 (by decide) ?_
        exact g_iret h dX9_ways_133 (my_r1 hf) (my_r2 hf)
    · have hf := my_ifF hc hf
      refine g_al0 h 46 dX9_ways_45 rfl ?_
      refine g_il1 h 47 dX9_ways_46 rfl ?_
      obtain ⟨r1, σ1, hc1, hf⟩ := my_ofb hf
      refine g_callVi h 50 cs_X9_265 rfl lyR_0 (ct_X9_hasThoseOf w hc1) rfl rfl (Nat.le_of_ble_eq_true rfl) ⟨Nat.le_of_ble_eq_true rfl, Nat.le_of_ble_eq_true rfl⟩ dX9_ways_47 rfl ?_
      refine g_ifeq h 64 53 dX9_ways_50 (by decide) rfl (fun hc => ?_) (fun hc => ?_)
      · have hf := my_ifT hc hf
        refine g_iconst h 65 ic_0 dX9_ways_64 rfl ?_
        refine g_is6 h 67 (Nat.le_of_ble_eq_true rfl) rfl dX9_ways_65 rfl ?_
        refine g_il6 h 69 dX9_ways_67 rfl ?_
        refine g_ifeq h 97 72 dX9_ways_69 (by decide) rfl (fun _ => ?_) (fun hc => absurd hc (by decide))
        refine g_il4 h 99 dX9_ways_97 rfl ?_
        refine g_is4 h 101 (Nat.le_of_ble_eq_true rfl) rfl dX9_ways_99 rfl ?_
        refine g_il3 h 102 dX9_ways_101 rfl ?_
        refine g_il6 h 104 dX9_ways_102 rfl ?_
        refine g_ifeq h 111 107 dX9_ways_104 (by decide) rfl (fun _ => ?_) (fun hc => absurd hc (by decide))
        refine g_iconst h 112 ic_0 dX9_ways_111 rfl ?_
        refine g_iadd h 113 dX9_ways_112 rfl ?_
        refine g_is3 h 114 (Nat.le_of_ble_eq_true rfl) rfl dX9_ways_113 rfl ?_
        refine g_al0 h 115 dX9_ways_114 rfl ?_
        obtain ⟨r2, σ2, hc2, hf⟩ := my_ofb hf
        refine g_callVi h 118 cs_X9_262 rfl lyR_0 (ct_X9_triesNext w hc2) rfl rfl (Nat.le_of_ble_eq_true rfl) ⟨Nat.le_of_ble_eq_true rfl, Nat.le_of_ble_eq_true rfl⟩ dX9_ways_115 rfl ?_
        refine g_is5 h 120 (Nat.le_of_ble_eq_true rfl) rfl dX9_ways_118 rfl ?_
        refine g_goto h 40 dX9_ways_120 (by decide) ?_
        exact g_weak (ih _ _ _ _ _ _ hf) (w_s (w_s (w_s (w_s (w_s (w_s (w_n w_0)))))))
      · have hf := my_ifF hc hf
        refine g_al0 h 54 dX9_ways_53 rfl ?_
        obtain ⟨r3, σ3, hc3, hf⟩ := my_ofb hf
        refine g_callVi h 57 cs_X9_162 rfl lyR_0 (ct_X9_isGood w hc3) rfl rfl (Nat.le_of_ble_eq_true rfl) ⟨Nat.le_of_ble_eq_true rfl, Nat.le_of_ble_eq_true rfl⟩ dX9_ways_54 rfl ?_
        refine g_ifeq_sel h 64 65 dX9_ways_57 (by decide) dX9_ways_60 ic_1 dX9_ways_61 (by decide) dX9_ways_64 ic_0 rfl ?_
        refine g_is6 h 67 (Nat.le_of_ble_eq_true rfl) rfl dX9_ways_65 rfl ?_
        refine g_il6 h 69 dX9_ways_67 rfl ?_
        refine g_ifeq h 97 72 dX9_ways_69 (by decide) rfl (fun hc => ?_) (fun hc => ?_)
        · have hf := my_ifT hc hf
          refine g_il4 h 99 dX9_ways_97 rfl ?_
          refine g_is4 h 101 (Nat.le_of_ble_eq_true rfl) rfl dX9_ways_99 rfl ?_
          refine g_il3 h 102 dX9_ways_101 rfl ?_
          refine g_il6 h 104 dX9_ways_102 rfl ?_
          refine g_ifeq_sel h 111 112 dX9_ways_104 (by decide) dX9_ways_107 ic_1 dX9_ways_108 (by decide) dX9_ways_111 ic_0 rfl ?_
          refine g_iadd h 113 dX9_ways_112 rfl ?_
          refine g_is3 h 114 (Nat.le_of_ble_eq_true rfl) rfl dX9_ways_113 rfl ?_
          refine g_al0 h 115 dX9_ways_114 rfl ?_
          obtain ⟨r4, σ4, hc4, hf⟩ := my_ofb hf
          refine g_callVi h 118 cs_X9_262 rfl lyR_0 (ct_X9_triesNext w hc4) rfl rfl (Nat.le_of_ble_eq_true rfl) ⟨Nat.le_of_ble_eq_true rfl, Nat.le_of_ble_eq_true rfl⟩ dX9_ways_115 rfl ?_
          refine g_is5 h 120 (Nat.le_of_ble_eq_true rfl) rfl dX9_ways_118 rfl ?_
          refine g_goto h 40 dX9_ways_120 (by decide) ?_
          exact g_weak (ih _ _ _ _ _ _ hf) (w_s (w_s (w_s (w_s (w_s (w_s (w_n w_0)))))))
        · have hf := my_ifF hc hf
          refine g_il3 h 73 dX9_ways_72 rfl ?_
          refine g_ifne h 97 76 dX9_ways_73 (by decide) rfl (fun hc => ?_) (fun hc => ?_)
          · have hf := my_ifF hc hf
            refine g_il4 h 99 dX9_ways_97 rfl ?_
            refine g_is4 h 101 (Nat.le_of_ble_eq_true rfl) rfl dX9_ways_99 rfl ?_
            refine g_il3 h 102 dX9_ways_101 rfl ?_
            refine g_il6 h 104 dX9_ways_102 rfl ?_
            refine g_ifeq_sel h 111 112 dX9_ways_104 (by decide) dX9_ways_107 ic_1 dX9_ways_108 (by decide) dX9_ways_111 ic_0 rfl ?_
            refine g_iadd h 113 dX9_ways_112 rfl ?_
            refine g_is3 h 114 (Nat.le_of_ble_eq_true rfl) rfl dX9_ways_113 rfl ?_
            refine g_al0 h 115 dX9_ways_114 rfl ?_
            obtain ⟨r5, σ5, hc5, hf⟩ := my_ofb hf
            refine g_callVi h 118 cs_X9_262 rfl lyR_0 (ct_X9_triesNext w hc5) rfl rfl (Nat.le_of_ble_eq_true rfl) ⟨Nat.le_of_ble_eq_true rfl, Nat.le_of_ble_eq_true rfl⟩ dX9_ways_115 rfl ?_
            refine g_is5 h 120 (Nat.le_of_ble_eq_true rfl) rfl dX9_ways_118 rfl ?_
            refine g_goto h 40 dX9_ways_120 (by decide) ?_
            exact g_weak (ih _ _ _ _ _ _ hf) (w_s (w_s (w_s (w_s (w_s (w_s (w_n w_0)))))))
          · have hf := my_ifT hc hf
            refine g_il2 h 77 dX9_ways_76 rfl ?_
            refine g_iflt h 97 80 dX9_ways_77 (by decide) rfl (fun hc => ?_) (fun hc => ?_)
            · have hf := my_ifT hc hf
              refine g_il4 h 99 dX9_ways_97 rfl ?_
              refine g_is4 h 101 (Nat.le_of_ble_eq_true rfl) rfl dX9_ways_99 rfl ?_
              refine g_il3 h 102 dX9_ways_101 rfl ?_
              refine g_il6 h 104 dX9_ways_102 rfl ?_
              refine g_ifeq_sel h 111 112 dX9_ways_104 (by decide) dX9_ways_107 ic_1 dX9_ways_108 (by decide) dX9_ways_111 ic_0 rfl ?_
              refine g_iadd h 113 dX9_ways_112 rfl ?_
              refine g_is3 h 114 (Nat.le_of_ble_eq_true rfl) rfl dX9_ways_113 rfl ?_
              refine g_al0 h 115 dX9_ways_114 rfl ?_
              obtain ⟨r6, σ6, hc6, hf⟩ := my_ofb hf
              refine g_callVi h 118 cs_X9_262 rfl lyR_0 (ct_X9_triesNext w hc6) rfl rfl (Nat.le_of_ble_eq_true rfl) ⟨Nat.le_of_ble_eq_true rfl, Nat.le_of_ble_eq_true rfl⟩ dX9_ways_115 rfl ?_
              refine g_is5 h 120 (Nat.le_of_ble_eq_true rfl) rfl dX9_ways_118 rfl ?_
              refine g_goto h 40 dX9_ways_120 (by decide) ?_
              exact g_weak (ih _ _ _ _ _ _ hf) (w_s (w_s (w_s (w_s (w_s (w_s (w_n w_0)))))))
            · have hf := my_ifF hc hf
              refine g_al0 h 81 dX9_ways_80 rfl ?_
              refine g_il2 h 82 dX9_ways_81 rfl ?_
              obtain ⟨r7, σ7, hc7, hf⟩ := my_ofb hf
              refine g_callVi h 85 cs_X9_172 rfl lyR_0 (ct_X9_noBeat w hc7) rfl rfl (Nat.le_of_ble_eq_true rfl) ⟨Nat.le_of_ble_eq_true rfl, Nat.le_of_ble_eq_true rfl⟩ dX9_ways_82 rfl ?_
              refine g_ifne h 97 88 dX9_ways_85 (by decide) rfl (fun hc => ?_) (fun hc => ?_)
              · have hf := my_ifF hc hf
                refine g_il4 h 99 dX9_ways_97 rfl ?_
                refine g_is4 h 101 (Nat.le_of_ble_eq_true rfl) rfl dX9_ways_99 rfl ?_
                refine g_il3 h 102 dX9_ways_101 rfl ?_
                refine g_il6 h 104 dX9_ways_102 rfl ?_
                refine g_ifeq_sel h 111 112 dX9_ways_104 (by decide) dX9_ways_107 ic_1 dX9_ways_108 (by decide) dX9_ways_111 ic_0 rfl ?_
                refine g_iadd h 113 dX9_ways_112 rfl ?_
                refine g_is3 h 114 (Nat.le_of_ble_eq_true rfl) rfl dX9_ways_113 rfl ?_
                refine g_al0 h 115 dX9_ways_114 rfl ?_
                obtain ⟨r8, σ8, hc8, hf⟩ := my_ofb hf
                refine g_callVi h 118 cs_X9_262 rfl lyR_0 (ct_X9_triesNext w hc8) rfl rfl (Nat.le_of_ble_eq_true rfl) ⟨Nat.le_of_ble_eq_true rfl, Nat.le_of_ble_eq_true rfl⟩ dX9_ways_115 rfl ?_
                refine g_is5 h 120 (Nat.le_of_ble_eq_true rfl) rfl dX9_ways_118 rfl ?_
                refine g_goto h 40 dX9_ways_120 (by decide) ?_
                exact g_weak (ih _ _ _ _ _ _ hf) (w_s (w_s (w_s (w_s (w_s (w_s (w_n w_0)))))))
              · have hf := my_ifT hc hf
                refine g_al0 h 89 dX9_ways_88 rfl ?_
                refine g_geta h 92 fF_X9_22_X9 lyR_0 rfl dX9_ways_89 rfl ?_
                refine g_il2 h 93 dX9_ways_92 rfl ?_
                obtain ⟨hq9, hf⟩ := my_chk hf
                refine g_iald h 94 dX9_ways_93 rfl hq9 ?_
                refine g_goto h 99 dX9_ways_94 (by decide) ?_
                refine g_is4 h 101 (Nat.le_of_ble_eq_true rfl) rfl dX9_ways_99 rfl ?_
                refine g_il3 h 102 dX9_ways_101 rfl ?_
                refine g_il6 h 104 dX9_ways_102 rfl ?_
                refine g_ifeq_sel h 111 112 dX9_ways_104 (by decide) dX9_ways_107 ic_1 dX9_ways_108 (by decide) dX9_ways_111 ic_0 rfl ?_
                refine g_iadd h 113 dX9_ways_112 rfl ?_
                refine g_is3 h 114 (Nat.le_of_ble_eq_true rfl) rfl dX9_ways_113 rfl ?_
                refine g_al0 h 115 dX9_ways_114 rfl ?_
                obtain ⟨r10, σ10, hc10, hf⟩ := my_ofb hf
                refine g_callVi h 118 cs_X9_262 rfl lyR_0 (ct_X9_triesNext w hc10) rfl rfl (Nat.le_of_ble_eq_true rfl) ⟨Nat.le_of_ble_eq_true rfl, Nat.le_of_ble_eq_true rfl⟩ dX9_ways_115 rfl ?_
                refine g_is5 h 120 (Nat.le_of_ble_eq_true rfl) rfl dX9_ways_118 rfl ?_
                refine g_goto h 40 dX9_ways_120 (by decide) ?_
                exact g_weak (ih _ _ _ _ _ _ hf) (w_s (w_s (w_s (w_s (w_s (w_s (w_n w_0)))))))
set_option maxRecDepth 100000 in
set_option maxHeartbeats 4000000 in
theorem ct_X9_ways (w : my_V) {σ : my_M} {x1 : Int32} {x2 : Int32} {r : Int32} {τ : my_M} (hf : f_X9_ways σ x1 x2 = some (r, τ)) : Ct w layR mX9_ways 4 [.ref (w.2.2.2 0), .int x1, .int x2] σ (some (.int r)) τ := by
  refine my_met RX9 [some (.ref (w.2.2.2 0)), some (.int x1), some (.int x2), none, none, none, none] 4 (by decide) rfl (Nat.le_of_ble_eq_true rfl) rfl (fun X h => ?_)
  unfold f_X9_ways at hf
  refine g_al0 h 1 dX9_ways_0 rfl ?_
  refine g_il1 h 2 dX9_ways_1 rfl ?_
  obtain ⟨r1, σ1, hc1, hf⟩ := my_ofb hf
  refine g_callVi h 5 cs_X9_165 rfl lyR_0 (ct_X9_noCaller w hc1) rfl rfl (Nat.le_of_ble_eq_true rfl) ⟨Nat.le_of_ble_eq_true rfl, Nat.le_of_ble_eq_true rfl⟩ dX9_ways_2 rfl ?_
  refine g_ifeq h 10 8 dX9_ways_5 (by decide) rfl (fun hc => ?_) (fun hc => ?_)
  · have hf := my_ifT hc hf
    refine g_il2 h 11 dX9_ways_10 rfl ?_
    refine g_i2l h 12 dX9_ways_11 rfl ?_
    refine g_ldc2 h 15 tw_kl_X9_178 dX9_ways_12 rfl ?_
    refine g_ldc2 h 18 tw_kl_X9_186 dX9_ways_15 rfl ?_
    obtain ⟨r2, σ2, hc2, hf⟩ := my_ofb hf
    refine g_callSi h 21 cs_X9_83 (ct_X9_in w hc2) rfl rfl (Nat.le_of_ble_eq_true rfl) ⟨Nat.le_of_ble_eq_true rfl, Nat.le_of_ble_eq_true rfl⟩ dX9_ways_18 rfl ?_
    refine g_ifne h 27 24 dX9_ways_21 (by decide) rfl (fun hc => ?_) (fun hc => ?_)
    · have hf := my_ifF hc hf
      refine g_iconst h 28 ic_0 dX9_ways_27 rfl ?_
      refine g_is3 h 29 (Nat.le_of_ble_eq_true rfl) rfl dX9_ways_28 rfl ?_
      refine g_bipush h 31 bp_m9 dX9_ways_29 rfl ?_
      refine g_is4 h 33 (Nat.le_of_ble_eq_true rfl) rfl dX9_ways_31 rfl ?_
      refine g_al0 h 34 dX9_ways_33 rfl ?_
      obtain ⟨r3, σ3, hc3, hf⟩ := my_ofb hf
      refine g_callVv h 37 cs_X9_259 rfl lyR_0 (ct_X9_triesFirst w hc3) rfl rfl (Nat.le_of_ble_eq_true rfl) ⟨Nat.le_of_ble_eq_true rfl, Nat.le_of_ble_eq_true rfl⟩ dX9_ways_34 rfl ?_
      refine g_iconst h 38 ic_1 dX9_ways_37 rfl ?_
      refine g_is5 h 40 (Nat.le_of_ble_eq_true rfl) rfl dX9_ways_38 rfl ?_
      exact g_weak ((lp_X9_ways w h my_NF) _ _ _ _ _ _ hf) (w_s (w_s (w_s (w_s (w_s (w_s (w_s w_0)))))))
    · have hf := my_ifT hc hf
      refine g_bipush h 26 bp_m2 dX9_ways_24 rfl ?_
      exact g_iret h dX9_ways_26 (my_r1 hf) (my_r2 hf)
  · have hf := my_ifF hc hf
    refine g_iconst h 9 ic_m1 dX9_ways_8 rfl ?_
    exact g_iret h dX9_ways_9 (my_r1 hf) (my_r2 hf)
