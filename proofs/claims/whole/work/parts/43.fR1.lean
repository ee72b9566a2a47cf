def b_X9_dayOf_0 (k0 : my_M → Int32 → Int32 → Int32 → Int32 → Int32 → Option (Int32 × my_M)) (σ : my_M) (x1 : Int32) (x2 : Int32) (x3 : Int32) (x4 : Int32) (x5 : Int32) : Option (Int32 × my_M) :=
(if x2 ≤ x5 then
(if x3 = 1 then
some (x4, σ)
else
(if x4 < 0 then
(if x3 < 10 then
(if x3 = 0 then
some ((σ 0 11), σ)
else
(if x3 = 2 then
(my_bnd (f_X9_manyThatSound σ) fun r3 σ3 =>
some (r3, σ3))
else
(if x3 = 3 then
(my_bnd (f_X9_lastThatSounds σ) fun r2 σ2 =>
some (r2, σ2))
else
(my_bnd (f_X9_firstOfTwo σ) fun r1 σ1 =>
some (r1, σ1)))))
else
(my_bnd (f_X9_noCaller σ (x3 - 10)) fun r4 σ4 =>
(if r4 = 0 then
(my_bnd (f_X9_loudestOf σ4 (x3 - 10)) fun r5 σ5 =>
(my_bnd (f_X9_listensTo σ5 (x3 - 10) r5) fun r6 σ6 =>
some (r6, σ6)))
else
some ((-9), σ4))))
else
some (((-100) - x4), σ)))
else
(if 0 ≤ x4 then
(if x3 = 1 then
some (x4, σ)
else
(if x4 < 0 then
(if x3 < 10 then
(if x3 = 0 then
some ((σ 0 11), σ)
else
(if x3 = 2 then
(my_bnd (f_X9_manyThatSound σ) fun r9 σ9 =>
some (r9, σ9))
else
(if x3 = 3 then
(my_bnd (f_X9_lastThatSounds σ) fun r8 σ8 =>
some (r8, σ8))
else
(my_bnd (f_X9_firstOfTwo σ) fun r7 σ7 =>
some (r7, σ7)))))
else
(my_bnd (f_X9_noCaller σ (x3 - 10)) fun r10 σ10 =>
(if r10 = 0 then
(my_bnd (f_X9_loudestOf σ10 (x3 - 10)) fun r11 σ11 =>
(my_bnd (f_X9_listensTo σ11 (x3 - 10) r11) fun r12 σ12 =>
some (r12, σ12)))
else
some ((-9), σ10))))
else
some (((-100) - x4), σ)))
else
(if my_ix (x1 + (2 * x5)) (my_len layR 19) then
(if my_ix ((x1 + (2 * x5)) + 1) (my_len layR 19) then
(my_bnd (f_X9_doesPair σ (σ 19 (Int32.toNatClampNeg (x1 + (2 * x5)))) (σ 19 (Int32.toNatClampNeg ((x1 + (2 * x5)) + 1)))) fun r15 σ15 =>
(if r15 = 0 then
k0 σ15 x1 x2 x3 x5 ((x5 + 1))
else
k0 σ15 x1 x2 x3 ((-9)) ((x5 + 1))))
else none)
else none)))
def g_X9_dayOf : Nat → my_M → Int32 → Int32 → Int32 → Int32 → Int32 → Option (Int32 × my_M)
  | 0 => fun _ _ _ _ _ _ => none
  | n + 1 => b_X9_dayOf_0 (g_X9_dayOf n)
def f_X9_dayOf (σ : my_M) (x1 : Int32) (x2 : Int32) (x3 : Int32) : Option (Int32 × my_M) :=
(g_X9_dayOf my_NF) σ x1 x2 x3 ((-9)) 0
set_option maxRecDepth 100000 in
set_option maxHeartbeats 4000000 in
theorem lp_X9_dayOf (w : my_V) {X : my_X} {r : Int32} {τ : my_M} (h : my_OK X w layR cX9_dayOf RX9 6 (some .int)) : ∀ n : Nat, (∀ (σ : my_M) (x1 : Int32) (x2 : Int32) (x3 : Int32) (x4 : Int32) (x5 : Int32), (g_X9_dayOf n) σ x1 x2 x3 x4 x5 = some (r, τ) → Go X w layR 6 6 (some (.int r)) τ σ 7 [some (.ref (w.2.2.2 0)), some (.int x1), some (.int x2), some (.int x3), some (.int x4), some (.int x5)] []) := by
  intro n
  induction n with
  | zero => exact fun _ _ _ _ _ _ hf => (my_nn hf).elim
  | succ n ih =>
    intro σ x1 x2 x3 x4 x5 hf
    replace hf : b_X9_dayOf_0 (g_X9_dayOf n) σ x1 x2 x3 x4 x5 = some (r, τ) := hf
    unfold b_X9_dayOf_0 at hf
    refine g_il5 h 9 dX9_dayOf_7 rfl ?_
    refine g_il2 h 10 dX9_dayOf_9 rfl ?_
    refine g_icge h 64 13 dX9_dayOf_10 (by decide) rfl (fun hc => ?_) (fun hc => ?_)
    · have hf := my_ifT hc hf
      refine g_il3 h 65 dX9_dayOf_64 rfl ?_
      refine g_iconst h 66 ic_1 dX9_dayOf_65 rfl ?_
      refine g_icne h 72 69 dX9_dayOf_66 (by decide) rfl (fun hc => ?_) (fun hc => ?_)
      · have hf := my_ifF hc hf
        refine g_il4 h 74 dX9_dayOf_72 rfl ?_
        refine g_iflt h 83 77 dX9_dayOf_74 (by decide) rfl (fun hc => ?_) (fun hc => ?_)
        · have hf := my_ifT hc hf
          refine g_il3 h 84 dX9_dayOf_83 rfl ?_
          refine g_bipush h 86 bp_10 dX9_dayOf_84 rfl ?_
          refine g_iclt h 122 89 dX9_dayOf_86 (by decide) rfl (fun hc => ?_) (fun hc => ?_)
          · have hf := my_ifT hc hf
            refine g_il3 h 123 dX9_dayOf_122 rfl ?_
            refine g_ifne h 133 126 dX9_dayOf_123 (by decide) rfl (fun hc => ?_) (fun hc => ?_)
            · have hf := my_ifF hc hf
              refine g_il3 h 134 dX9_dayOf_133 rfl ?_
              refine g_iconst h 135 ic_2 dX9_dayOf_134 rfl ?_
              refine g_icne h 145 138 dX9_dayOf_135 (by decide) rfl (fun hc => ?_) (fun hc => ?_)
              · have hf := my_ifF hc hf
                refine g_il3 h 146 dX9_dayOf_145 rfl ?_
                refine g_iconst h 147 ic_3 dX9_dayOf_146 rfl ?_
                refine g_icne h 157 150 dX9_dayOf_147 (by decide) rfl (fun hc => ?_) (fun hc => ?_)
                · have hf := my_ifF hc hf
                  refine g_al0 h 158 dX9_dayOf_157 rfl ?_
                  obtain ⟨r1, σ1, hc1, hf⟩ := my_ofb hf
                  refine g_callVi h 161 cs_X9_231 rfl lyR_0 (ct_X9_firstOfTwo w hc1) rfl rfl (Nat.le_of_ble_eq_true rfl) ⟨Nat.le_of_ble_eq_true rfl, Nat.le_of_ble_eq_true rfl⟩ dX9_dayOf_158 rfl ?_
                  exact g_iret h dX9_dayOf_161 (my_r1 hf) (my_r2 hf)
                · have hf := my_ifT hc hf
                  refine g_al0 h 151 dX9_dayOf_150 rfl ?_
                  obtain ⟨r2, σ2, hc2, hf⟩ := my_ofb hf
                  refine g_callVi h 154 cs_X9_228 rfl lyR_0 (ct_X9_lastThatSounds w hc2) rfl rfl (Nat.le_of_ble_eq_true rfl) ⟨Nat.le_of_ble_eq_true rfl, Nat.le_of_ble_eq_true rfl⟩ dX9_dayOf_151 rfl ?_
                  refine g_goto h 161 dX9_dayOf_154 (by decide) ?_
                  exact g_iret h dX9_dayOf_161 (my_r1 hf) (my_r2 hf)
              · have hf := my_ifT hc hf
                refine g_al0 h 139 dX9_dayOf_138 rfl ?_
                obtain ⟨r3, σ3, hc3, hf⟩ := my_ofb hf
                refine g_callVi h 142 cs_X9_224 rfl lyR_0 (ct_X9_manyThatSound w hc3) rfl rfl (Nat.le_of_ble_eq_true rfl) ⟨Nat.le_of_ble_eq_true rfl, Nat.le_of_ble_eq_true rfl⟩ dX9_dayOf_139 rfl ?_
                refine g_goto h 161 dX9_dayOf_142 (by decide) ?_
                exact g_iret h dX9_dayOf_161 (my_r1 hf) (my_r2 hf)
            · have hf := my_ifT hc hf
              refine g_al0 h 127 dX9_dayOf_126 rfl ?_
              refine g_geti h 130 fF_X9_139_X9 lyR_0 rfl dX9_dayOf_127 rfl ?_
              refine g_goto h 161 dX9_dayOf_130 (by decide) ?_
              exact g_iret h dX9_dayOf_161 (my_r1 hf) (my_r2 hf)
          · have hf := my_ifF hc hf
            refine g_al0 h 90 dX9_dayOf_89 rfl ?_
            refine g_il3 h 91 dX9_dayOf_90 rfl ?_
            refine g_bipush h 93 bp_10 dX9_dayOf_91 rfl ?_
            refine g_isub h 94 dX9_dayOf_93 rfl ?_
            obtain ⟨r4, σ4, hc4, hf⟩ := my_ofb hf
            refine g_callVi h 97 cs_X9_165 rfl lyR_0 (ct_X9_noCaller w hc4) rfl rfl (Nat.le_of_ble_eq_true rfl) ⟨Nat.le_of_ble_eq_true rfl, Nat.le_of_ble_eq_true rfl⟩ dX9_dayOf_94 rfl ?_
            refine g_ifeq h 105 100 dX9_dayOf_97 (by decide) rfl (fun hc => ?_) (fun hc => ?_)
            · have hf := my_ifT hc hf
              refine g_al0 h 106 dX9_dayOf_105 rfl ?_
              refine g_il3 h 107 dX9_dayOf_106 rfl ?_
              refine g_bipush h 109 bp_10 dX9_dayOf_107 rfl ?_
              refine g_isub h 110 dX9_dayOf_109 rfl ?_
              refine g_al0 h 111 dX9_dayOf_110 rfl ?_
              refine g_il3 h 112 dX9_dayOf_111 rfl ?_
              refine g_bipush h 114 bp_10 dX9_dayOf_112 rfl ?_
              refine g_isub h 115 dX9_dayOf_114 rfl ?_
              obtain ⟨r5, σ5, hc5, hf⟩ := my_ofb hf
              refine g_callVi h 118 cs_X9_214 rfl lyR_0 (ct_X9_loudestOf w hc5) rfl rfl (Nat.le_of_ble_eq_true rfl) ⟨Nat.le_of_ble_eq_true rfl, Nat.le_of_ble_eq_true rfl⟩ dX9_dayOf_115 rfl ?_
              obtain ⟨r6, σ6, hc6, hf⟩ := my_ofb hf
              refine g_callVi h 121 cs_X9_211 rfl lyR_0 (ct_X9_listensTo w hc6) rfl rfl (Nat.le_of_ble_eq_true rfl) ⟨Nat.le_of_ble_eq_true rfl, Nat.le_of_ble_eq_true rfl⟩ dX9_dayOf_118 rfl ?_
              exact g_iret h dX9_dayOf_121 (my_r1 hf) (my_r2 hf)
            · have hf := my_ifF hc hf
              refine g_bipush h 102 bp_m9 dX9_dayOf_100 rfl ?_
              refine g_goto h 121 dX9_dayOf_102 (by decide) ?_
              exact g_iret h dX9_dayOf_121 (my_r1 hf) (my_r2 hf)
        · have hf := my_ifF hc hf
          refine g_bipush h 79 bp_m100 dX9_dayOf_77 rfl ?_
          refine g_il4 h 81 dX9_dayOf_79 rfl ?_
          refine g_isub h 82 dX9_dayOf_81 rfl ?_
          exact g_iret h dX9_dayOf_82 (my_r1 hf) (my_r2 hf)
      · have hf := my_ifT hc hf
        refine g_il4 h 71 dX9_dayOf_69 rfl ?_
        exact g_iret h dX9_dayOf_71 (my_r1 hf) (my_r2 hf)
    · have hf := my_ifF hc hf
      refine g_il4 h 15 dX9_dayOf_13 rfl ?_
      refine g_ifge h 64 18 dX9_dayOf_15 (by decide) rfl (fun hc => ?_) (fun hc => ?_)
      · have hf := my_ifT hc hf
        refine g_il3 h 65 dX9_dayOf_64 rfl ?_
        refine g_iconst h 66 ic_1 dX9_dayOf_65 rfl ?_
        refine g_icne h 72 69 dX9_dayOf_66 (by decide) rfl (fun hc => ?_) (fun hc => ?_)
        · have hf := my_ifF hc hf
          refine g_il4 h 74 dX9_dayOf_72 rfl ?_
          refine g_iflt h 83 77 dX9_dayOf_74 (by decide) rfl (fun hc => ?_) (fun hc => ?_)
          · have hf := my_ifT hc hf
            refine g_il3 h 84 dX9_dayOf_83 rfl ?_
            refine g_bipush h 86 bp_10 dX9_dayOf_84 rfl ?_
            refine g_iclt h 122 89 dX9_dayOf_86 (by decide) rfl (fun hc => ?_) (fun hc => ?_)
            · have hf := my_ifT hc hf
              refine g_il3 h 123 dX9_dayOf_122 rfl ?_
              refine g_ifne h 133 126 dX9_dayOf_123 (by decide) rfl (fun hc => ?_) (fun hc => ?_)
              · have hf := my_ifF hc hf
                refine g_il3 h 134 dX9_dayOf_133 rfl ?_
                refine g_iconst h 135 ic_2 dX9_dayOf_134 rfl ?_
                refine g_icne h 145 138 dX9_dayOf_135 (by decide) rfl (fun hc => ?_) (fun hc => ?_)
                · have hf := my_ifF hc hf
                  refine g_il3 h 146 dX9_dayOf_145 rfl ?_
                  refine g_iconst h 147 ic_3 dX9_dayOf_146 rfl ?_
                  refine g_icne h 157 150 dX9_dayOf_147 (by decide) rfl (fun hc => ?_) (fun hc => ?_)
                  · have hf := my_ifF hc hf
                    refine g_al0 h 158 dX9_dayOf_157 rfl ?_
                    obtain ⟨r7, σ7, hc7, hf⟩ := my_ofb hf
                    refine g_callVi h 161 cs_X9_231 rfl lyR_0 (ct_X9_firstOfTwo w hc7) rfl rfl (Nat.le_of_ble_eq_true rfl) ⟨Nat.le_of_ble_eq_true rfl, Nat.le_of_ble_eq_true rfl⟩ dX9_dayOf_158 rfl ?_
                    exact g_iret h dX9_dayOf_161 (my_r1 hf) (my_r2 hf)
                  · have hf := my_ifT hc hf
                    refine g_al0 h 151 dX9_dayOf_150 rfl ?_
                    obtain ⟨r8, σ8, hc8, hf⟩ := my_ofb hf
                    refine g_callVi h 154 cs_X9_228 rfl lyR_0 (ct_X9_lastThatSounds w hc8) rfl rfl (Nat.le_of_ble_eq_true rfl) ⟨Nat.le_of_ble_eq_true rfl, Nat.le_of_ble_eq_true rfl⟩ dX9_dayOf_151 rfl ?_
                    refine g_goto h 161 dX9_dayOf_154 (by decide) ?_
                    exact g_iret h dX9_dayOf_161 (my_r1 hf) (my_r2 hf)
                · have hf := my_ifT hc hf
                  refine g_al0 h 139 dX9_dayOf_138 rfl ?_
                  obtain ⟨r9, σ9, hc9, hf⟩ := my_ofb hf
                  refine g_callVi h 142 cs_X9_224 rfl lyR_0 (ct_X9_manyThatSound w hc9) rfl rfl (Nat.le_of_ble_eq_true rfl) ⟨Nat.le_of_ble_eq_true rfl, Nat.le_of_ble_eq_true rfl⟩ dX9_dayOf_139 rfl ?_
                  refine g_goto h 161 dX9_dayOf_142 (by decide) ?_
                  exact g_iret h dX9_dayOf_161 (my_r1 hf) (my_r2 hf)
              · have hf := my_ifT hc hf
                refine g_al0 h 127 dX9_dayOf_126 rfl ?_
                refine g_geti h 130 fF_X9_139_X9 lyR_0 rfl dX9_dayOf_127 rfl ?_
                refine g_goto h 161 dX9_dayOf_130 (by decide) ?_
                exact g_iret h dX9_dayOf_161 (my_r1 hf) (my_r2 hf)
            · have hf := my_ifF hc hf
              refine g_al0 h 90 dX9_dayOf_89 rfl ?_
              refine g_il3 h 91 dX9_dayOf_90 rfl ?_
              refine g_bipush h 93 bp_10 dX9_dayOf_91 rfl ?_
              refine g_isub h 94 dX9_dayOf_93 rfl ?_
              obtain ⟨r10, σ10, hc10, hf⟩ := my_ofb hf
              refine g_callVi h 97 cs_X9_165 rfl lyR_0 (ct_X9_noCaller w hc10) rfl rfl (Nat.le_of_ble_eq_true rfl) ⟨Nat.le_of_ble_eq_true rfl, Nat.le_of_ble_eq_true rfl⟩ dX9_dayOf_94 rfl ?_
              refine g_ifeq h 105 100 dX9_dayOf_97 (by decide) rfl (fun hc => ?_) (fun hc => ?_)
              · have hf := my_ifT hc hf
                refine g_al0 h 106 dX9_dayOf_105 rfl ?_
                refine g_il3 h 107 dX9_dayOf_106 rfl ?_
                refine g_bipush h 109 bp_10 dX9_dayOf_107 rfl ?_
                refine g_isub h 110 dX9_dayOf_109 rfl ?_
                refine g_al0 h 111 dX9_dayOf_110 rfl ?_
                refine g_il3 h 112 dX9_dayOf_111 rfl ?_
                refine g_bipush h 114 bp_10 dX9_dayOf_112 rfl ?_
                refine g_isub h 115 dX9_dayOf_114 rfl ?_
                obtain ⟨r11, σ11, hc11, hf⟩ := my_ofb hf
                refine g_callVi h 118 cs_X9_214 rfl lyR_0 (ct_X9_loudestOf w hc11) rfl rfl (Nat.le_of_ble_eq_true rfl) ⟨Nat.le_of_ble_eq_true rfl, Nat.le_of_ble_eq_true rfl⟩ dX9_dayOf_115 rfl ?_
                obtain ⟨r12, σ12, hc12, hf⟩ := my_ofb hf
                refine g_callVi h 121 cs_X9_211 rfl lyR_0 (ct_X9_listensTo w hc12) rfl rfl (Nat.le_of_ble_eq_true rfl) ⟨Nat.le_of_ble_eq_true rfl, Nat.le_of_ble_eq_true rfl⟩ dX9_dayOf_118 rfl ?_
                exact g_iret h dX9_dayOf_121 (my_r1 hf) (my_r2 hf)
              · have hf := my_ifF hc hf
                refine g_bipush h 102 bp_m9 dX9_dayOf_100 rfl ?_
                refine g_goto h 121 dX9_dayOf_102 (by decide) ?_
                exact g_iret h dX9_dayOf_121 (my_r1 hf) (my_r2 hf)
          · have hf := my_ifF hc hf
            refine g_bipush h 79 bp_m100 dX9_dayOf_77 rfl ?_
            refine g_il4 h 81 dX9_dayOf_79 rfl ?_
            refine g_isub h 82 dX9_dayOf_81 rfl ?_
            exact g_iret h dX9_dayOf_82 (my_r1 hf) (my_r2 hf)
        · have hf := my_ifT hc hf
          refine g_il4 h 71 dX9_dayOf_69 rfl ?_
          exact g_iret h dX9_dayOf_71 (my_r1 hf) (my_r2 hf)
      · have hf := my_ifF hc hf
        refine g_al0 h 19 dX9_dayOf_18 rfl ?_
        refine g_al0 h 20 dX9_dayOf_19 rfl ?_
        refine g_geta h 23 fF_X9_64_X9 lyR_0 rfl dX9_dayOf_20 rfl ?_
        refine g_il1 h 24 dX9_dayOf_23 rfl ?_
        refine g_iconst h 25 ic_2 dX9_dayOf_24 rfl ?_
        refine g_il5 h 27 dX9_dayOf_25 rfl ?_
        refine g_imul h 28 dX9_dayOf_27 rfl ?_
        refine g_iadd h 29 dX9_dayOf_28 rfl ?_
        obtain ⟨hq13, hf⟩ := my_chk hf
        refine g_iald h 30 dX9_dayOf_29 rfl hq13 ?_
        refine g_al0 h 31 dX9_dayOf_30 rfl ?_
        refine g_geta h 34 fF_X9_64_X9 lyR_0 rfl dX9_dayOf_31 rfl ?_
        refine g_il1 h 35 dX9_dayOf_34 rfl ?_
        refine g_iconst h 36 ic_2 dX9_dayOf_35 rfl ?_
        refine g_il5 h 38 dX9_dayOf_36 rfl ?_
        refine g_imul h 39 dX9_dayOf_38 rfl ?_
        refine g_iadd h 40 dX9_dayOf_39 rfl ?_
        refine g_iconst h 41 ic_1 dX9_dayOf_40 rfl ?_
        refine g_iadd h 42 dX9_dayOf_41 rfl ?_
        obtain ⟨hq14, hf⟩ := my_chk hf
        refine g_iald h 43 dX9_dayOf_42 rfl hq14 ?_
        obtain ⟨r15, σ15, hc15, hf⟩ := my_ofb hf
        refine g_callVi h 46 cs_X9_221 rfl lyR_0 (ct_X9_doesPair w hc15) rfl rfl (Nat.le_of_ble_eq_true rfl) ⟨Nat.le_of_ble_eq_true rfl, Nat.le_of_ble_eq_true rfl⟩ dX9_dayOf_43 rfl ?_
        refine g_ifeq h 54 49 dX9_dayOf_46 (by decide) rfl (fun hc => ?_) (fun hc => ?_)
        · have hf := my_ifT hc hf
          refine g_il5 h 56 dX9_dayOf_54 rfl ?_
          refine g_is4 h 58 (Nat.le_of_ble_eq_true rfl) rfl dX9_dayOf_56 rfl ?_
          refine g_inc5 h 61 (my_inc ic_1 _) (Nat.le_of_ble_eq_true rfl) rfl dX9_dayOf_58 rfl ?_
          refine g_goto h 7 dX9_dayOf_61 (by decide) ?_
          exact g_weak (ih _ _ _ _ _ _ hf) (w_s (w_s (w_s (w_s (w_s (w_s w_0))))))
        · have hf := my_ifF hc hf
          refine g_bipush h 51 bp_m9 dX9_dayOf_49 rfl ?_
          refine g_goto h 56 dX9_dayOf_51 (by decide) ?_
          refine g_is4 h 58 (Nat.le_of_ble_eq_true rfl) rfl dX9_dayOf_56 rfl ?_
          refine g_inc5 h 61 (my_inc ic_1 _) (Nat.le_of_ble_eq_true rfl) rfl dX9_dayOf_58 rfl ?_
          refine g_goto h 7 dX9_dayOf_61 (by decide) ?_
          exact g_weak (ih _ _ _ _ _ _ hf) (w_s (w_s (w_s (w_s (w_s (w_s w_0))))))
set_option maxRecDepth 100000 in
set_option maxHeartbeats 4000000 in
theorem ct_X9_dayOf (w : my_V) {σ : my_M} {x1 : Int32} {x2 : Int32} {x3 : Int32} {r : Int32} {τ : my_M} (hf : f_X9_dayOf σ x1 x2 x3 = some (r, τ)) : Ct w layR mX9_dayOf 6 [.ref (w.2.2.2 0), .int x1, .int x2, .int x3] σ (some (.int r)) τ := by
  refine my_met RX9 [some (.ref (w.2.2.2 0)), some (.int x1), some (.int x2), some (.int x3), none, none] 2 (by decide) rfl (Nat.le_of_ble_eq_true rfl) rfl (fun X h => ?_)
  unfold f_X9_dayOf at hf
  refine g_bipush h 2 bp_m9 dX9_dayOf_0 rfl ?_
  refine g_is4 h 4 (Nat.le_of_ble_eq_true rfl) rfl dX9_dayOf_2 rfl ?_
  refine g_iconst h 5 ic_0 dX9_dayOf_4 rfl ?_
  refine g_is5 h 7 (Nat.le_of_ble_eq_true rfl) rfl dX9_dayOf_5 rfl ?_
  exact g_weak ((lp_X9_dayOf w h my_NF) _ _ _ _ _ _ hf) (w_s (w_s (w_s (w_s (w_s (w_s w_0))))))
def f_X9_isAsTold (σ : my_M) (x0 : Int32) (x1 : Int32) : Option (Int32 × my_M) :=
(if x1 = 9 then
(my_bnd (f_X9_in σ (Int32.toInt64 x0) 0 8) fun r3 σ3 =>
(if my_b r3 then some (r3, σ3) else none))
else
(my_bnd (f_X9_in σ (Int32.toInt64 x1) 0 3) fun r1 σ1 =>
(if r1 = 0 then
some (0, σ1)
else
(my_bnd (f_X9_in σ1 (Int32.toInt64 x0) 0 20) fun r2 σ2 =>
(if my_b (if r2 = 0 then 0 else 1 : Int32) then some ((if r2 = 0 then 0 else 1 : Int32), σ2) else none)))))
set_option maxRecDepth 100000 in
set_option maxHeartbeats 4000000 in
theorem ct_X9_isAsTold (w : my_V) {σ : my_M} {x0 : Int32} {x1 : Int32} {r : Int32} {τ : my_M} (hf : f_X9_isAsTold σ x0 x1 = some (r, τ)) : Ct w layR mX9_isAsTold 2 [.int x0, .int x1] σ (some (.int r)) τ := by
  refine my_met RX9 [some (.int x0), some (.int x1)] 0 (by decide) rfl (Nat.le_of_ble_eq_true rfl) rfl (fun X h => ?_)
  unfold f_X9_isAsTold at hf
  refine g_il1 h 1 dX9_isAsTold_0 rfl ?_
  refine g_bipush h 3 bp_9 dX9_isAsTold_1 rfl ?_
  refine g_icne h 18 6 dX9_isAsTold_3 (by decide) rfl (fun hc => ?_) (fun hc => ?_)
  · have hf := my_ifF hc hf
    refine g_il1 h 19 dX9_isAsTold_18 rfl ?_
    refine g_i2l h 20 dX9_isAsTold_19 rfl ?_
    refine g_lconst h 21 lc_0 dX9_isAsTold_20 rfl ?_
    refine g_ldc2 h 24 tw_kl_X9_219 dX9_isAsTold_21 rfl ?_
    obtain ⟨r1, σ1, hc1, hf⟩ := my_ofb hf
    refine g_callSi h 27 cs_X9_83 (ct_X9_in w hc1) rfl rfl (Nat.le_of_ble_eq_true rfl) ⟨Nat.le_of_ble_eq_true rfl, Nat.le_of_ble_eq_true rfl⟩ dX9_isAsTold_24 rfl ?_
    refine g_ifeq h 46 30 dX9_isAsTold_27 (by decide) rfl (fun hc => ?_) (fun hc => ?_)
    · have hf := my_ifT hc hf
      refine g_iconst h 47 ic_0 dX9_isAsTold_46 rfl ?_
      exact g_zret h dX9_isAsTold_47 (Or.inl rfl) (my_r1 hf) (my_r2 hf)
    · have hf := my_ifF hc hf
      refine g_il0 h 31 dX9_isAsTold_30 rfl ?_
      refine g_i2l h 32 dX9_isAsTold_31 rfl ?_
      refine g_lconst h 33 lc_0 dX9_isAsTold_32 rfl ?_
      refine g_ldc2 h 36 tw_kl_X9_195 dX9_isAsTold_33 rfl ?_
      obtain ⟨r2, σ2, hc2, hf⟩ := my_ofb hf
      refine g_callSi h 39 cs_X9_83 (ct_X9_in w hc2) rfl rfl (Nat.le_of_ble_eq_true rfl) ⟨Nat.le_of_ble_eq_true rfl, Nat.le_of_ble_eq_true rfl⟩ dX9_isAsTold_36 rfl ?_
      refine g_ifeq_sel h 46 47 dX9_isAsTold_39 (by decide) dX9_isAsTold_42 ic_1 dX9_isAsTold_43 (by decide) dX9_isAsTold_46 ic_0 rfl ?_
      obtain ⟨hqz, hf⟩ := my_chk hf
      exact g_zret h dX9_isAsTold_47 hqz (my_r1 hf) (my_r2 hf)
  · have hf := my_ifT hc hf
    refine g_il0 h 7 dX9_isAsTold_6 rfl ?_
    refine g_i2l h 8 dX9_isAsTold_7 rfl ?_
    refine g_lconst h 9 lc_0 dX9_isAsTold_8 rfl ?_
    refine g_ldc2 h 12 tw_kl_X9_217 dX9_isAsTold_9 rfl ?_
    obtain ⟨r3, σ3, hc3, hf⟩ := my_ofb hf
    refine g_callSi h 15 cs_X9_83 (ct_X9_in w hc3) rfl rfl (Nat.le_of_ble_eq_true rfl) ⟨Nat.le_of_ble_eq_true rfl, Nat.le_of_ble_eq_true rfl⟩ dX9_isAsTold_12 rfl ?_
    refine g_goto h 47 dX9_isAsTold_15 (by decide) ?_
    obtain ⟨hqz, hf⟩ := my_chk hf
    exact g_zret h dX9_isAsTold_47 hqz (my_r1 hf) (my_r2 hf)
def b_X9_day_0 (k0 : my_M → Int32 → Int32 → Int32 → Int32 → Option (Int32 × my_M)) (k1 : my_M → Int32 → Int32 → Int32 → Int32 → Option (Int32 × my_M)) (k2 : my_M → Int32 → Int32 → Option (Int32 × my_M)) (σ : my_M) (x4 : Int32) (x5 : Int32) (x7 : Int32) (x8 : Int32) : Option (Int32 × my_M) :=
(if x4 ≤ x8 then
k1 (my_up σ 0 15 (σ 0 11)) x4 x5 x7 0
else
(if my_ix (x7 + (2 * x8)) (my_len layR 19) then
(if my_ix ((x7 + (2 * x8)) + 1) (my_len layR 19) then
(my_bnd (f_X9_isAsTold σ (σ 19 (Int32.toNatClampNeg (x7 + (2 * x8)))) (σ 19 (Int32.toNatClampNeg ((x7 + (2 * x8)) + 1)))) fun r3 σ3 =>
(if r3 = 0 then
(my_bnd (f_X9_refused σ3 (-2)) fun r4 σ4 =>
some (r4, σ4))
else
k0 σ3 x4 x5 x7 ((x8 + 1))))
else none)
else none))
def b_X9_day_1 (k0 : my_M → Int32 → Int32 → Int32 → Int32 → Option (Int32 × my_M)) (k1 : my_M → Int32 → Int32 → Int32 → Int32 → Option (Int32 × my_M)) (k2 : my_M → Int32 → Int32 → Option (Int32 × my_M)) (σ : my_M) (x4 : Int32) (x5 : Int32) (x7 : Int32) (x8 : Int32) : Option (Int32 × my_M) :=
(if 8 ≤ x8 then
(my_bnd (f_X9_dayOf σ x7 x4 x5) fun r1 σ1 =>
k2 (my_up σ1 0 11 (σ1 0 15)) r1 0)
else
(if my_ix x8 (my_len layR 6) then
(if my_ix x8 (my_len layR 9) then
(if my_ix x8 (my_len layR 7) then
(if my_ix x8 (my_len layR 10) then
(if my_ix x8 (my_len layR 8) then
(if my_ix x8 (my_len layR 11) then
k1 (my_up (my_up (my_up σ 9 (Int32.toNatClampNeg x8) (σ 6 (Int32.toNatClampNeg x8))) 10 (Int32.toNatClampNeg x8) ((my_up σ 9 (Int32.toNatClampNeg x8) (σ 6 (Int32.toNatClampNeg x8))) 7 (Int32.toNatClampNeg x8))) 11 (Int32.toNatClampNeg x8) ((my_up (my_up σ 9 (Int32.toNatClampNeg x8) (σ 6 (Int32.toNatClampNeg x8))) 10 (Int32.toNatClampNeg x8) ((my_up σ 9 (Int32.toNatClampNeg x8) (σ 6 (Int32.toNatClampNeg x8))) 7 (Int32.toNatClampNeg x8))) 8 (Int32.toNatClampNeg x8))) x4 x5 x7 ((x8 + 1))
else none)
else none)
else none)
else none)
else none)
else none))
def b_X9_day_2 (k0 : my_M → Int32 → Int32 → Int32 → Int32 → Option (Int32 × my_M)) (k1 : my_M → Int32 → Int32 → Int32 → Int32 → Option (Int32 × my_M)) (k2 : my_M → Int32 → Int32 → Option (Int32 × my_M)) (σ : my_M) (x8 : Int32) (x9 : Int32) : Option (Int32 × my_M) :=
(if 8 ≤ x9 then
(my_bnd (f_X9_refused σ x8) fun r1 σ1 =>
some (r1, σ1))
else
(if my_ix x9 (my_len layR 9) then
(if my_ix x9 (my_len layR 6) then
(if my_ix x9 (my_len layR 10) then
(if my_ix x9 (my_len layR 7) then
(if my_ix x9 (my_len layR 11) then
(if my_ix x9 (my_len layR 8) then
k2 (my_up (my_up (my_up σ 6 (Int32.toNatClampNeg x9) (σ 9 (Int32.toNatClampNeg x9))) 7 (Int32.toNatClampNeg x9) ((my_up σ 6 (Int32.toNatClampNeg x9) (σ 9 (Int32.toNatClampNeg x9))) 10 (Int32.toNatClampNeg x9))) 8 (Int32.toNatClampNeg x9) ((my_up (my_up σ 6 (Int32.toNatClampNeg x9) (σ 9 (Int32.toNatClampNeg x9))) 7 (Int32.toNatClampNeg x9) ((my_up σ 6 (Int32.toNatClampNeg x9) (σ 9 (Int32.toNatClampNeg x9))) 10 (Int32.toNatClampNeg x9))) 11 (Int32.toNatClampNeg x9))) x8 ((x9 + 1))
else none)
else none)
else none)
else none)
else none)
else none))
def g_X9_day : Nat → (my_M → Int32 → Int32 → Int32 → Int32 → Option (Int32 × my_M)) × (my_M → Int32 → Int32 → Int32 → Int32 → Option (Int32 × my_M)) × (my_M → Int32 → Int32 → Option (Int32 × my_M))
  | 0 => (fun _ _ _ _ _ => none, fun _ _ _ _ _ => none, fun _ _ _ => none)
  | n + 1 => (b_X9_day_0 (g_X9_day n).1 (g_X9_day n).2.1 (g_X9_day n).2.2, b_X9_day_1 (g_X9_day n).1 (g_X9_day n).2.1 (g_X9_day n).2.2, b_X9_day_2 (g_X9_day n).1 (g_X9_day n).2.1 (g_X9_day n).2.2)
def f_X9_day (σ : my_M) (x1 : Int32) (x2 : Int32) (x3 : Int32) (x4 : Int32) (x5 : Int32) : Option (Int32 × my_M) :=
(my_bnd (f_X9_noSheet σ x1) fun r1 σ1 =>
(if r1 = 0 then
(my_bnd (f_X9_in σ1 (Int32.toInt64 x2) 0 2) fun r2 σ2 =>
(if r2 = 0 then
(my_bnd (f_X9_refused σ2 (-2)) fun r3 σ3 =>
some (r3, σ3))
else
(my_bnd (f_X9_in σ2 (Int32.toInt64 x4) 0 20) fun r4 σ4 =>
(if r4 = 0 then
(my_bnd (f_X9_refused σ4 (-2)) fun r5 σ5 =>
some (r5, σ5))
else
(my_bnd (f_X9_in σ4 (Int32.toInt64 x5) 0 4) fun r6 σ6 =>
(if r6 = 0 then
(my_bnd (f_X9_in σ6 (Int32.toInt64 x5) 10 13) fun r9 σ9 =>
(if r9 = 0 then
(my_bnd (f_X9_refused σ9 (-2)) fun r12 σ12 =>
some (r12, σ12))
else
(if (σ9 0 1) = 0 then
(my_bnd (f_X9_refused σ9 (-3)) fun r11 σ11 =>
some (r11, σ11))
else
(my_bnd (f_X9_cellsBarred σ9 x1 x2 x3 (2 * (Int32.toInt64 x4))) fun r10 σ10 =>
(if 0 ≤ r10 then
(g_X9_day my_NF).1 σ10 x4 x5 (((60 * x1) + x3)) 0
else
some (r10, σ10))))))
else
(if (σ6 0 1) = 0 then
(my_bnd (f_X9_refused σ6 (-3)) fun r8 σ8 =>
some (r8, σ8))
else
(my_bnd (f_X9_cellsBarred σ6 x1 x2 x3 (2 * (Int32.toInt64 x4))) fun r7 σ7 =>
(if 0 ≤ r7 then
(g_X9_day my_NF).1 σ7 x4 x5 (((60 * x1) + x3)) 0
else
some (r7, σ7))))))))))
else
(my_bnd (f_X9_refused σ1 (-1)) fun r13 σ13 =>
some (r13, σ13))))
set_option maxRecDepth 100000 in
set_option maxHeartbeats 4000000 in
theorem lp_X9_day (w : my_V) {X : my_X} {r : Int32} {τ : my_M} (h : my_OK X w layR cX9_day RX9 10 (some .int)) : ∀ n : Nat, (∀ (σ : my_M) (x4 : Int32) (x5 : Int32) (x7 : Int32) (x8 : Int32), (g_X9_day n).1 σ x4 x5 x7 x8 = some (r, τ) → Go X w layR 7 10 (some (.int r)) τ σ 122 [some (.ref (w.2.2.2 0)), none, none, none, some (.int x4), some (.int x5), none, some (.int x7), some (.int x8), none] []) ∧ (∀ (σ : my_M) (x4 : Int32) (x5 : Int32) (x7 : Int32) (x8 : Int32), (g_X9_day n).2.1 σ x4 x5 x7 x8 = some (r, τ) → Go X w layR 7 10 (some (.int r)) τ σ 185 [some (.ref (w.2.2.2 0)), none, none, none, some (.int x4), some (.int x5), none, some (.int x7), some (.int x8), none] []) ∧ (∀ (σ : my_M) (x8 : Int32) (x9 : Int32), (g_X9_day n).2.2 σ x8 x9 = some (r, τ) → Go X w layR 7 10 (some (.int r)) τ σ 263 [some (.ref (w.2.2.2 0)), none, none, none, none, none, none, none, some (.int x8), some (.int x9)] []) := by
  intro n
  induction n with
  | zero => exact ⟨fun _ _ _ _ _ hf => (my_nn hf).elim, fun _ _ _ _ _ hf => (my_nn hf).elim, fun _ _ _ hf => (my_nn hf).elim⟩
  | succ n ih =>
    refine ⟨?_, ?_, ?_⟩
    · intro σ x4 x5 x7 x8 hf
      replace hf : b_X9_day_0 (g_X9_day n).1 (g_X9_day n).2.1 (g_X9_day n).2.2 σ x4 x5 x7 x8 = some (r, τ) := hf
      unfold b_X9_day_0 at hf
      refine g_il8 h 124 dX9_day_122 rfl ?_
      refine g_il4 h 126 dX9_day_124 rfl ?_
      refine g_icge h 174 129 dX9_day_126 (by decide) rfl (fun hc => ?_) (fun hc => ?_)
      · have hf := my_ifT hc hf
        refine g_al0 h 175 dX9_day_174 rfl ?_
        refine g_al0 h 176 dX9_day_175 rfl ?_
        refine g_geti h 179 fF_X9_139_X9 lyR_0 rfl dX9_day_176 rfl ?_
        refine g_puti h 182 fP_X9_241_X9 lyR_0 rfl dX9_day_179 rfl ?_
        refine g_iconst h 183 ic_0 dX9_day_182 rfl ?_
        refine g_is8 h 185 (Nat.le_of_ble_eq_true rfl) rfl dX9_day_183 rfl ?_
        exact g_weak (ih.2.1 _ _ _ _ _ hf) (w_s (w_s (w_s (w_s (w_s (w_s (w_s (w_s (w_s (w_s w_0))))))))))
      · have hf := my_ifF hc hf
        refine g_al0 h 130 dX9_day_129 rfl ?_
        refine g_geta h 133 fF_X9_64_X9 lyR_0 rfl dX9_day_130 rfl ?_
        refine g_il7 h 135 dX9_day_133 rfl ?_
        refine g_iconst h 136 ic_2 dX9_day_135 rfl ?_
        refine g_il8 h 138 dX9_day_136 rfl ?_
        refine g_imul h 139 dX9_day_138 rfl ?_
        refine g_iadd h 140 dX9_day_139 rfl ?_
        obtain ⟨hq1, hf⟩ := my_chk hf
        refine g_iald h 141 dX9_day_140 rfl hq1 ?_
        refine g_al0 h 142 dX9_day_141 rfl ?_
        refine g_geta h 145 fF_X9_64_X9 lyR_0 rfl dX9_day_142 rfl ?_
        refine g_il7 h 147 dX9_day_145 rfl ?_
        refine g_iconst h 148 ic_2 dX9_day_147 rfl ?_
        refine g_il8 h 150 dX9_day_148 rfl ?_
        refine g_imul h 151 dX9_day_150 rfl ?_
        refine g_iadd h 152 dX9_day_151 rfl ?_
        refine g_iconst h 153 ic_1 dX9_day_152 rfl ?_
        refine g_iadd h 154 dX9_day_153 rfl ?_
        obtain ⟨hq2, hf⟩ := my_chk hf
        refine g_iald h 155 dX9_day_154 rfl hq2 ?_
        obtain ⟨r3, σ3, hc3, hf⟩ := my_ofb hf
        refine g_callSi h 158 cs_X9_238 (ct_X9_isAsTold w hc3) rfl rfl (Nat.le_of_ble_eq_true rfl) ⟨Nat.le_of_ble_eq_true rfl, Nat.le_of_ble_eq_true rfl⟩ dX9_day_155 rfl ?_
        refine g_ifne h 168 161 dX9_day_158 (by decide) rfl (fun hc => ?_) (fun hc => ?_)
        · have hf := my_ifF hc hf
          refine g_inc8 h 171 (my_inc ic_1 _) (Nat.le_of_ble_eq_true rfl) rfl dX9_day_168 rfl ?_
          refine g_goto h 122 dX9_day_171 (by decide) ?_
          exact g_weak (ih.1 _ _ _ _ _ hf) (w_s (w_s (w_s (w_s (w_s (w_s (w_s (w_s (w_s (w_s w_0))))))))))
        · have hf := my_ifT hc hf
          refine g_al0 h 162 dX9_day_161 rfl ?_
          refine g_bipush h 164 bp_m2 dX9_day_162 rfl ?_
          obtain ⟨r4, σ4, hc4, hf⟩ := my_ofb hf
          refine g_callVi h 167 cs_X9_129 rfl lyR_0 (ct_X9_refused w hc4) rfl rfl (Nat.le_of_ble_eq_true rfl) ⟨Nat.le_of_ble_eq_true rfl, Nat.le_of_ble_eq_true rfl⟩ dX9_day_164 rfl ?_
          exact g_iret h dX9_day_167 (my_r1 hf) (my_r2 hf)
    · intro σ x4 x5 x7 x8 hf
      replace hf : b_X9_day_1 (g_X9_day n).1 (g_X9_day n).2.1 (g_X9_day n).2.2 σ x4 x5 x7 x8 = some (r, τ) := hf
      unfold b_X9_day_1 at hf
      refine g_il8 h 187 dX9_day_185 rfl ?_
      refine g_bipush h 189 bp_8 dX9_day_187 rfl ?_
      refine g_icge h 240 192 dX9_day_189 (by decide) rfl (fun hc => ?_) (fun hc => ?_)
      · have hf := my_ifT hc hf
        refine g_al0 h 241 dX9_day_240 rfl ?_
        refine g_il7 h 243 dX9_day_241 rfl ?_
        refine g_il4 h 245 dX9_day_243 rfl ?_
        refine g_il5 h 247 dX9_day_245 rfl ?_
        obtain ⟨r1, σ1, hc1, hf⟩ := my_ofb hf
        refine g_callVi h 250 cs_X9_244 rfl lyR_0 (ct_X9_dayOf w hc1) rfl rfl (Nat.le_of_ble_eq_true rfl) ⟨Nat.le_of_ble_eq_true rfl, Nat.le_of_ble_eq_true rfl⟩ dX9_day_247 rfl ?_
        refine g_is8 h 252 (Nat.le_of_ble_eq_true rfl) rfl dX9_day_250 rfl ?_
        refine g_al0 h 253 dX9_day_252 rfl ?_
        refine g_al0 h 254 dX9_day_253 rfl ?_
        refine g_geti h 257 fF_X9_241_X9 lyR_0 rfl dX9_day_254 rfl ?_
        refine g_puti h 260 fP_X9_139_X9 lyR_0 rfl dX9_day_257 rfl ?_
        refine g_iconst h 261 ic_0 dX9_day_260 rfl ?_
        refine g_is9 h 263 (Nat.le_of_ble_eq_true rfl) rfl dX9_day_261 rfl ?_
        exact g_weak (ih.2.2 _ _ _ hf) (w_s (w_s (w_s (w_s (w_n (w_n (w_s (w_n (w_s (w_s w_0))))))))))
      · have hf := my_ifF hc hf
        refine g_al0 h 193 dX9_day_192 rfl ?_
        refine g_geta h 196 fF_X9_34_X9 lyR_0 rfl dX9_day_193 rfl ?_
        refine g_il8 h 198 dX9_day_196 rfl ?_
        refine g_al0 h 199 dX9_day_198 rfl ?_
        refine g_geta h 202 fF_X9_25_X9 lyR_0 rfl dX9_day_199 rfl ?_
        refine g_il8 h 204 dX9_day_202 rfl ?_
        obtain ⟨hq2, hf⟩ := my_chk hf
        refine g_iald h 205 dX9_day_204 rfl hq2 ?_
        obtain ⟨hq3, hf⟩ := my_chk hf
        refine g_iast h 206 dX9_day_205 rfl hq3 ?_
        refine g_al0 h 207 dX9_day_206 rfl ?_
        refine g_geta h 210 fF_X9_37_X9 lyR_0 rfl dX9_day_207 rfl ?_
        refine g_il8 h 212 dX9_day_210 rfl ?_
        refine g_al0 h 213 dX9_day_212 rfl ?_
        refine g_geta h 216 fF_X9_28_X9 lyR_0 rfl dX9_day_213 rfl ?_
        refine g_il8 h 218 dX9_day_216 rfl ?_
        obtain ⟨hq4, hf⟩ := my_chk hf
        refine g_iald h 219 dX9_day_218 rfl hq4 ?_
        obtain ⟨hq5, hf⟩ := my_chk hf
        refine g_iast h 220 dX9_day_219 rfl hq5 ?_
        refine g_al0 h 221 dX9_day_220 rfl ?_
        refine g_geta h 224 fF_X9_40_X9 lyR_0 rfl dX9_day_221 rfl ?_
        refine g_il8 h 226 dX9_day_224 rfl ?_
        refine g_al0 h 227 dX9_day_226 rfl ?_
        refine g_geta h 230 fF_X9_31_X9 lyR_0 rfl dX9_day_227 rfl ?_
        refine g_il8 h 232 dX9_day_230 rfl ?_
        obtain ⟨hq6, hf⟩ := my_chk hf
        refine g_iald h 233 dX9_day_232 rfl hq6 ?_
        obtain ⟨hq7, hf⟩ := my_chk hf
        refine g_iast h 234 dX9_day_233 rfl hq7 ?_
        refine g_inc8 h 237 (my_inc ic_1 _) (Nat.le_of_ble_eq_true rfl) rfl dX9_day_234 rfl ?_
        refine g_goto h 185 dX9_day_237 (by decide) ?_
        exact g_weak (ih.2.1 _ _ _ _ _ hf) (w_s (w_s (w_s (w_s (w_s (w_s (w_s (w_s (w_s (w_s w_0))))))))))
    · intro σ x8 x9 hf
      replace hf : b_X9_day_2 (g_X9_day n).1 (g_X9_day n).2.1 (g_X9_day n).2.2 σ x8 x9 = some (r, τ) := hf
      unfold b_X9_day_2 at hf
      refine g_il9 h 265 dX9_day_263 rfl ?_
      refine g_bipush h 267 bp_8 dX9_day_265 rfl ?_
      refine g_icge h 318 270 dX9_day_267 (by decide) rfl (fun hc => ?_) (fun hc => ?_)
      · have hf := my_ifT hc hf
        refine g_al0 h 319 dX9_day_318 rfl ?_
        refine g_il8 h 321 dX9_day_319 rfl ?_
        obtain ⟨r1, σ1, hc1, hf⟩ := my_ofb hf
        refine g_callVi h 324 cs_X9_129 rfl lyR_0 (ct_X9_refused w hc1) rfl rfl (Nat.le_of_ble_eq_true rfl) ⟨Nat.le_of_ble_eq_true rfl, Nat.le_of_ble_eq_true rfl⟩ dX9_day_321 rfl ?_
        exact g_iret h dX9_day_324 (my_r1 hf) (my_r2 hf)
      · have hf := my_ifF hc hf
        refine g_al0 h 271 dX9_day_270 rfl ?_
        refine g_geta h 274 fF_X9_25_X9 lyR_0 rfl dX9_day_271 rfl ?_
        refine g_il9 h 276 dX9_day_274 rfl ?_
        refine g_al0 h 277 dX9_day_276 rfl ?_
        refine g_geta h 280 fF_X9_34_X9 lyR_0 rfl dX9_day_277 rfl ?_
        refine g_il9 h 282 dX9_day_280 rfl ?_
        obtain ⟨hq2, hf⟩ := my_chk hf
        refine g_iald h 283 dX9_day_282 rfl hq2 ?_
        obtain ⟨hq3, hf⟩ := my_chk hf
        refine g_iast h 284 dX9_day_283 rfl hq3 ?_
        refine g_al0 h 285 dX9_day_284 rfl ?_
        refine g_geta h 288 fF_X9_28_X9 lyR_0 rfl dX9_day_285 rfl ?_
        refine g_il9 h 290 dX9_day_288 rfl ?_
        refine g_al0 h 291 dX9_day_290 rfl ?_
        refine g_geta h 294 fF_X9_37_X9 lyR_0 rfl dX9_day_291 rfl ?_
        refine g_il9 h 296 dX9_day_294 rfl ?_
        obtain ⟨hq4, hf⟩ := my_chk hf
        refine g_iald h 297 dX9_day_296 rfl hq4 ?_
        obtain ⟨hq5, hf⟩ := my_chk hf
        refine g_iast h 298 dX9_day_297 rfl hq5 ?_
        refine g_al0 h 299 dX9_day_298 rfl ?_
        refine g_geta h 302 fF_X9_31_X9 lyR_0 rfl dX9_day_299 rfl ?_
        refine g_il9 h 304 dX9_day_302 rfl ?_
        refine g_al0 h 305 dX9_day_304 rfl ?_
        refine g_geta h 308 fF_X9_40_X9 lyR_0 rfl dX9_day_305 rfl ?_
        refine g_il9 h 310 dX9_day_308 rfl ?_
        obtain ⟨hq6, hf⟩ := my_chk hf
        refine g_iald h 311 dX9_day_310 rfl hq6 ?_
        obtain ⟨hq7, hf⟩ := my_chk hf
        refine g_iast h 312 dX9_day_311 rfl hq7 ?_
        refine g_inc9 h 315 (my_inc ic_1 _) (Nat.le_of_ble_eq_true rfl) rfl dX9_day_312 rfl ?_
        refine g_goto h 263 dX9_day_315 (by decide) ?_
        exact g_weak (ih.2.2 _ _ _ hf) (w_s (w_s (w_s (w_s (w_s (w_s (w_s (w_s (w_s (w_s w_0))))))))))
set_option maxRecDepth 100000 in
set_option maxHeartbeats 4000000 in
theorem ct_X9_day (w : my_V) {σ : my_M} {x1 : Int32} {x2 : Int32} {x3 : Int32} {x4 : Int32} {x5 : Int32} {r : Int32} {τ : my_M} (hf : f_X9_day σ x1 x2 x3 x4 x5 = some (r, τ)) : Ct w layR mX9_day 7 [.ref (w.2.2.2 0), .int x1, .int x2, .int x3, .int x4, .int x5] σ (some (.int r)) τ := by
  refine my_met RX9 [some (.ref (w.2.2.2 0)), some (.int x1), some (.int x2), some (.int x3), some (.int x4), some (.int x5), none, none, none, none] 4 (by decide) rfl (Nat.le_of_ble_eq_true rfl) rfl (fun X h => ?_)
  unfold f_X9_day at hf
  refine g_il1 h 1 dX9_day_0 rfl ?_
  obtain ⟨r1, σ1, hc1, hf⟩ := my_ofb hf
  refine g_callSi h 4 cs_X9_125 (ct_X9_noSheet w hc1) rfl rfl (Nat.le_of_ble_eq_true rfl) ⟨Nat.le_of_ble_eq_true rfl, Nat.le_of_ble_eq_true rfl⟩ dX9_day_1 rfl ?_
  refine g_ifeq h 13 7 dX9_day_4 (by decide) rfl (fun hc => ?_) (fun hc => ?_)
  · have hf := my_ifT hc hf
    refine g_il2 h 14 dX9_day_13 rfl ?_
    refine g_i2l h 15 dX9_day_14 rfl ?_
    refine g_lconst h 16 lc_0 dX9_day_15 rfl ?_
    refine g_ldc2 h 19 tw_kl_X9_109 dX9_day_16 rfl ?_
    obtain ⟨r2, σ2, hc2, hf⟩ := my_ofb hf
    refine g_callSi h 22 cs_X9_83 (ct_X9_in w hc2) rfl rfl (Nat.le_of_ble_eq_true rfl) ⟨Nat.le_of_ble_eq_true rfl, Nat.le_of_ble_eq_true rfl⟩ dX9_day_19 rfl ?_
    refine g_ifeq h 66 25 dX9_day_22 (by decide) rfl (fun hc => ?_) (fun hc => ?_)
    · have hf := my_ifT hc hf
      refine g_al0 h 67 dX9_day_66 rfl ?_
      refine g_bipush h 69 bp_m2 dX9_day_67 rfl ?_
      obtain ⟨r3, σ3, hc3, hf⟩ := my_ofb hf
      refine g_callVi h 72 cs_X9_129 rfl lyR_0 (ct_X9_refused w hc3) rfl rfl (Nat.le_of_ble_eq_true rfl) ⟨Nat.le_of_ble_eq_true rfl, Nat.le_of_ble_eq_true rfl⟩ dX9_day_69 rfl ?_
      exact g_iret h dX9_day_72 (my_r1 hf) (my_r2 hf)
    · have hf := my_ifF hc hf
      refine g_il4 h 27 dX9_day_25 rfl ?_
      refine g_i2l h 28 dX9_day_27 rfl ?_
      refine g_lconst h 29 lc_0 dX9_day_28 rfl ?_
      refine g_ldc2 h 32 tw_kl_X9_195 dX9_day_29 rfl ?_
      obtain ⟨r4, σ4, hc4, hf⟩ := my_ofb hf
      refine g_callSi h 35 cs_X9_83 (ct_X9_in w hc4) rfl rfl (Nat.le_of_ble_eq_true rfl) ⟨Nat.le_of_ble_eq_true rfl, Nat.le_of_ble_eq_true rfl⟩ dX9_day_32 rfl ?_
      refine g_ifeq h 66 38 dX9_day_35 (by decide) rfl (fun hc => ?_) (fun hc => ?_)
      · have hf := my_ifT hc hf
        refine g_al0 h 67 dX9_day_66 rfl ?_
        refine g_bipush h 69 bp_m2 dX9_day_67 rfl ?_
        obtain ⟨r5, σ5, hc5, hf⟩ := my_ofb hf
        refine g_callVi h 72 cs_X9_129 rfl lyR_0 (ct_X9_refused w hc5) rfl rfl (Nat.le_of_ble_eq_true rfl) ⟨Nat.le_of_ble_eq_true rfl, Nat.le_of_ble_eq_true rfl⟩ dX9_day_69 rfl ?_
        exact g_iret h dX9_day_72 (my_r1 hf) (my_r2 hf)
      · have hf := my_ifF hc hf
        refine g_il5 h 40 dX9_day_38 rfl ?_
        refine g_i2l h 41 dX9_day_40 rfl ?_
        refine g_lconst h 42 lc_0 dX9_day_41 rfl ?_
        refine g_ldc2 h 45 tw_kl_X9_234 dX9_day_42 rfl ?_
        obtain ⟨r6, σ6, hc6, hf⟩ := my_ofb hf
        refine g_callSi h 48 cs_X9_83 (ct_X9_in w hc6) rfl rfl (Nat.le_of_ble_eq_true rfl) ⟨Nat.le_of_ble_eq_true rfl, Nat.le_of_ble_eq_true rfl⟩ dX9_day_45 rfl ?_
        refine g_ifne h 73 51 dX9_day_48 (by decide) rfl (fun hc => ?_) (fun hc => ?_)
        · have hf := my_ifF hc hf
          refine g_al0 h 74 dX9_day_73 rfl ?_
          refine g_geti h 77 fF_X9_80_X9 lyR_0 rfl dX9_day_74 rfl ?_
          refine g_ifne h 87 80 dX9_day_77 (by decide) rfl (fun hc => ?_) (fun hc => ?_)
          · have hf := my_ifF hc hf
            refine g_al0 h 88 dX9_day_87 rfl ?_
            refine g_il1 h 89 dX9_day_88 rfl ?_
            refine g_il2 h 90 dX9_day_89 rfl ?_
            refine g_il3 h 91 dX9_day_90 rfl ?_
            refine g_ldc2 h 94 tw_kl_X9_109 dX9_day_91 rfl ?_
            refine g_il4 h 96 dX9_day_94 rfl ?_
            refine g_i2l h 97 dX9_day_96 rfl ?_
            refine g_lmul h 98 dX9_day_97 rfl ?_
            obtain ⟨r7, σ7, hc7, hf⟩ := my_ofb hf
            refine g_callVi h 101 cs_X9_132 rfl lyR_0 (ct_X9_cellsBarred w hc7) rfl rfl (Nat.le_of_ble_eq_true rfl) ⟨Nat.le_of_ble_eq_true rfl, Nat.le_of_ble_eq_true rfl⟩ dX9_day_98 rfl ?_
            refine g_is6 h 103 (Nat.le_of_ble_eq_true rfl) rfl dX9_day_101 rfl ?_
            refine g_il6 h 105 dX9_day_103 rfl ?_
            refine g_ifge h 111 108 dX9_day_105 (by decide) rfl (fun hc => ?_) (fun hc => ?_)
            · have hf := my_ifT hc hf
              refine g_bipush h 113 bp_60 dX9_day_111 rfl ?_
              refine g_il1 h 114 dX9_day_113 rfl ?_
              refine g_imul h 115 dX9_day_114 rfl ?_
              refine g_il3 h 116 dX9_day_115 rfl ?_
              refine g_iadd h 117 dX9_day_116 rfl ?_
              refine g_is7 h 119 (Nat.le_of_ble_eq_true rfl) rfl dX9_day_117 rfl ?_
              refine g_iconst h 120 ic_0 dX9_day_119 rfl ?_
              refine g_is8 h 122 (Nat.le_of_ble_eq_true rfl) rfl dX9_day_120 rfl ?_
              exact g_weak ((lp_X9_day w h my_NF).1 _ _ _ _ _ hf) (w_s (w_n (w_n (w_n (w_s (w_s (w_n (w_s (w_s (w_s w_0))))))))))
            · have hf := my_ifF hc hf
              refine g_il6 h 110 dX9_day_108 rfl ?_
              exact g_iret h dX9_day_110 (my_r1 hf) (my_r2 hf)
          · have hf := my_ifT hc hf
            refine g_al0 h 81 dX9_day_80 rfl ?_
            refine g_bipush h 83 bp_m3 dX9_day_81 rfl ?_
            obtain ⟨r8, σ8, hc8, hf⟩ := my_ofb hf
            refine g_callVi h 86 cs_X9_129 rfl lyR_0 (ct_X9_refused w hc8) rfl rfl (Nat.le_of_ble_eq_true rfl) ⟨Nat.le_of_ble_eq_true rfl, Nat.le_of_ble_eq_true rfl⟩ dX9_day_83 rfl ?_
            exact g_iret h dX9_day_86 (my_r1 hf) (my_r2 hf)
        · have hf := my_ifT hc hf
          refine g_il5 h 53 dX9_day_51 rfl ?_
          refine g_i2l h 54 dX9_day_53 rfl ?_
          refine g_ldc2 h 57 tw_kl_X9_168 dX9_day_54 rfl ?_
          refine g_ldc2 h 60 tw_kl_X9_236 dX9_day_57 rfl ?_
          obtain ⟨r9, σ9, hc9, hf⟩ := my_ofb hf
          refine g_callSi h 63 cs_X9_83 (ct_X9_in w hc9) rfl rfl (Nat.le_of_ble_eq_true rfl) ⟨Nat.le_of_ble_eq_true rfl, Nat.le_of_ble_eq_true rfl⟩ dX9_day_60 rfl ?_
          refine g_ifne h 73 66 dX9_day_63 (by decide) rfl (fun hc => ?_) (fun hc => ?_)
          · have hf := my_ifF hc hf
            refine g_al0 h 74 dX9_day_73 rfl ?_
            refine g_geti h 77 fF_X9_80_X9 lyR_0 rfl dX9_day_74 rfl ?_
            refine g_ifne h 87 80 dX9_day_77 (by decide) rfl (fun hc => ?_) (fun hc => ?_)
            · have hf := my_ifF hc hf
              refine g_al0 h 88 dX9_day_87 rfl ?_
              refine g_il1 h 89 dX9_day_88 rfl ?_
              refine g_il2 h 90 dX9_day_89 rfl ?_
              refine g_il3 h 91 dX9_day_90 rfl ?_
              refine g_ldc2 h 94 tw_kl_X9_109 dX9_day_91 rfl ?_
              refine g_il4 h 96 dX9_day_94 rfl ?_
              refine g_i2l h 97 dX9_day_96 rfl ?_
              refine g_lmul h 98 dX9_day_97 rfl ?_
              obtain ⟨r10, σ10, hc10, hf⟩ := my_ofb hf
              refine g_callVi h 101 cs_X9_132 rfl lyR_0 (ct_X9_cellsBarred w hc10) rfl rfl (Nat.le_of_ble_eq_true rfl) ⟨Nat.le_of_ble_eq_true rfl, Nat.le_of_ble_eq_true rfl⟩ dX9_day_98 rfl ?_
              refine g_is6 h 103 (Nat.le_of_ble_eq_true rfl) rfl dX9_day_101 rfl ?_
              refine g_il6 h 105 dX9_day_103 rfl ?_
              refine g_ifge h 111 108 dX9_day_105 (by decide) rfl (fun hc => ?_) (fun hc => ?_)
              · have hf := my_ifT hc hf
                refine g_bipush h 113 bp_60 dX9_day_111 rfl ?_
                refine g_il1 h 114 dX9_day_113 rfl ?_
                refine g_imul h 115 dX9_day_114 rfl ?_
                refine g_il3 h 116 dX9_day_115 rfl ?_
                refine g_iadd h 117 dX9_day_116 rfl ?_
                refine g_is7 h 119 (Nat.le_of_ble_eq_true rfl) rfl dX9_day_117 rfl ?_
                refine g_iconst h 120 ic_0 dX9_day_119 rfl ?_
                refine g_is8 h 122 (Nat.le_of_ble_eq_true rfl) rfl dX9_day_120 rfl ?_
                exact g_weak ((lp_X9_day w h my_NF).1 _ _ _ _ _ hf) (w_s (w_n (w_n (w_n (w_s (w_s (w_n (w_s (w_s (w_s w_0))))))))))
              · have hf := my_ifF hc hf
                refine g_il6 h 110 dX9_day_108 rfl ?_
                exact g_iret h dX9_day_110 (my_r1 hf) (my_r2 hf)
            · have hf := my_ifT hc hf
              refine g_al0 h 81 dX9_day_80 rfl ?_
              refine g_bipush h 83 bp_m3 dX9_day_81 rfl ?_
              obtain ⟨r11, σ11, hc11, hf⟩ := my_ofb hf
              refine g_callVi h 86 cs_X9_129 rfl lyR_0 (ct_X9_refused w hc11) rfl rfl (Nat.le_of_ble_eq_true rfl) ⟨Nat.le_of_ble_eq_true rfl, Nat.le_of_ble_eq_true rfl⟩ dX9_day_83 rfl ?_
              exact g_iret h dX9_day_86 (my_r1 hf) (my_r2 hf)
          · have hf := my_ifT hc hf
            refine g_al0 h 67 dX9_day_66 rfl ?_
            refine g_bipush h 69 bp_m2 dX9_day_67 rfl ?_
            obtain ⟨r12, σ12, hc12, hf⟩ := my_ofb hf
            refine g_callVi h 72 cs_X9_129 rfl lyR_0 (ct_X9_refused w hc12) rfl rfl (Nat.le_of_ble_eq_true rfl) ⟨Nat.le_of_ble_eq_true rfl, Nat.le_of_ble_eq_true rfl⟩ dX9_day_69 rfl ?_
            exact g_iret h dX9_day_72 (my_r1 hf) (my_r2 hf)
  · have hf := my_ifF hc hf
    refine g_al0 h 8 dX9_day_7 rfl ?_
    refine g_iconst h 9 ic_m1 dX9_day_8 rfl ?_
    obtain ⟨r13, σ13, hc13, hf⟩ := my_ofb hf
    refine g_callVi h 12 cs_X9_129 rfl lyR_0 (ct_X9_refused w hc13) rfl rfl (Nat.le_of_ble_eq_true rfl) ⟨Nat.le_of_ble_eq_true rfl, Nat.le_of_ble_eq_true rfl⟩ dX9_day_9 rfl ?_
    exact g_iret h dX9_day_12 (my_r1 hf) (my_r2 hf)
def f_X9_fault (σ : my_M) : Option (Int32 × my_M) :=
some ((σ 0 0), σ)
set_option maxRecDepth 100000 in
set_option maxHeartbeats 4000000 in
theorem ct_X9_fault (w : my_V) {σ : my_M} {r : Int32} {τ : my_M} (hf : f_X9_fault σ = some (r, τ)) : Ct w layR mX9_fault 1 [.ref (w.2.2.2 0)] σ (some (.int r)) τ := by
  refine my_met RX9 [some (.ref (w.2.2.2 0))] 0 (by decide) rfl (Nat.le_of_ble_eq_true rfl) rfl (fun X h => ?_)
  unfold f_X9_fault at hf
  refine g_al0 h 1 dX9_fault_0 rfl ?_
  refine g_geti h 4 fF_X9_72_X9 lyR_0 rfl dX9_fault_1 rfl ?_
  exact g_iret h dX9_fault_4 (my_r1 hf) (my_r2 hf)
def b_X9_freeOf_0 (k0 : my_M → Int32 → Int32 → Int32 → Option (Int32 × my_M)) (σ : my_M) (x1 : Int32) (x2 : Int32) (x3 : Int32) : Option (Int32 × my_M) :=
(if (σ 0 2) ≤ x3 then
some (x2, σ)
else
(my_bnd (f_X9_pitch σ x1 x3) fun r1 σ1 =>
k0 σ1 x1 ((x2 + (if 0 ≤ r1 then 0 else 1 : Int32))) ((x3 + 1))))
def g_X9_freeOf : Nat → my_M → Int32 → Int32 → Int32 → Option (Int32 × my_M)
  | 0 => fun _ _ _ _ => none
  | n + 1 => b_X9_freeOf_0 (g_X9_freeOf n)
def f_X9_freeOf (σ : my_M) (x1 : Int32) : Option (Int32 × my_M) :=
(g_X9_freeOf my_NF) σ x1 0 0
set_option maxRecDepth 100000 in
set_option maxHeartbeats 4000000 in
theorem lp_X9_freeOf (w : my_V) {X : my_X} {r : Int32} {τ : my_M} (h : my_OK X w layR cX9_freeOf RX9 4 (some .int)) : ∀ n : Nat, (∀ (σ : my_M) (x1 : Int32) (x2 : Int32) (x3 : Int32), (g_X9_freeOf n) σ x1 x2 x3 = some (r, τ) → Go X w layR 2 4 (some (.int r)) τ σ 4 [some (.ref (w.2.2.2 0)), some (.int x1), some (.int x2), some (.int x3)] []) := by
  intro n
  induction n with
  | zero => exact fun _ _ _ _ hf => (my_nn hf).elim
  | succ n ih =>
    intro σ x1 x2 x3 hf
    replace hf : b_X9_freeOf_0 (g_X9_freeOf n) σ x1 x2 x3 = some (r, τ) := hf
    unfold b_X9_freeOf_0 at hf
    refine g_il3 h 5 dX9_freeOf_4 rfl ?_
    refine g_al0 h 6 dX9_freeOf_5 rfl ?_
    refine g_geti h 9 fF_X9_87_X9 lyR_0 rfl dX9_freeOf_6 rfl ?_
    refine g_icge h 35 12 dX9_freeOf_9 (by decide) rfl (fun hc => ?_) (fun hc => ?_)
    · have hf := my_ifT hc hf
      refine g_il2 h 36 dX9_freeOf_35 rfl ?_
      exact g_iret h dX9_freeOf_36 (my_r1 hf) (my_r2 hf)
    · have hf := my_ifF hc hf
      refine g_il2 h 13 dX9_freeOf_12 rfl ?_
      refine g_al0 h 14 dX9_freeOf_13 rfl ?_
      refine g_il1 h 15 dX9_freeOf_14 rfl ?_
      refine g_il3 h 16 dX9_freeOf_15 rfl ?_
      obtain ⟨r1, σ1, hc1, hf⟩ := my_ofb hf
      refine g_callVi h 19 cs_X9_145 rfl lyR_0 (ct_X9_pitch w hc1) rfl rfl (Nat.le_of_ble_eq_true rfl) ⟨Nat.le_of_ble_eq_true rfl, Nat.le_of_ble_eq_true rfl⟩ dX9_freeOf_16 rfl ?_
      refine g_ifge_sel h 26 27 dX9_freeOf_19 (by decide) dX9_freeOf_22 ic_1 dX9_freeOf_23 (by decide) dX9_freeOf_26 ic_0 rfl ?_
      refine g_iadd h 28 dX9_freeOf_27 rfl ?_
      refine g_is2 h 29 (Nat.le_of_ble_eq_true rfl) rfl dX9_freeOf_28 rfl ?_
      refine g_inc3 h 32 (my_inc ic_1 _) (Nat.le_of_ble_eq_true rfl) rfl dX9_freeOf_29 rfl ?_
      refine g_goto h 4 dX9_freeOf_32 (by decide) ?_
      exact g_weak (ih _ _ _ _ hf) (w_s (w_s (w_s (w_s w_0))))
set_option maxRecDepth 100000 in
set_option maxHeartbeats 4000000 in
theorem ct_X9_freeOf (w : my_V) {σ : my_M} {x1 : Int32} {r : Int32} {τ : my_M} (hf : f_X9_freeOf σ x1 = some (r, τ)) : Ct w layR mX9_freeOf 2 [.ref (w.2.2.2 0), .int x1] σ (some (.int r)) τ := by
  refine my_met RX9 [some (.ref (w.2.2.2 0)), some (.int x1), none, none] 2 (by decide) rfl (Nat.le_of_ble_eq_true rfl) rfl (fun X h => ?_)
  unfold f_X9_freeOf at hf
  refine g_iconst h 1 ic_0 dX9_freeOf_0 rfl ?_
  refine g_is2 h 2 (Nat.le_of_ble_eq_true rfl) rfl dX9_freeOf_1 rfl ?_
  refine g_iconst h 3 ic_0 dX9_freeOf_2 rfl ?_
  refine g_is3 h 4 (Nat.le_of_ble_eq_true rfl) rfl dX9_freeOf_3 rfl ?_
  exact g_weak ((lp_X9_freeOf w h my_NF) _ _ _ _ hf) (w_s (w_s (w_s (w_s w_0))))
def b_X9_isGood_0 (k0 : my_M → Int32 → Int32 → Option (Int32 × my_M)) (k1 : my_M → Int32 → Int32 → Int32 → Int32 → Option (Int32 × my_M)) (σ : my_M) (x1 : Int32) (x2 : Int32) : Option (Int32 × my_M) :=
(if (σ 0 2) ≤ x2 then
(if my_b x1 then some (x1, σ) else none)
else
(if x1 = 0 then
(if my_b x1 then some (x1, σ) else none)
else
k1 σ x1 x2 0 0))
def b_X9_isGood_1 (k0 : my_M → Int32 → Int32 → Option (Int32 × my_M)) (k1 : my_M → Int32 → Int32 → Int32 → Int32 → Option (Int32 × my_M)) (σ : my_M) (x1 : Int32) (x2 : Int32) (x3 : Int32) (x4 : Int32) : Option (Int32 × my_M) :=
(if (σ 0 2) ≤ (x4 + x2) then
k0 σ x1 ((x2 + 1))
else
(if my_ix (x4 + x2) (my_len layR 5) then
(if my_ix x4 (my_len layR 5) then
(if x1 = 0 then
k1 σ 0 x2 ((x3 ||| (1 <<< ((((σ 5 (Int32.toNatClampNeg (x4 + x2))) - (σ 5 (Int32.toNatClampNeg x4))) + 6) &&& 31)))) ((x4 + 1))
else
k1 σ ((if (x3 &&& (1 <<< ((((σ 5 (Int32.toNatClampNeg (x4 + x2))) - (σ 5 (Int32.toNatClampNeg x4))) + 6) &&& 31))) = 0 then 1 else 0 : Int32)) x2 ((x3 ||| (1 <<< ((((σ 5 (Int32.toNatClampNeg (x4 + x2))) - (σ 5 (Int32.toNatClampNeg x4))) + 6) &&& 31)))) ((x4 + 1)))
else none)
else none))
def g_X9_isGood : Nat → (my_M → Int32 → Int32 → Option (Int32 × my_M)) × (my_M → Int32 → Int32 → Int32 → Int32 → Option (Int32 × my_M))
  | 0 => (fun _ _ _ => none, fun _ _ _ _ _ => none)
  | n + 1 => (b_X9_isGood_0 (g_X9_isGood n).1 (g_X9_isGood n).2, b_X9_isGood_1 (g_X9_isGood n).1 (g_X9_isGood n).2)
def f_X9_isGood (σ : my_M) : Option (Int32 × my_M) :=
(my_bnd (f_X9_areUnlike σ) fun r1 σ1 =>
(g_X9_isGood my_NF).1 σ1 r1 1)
set_option maxRecDepth 100000 in
set_option maxHeartbeats 4000000 in
theorem lp_X9_isGood (w : my_V) {X : my_X} {r : Int32} {τ : my_M} (h : my_OK X w layR cX9_isGood RX9 6 (some .boolean)) : ∀ n : Nat, (∀ (σ : my_M) (x1 : Int32) (x2 : Int32), (g_X9_isGood n).1 σ x1 x2 = some (r, τ) → Go X w layR 3 6 (some (.int r)) τ σ 7 [some (.ref (w.2.2.2 0)), some (.int x1), some (.int x2), none, none, none] []) ∧ (∀ (σ : my_M) (x1 : Int32) (x2 : Int32) (x3 : Int32) (x4 : Int32), (g_X9_isGood n).2 σ x1 x2 x3 x4 = some (r, τ) → Go X w layR 3 6 (some (.int r)) τ σ 24 [some (.ref (w.2.2.2 0)), some (.int x1), some (.int x2), some (.int x3), some (.int x4), none] []) := by
  intro n
  induction n with
  | zero => exact ⟨fun _ _ _ hf => (my_nn hf).elim, fun _ _ _ _ _ hf => (my_nn hf).elim⟩
  | succ n ih =>
    refine ⟨?_, ?_⟩
    · intro σ x1 x2 hf
      replace hf : b_X9_isGood_0 (g_X9_isGood n).1 (g_X9_isGood n).2 σ x1 x2 = some (r, τ) := hf
      unfold b_X9_isGood_0 at hf
      refine g_il2 h 8 dX9_isGood_7 rfl ?_
      refine g_al0 h 9 dX9_isGood_8 rfl ?_
      refine g_geti h 12 fF_X9_87_X9 lyR_0 rfl dX9_isGood_9 rfl ?_
      refine g_icge h 93 15 dX9_isGood_12 (by decide) rfl (fun hc => ?_) (fun hc => ?_)
      · have hf := my_ifT hc hf
        refine g_il1 h 94 dX9_isGood_93 rfl ?_
        obtain ⟨hqz, hf⟩ := my_chk hf
        exact g_zret h dX9_isGood_94 hqz (my_r1 hf) (my_r2 hf)
      · have hf := my_ifF hc hf
        refine g_il1 h 16 dX9_isGood_15 rfl ?_
        refine g_ifeq h 93 19 dX9_isGood_16 (by decide) rfl (fun hc => ?_) (fun hc => ?_)
        · have hf := my_ifT hc hf
          refine g_il1 h 94 dX9_isGood_93 rfl ?_
          obtain ⟨hqz, hf⟩ := my_chk hf
          exact g_zret h dX9_isGood_94 hqz (my_r1 hf) (my_r2 hf)
        · have hf := my_ifF hc hf
          refine g_iconst h 20 ic_0 dX9_isGood_19 rfl ?_
          refine g_is3 h 21 (Nat.le_of_ble_eq_true rfl) rfl dX9_isGood_20 rfl ?_
          refine g_iconst h 22 ic_0 dX9_isGood_21 rfl ?_
          refine g_is4 h 24 (Nat.le_of_ble_eq_true rfl) rfl dX9_isGood_22 rfl ?_
          exact g_weak (ih.2 _ _ _ _ _ hf) (w_s (w_s (w_s (w_s (w_s (w_s w_0))))))
    · intro σ x1 x2 x3 x4 hf
      replace hf : b_X9_isGood_1 (g_X9_isGood n).1 (g_X9_isGood n).2 σ x1 x2 x3 x4 = some (r, τ) := hf
      unfold b_X9_isGood_1 at hf
      refine g_il4 h 26 dX9_isGood_24 rfl ?_
      refine g_il2 h 27 dX9_isGood_26 rfl ?_
      refine g_iadd h 28 dX9_isGood_27 rfl ?_
      refine g_al0 h 29 dX9_isGood_28 rfl ?_
      refine g_geti h 32 fF_X9_87_X9 lyR_0 rfl dX9_isGood_29 rfl ?_
      refine g_icge h 87 35 dX9_isGood_32 (by decide) rfl (fun hc => ?_) (fun hc => ?_)
      · have hf := my_ifT hc hf
        refine g_inc2 h 90 (my_inc ic_1 _) (Nat.le_of_ble_eq_true rfl) rfl dX9_isGood_87 rfl ?_
        refine g_goto h 7 dX9_isGood_90 (by decide) ?_
        exact g_weak (ih.1 _ _ _ hf) (w_s (w_s (w_s (w_n (w_n (w_s w_0))))))
      · have hf := my_ifF hc hf
        refine g_iconst h 36 ic_1 dX9_isGood_35 rfl ?_
        refine g_al0 h 37 dX9_isGood_36 rfl ?_
        refine g_geta h 40 fF_X9_22_X9 lyR_0 rfl dX9_isGood_37 rfl ?_
        refine g_il4 h 42 dX9_isGood_40 rfl ?_
        refine g_il2 h 43 dX9_isGood_42 rfl ?_
        refine g_iadd h 44 dX9_isGood_43 rfl ?_
        obtain ⟨hq1, hf⟩ := my_chk hf
        refine g_iald h 45 dX9_isGood_44 rfl hq1 ?_
        refine g_al0 h 46 dX9_isGood_45 rfl ?_
        refine g_geta h 49 fF_X9_22_X9 lyR_0 rfl dX9_isGood_46 rfl ?_
        refine g_il4 h 51 dX9_isGood_49 rfl ?_
        obtain ⟨hq2, hf⟩ := my_chk hf
        refine g_iald h 52 dX9_isGood_51 rfl hq2 ?_
        refine g_isub h 53 dX9_isGood_52 rfl ?_
        refine g_bipush h 55 bp_6 dX9_isGood_53 rfl ?_
        refine g_iadd h 56 dX9_isGood_55 rfl ?_
        refine g_ishl h 57 dX9_isGood_56 rfl ?_
        refine g_is5 h 59 (Nat.le_of_ble_eq_true rfl) rfl dX9_isGood_57 rfl ?_
        refine g_il1 h 60 dX9_isGood_59 rfl ?_
        refine g_ifeq h 74 63 dX9_isGood_60 (by decide) rfl (fun hc => ?_) (fun hc => ?_)
        · have hf := my_ifT hc hf
          refine g_iconst h 75 ic_0 dX9_isGood_74 rfl ?_
          refine g_is1 h 76 (Nat.le_of_ble_eq_true rfl) rfl dX9_isGood_75 rfl ?_
          refine g_il3 h 77 dX9_isGood_76 rfl ?_
          refine g_il5 h 79 dX9_isGood_77 rfl ?_
          refine g_ior h 80 dX9_isGood_79 rfl ?_
          refine g_is3 h 81 (Nat.le_of_ble_eq_true rfl) rfl dX9_isGood_80 rfl ?_
          refine g_inc4 h 84 (my_inc ic_1 _) (Nat.le_of_ble_eq_true rfl) rfl dX9_isGood_81 rfl ?_
          refine g_goto h 24 dX9_isGood_84 (by decide) ?_
          exact g_weak (ih.2 _ _ _ _ _ hf) (w_s (w_s (w_s (w_s (w_s (w_n w_0))))))
        · have hf := my_ifF hc hf
          refine g_il3 h 64 dX9_isGood_63 rfl ?_
          refine g_il5 h 66 dX9_isGood_64 rfl ?_
          refine g_iand h 67 dX9_isGood_66 rfl ?_
          refine g_ifne_sel h 74 75 dX9_isGood_67 (by decide) dX9_isGood_70 ic_1 dX9_isGood_71 (by decide) dX9_isGood_74 ic_0 rfl ?_
          refine g_is1 h 76 (Nat.le_of_ble_eq_true rfl) rfl dX9_isGood_75 rfl ?_
          refine g_il3 h 77 dX9_isGood_76 rfl ?_
          refine g_il5 h 79 dX9_isGood_77 rfl ?_
          refine g_ior h 80 dX9_isGood_79 rfl ?_
          refine g_is3 h 81 (Nat.le_of_ble_eq_true rfl) rfl dX9_isGood_80 rfl ?_
          refine g_inc4 h 84 (my_inc ic_1 _) (Nat.le_of_ble_eq_true rfl) rfl dX9_isGood_81 rfl ?_
          refine g_goto h 24 dX9_isGood_84 (by decide) ?_
          exact g_weak (ih.2 _ _ _ _ _ hf) (w_s (w_s (w_s (w_s (w_s (w_n w_0))))))
set_option maxRecDepth 100000 in
set_option maxHeartbeats 4000000 in
theorem ct_X9_isGood (w : my_V) {σ : my_M} {r : Int32} {τ : my_M} (hf : f_X9_isGood σ = some (r, τ)) : Ct w layR mX9_isGood 3 [.ref (w.2.2.2 0)] σ (some (.int r)) τ := by
  refine my_met RX9 [some (.ref (w.2.2.2 0)), none, none, none, none, none] 5 (by decide) rfl (Nat.le_of_ble_eq_true rfl) rfl (fun X h => ?_)
  unfold f_X9_isGood at hf
  refine g_al0 h 1 dX9_isGood_0 rfl ?_
  obtain ⟨r1, σ1, hc1, hf⟩ := my_ofb hf
  refine g_callVi h 4 cs_X9_151 rfl lyR_0 (ct_X9_areUnlike w hc1) rfl rfl (Nat.le_of_ble_eq_true rfl) ⟨Nat.le_of_ble_eq_true rfl, Nat.le_of_ble_eq_true rfl⟩ dX9_isGood_1 rfl ?_
  refine g_is1 h 5 (Nat.le_of_ble_eq_true rfl) rfl dX9_isGood_4 rfl ?_
  refine g_iconst h 6 ic_1 dX9_isGood_5 rfl ?_
  refine g_is2 h 7 (Nat.le_of_ble_eq_true rfl) rfl dX9_isGood_6 rfl ?_
  exact g_weak ((lp_X9_isGood w h my_NF).1 _ _ _ hf) (w_s (w_s (w_s (w_s (w_s (w_s w_0))))))
def b_X9_triesThoseOf_0 (k0 : my_M → Int32 → Int32 → Option (Unit × my_M)) (σ : my_M) (x1 : Int32) (x2 : Int32) : Option (Unit × my_M) :=
(if (σ 0 2) ≤ x2 then
some ((), σ)
else
(my_bnd (f_X9_pitch σ x1 x2) fun r1 σ1 =>
(if my_ix x2 (my_len layR 5) then
k0 (my_up σ1 5 (Int32.toNatClampNeg x2) r1) x1 ((x2 + 1))
else none)))
def g_X9_triesThoseOf : Nat → my_M → Int32 → Int32 → Option (Unit × my_M)
  | 0 => fun _ _ _ => none
  | n + 1 => b_X9_triesThoseOf_0 (g_X9_triesThoseOf n)
def f_X9_triesThoseOf (σ : my_M) (x1 : Int32) : Option (Unit × my_M) :=
(g_X9_triesThoseOf my_NF) σ x1 0
set_option maxRecDepth 100000 in
set_option maxHeartbeats 4000000 in
theorem lp_X9_triesThoseOf (w : my_V) {X : my_X} {r : Unit} {τ : my_M} (h : my_OK X w layR cX9_triesThoseOf RX9 3 (none)) : ∀ n : Nat, (∀ (σ : my_M) (x1 : Int32) (x2 : Int32), (g_X9_triesThoseOf n) σ x1 x2 = some (r, τ) → Go X w layR 2 3 none τ σ 2 [some (.ref (w.2.2.2 0)), some (.int x1), some (.int x2)] []) := by
  intro n
  induction n with
  | zero => exact fun _ _ _ hf => (my_nn hf).elim
  | succ n ih =>
    intro σ x1 x2 hf
    replace hf : b_X9_triesThoseOf_0 (g_X9_triesThoseOf n) σ x1 x2 = some (r, τ) := hf
    unfold b_X9_triesThoseOf_0 at hf
    refine g_il2 h 3 dX9_triesThoseOf_2 rfl ?_
    refine g_al0 h 4 dX9_triesThoseOf_3 rfl ?_
    refine g_geti h 7 fF_X9_87_X9 lyR_0 rfl dX9_triesThoseOf_4 rfl ?_
    refine g_icge h 28 10 dX9_triesThoseOf_7 (by decide) rfl (fun hc => ?_) (fun hc => ?_)
    · have hf := my_ifT hc hf
      exact g_vret h dX9_triesThoseOf_28 rfl (my_r2 hf)
    · have hf := my_ifF hc hf
      refine g_al0 h 11 dX9_triesThoseOf_10 rfl ?_
      refine g_geta h 14 fF_X9_22_X9 lyR_0 rfl dX9_triesThoseOf_11 rfl ?_
      refine g_il2 h 15 dX9_triesThoseOf_14 rfl ?_
      refine g_al0 h 16 dX9_triesThoseOf_15 rfl ?_
      refine g_il1 h 17 dX9_triesThoseOf_16 rfl ?_
      refine g_il2 h 18 dX9_triesThoseOf_17 rfl ?_
      obtain ⟨r1, σ1, hc1, hf⟩ := my_ofb hf
      refine g_callVi h 21 cs_X9_145 rfl lyR_0 (ct_X9_pitch w hc1) rfl rfl (Nat.le_of_ble_eq_true rfl) ⟨Nat.le_of_ble_eq_true rfl, Nat.le_of_ble_eq_true rfl⟩ dX9_triesThoseOf_18 rfl ?_
      obtain ⟨hq2, hf⟩ := my_chk hf
      refine g_iast h 22 dX9_triesThoseOf_21 rfl hq2 ?_
      refine g_inc2 h 25 (my_inc ic_1 _) (Nat.le_of_ble_eq_true rfl) rfl dX9_triesThoseOf_22 rfl ?_
      refine g_goto h 2 dX9_triesThoseOf_25 (by decide) ?_
      exact g_weak (ih _ _ _ hf) (w_s (w_s (w_s w_0)))
set_option maxRecDepth 100000 in
set_option maxHeartbeats 4000000 in
theorem ct_X9_triesThoseOf (w : my_V) {σ : my_M} {x1 : Int32} {r : Unit} {τ : my_M} (hf : f_X9_triesThoseOf σ x1 = some (r, τ)) : Ct w layR mX9_triesThoseOf 2 [.ref (w.2.2.2 0), .int x1] σ none τ := by
  refine my_met RX9 [some (.ref (w.2.2.2 0)), some (.int x1), none] 1 (by decide) rfl (Nat.le_of_ble_eq_true rfl) rfl (fun X h => ?_)
  unfold f_X9_triesThoseOf at hf
  refine g_iconst h 1 ic_0 dX9_triesThoseOf_0 rfl ?_
  refine g_is2 h 2 (Nat.le_of_ble_eq_true rfl) rfl dX9_triesThoseOf_1 rfl ?_
  exact g_weak ((lp_X9_triesThoseOf w h my_NF) _ _ _ hf) (w_s (w_s (w_s w_0)))
def f_X9_goodNow (σ : my_M) (x1 : Int32) : Option (Int32 × my_M) :=
(my_bnd (f_X9_freeOf σ x1) fun r1 σ1 =>
(if r1 ≤ 0 then
(my_bnd (f_X9_triesThoseOf σ1 x1) fun r2 σ2 =>
(my_bnd (f_X9_isGood σ2) fun r3 σ3 =>
some ((if r3 = 0 then 0 else 1 : Int32), σ3)))
else
some (0, σ1)))
set_option maxRecDepth 100000 in
set_option maxHeartbeats 4000000 in
theorem ct_X9_goodNow (w : my_V) {σ : my_M} {x1 : Int32} {r : Int32} {τ : my_M} (hf : f_X9_goodNow σ x1 = some (r, τ)) : Ct w layR mX9_goodNow 4 [.ref (w.2.2.2 0), .int x1] σ (some (.int r)) τ := by
  refine my_met RX9 [some (.ref (w.2.2.2 0)), some (.int x1)] 0 (by decide) rfl (Nat.le_of_ble_eq_true rfl) rfl (fun X h => ?_)
  unfold f_X9_goodNow at hf
  refine g_al0 h 1 dX9_goodNow_0 rfl ?_
  refine g_il1 h 2 dX9_goodNow_1 rfl ?_
  obtain ⟨r1, σ1, hc1, hf⟩ := my_ofb hf
  refine g_callVi h 5 cs_X9_155 rfl lyR_0 (ct_X9_freeOf w hc1) rfl rfl (Nat.le_of_ble_eq_true rfl) ⟨Nat.le_of_ble_eq_true rfl, Nat.le_of_ble_eq_true rfl⟩ dX9_goodNow_2 rfl ?_
  refine g_ifle h 10 8 dX9_goodNow_5 (by decide) rfl (fun hc => ?_) (fun hc => ?_)
  · have hf := my_ifT hc hf
    refine g_al0 h 11 dX9_goodNow_10 rfl ?_
    refine g_il1 h 12 dX9_goodNow_11 rfl ?_
    obtain ⟨r2, σ2, hc2, hf⟩ := my_ofb hf
    refine g_callVv h 15 cs_X9_158 rfl lyR_0 (ct_X9_triesThoseOf w hc2) rfl rfl (Nat.le_of_ble_eq_true rfl) ⟨Nat.le_of_ble_eq_true rfl, Nat.le_of_ble_eq_true rfl⟩ dX9_goodNow_12 rfl ?_
    refine g_al0 h 16 dX9_goodNow_15 rfl ?_
    obtain ⟨r3, σ3, hc3, hf⟩ := my_ofb hf
    refine g_callVi h 19 cs_X9_162 rfl lyR_0 (ct_X9_isGood w hc3) rfl rfl (Nat.le_of_ble_eq_true rfl) ⟨Nat.le_of_ble_eq_true rfl, Nat.le_of_ble_eq_true rfl⟩ dX9_goodNow_16 rfl ?_
    refine g_ifeq_sel h 26 27 dX9_goodNow_19 (by decide) dX9_goodNow_22 ic_1 dX9_goodNow_23 (by decide) dX9_goodNow_26 ic_0 rfl ?_
    exact g_iret h dX9_goodNow_27 (my_r1 hf) (my_r2 hf)
  · have hf := my_ifF hc hf
    refine g_iconst h 9 ic_0 dX9_goodNow_8 rfl ?_
    exact g_iret h dX9_goodNow_9 (my_r1 hf) (my_r2 hf)
def f_X9_traced (σ : my_M) (x1 : Int32) : Option (Unit × my_M) :=
some ((), (my_up σ 0 32 ((31 * (σ 0 32)) + x1)))
set_option maxRecDepth 100000 in
set_option maxHeartbeats 4000000 in
theorem ct_X9_traced (w : my_V) {σ : my_M} {x1 : Int32} {r : Unit} {τ : my_M} (hf : f_X9_traced σ x1 = some (r, τ)) : Ct w layR mX9_traced 1 [.ref (w.2.2.2 0), .int x1] σ none τ := by
  refine my_met RX9 [some (.ref (w.2.2.2 0)), some (.int x1)] 0 (by decide) rfl (Nat.le_of_ble_eq_true rfl) rfl (fun X h => ?_)
  unfold f_X9_traced at hf
  refine g_al0 h 1 dX9_traced_0 rfl ?_
  refine g_bipush h 3 bp_31 dX9_traced_1 rfl ?_
  refine g_al0 h 4 dX9_traced_3 rfl ?_
  refine g_geti h 7 fF_X9_284_X9 lyR_0 rfl dX9_traced_4 rfl ?_
  refine g_imul h 8 dX9_traced_7 rfl ?_
  refine g_il1 h 9 dX9_traced_8 rfl ?_
  refine g_iadd h 10 dX9_traced_9 rfl ?_
  refine g_puti h 13 fP_X9_284_X9 lyR_0 rfl dX9_traced_10 rfl ?_
  exact g_vret h dX9_traced_13 rfl (my_r2 hf)
def f_X9_hail (σ : my_M) (x1 : Int32) : Option (Int32 × my_M) :=
(my_bnd (f_X9_noCaller σ x1) fun r1 σ1 =>
(if r1 = 0 then
(if my_ix x1 (my_len layR 1) then
(my_bnd (f_X9_traced σ1 (if (σ1 1 (Int32.toNatClampNeg x1)) = 2 then 5 else 4 : Int32)) fun r3 σ3 =>
(if my_ix x1 (my_len layR 1) then
(if (σ3 1 (Int32.toNatClampNeg x1)) = 2 then
some (60, σ3)
else
some (x1, σ3))
else none))
else none)
else
some ((-1), σ1)))
set_option maxRecDepth 100000 in
set_option maxHeartbeats 4000000 in
theorem ct_X9_hail (w : my_V) {σ : my_M} {x1 : Int32} {r : Int32} {τ : my_M} (hf : f_X9_hail σ x1 = some (r, τ)) : Ct w layR mX9_hail 3 [.ref (w.2.2.2 0), .int x1] σ (some (.int r)) τ := by
  refine my_met RX9 [some (.ref (w.2.2.2 0)), some (.int x1)] 0 (by decide) rfl (Nat.le_of_ble_eq_true rfl) rfl (fun X h => ?_)
  unfold f_X9_hail at hf
  refine g_al0 h 1 dX9_hail_0 rfl ?_
  refine g_il1 h 2 dX9_hail_1 rfl ?_
  obtain ⟨r1, σ1, hc1, hf⟩ := my_ofb hf
  refine g_callVi h 5 cs_X9_165 rfl lyR_0 (ct_X9_noCaller w hc1) rfl rfl (Nat.le_of_ble_eq_true rfl) ⟨Nat.le_of_ble_eq_true rfl, Nat.le_of_ble_eq_true rfl⟩ dX9_hail_2 rfl ?_
  refine g_ifeq h 10 8 dX9_hail_5 (by decide) rfl (fun hc => ?_) (fun hc => ?_)
  · have hf := my_ifT hc hf
    refine g_al0 h 11 dX9_hail_10 rfl ?_
    refine g_al0 h 12 dX9_hail_11 rfl ?_
    refine g_geta h 15 fF_X9_7_X9 lyR_0 rfl dX9_hail_12 rfl ?_
    refine g_il1 h 16 dX9_hail_15 rfl ?_
    obtain ⟨hq2, hf⟩ := my_chk hf
    refine g_iald h 17 dX9_hail_16 rfl hq2 ?_
    refine g_iconst h 18 ic_2 dX9_hail_17 rfl ?_
    refine g_icne_sel h 25 26 dX9_hail_18 (by decide) dX9_hail_21 ic_5 dX9_hail_22 (by decide) dX9_hail_25 ic_4 rfl ?_
    obtain ⟨r3, σ3, hc3, hf⟩ := my_ofb hf
    refine g_callVv h 29 cs_X9_287 rfl lyR_0 (ct_X9_traced w hc3) rfl rfl (Nat.le_of_ble_eq_true rfl) ⟨Nat.le_of_ble_eq_true rfl, Nat.le_of_ble_eq_true rfl⟩ dX9_hail_26 rfl ?_
    refine g_al0 h 30 dX9_hail_29 rfl ?_
    refine g_geta h 33 fF_X9_7_X9 lyR_0 rfl dX9_hail_30 rfl ?_
    refine g_il1 h 34 dX9_hail_33 rfl ?_
    obtain ⟨hq4, hf⟩ := my_chk hf
    refine g_iald h 35 dX9_hail_34 rfl hq4 ?_
    refine g_iconst h 36 ic_2 dX9_hail_35 rfl ?_
    refine g_icne h 44 39 dX9_hail_36 (by decide) rfl (fun hc => ?_) (fun hc => ?_)
    · have hf := my_ifF hc hf
      refine g_il1 h 45 dX9_hail_44 rfl ?_
      exact g_iret h dX9_hail_45 (my_r1 hf) (my_r2 hf)
    · have hf := my_ifT hc hf
      refine g_bipush h 41 bp_60 dX9_hail_39 rfl ?_
      refine g_goto h 45 dX9_hail_41 (by decide) ?_
      exact g_iret h dX9_hail_45 (my_r1 hf) (my_r2 hf)
  · have hf := my_ifF hc hf
    refine g_iconst h 9 ic_m1 dX9_hail_8 rfl ?_
    exact g_iret h dX9_hail_9 (my_r1 hf) (my_r2 hf)
def b_X9_hasThoseOf_0 (k0 : my_M → Int32 → Int32 → Int32 → Option (Int32 × my_M)) (σ : my_M) (x1 : Int32) (x2 : Int32) (x3 : Int32) : Option (Int32 × my_M) :=
(if (σ 0 2) ≤ x3 then
(if my_b x2 then some (x2, σ) else none)
else
(if x2 = 0 then
k0 σ x1 0 ((x3 + 1))
else
(my_bnd (f_X9_pitch σ x1 x3) fun r1 σ1 =>
(if r1 < 0 then
k0 σ1 x1 1 ((x3 + 1))
else
(my_bnd (f_X9_pitch σ1 x1 x3) fun r2 σ2 =>
(if my_ix x3 (my_len layR 5) then
k0 σ2 x1 ((if r2 = (σ2 5 (Int32.toNatClampNeg x3)) then 1 else 0 : Int32)) ((x3 + 1))
else none))))))
def g_X9_hasThoseOf : Nat → my_M → Int32 → Int32 → Int32 → Option (Int32 × my_M)
  | 0 => fun _ _ _ _ => none
  | n + 1 => b_X9_hasThoseOf_0 (g_X9_hasThoseOf n)
def f_X9_hasThoseOf (σ : my_M) (x1 : Int32) : Option (Int32 × my_M) :=
(g_X9_hasThoseOf my_NF) σ x1 1 0
set_option maxRecDepth 100000 in
set_option maxHeartbeats 4000000 in
theorem lp_X9_hasThoseOf (w : my_V) {X : my_X} {r : Int32} {τ : my_M} (h : my_OK X w layR cX9_hasThoseOf RX9 4 (some .boolean)) : ∀ n : Nat, (∀ (σ : my_M) (x1 : Int32) (x2 : Int32) (x3 : Int32), (g_X9_hasThoseOf n) σ x1 x2 x3 = some (r, τ) → Go X w layR 2 4 (some (.int r)) τ σ 4 [some (.ref (w.2.2.2 0)), some (.int x1), some (.int x2), some (.int x3)] []) := by
  intro n
  induction n with
  | zero => exact fun _ _ _ _ hf => (my_nn hf).elim
  | succ n ih =>
    intro σ x1 x2 x3 hf
    replace hf : b_X9_hasThoseOf_0 (g_X9_hasThoseOf n) σ x1 x2 x3 = some (r, τ) := hf
    unfold b_X9_hasThoseOf_0 at hf
    refine g_il3 h 5 dX9_hasThoseOf_4 rfl ?_
    refine g_al0 h 6 dX9_hasThoseOf_5 rfl ?_
    refine g_geti h 9 fF_X9_87_X9 lyR_0 rfl dX9_hasThoseOf_6 rfl ?_
    refine g_icge h 52 12 dX9_hasThoseOf_9 (by decide) rfl (fun hc => ?_) (fun hc => ?_)
    · have hf := my_ifT hc hf
      refine g_il2 h 53 dX9_hasThoseOf_52 rfl ?_
      obtain ⟨hqz, hf⟩ := my_chk hf
      exact g_zret h dX9_hasThoseOf_53 hqz (my_r1 hf) (my_r2 hf)
    · have hf := my_ifF hc hf
      refine g_il2 h 13 dX9_hasThoseOf_12 rfl ?_
      refine g_ifeq h 44 16 dX9_hasThoseOf_13 (by decide) rfl (fun hc => ?_) (fun hc => ?_)
      · have hf := my_ifT hc hf
        refine g_iconst h 45 ic_0 dX9_hasThoseOf_44 rfl ?_
        refine g_is2 h 46 (Nat.le_of_ble_eq_true rfl) rfl dX9_hasThoseOf_45 rfl ?_
        refine g_inc3 h 49 (my_inc ic_1 _) (Nat.le_of_ble_eq_true rfl) rfl dX9_hasThoseOf_46 rfl ?_
        refine g_goto h 4 dX9_hasThoseOf_49 (by decide) ?_
        exact g_weak (ih _ _ _ _ hf) (w_s (w_s (w_s (w_s w_0))))
      · have hf := my_ifF hc hf
        refine g_al0 h 17 dX9_hasThoseOf_16 rfl ?_
        refine g_il1 h 18 dX9_hasThoseOf_17 rfl ?_
        refine g_il3 h 19 dX9_hasThoseOf_18 rfl ?_
        obtain ⟨r1, σ1, hc1, hf⟩ := my_ofb hf
        refine g_callVi h 22 cs_X9_145 rfl lyR_0 (ct_X9_pitch w hc1) rfl rfl (Nat.le_of_ble_eq_true rfl) ⟨Nat.le_of_ble_eq_true rfl, Nat.le_of_ble_eq_true rfl⟩ dX9_hasThoseOf_19 rfl ?_
        refine g_iflt h 40 25 dX9_hasThoseOf_22 (by decide) rfl (fun hc => ?_) (fun hc => ?_)
        · have hf := my_ifT hc hf
          refine g_iconst h 41 ic_1 dX9_hasThoseOf_40 rfl ?_
          refine g_goto h 45 dX9_hasThoseOf_41 (by decide) ?_
          refine g_is2 h 46 (Nat.le_of_ble_eq_true rfl) rfl dX9_hasThoseOf_45 rfl ?_
          refine g_inc3 h 49 (my_inc ic_1 _) (Nat.le_of_ble_eq_true rfl) rfl dX9_hasThoseOf_46 rfl ?_
          refine g_goto h 4 dX9_hasThoseOf_49 (by decide) ?_
          exact g_weak (ih _ _ _ _ hf) (w_s (w_s (w_s (w_s w_0))))
        · have hf := my_ifF hc hf
          refine g_al0 h 26 dX9_hasThoseOf_25 rfl ?_
          refine g_il1 h 27 dX9_hasThoseOf_26 rfl ?_
          refine g_il3 h 28 dX9_hasThoseOf_27 rfl ?_
          obtain ⟨r2, σ2, hc2, hf⟩ := my_ofb hf
          refine g_callVi h 31 cs_X9_145 rfl lyR_0 (ct_X9_pitch w hc2) rfl rfl (Nat.le_of_ble_eq_true rfl) ⟨Nat.le_of_ble_eq_true rfl, Nat.le_of_ble_eq_true rfl⟩ dX9_hasThoseOf_28 rfl ?_
          refine g_al0 h 32 dX9_hasThoseOf_31 rfl ?_
          refine g_geta h 35 fF_X9_22_X9 lyR_0 rfl dX9_hasThoseOf_32 rfl ?_
          refine g_il3 h 36 dX9_hasThoseOf_35 rfl ?_
          obtain ⟨hq3, hf⟩ := my_chk hf
          refine g_iald h 37 dX9_hasThoseOf_36 rfl hq3 ?_
          refine g_icne_sel h 44 45 dX9_hasThoseOf_37 (by decide) dX9_hasThoseOf_40 ic_1 dX9_hasThoseOf_41 (by decide) dX9_hasThoseOf_44 ic_0 rfl ?_
          refine g_is2 h 46 (Nat.le_of_ble_eq_true rfl) rfl dX9_hasThoseOf_45 rfl ?_
          refine g_inc3 h 49 (my_inc ic_1 _) (Nat.le_of_ble_eq_true rfl) rfl dX9_hasThoseOf_46 rfl ?_
          refine g_goto h 4 dX9_hasThoseOf_49 (by decide) ?_
          exact g_weak (ih _ _ _ _ hf) (w_s (w_s (w_s (w_s w_0))))
set_option maxRecDepth 100000 in
set_option maxHeartbeats 4000000 in
theorem ct_X9_hasThoseOf (w : my_V) {σ : my_M} {x1 : Int32} {r : Int32} {τ : my_M} (hf : f_X9_hasThoseOf σ x1 = some (r, τ)) : Ct w layR mX9_hasThoseOf 2 [.ref (w.2.2.2 0), .int x1] σ (some (.int r)) τ := by
  refine my_met RX9 [some (.ref (w.2.2.2 0)), some (.int x1), none, none] 2 (by decide) rfl (Nat.le_of_ble_eq_true rfl) rfl (fun X h => ?_)
  unfold f_X9_hasThoseOf at hf
  refine g_iconst h 1 ic_1 dX9_hasThoseOf_0 rfl ?_
  refine g_is2 h 2 (Nat.le_of_ble_eq_true rfl) rfl dX9_hasThoseOf_1 rfl ?_
  refine g_iconst h 3 ic_0 dX9_hasThoseOf_2 rfl ?_
  refine g_is3 h 4 (Nat.le_of_ble_eq_true rfl) rfl dX9_hasThoseOf_3 rfl ?_
  exact g_weak ((lp_X9_hasThoseOf w h my_NF) _ _ _ _ hf) (w_s (w_s (w_s (w_s w_0))))
def f_X9_isShift (σ : my_M) (x0 : Int32) : Option (Int32 × my_M) :=
(my_bnd (f_X9_in σ (Int32.toInt64 x0) (-5) 5) fun r1 σ1 =>
(if my_b r1 then some (r1, σ1) else none))
set_option maxRecDepth 100000 in
set_option maxHeartbeats 4000000 in
theorem ct_X9_isShift (w : my_V) {σ : my_M} {x0 : Int32} {r : Int32} {τ : my_M} (hf : f_X9_isShift σ x0 = some (r, τ)) : Ct w layR mX9_isShift 2 [.int x0] σ (some (.int r)) τ := by
  refine my_met RX9 [some (.int x0)] 0 (by decide) rfl (Nat.le_of_ble_eq_true rfl) rfl (fun X h => ?_)
  unfold f_X9_isShift at hf
  refine g_il0 h 1 dX9_isShift_0 rfl ?_
  refine g_i2l h 2 dX9_isShift_1 rfl ?_
  refine g_ldc2 h 5 tw_kl_X9_184 dX9_isShift_2 rfl ?_
  refine g_ldc2 h 8 tw_kl_X9_186 dX9_isShift_5 rfl ?_
  obtain ⟨r1, σ1, hc1, hf⟩ := my_ofb hf
  refine g_callSi h 11 cs_X9_83 (ct_X9_in w hc1) rfl rfl (Nat.le_of_ble_eq_true rfl) ⟨Nat.le_of_ble_eq_true rfl, Nat.le_of_ble_eq_true rfl⟩ dX9_isShift_8 rfl ?_
  obtain ⟨hqz, hf⟩ := my_chk hf
  exact g_zret h dX9_isShift_11 hqz (my_r1 hf) (my_r2 hf)
def f_X9_hears (σ : my_M) (x1 : Int32) (x2 : Int32) (x3 : Int32) (x4 : Int32) : Option (Int32 × my_M) :=
(my_bnd (f_X9_noCaller σ x1) fun r1 σ1 =>
(if r1 = 0 then
(my_bnd (f_X9_noCaller σ1 x2) fun r2 σ2 =>
(if r2 = 0 then
(my_bnd (f_X9_isShift σ2 x3) fun r3 σ3 =>
(if r3 = 0 then
some ((-2), σ3)
else
(my_bnd (f_X9_isShift σ3 x4) fun r4 σ4 =>
(if r4 = 0 then
some ((-2), σ4)
else
(my_bnd (f_X9_heardBy σ4 x1 x2 x3 x4) fun r5 σ5 =>
some (r5, σ5))))))
else
some ((-1), σ2)))
else
some ((-1), σ1)))
set_option maxRecDepth 100000 in
set_option maxHeartbeats 4000000 in
theorem ct_X9_hears (w : my_V) {σ : my_M} {x1 : Int32} {x2 : Int32} {x3 : Int32} {x4 : Int32} {r : Int32} {τ : my_M} (hf : f_X9_hears σ x1 x2 x3 x4 = some (r, τ)) : Ct w layR mX9_hears 4 [.ref (w.2.2.2 0), .int x1, .int x2, .int x3, .int x4] σ (some (.int r)) τ := by
  refine my_met RX9 [some (.ref (w.2.2.2 0)), some (.int x1), some (.int x2), some (.int x3), some (.int x4)] 0 (by decide) rfl (Nat.le_of_ble_eq_true rfl) rfl (fun X h => ?_)
  unfold f_X9_hears at hf
  refine g_al0 h 1 dX9_hears_0 rfl ?_
  refine g_il1 h 2 dX9_hears_1 rfl ?_
  obtain ⟨r1, σ1, hc1, hf⟩ := my_ofb hf
  refine g_callVi h 5 cs_X9_165 rfl lyR_0 (ct_X9_noCaller w hc1) rfl rfl (Nat.le_of_ble_eq_true rfl) ⟨Nat.le_of_ble_eq_true rfl, Nat.le_of_ble_eq_true rfl⟩ dX9_hears_2 rfl ?_
  refine g_ifne h 16 8 dX9_hears_5 (by decide) rfl (fun hc => ?_) (fun hc => ?_)
  · have hf := my_ifF hc hf
    refine g_iconst h 17 ic_m1 dX9_hears_16 rfl ?_
    exact g_iret h dX9_hears_17 (my_r1 hf) (my_r2 hf)
  · have hf := my_ifT hc hf
    refine g_al0 h 9 dX9_hears_8 rfl ?_
    refine g_il2 h 10 dX9_hears_9 rfl ?_
    obtain ⟨r2, σ2, hc2, hf⟩ := my_ofb hf
    refine g_callVi h 13 cs_X9_165 rfl lyR_0 (ct_X9_noCaller w hc2) rfl rfl (Nat.le_of_ble_eq_true rfl) ⟨Nat.le_of_ble_eq_true rfl, Nat.le_of_ble_eq_true rfl⟩ dX9_hears_10 rfl ?_
    refine g_ifeq h 18 16 dX9_hears_13 (by decide) rfl (fun hc => ?_) (fun hc => ?_)
    · have hf := my_ifT hc hf
      refine g_il3 h 19 dX9_hears_18 rfl ?_
      obtain ⟨r3, σ3, hc3, hf⟩ := my_ofb hf
      refine g_callSi h 22 cs_X9_188 (ct_X9_isShift w hc3) rfl rfl (Nat.le_of_ble_eq_true rfl) ⟨Nat.le_of_ble_eq_true rfl, Nat.le_of_ble_eq_true rfl⟩ dX9_hears_19 rfl ?_
      refine g_ifeq h 45 25 dX9_hears_22 (by decide) rfl (fun hc => ?_) (fun hc => ?_)
      · have hf := my_ifT hc hf
        refine g_bipush h 47 bp_m2 dX9_hears_45 rfl ?_
        exact g_iret h dX9_hears_47 (my_r1 hf) (my_r2 hf)
      · have hf := my_ifF hc hf
        refine g_il4 h 27 dX9_hears_25 rfl ?_
        obtain ⟨r4, σ4, hc4, hf⟩ := my_ofb hf
        refine g_callSi h 30 cs_X9_188 (ct_X9_isShift w hc4) rfl rfl (Nat.le_of_ble_eq_true rfl) ⟨Nat.le_of_ble_eq_true rfl, Nat.le_of_ble_eq_true rfl⟩ dX9_hears_27 rfl ?_
        refine g_ifeq h 45 33 dX9_hears_30 (by decide) rfl (fun hc => ?_) (fun hc => ?_)
        · have hf := my_ifT hc hf
          refine g_bipush h 47 bp_m2 dX9_hears_45 rfl ?_
          exact g_iret h dX9_hears_47 (my_r1 hf) (my_r2 hf)
        · have hf := my_ifF hc hf
          refine g_al0 h 34 dX9_hears_33 rfl ?_
          refine g_il1 h 35 dX9_hears_34 rfl ?_
          refine g_il2 h 36 dX9_hears_35 rfl ?_
          refine g_il3 h 37 dX9_hears_36 rfl ?_
          refine g_il4 h 39 dX9_hears_37 rfl ?_
          obtain ⟨r5, σ5, hc5, hf⟩ := my_ofb hf
          refine g_callVi h 42 cs_X9_191 rfl lyR_0 (ct_X9_heardBy w hc5) rfl rfl (Nat.le_of_ble_eq_true rfl) ⟨Nat.le_of_ble_eq_true rfl, Nat.le_of_ble_eq_true rfl⟩ dX9_hears_39 rfl ?_
          refine g_goto h 47 dX9_hears_42 (by decide) ?_
          exact g_iret h dX9_hears_47 (my_r1 hf) (my_r2 hf)
    · have hf := my_ifF hc hf
      refine g_iconst h 17 ic_m1 dX9_hears_16 rfl ?_
      exact g_iret h dX9_hears_17 (my_r1 hf) (my_r2 hf)
def b_X9_kinds_0 (k0 : my_M → Int32 → Int32 → Int32 → Int32 → Option (Int32 × my_M)) (σ : my_M) (x1 : Int32) (x2 : Int32) (x3 : Int32) (x4 : Int32) : Option (Int32 × my_M) :=
(if 3 ≤ x4 then
(if my_ix x1 (my_len layR 1) then
some (x3, (my_up σ 1 (Int32.toNatClampNeg x1) x2))
else none)
else
(if my_ix x1 (my_len layR 1) then
(my_bnd (f_X9_areSo (my_up σ 1 (Int32.toNatClampNeg x1) x4)) fun r3 σ3 =>
(if r3 = 0 then
k0 σ3 x1 x2 ((x3 ||| 0)) ((x4 + 1))
else
k0 σ3 x1 x2 ((x3 ||| (1 <<< (x4 &&& 31)))) ((x4 + 1))))
else none))
def g_X9_kinds : Nat → my_M → Int32 → Int32 → Int32 → Int32 → Option (Int32 × my_M)
  | 0 => fun _ _ _ _ _ => none
  | n + 1 => b_X9_kinds_0 (g_X9_kinds n)
def f_X9_kinds (σ : my_M) (x1 : Int32) : Option (Int32 × my_M) :=
(my_bnd (f_X9_noCaller σ x1) fun r1 σ1 =>
(if r1 = 0 then
(if my_ix x1 (my_len layR 1) then
(g_X9_kinds my_NF) σ1 x1 ((σ1 1 (Int32.toNatClampNeg x1))) 0 0
else none)
else
some ((-1), σ1)))
set_option maxRecDepth 100000 in
set_option maxHeartbeats 4000000 in
theorem lp_X9_kinds (w : my_V) {X : my_X} {r : Int32} {τ : my_M} (h : my_OK X w layR cX9_kinds RX9 5 (some .int)) : ∀ n : Nat, (∀ (σ : my_M) (x1 : Int32) (x2 : Int32) (x3 : Int32) (x4 : Int32), (g_X9_kinds n) σ x1 x2 x3 x4 = some (r, τ) → Go X w layR 5 5 (some (.int r)) τ σ 22 [some (.ref (w.2.2.2 0)), some (.int x1), some (.int x2), some (.int x3), some (.int x4)] []) := by
  intro n
  induction n with
  | zero => exact fun _ _ _ _ _ hf => (my_nn hf).elim
  | succ n ih =>
    intro σ x1 x2 x3 x4 hf
    replace hf : b_X9_kinds_0 (g_X9_kinds n) σ x1 x2 x3 x4 = some (r, τ) := hf
    unfold b_X9_kinds_0 at hf
    refine g_il4 h 24 dX9_kinds_22 rfl ?_
    refine g_iconst h 25 ic_3 dX9_kinds_24 rfl ?_
    refine g_icge h 60 28 dX9_kinds_25 (by decide) rfl (fun hc => ?_) (fun hc => ?_)
    · have hf := my_ifT hc hf
      refine g_al0 h 61 dX9_kinds_60 rfl ?_
      refine g_geta h 64 fF_X9_7_X9 lyR_0 rfl dX9_kinds_61 rfl ?_
      refine g_il1 h 65 dX9_kinds_64 rfl ?_
      refine g_il2 h 66 dX9_kinds_65 rfl ?_
      obtain ⟨hq1, hf⟩ := my_chk hf
      refine g_iast h 67 dX9_kinds_66 rfl hq1 ?_
      refine g_il3 h 68 dX9_kinds_67 rfl ?_
      exact g_iret h dX9_kinds_68 (my_r1 hf) (my_r2 hf)
    · have hf := my_ifF hc hf
      refine g_al0 h 29 dX9_kinds_28 rfl ?_
      refine g_geta h 32 fF_X9_7_X9 lyR_0 rfl dX9_kinds_29 rfl ?_
      refine g_il1 h 33 dX9_kinds_32 rfl ?_
      refine g_il4 h 35 dX9_kinds_33 rfl ?_
      obtain ⟨hq2, hf⟩ := my_chk hf
      refine g_iast h 36 dX9_kinds_35 rfl hq2 ?_
      refine g_il3 h 37 dX9_kinds_36 rfl ?_
      refine g_al0 h 38 dX9_kinds_37 rfl ?_
      obtain ⟨r3, σ3, hc3, hf⟩ := my_ofb hf
      refine g_callVi h 41 cs_X9_268 rfl lyR_0 (ct_X9_areSo w hc3) rfl rfl (Nat.le_of_ble_eq_true rfl) ⟨Nat.le_of_ble_eq_true rfl, Nat.le_of_ble_eq_true rfl⟩ dX9_kinds_38 rfl ?_
      refine g_ifeq h 51 44 dX9_kinds_41 (by decide) rfl (fun hc => ?_) (fun hc => ?_)
      · have hf := my_ifT hc hf
        refine g_iconst h 52 ic_0 dX9_kinds_51 rfl ?_
        refine g_ior h 53 dX9_kinds_52 rfl ?_
        refine g_is3 h 54 (Nat.le_of_ble_eq_true rfl) rfl dX9_kinds_53 rfl ?_
        refine g_inc4 h 57 (my_inc ic_1 _) (Nat.le_of_ble_eq_true rfl) rfl dX9_kinds_54 rfl ?_
        refine g_goto h 22 dX9_kinds_57 (by decide) ?_
        exact g_weak (ih _ _ _ _ _ hf) (w_s (w_s (w_s (w_s (w_s w_0)))))
      · have hf := my_ifF hc hf
        refine g_iconst h 45 ic_1 dX9_kinds_44 rfl ?_
        refine g_il4 h 47 dX9_kinds_45 rfl ?_
        refine g_ishl h 48 dX9_kinds_47 rfl ?_
        refine g_goto h 52 dX9_kinds_48 (by decide) ?_
        refine g_ior h 53 dX9_kinds_52 rfl ?_
        refine g_is3 h 54 (Nat.le_of_ble_eq_true rfl) rfl dX9_kinds_53 rfl ?_
        refine g_inc4 h 57 (my_inc ic_1 _) (Nat.le_of_ble_eq_true rfl) rfl dX9_kinds_54 rfl ?_
        refine g_goto h 22 dX9_kinds_57 (by decide) ?_
        exact g_weak (ih _ _ _ _ _ hf) (w_s (w_s (w_s (w_s (w_s w_0)))))
set_option maxRecDepth 100000 in
set_option maxHeartbeats 4000000 in
theorem ct_X9_kinds (w : my_V) {σ : my_M} {x1 : Int32} {r : Int32} {τ : my_M} (hf : f_X9_kinds σ x1 = some (r, τ)) : Ct w layR mX9_kinds 5 [.ref (w.2.2.2 0), .int x1] σ (some (.int r)) τ := by
  refine my_met RX9 [some (.ref (w.2.2.2 0)), some (.int x1), none, none, none] 3 (by decide) rfl (Nat.le_of_ble_eq_true rfl) rfl (fun X h => ?_)
  unfold f_X9_kinds at hf
  refine g_al0 h 1 dX9_kinds_0 rfl ?_
  refine g_il1 h 2 dX9_kinds_1 rfl ?_
  obtain ⟨r1, σ1, hc1, hf⟩ := my_ofb hf
  refine g_callVi h 5 cs_X9_165 rfl lyR_0 (ct_X9_noCaller w hc1) rfl rfl (Nat.le_of_ble_eq_true rfl) ⟨Nat.le_of_ble_eq_true rfl, Nat.le_of_ble_eq_true rfl⟩ dX9_kinds_2 rfl ?_
  refine g_ifeq h 10 8 dX9_kinds_5 (by decide) rfl (fun hc => ?_) (fun hc => ?_)
  · have hf := my_ifT hc hf
    refine g_al0 h 11 dX9_kinds_10 rfl ?_
    refine g_geta h 14 fF_X9_7_X9 lyR_0 rfl dX9_kinds_11 rfl ?_
    refine g_il1 h 15 dX9_kinds_14 rfl ?_
    obtain ⟨hq2, hf⟩ := my_chk hf
    refine g_iald h 16 dX9_kinds_15 rfl hq2 ?_
    refine g_is2 h 17 (Nat.le_of_ble_eq_true rfl) rfl dX9_kinds_16 rfl ?_
    refine g_iconst h 18 ic_0 dX9_kinds_17 rfl ?_
    refine g_is3 h 19 (Nat.le_of_ble_eq_true rfl) rfl dX9_kinds_18 rfl ?_
    refine g_iconst h 20 ic_0 dX9_kinds_19 rfl ?_
    refine g_is4 h 22 (Nat.le_of_ble_eq_true rfl) rfl dX9_kinds_20 rfl ?_
    exact g_weak ((lp_X9_kinds w h my_NF) _ _ _ _ _ hf) (w_s (w_s (w_s (w_s (w_s w_0)))))
  · have hf := my_ifF hc hf
    refine g_iconst h 9 ic_m1 dX9_kinds_8 rfl ?_
    exact g_iret h dX9_kinds_9 (my_r1 hf) (my_r2 hf)
def f_X9_listen (σ : my_M) (x1 : Int32) (x2 : Int32) : Option (Int32 × my_M) :=
(my_bnd (f_X9_noCaller σ x1) fun r1 σ1 =>
(if r1 = 0 then
(my_bnd (f_X9_isMoment σ1 x2) fun r2 σ2 =>
(if r2 = 0 then
some ((-2), σ2)
else
(my_bnd (f_X9_listensTo σ2 x1 x2) fun r3 σ3 =>
some (r3, σ3))))
else
some ((-1), σ1)))
set_option maxRecDepth 100000 in
set_option maxHeartbeats 4000000 in
theorem ct_X9_listen (w : my_V) {σ : my_M} {x1 : Int32} {x2 : Int32} {r : Int32} {τ : my_M} (hf : f_X9_listen σ x1 x2 = some (r, τ)) : Ct w layR mX9_listen 5 [.ref (w.2.2.2 0), .int x1, .int x2] σ (some (.int r)) τ := by
  refine my_met RX9 [some (.ref (w.2.2.2 0)), some (.int x1), some (.int x2)] 0 (by decide) rfl (Nat.le_of_ble_eq_true rfl) rfl (fun X h => ?_)
  unfold f_X9_listen at hf
  refine g_al0 h 1 dX9_listen_0 rfl ?_
  refine g_il1 h 2 dX9_listen_1 rfl ?_
  obtain ⟨r1, σ1, hc1, hf⟩ := my_ofb hf
  refine g_callVi h 5 cs_X9_165 rfl lyR_0 (ct_X9_noCaller w hc1) rfl rfl (Nat.le_of_ble_eq_true rfl) ⟨Nat.le_of_ble_eq_true rfl, Nat.le_of_ble_eq_true rfl⟩ dX9_listen_2 rfl ?_
  refine g_ifeq h 10 8 dX9_listen_5 (by decide) rfl (fun hc => ?_) (fun hc => ?_)
  · have hf := my_ifT hc hf
    refine g_il2 h 11 dX9_listen_10 rfl ?_
    obtain ⟨r2, σ2, hc2, hf⟩ := my_ofb hf
    refine g_callSi h 14 cs_X9_202 (ct_X9_isMoment w hc2) rfl rfl (Nat.le_of_ble_eq_true rfl) ⟨Nat.le_of_ble_eq_true rfl, Nat.le_of_ble_eq_true rfl⟩ dX9_listen_11 rfl ?_
    refine g_ifeq h 26 17 dX9_listen_14 (by decide) rfl (fun hc => ?_) (fun hc => ?_)
    · have hf := my_ifT hc hf
      refine g_bipush h 28 bp_m2 dX9_listen_26 rfl ?_
      exact g_iret h dX9_listen_28 (my_r1 hf) (my_r2 hf)
    · have hf := my_ifF hc hf
      refine g_al0 h 18 dX9_listen_17 rfl ?_
      refine g_il1 h 19 dX9_listen_18 rfl ?_
      refine g_il2 h 20 dX9_listen_19 rfl ?_
      obtain ⟨r3, σ3, hc3, hf⟩ := my_ofb hf
      refine g_callVi h 23 cs_X9_211 rfl lyR_0 (ct_X9_listensTo w hc3) rfl rfl (Nat.le_of_ble_eq_true rfl) ⟨Nat.le_of_ble_eq_true rfl, Nat.le_of_ble_eq_true rfl⟩ dX9_listen_20 rfl ?_
      refine g_goto h 28 dX9_listen_23 (by decide) ?_
      exact g_iret h dX9_listen_28 (my_r1 hf) (my_r2 hf)
  · have hf := my_ifF hc hf
    refine g_iconst h 9 ic_m1 dX9_listen_8 rfl ?_
    exact g_iret h dX9_listen_9 (my_r1 hf) (my_r2 hf)
def f_X9_lose (σ : my_M) (x1 : Int32) : Option (Int32 × my_M) :=
(my_bnd (f_X9_noSheet σ x1) fun r1 σ1 =>
(if r1 = 0 then
(if my_ix x1 (my_len layR 17) then
(if my_ix x1 (my_len layR 17) then
some ((if 0 ≤ (σ1 17 (Int32.toNatClampNeg x1)) then 1 else 0 : Int32), (my_up σ1 17 (Int32.toNatClampNeg x1) (-1)))
else none)
else none)
else
some ((-1), σ1)))
set_option maxRecDepth 100000 in
set_option maxHeartbeats 4000000 in
theorem ct_X9_lose (w : my_V) {σ : my_M} {x1 : Int32} {r : Int32} {τ : my_M} (hf : f_X9_lose σ x1 = some (r, τ)) : Ct w layR mX9_lose 3 [.ref (w.2.2.2 0), .int x1] σ (some (.int r)) τ := by
  refine my_met RX9 [some (.ref (w.2.2.2 0)), some (.int x1), none] 1 (by decide) rfl (Nat.le_of_ble_eq_true rfl) rfl (fun X h => ?_)
  unfold f_X9_lose at hf
  refine g_il1 h 1 dX9_lose_0 rfl ?_
  obtain ⟨r1, σ1, hc1, hf⟩ := my_ofb hf
  refine g_callSi h 4 cs_X9_125 (ct_X9_noSheet w hc1) rfl rfl (Nat.le_of_ble_eq_true rfl) ⟨Nat.le_of_ble_eq_true rfl, Nat.le_of_ble_eq_true rfl⟩ dX9_lose_1 rfl ?_
  refine g_ifeq h 9 7 dX9_lose_4 (by decide) rfl (fun hc => ?_) (fun hc => ?_)
  · have hf := my_ifT hc hf
    refine g_al0 h 10 dX9_lose_9 rfl ?_
    refine g_geta h 13 fF_X9_58_X9 lyR_0 rfl dX9_lose_10 rfl ?_
    refine g_il1 h 14 dX9_lose_13 rfl ?_
    obtain ⟨hq2, hf⟩ := my_chk hf
    refine g_iald h 15 dX9_lose_14 rfl hq2 ?_
    refine g_ifge_sel h 22 23 dX9_lose_15 (by decide) dX9_lose_18 ic_0 dX9_lose_19 (by decide) dX9_lose_22 ic_1 rfl ?_
    refine g_is2 h 24 (Nat.le_of_ble_eq_true rfl) rfl dX9_lose_23 rfl ?_
    refine g_al0 h 25 dX9_lose_24 rfl ?_
    refine g_geta h 28 fF_X9_58_X9 lyR_0 rfl dX9_lose_25 rfl ?_
    refine g_il1 h 29 dX9_lose_28 rfl ?_
    refine g_iconst h 30 ic_m1 dX9_lose_29 rfl ?_
    obtain ⟨hq3, hf⟩ := my_chk hf
    refine g_iast h 31 dX9_lose_30 rfl hq3 ?_
    refine g_il2 h 32 dX9_lose_31 rfl ?_
    exact g_iret h dX9_lose_32 (my_r1 hf) (my_r2 hf)
  · have hf := my_ifF hc hf
    refine g_iconst h 8 ic_m1 dX9_lose_7 rfl ?_
    exact g_iret h dX9_lose_8 (my_r1 hf) (my_r2 hf)
def f_X9_loudest (σ : my_M) (x1 : Int32) (x2 : Int32) : Option (Int32 × my_M) :=
(my_bnd (f_X9_noCaller σ x1) fun r1 σ1 =>
(if r1 = 0 then
(my_bnd (f_X9_in σ1 (Int32.toInt64 x2) 0 1) fun r2 σ2 =>
(if r2 = 0 then
some ((-2), σ2)
else
(my_bnd (f_X9_loudestOf σ2 x1) fun r3 σ3 =>
(if x2 = 0 then
some (r3, σ3)
else
(my_bnd (f_X9_listensTo σ3 x1 r3) fun r4 σ4 =>
some (r4, σ4))))))
else
some ((-1), σ1)))
set_option maxRecDepth 100000 in
set_option maxHeartbeats 4000000 in
theorem ct_X9_loudest (w : my_V) {σ : my_M} {x1 : Int32} {x2 : Int32} {r : Int32} {τ : my_M} (hf : f_X9_loudest σ x1 x2 = some (r, τ)) : Ct w layR mX9_loudest 6 [.ref (w.2.2.2 0), .int x1, .int x2] σ (some (.int r)) τ := by
  refine my_met RX9 [some (.ref (w.2.2.2 0)), some (.int x1), some (.int x2), none] 1 (by decide) rfl (Nat.le_of_ble_eq_true rfl) rfl (fun X h => ?_)
  unfold f_X9_loudest at hf
  refine g_al0 h 1 dX9_loudest_0 rfl ?_
  refine g_il1 h 2 dX9_loudest_1 rfl ?_
  obtain ⟨r1, σ1, hc1, hf⟩ := my_ofb hf
  refine g_callVi h 5 cs_X9_165 rfl lyR_0 (ct_X9_noCaller w hc1) rfl rfl (Nat.le_of_ble_eq_true rfl) ⟨Nat.le_of_ble_eq_true rfl, Nat.le_of_ble_eq_true rfl⟩ dX9_loudest_2 rfl ?_
  refine g_ifeq h 10 8 dX9_loudest_5 (by decide) rfl (fun hc => ?_) (fun hc => ?_)
  · have hf := my_ifT hc hf
    refine g_il2 h 11 dX9_loudest_10 rfl ?_
    refine g_i2l h 12 dX9_loudest_11 rfl ?_
    refine g_lconst h 13 lc_0 dX9_loudest_12 rfl ?_
    refine g_lconst h 14 lc_1 dX9_loudest_13 rfl ?_
    obtain ⟨r2, σ2, hc2, hf⟩ := my_ofb hf
    refine g_callSi h 17 cs_X9_83 (ct_X9_in w hc2) rfl rfl (Nat.le_of_ble_eq_true rfl) ⟨Nat.le_of_ble_eq_true rfl, Nat.le_of_ble_eq_true rfl⟩ dX9_loudest_14 rfl ?_
    refine g_ifne h 23 20 dX9_loudest_17 (by decide) rfl (fun hc => ?_) (fun hc => ?_)
    · have hf := my_ifF hc hf
      refine g_al0 h 24 dX9_loudest_23 rfl ?_
      refine g_il1 h 25 dX9_loudest_24 rfl ?_
      obtain ⟨r3, σ3, hc3, hf⟩ := my_ofb hf
      refine g_callVi h 28 cs_X9_214 rfl lyR_0 (ct_X9_loudestOf w hc3) rfl rfl (Nat.le_of_ble_eq_true rfl) ⟨Nat.le_of_ble_eq_true rfl, Nat.le_of_ble_eq_true rfl⟩ dX9_loudest_25 rfl ?_
      refine g_is3 h 29 (Nat.le_of_ble_eq_true rfl) rfl dX9_loudest_28 rfl ?_
      refine g_il2 h 30 dX9_loudest_29 rfl ?_
      refine g_ifne h 37 33 dX9_loudest_30 (by decide) rfl (fun hc => ?_) (fun hc => ?_)
      · have hf := my_ifF hc hf
        refine g_al0 h 38 dX9_loudest_37 rfl ?_
        refine g_il1 h 39 dX9_loudest_38 rfl ?_
        refine g_il3 h 40 dX9_loudest_39 rfl ?_
        obtain ⟨r4, σ4, hc4, hf⟩ := my_ofb hf
        refine g_callVi h 43 cs_X9_211 rfl lyR_0 (ct_X9_listensTo w hc4) rfl rfl (Nat.le_of_ble_eq_true rfl) ⟨Nat.le_of_ble_eq_true rfl, Nat.le_of_ble_eq_true rfl⟩ dX9_loudest_40 rfl ?_
        exact g_iret h dX9_loudest_43 (my_r1 hf) (my_r2 hf)
      · have hf := my_ifT hc hf
        refine g_il3 h 34 dX9_loudest_33 rfl ?_
        refine g_goto h 43 dX9_loudest_34 (by decide) ?_
        exact g_iret h dX9_loudest_43 (my_r1 hf) (my_r2 hf)
    · have hf := my_ifT hc hf
      refine g_bipush h 22 bp_m2 dX9_loudest_20 rfl ?_
      exact g_iret h dX9_loudest_22 (my_r1 hf) (my_r2 hf)
  · have hf := my_ifF hc hf
    refine g_iconst h 9 ic_m1 dX9_loudest_8 rfl ?_
    exact g_iret h dX9_loudest_9 (my_r1 hf) (my_r2 hf)
def b_X9_many_0 (k0 : my_M → Int32 → Int32 → Int32 → Option (Int32 × my_M)) (σ : my_M) (x1 : Int32) (x2 : Int32) (x3 : Int32) : Option (Int32 × my_M) :=
(if (σ 0 1) ≤ x3 then
(if x1 = 0 then
some ((σ 0 1), σ)
else
(if x1 = 1 then
(if (σ 0 1) = 0 then
some (0, σ)
else
some ((σ 0 2), σ))
else
(if x1 = 2 then
some ((σ 0 11), σ)
else
(if x1 = 3 then
some (x2, σ)
else
(if x1 = 4 then
some ((σ 0 22), σ)
else
some ((-2), σ))))))
else
(my_bnd (f_X9_freeOf σ x3) fun r6 σ6 =>
k0 σ6 x1 ((x2 + r6)) ((x3 + 1))))
def g_X9_many : Nat → my_M → Int32 → Int32 → Int32 → Option (Int32 × my_M)
  | 0 => fun _ _ _ _ => none
  | n + 1 => b_X9_many_0 (g_X9_many n)
def f_X9_many (σ : my_M) (x1 : Int32) : Option (Int32 × my_M) :=
(g_X9_many my_NF) σ x1 0 0
set_option maxRecDepth 100000 in
set_option maxHeartbeats 4000000 in
theorem lp_X9_many (w : my_V) {X : my_X} {r : Int32} {τ : my_M} (h : my_OK X w layR cX9_many RX9 4 (some .int)) : ∀ n : Nat, (∀ (σ : my_M) (x1 : Int32) (x2 : Int32) (x3 : Int32), (g_X9_many n) σ x1 x2 x3 = some (r, τ) → Go X w layR 3 4 (some (.int r)) τ σ 4 [some (.ref (w.2.2.2 0)), some (.int x1), some (.int x2), some (.int x3)] []) := by
  intro n
  induction n with
  | zero => exact fun _ _ _ _ hf => (my_nn hf).elim
  | succ n ih =>
    intro σ x1 x2 x3 hf
    replace hf : b_X9_many_0 (g_X9_many n) σ x1 x2 x3 = some (r, τ) := hf
    unfold b_X9_many_0 at hf
    refine g_il3 h 5 dX9_many_4 rfl ?_
    refine g_al0 h 6 dX9_many_5 rfl ?_
    refine g_geti h 9 fF_X9_80_X9 lyR_0 rfl dX9_many_6 rfl ?_
    refine g_icge h 26 12 dX9_many_9 (by decide) rfl (fun hc => ?_) (fun hc => ?_)
    · have hf := my_ifT hc hf
      refine g_il1 h 27 dX9_many_26 rfl ?_
      by_cases hs1 : x1 = 0
      · have hf := my_ifT hs1 hf
        refine g_tsI (off := 33) h 60 dX9_many_27 (0) hs1 (by decide) (by decide) rfl (by decide) ?_
        refine g_al0 h 61 dX9_many_60 rfl ?_
        refine g_geti h 64 fF_X9_80_X9 lyR_0 rfl dX9_many_61 rfl ?_
        exact g_iret h dX9_many_64 (my_r1 hf) (my_r2 hf)
      · have hf := my_ifF hs1 hf
        by_cases hs2 : x1 = 1
        · have hf := my_ifT hs2 hf
          refine g_tsI (off := 38) h 65 dX9_many_27 (1) hs2 (by decide) (by decide) rfl (by decide) ?_
          refine g_al0 h 66 dX9_many_65 rfl ?_
          refine g_geti h 69 fF_X9_80_X9 lyR_0 rfl dX9_many_66 rfl ?_
          refine g_ifne h 76 72 dX9_many_69 (by decide) rfl (fun hc => ?_) (fun hc => ?_)
          · have hf := my_ifF hc hf
            refine g_al0 h 77 dX9_many_76 rfl ?_
            refine g_geti h 80 fF_X9_87_X9 lyR_0 rfl dX9_many_77 rfl ?_
            exact g_iret h dX9_many_80 (my_r1 hf) (my_r2 hf)
          · have hf := my_ifT hc hf
            refine g_iconst h 73 ic_0 dX9_many_72 rfl ?_
            refine g_goto h 80 dX9_many_73 (by decide) ?_
            exact g_iret h dX9_many_80 (my_r1 hf) (my_r2 hf)
        · have hf := my_ifF hs2 hf
          by_cases hs3 : x1 = 2
          · have hf := my_ifT hs3 hf
            refine g_tsI (off := 54) h 81 dX9_many_27 (2) hs3 (by decide) (by decide) rfl (by decide) ?_
            refine g_al0 h 82 dX9_many_81 rfl ?_
            refine g_geti h 85 fF_X9_139_X9 lyR_0 rfl dX9_many_82 rfl ?_
            exact g_iret h dX9_many_85 (my_r1 hf) (my_r2 hf)
          · have hf := my_ifF hs3 hf
            by_cases hs4 : x1 = 3
            · have hf := my_ifT hs4 hf
              refine g_tsI (off := 59) h 86 dX9_many_27 (3) hs4 (by decide) (by decide) rfl (by decide) ?_
              refine g_il2 h 87 dX9_many_86 rfl ?_
              exact g_iret h dX9_many_87 (my_r1 hf) (my_r2 hf)
            · have hf := my_ifF hs4 hf
              by_cases hs5 : x1 = 4
              · have hf := my_ifT hs5 hf
                refine g_tsI (off := 61) h 88 dX9_many_27 (4) hs5 (by decide) (by decide) rfl (by decide) ?_
                refine g_al0 h 89 dX9_many_88 rfl ?_
                refine g_geti h 92 fF_X9_142_X9 lyR_0 rfl dX9_many_89 rfl ?_
                exact g_iret h dX9_many_92 (my_r1 hf) (my_r2 hf)
              · have hf := my_ifF hs5 hf
                have hs1n := lv_neT (a := 0) hs1 (by decide)
                have hs2n := lv_neT (a := 1) hs2 (by decide)
                have hs3n := lv_neT (a := 2) hs3 (by decide)
                have hs4n := lv_neT (a := 3) hs4 (by decide)
                have hs5n := lv_neT (a := 4) hs5 (by decide)
                refine g_tsO h 93 dX9_many_27 (by omega) (by decide) ?_
                refine g_bipush h 95 bp_m2 dX9_many_93 rfl ?_
                exact g_iret h dX9_many_95 (my_r1 hf) (my_r2 hf)
    · have hf := my_ifF hc hf
      refine g_il2 h 13 dX9_many_12 rfl ?_
      refine g_al0 h 14 dX9_many_13 rfl ?_
      refine g_il3 h 15 dX9_many_14 rfl ?_
      obtain ⟨r6, σ6, hc6, hf⟩ := my_ofb hf
      refine g_callVi h 18 cs_X9_155 rfl lyR_0 (ct_X9_freeOf w hc6) rfl rfl (Nat.le_of_ble_eq_true rfl) ⟨Nat.le_of_ble_eq_true rfl, Nat.le_of_ble_eq_true rfl⟩ dX9_many_15 rfl ?_
      refine g_iadd h 19 dX9_many_18 rfl ?_
      refine g_is2 h 20 (Nat.le_of_ble_eq_true rfl) rfl dX9_many_19 rfl ?_
      refine g_inc3 h 23 (my_inc ic_1 _) (Nat.le_of_ble_eq_true rfl) rfl dX9_many_20 rfl ?_
      refine g_goto h 4 dX9_many_23 (by decide) ?_
      exact g_weak (ih _ _ _ _ hf) (w_s (w_s (w_s (w_s w_0))))
set_option maxRecDepth 100000 in
set_option maxHeartbeats 4000000 in
theorem ct_X9_many (w : my_V) {σ : my_M} {x1 : Int32} {r : Int32} {τ : my_M} (hf : f_X9_many σ x1 = some (r, τ)) : Ct w layR mX9_many 3 [.ref (w.2.2.2 0), .int x1] σ (some (.int r)) τ := by
  refine my_met RX9 [some (.ref (w.2.2.2 0)), some (.int x1), none, none] 2 (by decide) rfl (Nat.le_of_ble_eq_true rfl) rfl (fun X h => ?_)
  unfold f_X9_many at hf
  refine g_iconst h 1 ic_0 dX9_many_0 rfl ?_
  refine g_is2 h 2 (Nat.le_of_ble_eq_true rfl) rfl dX9_many_1 rfl ?_
  refine g_iconst h 3 ic_0 dX9_many_2 rfl ?_
  refine g_is3 h 4 (Nat.le_of_ble_eq_true rfl) rfl dX9_many_3 rfl ?_
  exact g_weak ((lp_X9_many w h my_NF) _ _ _ _ hf) (w_s (w_s (w_s (w_s w_0))))
def b_X9_triesNext_0 (k0 : my_M → Int32 → Option (Int32 × my_M)) (σ : my_M) (x1 : Int32) : Option (Int32 × my_M) :=
(if x1 < 0 then
(if 0 ≤ x1 then
(if my_ix x1 (my_len layR 5) then
(if my_ix x1 (my_len layR 5) then
some (1, (my_up σ 5 (Int32.toNatClampNeg x1) ((σ 5 (Int32.toNatClampNeg x1)) + 1)))
else none)
else none)
else
some (0, σ))
else
(if my_ix x1 (my_len layR 5) then
(if (σ 5 (Int32.toNatClampNeg x1)) = ((σ 0 2) - 1) then
(if my_ix x1 (my_len layR 5) then
k0 (my_up σ 5 (Int32.toNatClampNeg x1) 0) ((x1 + (-1)))
else none)
else
(if 0 ≤ x1 then
(if my_ix x1 (my_len layR 5) then
(if my_ix x1 (my_len layR 5) then
some (1, (my_up σ 5 (Int32.toNatClampNeg x1) ((σ 5 (Int32.toNatClampNeg x1)) + 1)))
else none)
else none)
else
some (0, σ)))
else none))
def g_X9_triesNext : Nat → my_M → Int32 → Option (Int32 × my_M)
  | 0 => fun _ _ => none
  | n + 1 => b_X9_triesNext_0 (g_X9_triesNext n)
def f_X9_triesNext (σ : my_M) : Option (Int32 × my_M) :=
(g_X9_triesNext my_NF) σ (((σ 0 2) - 1))
set_option maxRecDepth 100000 in
set_option maxHeartbeats 4000000 in
theorem lp_X9_triesNext (w : my_V) {X : my_X} {r : Int32} {τ : my_M} (h : my_OK X w layR cX9_triesNext RX9 2 (some .boolean)) : ∀ n : Nat, (∀ (σ : my_M) (x1 : Int32), (g_X9_triesNext n) σ x1 = some (r, τ) → Go X w layR 1 2 (some (.int r)) τ σ 7 [some (.ref (w.2.2.2 0)), some (.int x1)] []) := by
  intro n
  induction n with
  | zero => exact fun _ _ hf => (my_nn hf).elim
  | succ n ih =>
    intro σ x1 hf
    replace hf : b_X9_triesNext_0 (g_X9_triesNext n) σ x1 = some (r, τ) := hf
    unfold b_X9_triesNext_0 at hf
    refine g_il1 h 8 dX9_triesNext_7 rfl ?_
    refine g_iflt h 39 11 dX9_triesNext_8 (by decide) rfl (fun hc => ?_) (fun hc => ?_)
    · have hf := my_ifT hc hf
      refine g_il1 h 40 dX9_triesNext_39 rfl ?_
      refine g_ifge h 45 43 dX9_triesNext_40 (by decide) rfl (fun hc => ?_) (fun hc => ?_)
      · have hf := my_ifT hc hf
        refine g_al0 h 46 dX9_triesNext_45 rfl ?_
        refine g_geta h 49 fF_X9_22_X9 lyR_0 rfl dX9_triesNext_46 rfl ?_
        refine g_il1 h 50 dX9_triesNext_49 rfl ?_
        refine g_dup2 h 51 rfl rfl dX9_triesNext_50 rfl ?_
        obtain ⟨hq1, hf⟩ := my_chk hf
        refine g_iald h 52 dX9_triesNext_51 rfl hq1 ?_
        refine g_iconst h 53 ic_1 dX9_triesNext_52 rfl ?_
        refine g_iadd h 54 dX9_triesNext_53 rfl ?_
        obtain ⟨hq2, hf⟩ := my_chk hf
        refine g_iast h 55 dX9_triesNext_54 rfl hq2 ?_
        refine g_iconst h 56 ic_1 dX9_triesNext_55 rfl ?_
        exact g_zret h dX9_triesNext_56 (Or.inr rfl) (my_r1 hf) (my_r2 hf)
      · have hf := my_ifF hc hf
        refine g_iconst h 44 ic_0 dX9_triesNext_43 rfl ?_
        exact g_zret h dX9_triesNext_44 (Or.inl rfl) (my_r1 hf) (my_r2 hf)
    · have hf := my_ifF hc hf
      refine g_al0 h 12 dX9_triesNext_11 rfl ?_
      refine g_geta h 15 fF_X9_22_X9 lyR_0 rfl dX9_triesNext_12 rfl ?_
      refine g_il1 h 16 dX9_triesNext_15 rfl ?_
      obtain ⟨hq3, hf⟩ := my_chk hf
      refine g_iald h 17 dX9_triesNext_16 rfl hq3 ?_
      refine g_al0 h 18 dX9_triesNext_17 rfl ?_
      refine g_geti h 21 fF_X9_87_X9 lyR_0 rfl dX9_triesNext_18 rfl ?_
      refine g_iconst h 22 ic_1 dX9_triesNext_21 rfl ?_
      refine g_isub h 23 dX9_triesNext_22 rfl ?_
      refine g_icne h 39 26 dX9_triesNext_23 (by decide) rfl (fun hc => ?_) (fun hc => ?_)
      · have hf := my_ifF hc hf
        refine g_il1 h 40 dX9_triesNext_39 rfl ?_
        refine g_ifge h 45 43 dX9_triesNext_40 (by decide) rfl (fun hc => ?_) (fun hc => ?_)
        · have hf := my_ifT hc hf
          refine g_al0 h 46 dX9_triesNext_45 rfl ?_
          refine g_geta h 49 fF_X9_22_X9 lyR_0 rfl dX9_triesNext_46 rfl ?_
          refine g_il1 h 50 dX9_triesNext_49 rfl ?_
          refine g_dup2 h 51 rfl rfl dX9_triesNext_50 rfl ?_
          obtain ⟨hq4, hf⟩ := my_chk hf
          refine g_iald h 52 dX9_triesNext_51 rfl hq4 ?_
          refine g_iconst h 53 ic_1 dX9_triesNext_52 rfl ?_
          refine g_iadd h 54 dX9_triesNext_53 rfl ?_
          obtain ⟨hq5, hf⟩ := my_chk hf
          refine g_iast h 55 dX9_triesNext_54 rfl hq5 ?_
          refine g_iconst h 56 ic_1 dX9_triesNext_55 rfl ?_
          exact g_zret h dX9_triesNext_56 (Or.inr rfl) (my_r1 hf) (my_r2 hf)
        · have hf := my_ifF hc hf
          refine g_iconst h 44 ic_0 dX9_triesNext_43 rfl ?_
          exact g_zret h dX9_triesNext_44 (Or.inl rfl) (my_r1 hf) (my_r2 hf)
      · have hf := my_ifT hc hf
        refine g_al0 h 27 dX9_triesNext_26 rfl ?_
        refine g_geta h 30 fF_X9_22_X9 lyR_0 rfl dX9_triesNext_27 rfl ?_
        refine g_il1 h 31 dX9_triesNext_30 rfl ?_
        refine g_iconst h 32 ic_0 dX9_triesNext_31 rfl ?_
        obtain ⟨hq6, hf⟩ := my_chk hf
        refine g_iast h 33 dX9_triesNext_32 rfl hq6 ?_
        refine g_inc1 h 36 (my_inc ic_m1 _) (Nat.le_of_ble_eq_true rfl) rfl dX9_triesNext_33 rfl ?_
        refine g_goto h 7 dX9_triesNext_36 (by decide) ?_
        exact g_weak (ih _ _ hf) (w_s (w_s w_0))
set_option maxRecDepth 100000 in
set_option maxHeartbeats 4000000 in
theorem ct_X9_triesNext (w : my_V) {σ : my_M} {r : Int32} {τ : my_M} (hf : f_X9_triesNext σ = some (r, τ)) : Ct w layR mX9_triesNext 1 [.ref (w.2.2.2 0)] σ (some (.int r)) τ := by
  refine my_met RX9 [some (.ref (w.2.2.2 0)), none] 1 (by decide) rfl (Nat.le_of_ble_eq_true rfl) rfl (fun X h => ?_)
  unfold f_X9_triesNext at hf
  refine g_al0 h 1 dX9_triesNext_0 rfl ?_
  refine g_geti h 4 fF_X9_87_X9 lyR_0 rfl dX9_triesNext_1 rfl ?_
  refine g_iconst h 5 ic_1 dX9_triesNext_4 rfl ?_
  refine g_isub h 6 dX9_triesNext_5 rfl ?_
  refine g_is1 h 7 (Nat.le_of_ble_eq_true rfl) rfl dX9_triesNext_6 rfl ?_
  exact g_weak ((lp_X9_triesNext w h my_NF) _ _ hf) (w_s (w_s w_0))
def b_X9_next_0 (k0 : my_M → Int32 → Int32 → Option (Int32 × my_M)) (σ : my_M) (x2 : Int32) (x3 : Int32) : Option (Int32 × my_M) :=
(if x3 = 0 then
(if x3 = 0 then
some ((-9), σ)
else
(my_bnd (f_X9_noBeat σ x2) fun r1 σ1 =>
(if r1 = 0 then
(if my_ix x2 (my_len layR 5) then
some ((σ1 5 (Int32.toNatClampNeg x2)), σ1)
else none)
else
some ((-9), σ1))))
else
(my_bnd (f_X9_isGood σ) fun r3 σ3 =>
(if r3 = 0 then
(my_bnd (f_X9_triesNext σ3) fun r6 σ6 =>
k0 σ6 x2 r6)
else
(if x3 = 0 then
some ((-9), σ3)
else
(my_bnd (f_X9_noBeat σ3 x2) fun r4 σ4 =>
(if r4 = 0 then
(if my_ix x2 (my_len layR 5) then
some ((σ4 5 (Int32.toNatClampNeg x2)), σ4)
else none)
else
some ((-9), σ4)))))))
def g_X9_next : Nat → my_M → Int32 → Int32 → Option (Int32 × my_M)
  | 0 => fun _ _ _ => none
  | n + 1 => b_X9_next_0 (g_X9_next n)
def f_X9_next (σ : my_M) (x1 : Int32) (x2 : Int32) : Option (Int32 × my_M) :=
(my_bnd (f_X9_noCaller σ x1) fun r1 σ1 =>
(if r1 = 0 then
(my_bnd (f_X9_in σ1 (Int32.toInt64 x2) 0 5) fun r2 σ2 =>
(if r2 = 0 then
some ((-2), σ2)
else
(my_bnd (f_X9_freeOf σ2 x1) fun r3 σ3 =>
(if r3 ≤ 0 then
(my_bnd (f_X9_triesThoseOf σ3 x1) fun r4 σ4 =>
(my_bnd (f_X9_triesNext σ4) fun r5 σ5 =>
(g_X9_next my_NF) σ5 x2 r5))
else
some ((-3), σ3)))))
else
some ((-1), σ1)))
set_option maxRecDepth 100000 in
set_option maxHeartbeats 4000000 in
theorem lp_X9_next (w : my_V) {X : my_X} {r : Int32} {τ : my_M} (h : my_OK X w layR cX9_next RX9 4 (some .int)) : ∀ n : Nat, (∀ (σ : my_M) (x2 : Int32) (x3 : Int32), (g_X9_next n) σ x2 x3 = some (r, τ) → Go X w layR 4 4 (some (.int r)) τ σ 46 [some (.ref (w.2.2.2 0)), none, some (.int x2), some (.int x3)] []) := by
  intro n
  induction n with
  | zero => exact fun _ _ _ hf => (my_nn hf).elim
  | succ n ih =>
    intro σ x2 x3 hf
    replace hf : b_X9_next_0 (g_X9_next n) σ x2 x3 = some (r, τ) := hf
    unfold b_X9_next_0 at hf
    refine g_il3 h 47 dX9_next_46 rfl ?_
    refine g_ifeq h 65 50 dX9_next_47 (by decide) rfl (fun hc => ?_) (fun hc => ?_)
    · have hf := my_ifT hc hf
      refine g_il3 h 66 dX9_next_65 rfl ?_
      refine g_ifeq h 86 69 dX9_next_66 (by decide) rfl (fun hc => ?_) (fun hc => ?_)
      · have hf := my_ifT hc hf
        refine g_bipush h 88 bp_m9 dX9_next_86 rfl ?_
        exact g_iret h dX9_next_88 (my_r1 hf) (my_r2 hf)
      · have hf := my_ifF hc hf
        refine g_al0 h 70 dX9_next_69 rfl ?_
        refine g_il2 h 71 dX9_next_70 rfl ?_
        obtain ⟨r1, σ1, hc1, hf⟩ := my_ofb hf
        refine g_callVi h 74 cs_X9_172 rfl lyR_0 (ct_X9_noBeat w hc1) rfl rfl (Nat.le_of_ble_eq_true rfl) ⟨Nat.le_of_ble_eq_true rfl, Nat.le_of_ble_eq_true rfl⟩ dX9_next_71 rfl ?_
        refine g_ifne h 86 77 dX9_next_74 (by decide) rfl (fun hc => ?_) (fun hc => ?_)
        · have hf := my_ifF hc hf
          refine g_bipush h 88 bp_m9 dX9_next_86 rfl ?_
          exact g_iret h dX9_next_88 (my_r1 hf) (my_r2 hf)
        · have hf := my_ifT hc hf
          refine g_al0 h 78 dX9_next_77 rfl ?_
          refine g_geta h 81 fF_X9_22_X9 lyR_0 rfl dX9_next_78 rfl ?_
          refine g_il2 h 82 dX9_next_81 rfl ?_
          obtain ⟨hq2, hf⟩ := my_chk hf
          refine g_iald h 83 dX9_next_82 rfl hq2 ?_
          refine g_goto h 88 dX9_next_83 (by decide) ?_
          exact g_iret h dX9_next_88 (my_r1 hf) (my_r2 hf)
    · have hf := my_ifF hc hf
      refine g_al0 h 51 dX9_next_50 rfl ?_
      obtain ⟨r3, σ3, hc3, hf⟩ := my_ofb hf
      refine g_callVi h 54 cs_X9_162 rfl lyR_0 (ct_X9_isGood w hc3) rfl rfl (Nat.le_of_ble_eq_true rfl) ⟨Nat.le_of_ble_eq_true rfl, Nat.le_of_ble_eq_true rfl⟩ dX9_next_51 rfl ?_
      refine g_ifne h 65 57 dX9_next_54 (by decide) rfl (fun hc => ?_) (fun hc => ?_)
      · have hf := my_ifF hc hf
        refine g_il3 h 66 dX9_next_65 rfl ?_
        refine g_ifeq h 86 69 dX9_next_66 (by decide) rfl (fun hc => ?_) (fun hc => ?_)
        · have hf := my_ifT hc hf
          refine g_bipush h 88 bp_m9 dX9_next_86 rfl ?_
          exact g_iret h dX9_next_88 (my_r1 hf) (my_r2 hf)
        · have hf := my_ifF hc hf
          refine g_al0 h 70 dX9_next_69 rfl ?_
          refine g_il2 h 71 dX9_next_70 rfl ?_
          obtain ⟨r4, σ4, hc4, hf⟩ := my_ofb hf
          refine g_callVi h 74 cs_X9_172 rfl lyR_0 (ct_X9_noBeat w hc4) rfl rfl (Nat.le_of_ble_eq_true rfl) ⟨Nat.le_of_ble_eq_true rfl, Nat.le_of_ble_eq_true rfl⟩ dX9_next_71 rfl ?_
          refine g_ifne h 86 77 dX9_next_74 (by decide) rfl (fun hc => ?_) (fun hc => ?_)
          · have hf := my_ifF hc hf
            refine g_bipush h 88 bp_m9 dX9_next_86 rfl ?_
            exact g_iret h dX9_next_88 (my_r1 hf) (my_r2 hf)
          · have hf := my_ifT hc hf
            refine g_al0 h 78 dX9_next_77 rfl ?_
            refine g_geta h 81 fF_X9_22_X9 lyR_0 rfl dX9_next_78 rfl ?_
            refine g_il2 h 82 dX9_next_81 rfl ?_
            obtain ⟨hq5, hf⟩ := my_chk hf
            refine g_iald h 83 dX9_next_82 rfl hq5 ?_
            refine g_goto h 88 dX9_next_83 (by decide) ?_
            exact g_iret h dX9_next_88 (my_r1 hf) (my_r2 hf)
      · have hf := my_ifT hc hf
        refine g_al0 h 58 dX9_next_57 rfl ?_
        obtain ⟨r6, σ6, hc6, hf⟩ := my_ofb hf
        refine g_callVi h 61 cs_X9_262 rfl lyR_0 (ct_X9_triesNext w hc6) rfl rfl (Nat.le_of_ble_eq_true rfl) ⟨Nat.le_of_ble_eq_true rfl, Nat.le_of_ble_eq_true rfl⟩ dX9_next_58 rfl ?_
        refine g_is3 h 62 (Nat.le_of_ble_eq_true rfl) rfl dX9_next_61 rfl ?_
        refine g_goto h 46 dX9_next_62 (by decide) ?_
        exact g_weak (ih _ _ _ hf) (w_s (w_s (w_s (w_s w_0))))
set_option maxRecDepth 100000 in
set_option maxHeartbeats 4000000 in
theorem ct_X9_next (w : my_V) {σ : my_M} {x1 : Int32} {x2 : Int32} {r : Int32} {τ : my_M} (hf : f_X9_next σ x1 x2 = some (r, τ)) : Ct w layR mX9_next 4 [.ref (w.2.2.2 0), .int x1, .int x2] σ (some (.int r)) τ := by
  refine my_met RX9 [some (.ref (w.2.2.2 0)), some (.int x1), some (.int x2), none] 1 (by decide) rfl (Nat.le_of_ble_eq_true rfl) rfl (fun X h => ?_)
  unfold f_X9_next at hf
  refine g_al0 h 1 dX9_next_0 rfl ?_
  refine g_il1 h 2 dX9_next_1 rfl ?_
  obtain ⟨r1, σ1, hc1, hf⟩ := my_ofb hf
  refine g_callVi h 5 cs_X9_165 rfl lyR_0 (ct_X9_noCaller w hc1) rfl rfl (Nat.le_of_ble_eq_true rfl) ⟨Nat.le_of_ble_eq_true rfl, Nat.le_of_ble_eq_true rfl⟩ dX9_next_2 rfl ?_
  refine g_ifeq h 10 8 dX9_next_5 (by decide) rfl (fun hc => ?_) (fun hc => ?_)
  · have hf := my_ifT hc hf
    refine g_il2 h 11 dX9_next_10 rfl ?_
    refine g_i2l h 12 dX9_next_11 rfl ?_
    refine g_lconst h 13 lc_0 dX9_next_12 rfl ?_
    refine g_ldc2 h 16 tw_kl_X9_186 dX9_next_13 rfl ?_
    obtain ⟨r2, σ2, hc2, hf⟩ := my_ofb hf
    refine g_callSi h 19 cs_X9_83 (ct_X9_in w hc2) rfl rfl (Nat.le_of_ble_eq_true rfl) ⟨Nat.le_of_ble_eq_true rfl, Nat.le_of_ble_eq_true rfl⟩ dX9_next_16 rfl ?_
    refine g_ifne h 25 22 dX9_next_19 (by decide) rfl (fun hc => ?_) (fun hc => ?_)
    · have hf := my_ifF hc hf
      refine g_al0 h 26 dX9_next_25 rfl ?_
      refine g_il1 h 27 dX9_next_26 rfl ?_
      obtain ⟨r3, σ3, hc3, hf⟩ := my_ofb hf
      refine g_callVi h 30 cs_X9_155 rfl lyR_0 (ct_X9_freeOf w hc3) rfl rfl (Nat.le_of_ble_eq_true rfl) ⟨Nat.le_of_ble_eq_true rfl, Nat.le_of_ble_eq_true rfl⟩ dX9_next_27 rfl ?_
      refine g_ifle h 36 33 dX9_next_30 (by decide) rfl (fun hc => ?_) (fun hc => ?_)
      · have hf := my_ifT hc hf
        refine g_al0 h 37 dX9_next_36 rfl ?_
        refine g_il1 h 38 dX9_next_37 rfl ?_
        obtain ⟨r4, σ4, hc4, hf⟩ := my_ofb hf
        refine g_callVv h 41 cs_X9_158 rfl lyR_0 (ct_X9_triesThoseOf w hc4) rfl rfl (Nat.le_of_ble_eq_true rfl) ⟨Nat.le_of_ble_eq_true rfl, Nat.le_of_ble_eq_true rfl⟩ dX9_next_38 rfl ?_
        refine g_al0 h 42 dX9_next_41 rfl ?_
        obtain ⟨r5, σ5, hc5, hf⟩ := my_ofb hf
        refine g_callVi h 45 cs_X9_262 rfl lyR_0 (ct_X9_triesNext w hc5) rfl rfl (Nat.le_of_ble_eq_true rfl) ⟨Nat.le_of_ble_eq_true rfl, Nat.le_of_ble_eq_true rfl⟩ dX9_next_42 rfl ?_
        refine g_is3 h 46 (Nat.le_of_ble_eq_true rfl) rfl dX9_next_45 rfl ?_
        exact g_weak ((lp_X9_next w h my_NF) _ _ _ hf) (w_s (w_n (w_s (w_s w_0))))
      · have hf := my_ifF hc hf
        refine g_bipush h 35 bp_m3 dX9_next_33 rfl ?_
        exact g_iret h dX9_next_35 (my_r1 hf) (my_r2 hf)
    · have hf := my_ifT hc hf
      refine g_bipush h 24 bp_m2 dX9_next_22 rfl ?_
      exact g_iret h dX9_next_24 (my_r1 hf) (my_r2 hf)
  · have hf := my_ifF hc hf
    refine g_iconst h 9 ic_m1 dX9_next_8 rfl ?_
    exact g_iret h dX9_next_9 (my_r1 hf) (my_r2 hf)
def b_X9_share_0 (k0 : my_M → Int64 → Int64 → Int32 → Int64 → Int64 → Option (Int64 × my_M)) (σ : my_M) (y0 : Int64) (y2 : Int64) (x4 : Int32) (y5 : Int64) (y7 : Int64) : Option (Int64 × my_M) :=
(if (lg_cmp y7 0) = 0 then
(if x4 = 0 then
(if ¬ y5 = 0 then
some ((y0 / y5), σ)
else none)
else
(if ¬ y5 = 0 then
some ((y2 / y5), σ)
else none))
else
(if ¬ y7 = 0 then
k0 σ y0 y2 x4 y7 ((y5 - y5 / y7 * y7))
else none))
def g_X9_share : Nat → my_M → Int64 → Int64 → Int32 → Int64 → Int64 → Option (Int64 × my_M)
  | 0 => fun _ _ _ _ _ _ => none
  | n + 1 => b_X9_share_0 (g_X9_share n)
def f_X9_share (σ : my_M) (y0 : Int64) (y2 : Int64) (x4 : Int32) : Option (Int64 × my_M) :=
(g_X9_share my_NF) σ y0 y2 x4 y0 y2
set_option maxRecDepth 100000 in
set_option maxHeartbeats 4000000 in
theorem lp_X9_share (w : my_V) {X : my_X} {r : Int64} {τ : my_M} (h : my_OK X w layR cX9_share RX9 11 (some .long)) : ∀ n : Nat, (∀ (σ : my_M) (y0 : Int64) (y2 : Int64) (x4 : Int32) (y5 : Int64) (y7 : Int64), (g_X9_share n) σ y0 y2 x4 y5 y7 = some (r, τ) → Go X w layR 1 11 (some (.long r)) τ σ 6 [some (.long y0), none, some (.long y2), none, some (.int x4), some (.long y5), none, some (.long y7), none, none, none] []) := by
  intro n
  induction n with
  | zero => exact fun _ _ _ _ _ _ hf => (my_nn hf).elim
  | succ n ih =>
    intro σ y0 y2 x4 y5 y7 hf
    replace hf : b_X9_share_0 (g_X9_share n) σ y0 y2 x4 y5 y7 = some (r, τ) := hf
    unfold b_X9_share_0 at hf
    refine g_ll7 h 8 dX9_share_6 rfl ?_
    refine g_lconst h 9 lc_0 dX9_share_8 rfl ?_
    refine g_lcmp h 10 dX9_share_9 rfl ?_
    refine g_ifeq h 31 13 dX9_share_10 (by decide) rfl (fun hc => ?_) (fun hc => ?_)
    · have hf := my_ifT hc hf
      refine g_il4 h 33 dX9_share_31 rfl ?_
      refine g_ifne h 40 36 dX9_share_33 (by decide) rfl (fun hc => ?_) (fun hc => ?_)
      · have hf := my_ifF hc hf
        refine g_ll2 h 41 dX9_share_40 rfl ?_
        refine g_ll5 h 43 dX9_share_41 rfl ?_
        obtain ⟨hq1, hf⟩ := my_chk hf
        refine g_ldiv h 44 hq1 dX9_share_43 rfl ?_
        exact g_lret h dX9_share_44 (my_r1l hf) (my_r2 hf)
      · have hf := my_ifT hc hf
        refine g_ll0 h 37 dX9_share_36 rfl ?_
        refine g_goto h 41 dX9_share_37 (by decide) ?_
        refine g_ll5 h 43 dX9_share_41 rfl ?_
        obtain ⟨hq2, hf⟩ := my_chk hf
        refine g_ldiv h 44 hq2 dX9_share_43 rfl ?_
        exact g_lret h dX9_share_44 (my_r1l hf) (my_r2 hf)
    · have hf := my_ifF hc hf
      refine g_ll5 h 15 dX9_share_13 rfl ?_
      refine g_ll7 h 17 dX9_share_15 rfl ?_
      obtain ⟨hq3, hf⟩ := my_chk hf
      refine g_lrem h 18 hq3 dX9_share_17 rfl ?_
      refine g_ls9 h 20 (Nat.le_of_ble_eq_true rfl) rfl dX9_share_18 rfl ?_
      refine g_ll7 h 22 dX9_share_20 rfl ?_
      refine g_ls5 h 24 (Nat.le_of_ble_eq_true rfl) rfl dX9_share_22 rfl ?_
      refine g_ll9 h 26 dX9_share_24 rfl ?_
      refine g_ls7 h 28 (Nat.le_of_ble_eq_true rfl) rfl dX9_share_26 rfl ?_
      refine g_goto h 6 dX9_share_28 (by decide) ?_
      exact g_weak (ih _ _ _ _ _ _ hf) (w_s (w_s (w_s (w_s (w_s (w_s (w_s (w_s (w_s (w_n (w_s w_0)))))))))))
set_option maxRecDepth 100000 in
set_option maxHeartbeats 4000000 in
theorem ct_X9_share (w : my_V) {σ : my_M} {y0 : Int64} {y2 : Int64} {x4 : Int32} {r : Int64} {τ : my_M} (hf : f_X9_share σ y0 y2 x4 = some (r, τ)) : Ct w layR mX9_share 1 [.long y0, .long y2, .int x4] σ (some (.long r)) τ := by
  refine my_met RX9 [some (.long y0), none, some (.long y2), none, some (.int x4), none, none, none, none, none, none] 6 (by decide) rfl (Nat.le_of_ble_eq_true rfl) rfl (fun X h => ?_)
  unfold f_X9_share at hf
  refine g_ll0 h 1 dX9_share_0 rfl ?_
  refine g_ls5 h 3 (Nat.le_of_ble_eq_true rfl) rfl dX9_share_1 rfl ?_
  refine g_ll2 h 4 dX9_share_3 rfl ?_
  refine g_ls7 h 6 (Nat.le_of_ble_eq_true rfl) rfl dX9_share_4 rfl ?_
  exact g_weak ((lp_X9_share w h my_NF) _ _ _ _ _ _ hf) (w_s (w_s (w_s (w_s (w_s (w_s (w_s (w_s (w_s (w_s (w_s w_0)))))))))))
def b_X9_odds_0 (k0 : my_M → Int32 → Int32 → Int32 → Int32 → Int32 → Option (Int64 × my_M)) (k1 : my_M → Int32 → Int32 → Int32 → Int32 → Int32 → Int32 → Option (Int64 × my_M)) (σ : my_M) (x1 : Int32) (x2 : Int32) (x3 : Int32) (x4 : Int32) (x5 : Int32) : Option (Int64 × my_M) :=
(if 5 < x5 then
(my_bnd (f_X9_share σ (Int32.toInt64 x4) 120 x3) fun r1 σ1 =>
some (r1, σ1))
else
k1 σ x1 x2 x3 x4 x5 ((-5)))
def b_X9_odds_1 (k0 : my_M → Int32 → Int32 → Int32 → Int32 → Int32 → Option (Int64 × my_M)) (k1 : my_M → Int32 → Int32 → Int32 → Int32 → Int32 → Int32 → Option (Int64 × my_M)) (σ : my_M) (x1 : Int32) (x2 : Int32) (x3 : Int32) (x4 : Int32) (x5 : Int32) (x6 : Int32) : Option (Int64 × my_M) :=
(if 5 < x6 then
k0 σ x1 x2 x3 x4 ((x5 + 1))
else
(if x5 = 0 then
(if x6 = 0 then
k1 σ x1 x2 x3 ((x4 + 0)) x5 ((x6 + 1))
else
(my_bnd (f_X9_heardBy σ x1 x1 x5 x6) fun r2 σ2 =>
k1 σ2 x1 x2 x3 ((x4 + (if r2 < x2 then 0 else 1 : Int32))) x5 ((x6 + 1))))
else
(my_bnd (f_X9_heardBy σ x1 x1 x5 x6) fun r1 σ1 =>
k1 σ1 x1 x2 x3 ((x4 + (if r1 < x2 then 0 else 1 : Int32))) x5 ((x6 + 1)))))
def g_X9_odds : Nat → (my_M → Int32 → Int32 → Int32 → Int32 → Int32 → Option (Int64 × my_M)) × (my_M → Int32 → Int32 → Int32 → Int32 → Int32 → Int32 → Option (Int64 × my_M))
  | 0 => (fun _ _ _ _ _ _ => none, fun _ _ _ _ _ _ _ => none)
  | n + 1 => (b_X9_odds_0 (g_X9_odds n).1 (g_X9_odds n).2, b_X9_odds_1 (g_X9_odds n).1 (g_X9_odds n).2)
def f_X9_odds (σ : my_M) (x1 : Int32) (x2 : Int32) (x3 : Int32) : Option (Int64 × my_M) :=
(my_bnd (f_X9_noCaller σ x1) fun r1 σ1 =>
(if r1 = 0 then
(my_bnd (f_X9_in σ1 (Int32.toInt64 x2) 0 20) fun r3 σ3 =>
(if r3 = 0 then
(my_bnd (f_X9_lost σ3) fun r4 σ4 =>
some (r4, σ4))
else
(my_bnd (f_X9_in σ3 (Int32.toInt64 x3) 0 1) fun r5 σ5 =>
(if r5 = 0 then
(my_bnd (f_X9_lost σ5) fun r6 σ6 =>
some (r6, σ6))
else
(g_X9_odds my_NF).1 σ5 x1 x2 x3 0 ((-5))))))
else
(my_bnd (f_X9_lost σ1) fun r2 σ2 =>
some (r2, σ2))))
set_option maxRecDepth 100000 in
set_option maxHeartbeats 4000000 in
theorem lp_X9_odds (w : my_V) {X : my_X} {r : Int64} {τ : my_M} (h : my_OK X w layR cX9_odds RX9 7 (some .long)) : ∀ n : Nat, (∀ (σ : my_M) (x1 : Int32) (x2 : Int32) (x3 : Int32) (x4 : Int32) (x5 : Int32), (g_X9_odds n).1 σ x1 x2 x3 x4 x5 = some (r, τ) → Go X w layR 4 7 (some (.long r)) τ σ 41 [some (.ref (w.2.2.2 0)), some (.int x1), some (.int x2), some (.int x3), some (.int x4), some (.int x5), none] []) ∧ (∀ (σ : my_M) (x1 : Int32) (x2 : Int32) (x3 : Int32) (x4 : Int32) (x5 : Int32) (x6 : Int32), (g_X9_odds n).2 σ x1 x2 x3 x4 x5 x6 = some (r, τ) → Go X w layR 4 7 (some (.long r)) τ σ 51 [some (.ref (w.2.2.2 0)), some (.int x1), some (.int x2), some (.int x3), some (.int x4), some (.int x5), some (.int x6)] []) := by
  intro n
  induction n with
  | zero => exact ⟨fun _ _ _ _ _ _ hf => (my_nn hf).elim, fun _ _ _ _ _ _ _ hf => (my_nn hf).elim⟩
  | succ n ih =>
    refine ⟨?_, ?_⟩
    · intro σ x1 x2 x3 x4 x5 hf
      replace hf : b_X9_odds_0 (g_X9_odds n).1 (g_X9_odds n).2 σ x1 x2 x3 x4 x5 = some (r, τ) := hf
      unfold b_X9_odds_0 at hf
      refine g_il5 h 43 dX9_odds_41 rfl ?_
      refine g_iconst h 44 ic_5 dX9_odds_43 rfl ?_
      refine g_icgt h 103 47 dX9_odds_44 (by decide) rfl (fun hc => ?_) (fun hc => ?_)
      · have hf := my_ifT hc hf
        refine g_il4 h 105 dX9_odds_103 rfl ?_
        refine g_i2l h 106 dX9_odds_105 rfl ?_
        refine g_ldc2 h 109 tw_kl_X9_271 dX9_odds_106 rfl ?_
        refine g_il3 h 110 dX9_odds_109 rfl ?_
        obtain ⟨r1, σ1, hc1, hf⟩ := my_ofb hf
        refine g_callSl h 113 cs_X9_273 (ct_X9_share w hc1) rfl rfl (Nat.le_of_ble_eq_true rfl) ⟨Nat.le_of_ble_eq_true rfl, Nat.le_of_ble_eq_true rfl⟩ dX9_odds_110 rfl ?_
        exact g_lret h dX9_odds_113 (my_r1l hf) (my_r2 hf)
      · have hf := my_ifF hc hf
        refine g_bipush h 49 bp_m5 dX9_odds_47 rfl ?_
        refine g_is6 h 51 (Nat.le_of_ble_eq_true rfl) rfl dX9_odds_49 rfl ?_
        exact g_weak (ih.2 _ _ _ _ _ _ _ hf) (w_s (w_s (w_s (w_s (w_s (w_s (w_s w_0)))))))
    · intro σ x1 x2 x3 x4 x5 x6 hf
      replace hf : b_X9_odds_1 (g_X9_odds n).1 (g_X9_odds n).2 σ x1 x2 x3 x4 x5 x6 = some (r, τ) := hf
      unfold b_X9_odds_1 at hf
      refine g_il6 h 53 dX9_odds_51 rfl ?_
      refine g_iconst h 54 ic_5 dX9_odds_53 rfl ?_
      refine g_icgt h 97 57 dX9_odds_54 (by decide) rfl (fun hc => ?_) (fun hc => ?_)
      · have hf := my_ifT hc hf
        refine g_inc5 h 100 (my_inc ic_1 _) (Nat.le_of_ble_eq_true rfl) rfl dX9_odds_97 rfl ?_
        refine g_goto h 41 dX9_odds_100 (by decide) ?_
        exact g_weak (ih.1 _ _ _ _ _ _ hf) (w_s (w_s (w_s (w_s (w_s (w_s (w_n w_0)))))))
      · have hf := my_ifF hc hf
        refine g_il4 h 59 dX9_odds_57 rfl ?_
        refine g_il5 h 61 dX9_odds_59 rfl ?_
        refine g_ifne h 69 64 dX9_odds_61 (by decide) rfl (fun hc => ?_) (fun hc => ?_)
        · have hf := my_ifF hc hf
          refine g_al0 h 70 dX9_odds_69 rfl ?_
          refine g_il1 h 71 dX9_odds_70 rfl ?_
          refine g_il1 h 72 dX9_odds_71 rfl ?_
          refine g_il5 h 74 dX9_odds_72 rfl ?_
          refine g_il6 h 76 dX9_odds_74 rfl ?_
          obtain ⟨r1, σ1, hc1, hf⟩ := my_ofb hf
          refine g_callVi h 79 cs_X9_191 rfl lyR_0 (ct_X9_heardBy w hc1) rfl rfl (Nat.le_of_ble_eq_true rfl) ⟨Nat.le_of_ble_eq_true rfl, Nat.le_of_ble_eq_true rfl⟩ dX9_odds_76 rfl ?_
          refine g_il2 h 80 dX9_odds_79 rfl ?_
          refine g_iclt_sel h 87 88 dX9_odds_80 (by decide) dX9_odds_83 ic_1 dX9_odds_84 (by decide) dX9_odds_87 ic_0 rfl ?_
          refine g_iadd h 89 dX9_odds_88 rfl ?_
          refine g_is4 h 91 (Nat.le_of_ble_eq_true rfl) rfl dX9_odds_89 rfl ?_
          refine g_inc6 h 94 (my_inc ic_1 _) (Nat.le_of_ble_eq_true rfl) rfl dX9_odds_91 rfl ?_
          refine g_goto h 51 dX9_odds_94 (by decide) ?_
          exact g_weak (ih.2 _ _ _ _ _ _ _ hf) (w_s (w_s (w_s (w_s (w_s (w_s (w_s w_0)))))))
        · have hf := my_ifT hc hf
          refine g_il6 h 66 dX9_odds_64 rfl ?_
          refine g_ifeq h 87 69 dX9_odds_66 (by decide) rfl (fun hc => ?_) (fun hc => ?_)
          · have hf := my_ifT hc hf
            refine g_iconst h 88 ic_0 dX9_odds_87 rfl ?_
            refine g_iadd h 89 dX9_odds_88 rfl ?_
            refine g_is4 h 91 (Nat.le_of_ble_eq_true rfl) rfl dX9_odds_89 rfl ?_
            refine g_inc6 h 94 (my_inc ic_1 _) (Nat.le_of_ble_eq_true rfl) rfl dX9_odds_91 rfl ?_
            refine g_goto h 51 dX9_odds_94 (by decide) ?_
            exact g_weak (ih.2 _ _ _ _ _ _ _ hf) (w_s (w_s (w_s (w_s (w_s (w_s (w_s w_0)))))))
          · have hf := my_ifF hc hf
            refine g_al0 h 70 dX9_odds_69 rfl ?_
            refine g_il1 h 71 dX9_odds_70 rfl ?_
            refine g_il1 h 72 dX9_odds_71 rfl ?_
            refine g_il5 h 74 dX9_odds_72 rfl ?_
            refine g_il6 h 76 dX9_odds_74 rfl ?_
            obtain ⟨r2, σ2, hc2, hf⟩ := my_ofb hf
            refine g_callVi h 79 cs_X9_191 rfl lyR_0 (ct_X9_heardBy w hc2) rfl rfl (Nat.le_of_ble_eq_true rfl) ⟨Nat.le_of_ble_eq_true rfl, Nat.le_of_ble_eq_true rfl⟩ dX9_odds_76 rfl ?_
            refine g_il2 h 80 dX9_odds_79 rfl ?_
            refine g_iclt_sel h 87 88 dX9_odds_80 (by decide) dX9_odds_83 ic_1 dX9_odds_84 (by decide) dX9_odds_87 ic_0 rfl ?_
            refine g_iadd h 89 dX9_odds_88 rfl ?_
            refine g_is4 h 91 (Nat.le_of_ble_eq_true rfl) rfl dX9_odds_89 rfl ?_
            refine g_inc6 h 94 (my_inc ic_1 _) (Nat.le_of_ble_eq_true rfl) rfl dX9_odds_91 rfl ?_
            refine g_goto h 51 dX9_odds_94 (by decide) ?_
            exact g_weak (ih.2 _ _ _ _ _ _ _ hf) (w_s (w_s (w_s (w_s (w_s (w_s (w_s w_0)))))))
set_option maxRecDepth 100000 in
set_option maxHeartbeats 4000000 in
theorem ct_X9_odds (w : my_V) {σ : my_M} {x1 : Int32} {x2 : Int32} {x3 : Int32} {r : Int64} {τ : my_M} (hf : f_X9_odds σ x1 x2 x3 = some (r, τ)) : Ct w layR mX9_odds 4 [.ref (w.2.2.2 0), .int x1, .int x2, .int x3] σ (some (.long r)) τ := by
  refine my_met RX9 [some (.ref (w.2.2.2 0)), some (.int x1), some (.int x2), some (.int x3), none, none, none] 3 (by decide) rfl (Nat.le_of_ble_eq_true rfl) rfl (fun X h => ?_)
  unfold f_X9_odds at hf
  refine g_al0 h 1 dX9_odds_0 rfl ?_
  refine g_il1 h 2 dX9_odds_1 rfl ?_
  obtain ⟨r1, σ1, hc1, hf⟩ := my_ofb hf
  refine g_callVi h 5 cs_X9_165 rfl lyR_0 (ct_X9_noCaller w hc1) rfl rfl (Nat.le_of_ble_eq_true rfl) ⟨Nat.le_of_ble_eq_true rfl, Nat.le_of_ble_eq_true rfl⟩ dX9_odds_2 rfl ?_
  refine g_ifne h 30 8 dX9_odds_5 (by decide) rfl (fun hc => ?_) (fun hc => ?_)
  · have hf := my_ifF hc hf
    obtain ⟨r2, σ2, hc2, hf⟩ := my_ofb hf
    refine g_callSl h 33 cs_X9_76 (ct_X9_lost w hc2) rfl rfl (Nat.le_of_ble_eq_true rfl) ⟨Nat.le_of_ble_eq_true rfl, Nat.le_of_ble_eq_true rfl⟩ dX9_odds_30 rfl ?_
    exact g_lret h dX9_odds_33 (my_r1l hf) (my_r2 hf)
  · have hf := my_ifT hc hf
    refine g_il2 h 9 dX9_odds_8 rfl ?_
    refine g_i2l h 10 dX9_odds_9 rfl ?_
    refine g_lconst h 11 lc_0 dX9_odds_10 rfl ?_
    refine g_ldc2 h 14 tw_kl_X9_195 dX9_odds_11 rfl ?_
    obtain ⟨r3, σ3, hc3, hf⟩ := my_ofb hf
    refine g_callSi h 17 cs_X9_83 (ct_X9_in w hc3) rfl rfl (Nat.le_of_ble_eq_true rfl) ⟨Nat.le_of_ble_eq_true rfl, Nat.le_of_ble_eq_true rfl⟩ dX9_odds_14 rfl ?_
    refine g_ifeq h 30 20 dX9_odds_17 (by decide) rfl (fun hc => ?_) (fun hc => ?_)
    · have hf := my_ifT hc hf
      obtain ⟨r4, σ4, hc4, hf⟩ := my_ofb hf
      refine g_callSl h 33 cs_X9_76 (ct_X9_lost w hc4) rfl rfl (Nat.le_of_ble_eq_true rfl) ⟨Nat.le_of_ble_eq_true rfl, Nat.le_of_ble_eq_true rfl⟩ dX9_odds_30 rfl ?_
      exact g_lret h dX9_odds_33 (my_r1l hf) (my_r2 hf)
    · have hf := my_ifF hc hf
      refine g_il3 h 21 dX9_odds_20 rfl ?_
      refine g_i2l h 22 dX9_odds_21 rfl ?_
      refine g_lconst h 23 lc_0 dX9_odds_22 rfl ?_
      refine g_lconst h 24 lc_1 dX9_odds_23 rfl ?_
      obtain ⟨r5, σ5, hc5, hf⟩ := my_ofb hf
      refine g_callSi h 27 cs_X9_83 (ct_X9_in w hc5) rfl rfl (Nat.le_of_ble_eq_true rfl) ⟨Nat.le_of_ble_eq_true rfl, Nat.le_of_ble_eq_true rfl⟩ dX9_odds_24 rfl ?_
      refine g_ifne h 34 30 dX9_odds_27 (by decide) rfl (fun hc => ?_) (fun hc => ?_)
      · have hf := my_ifF hc hf
        refine g_iconst h 35 ic_0 dX9_odds_34 rfl ?_
        refine g_is4 h 37 (Nat.le_of_ble_eq_true rfl) rfl dX9_odds_35 rfl ?_
        refine g_bipush h 39 bp_m5 dX9_odds_37 rfl ?_
        refine g_is5 h 41 (Nat.le_of_ble_eq_true rfl) rfl dX9_odds_39 rfl ?_
        exact g_weak ((lp_X9_odds w h my_NF).1 _ _ _ _ _ _ hf) (w_s (w_s (w_s (w_s (w_s (w_s (w_s w_0)))))))
      · have hf := my_ifT hc hf
        obtain ⟨r6, σ6, hc6, hf⟩ := my_ofb hf
        refine g_callSl h 33 cs_X9_76 (ct_X9_lost w hc6) rfl rfl (Nat.le_of_ble_eq_true rfl) ⟨Nat.le_of_ble_eq_true rfl, Nat.le_of_ble_eq_true rfl⟩ dX9_odds_30 rfl ?_
        exact g_lret h dX9_odds_33 (my_r1l hf) (my_r2 hf)
def f_X9_ofCaller (σ : my_M) (x1 : Int32) (x2 : Int32) : Option (Int32 × my_M) :=
(my_bnd (f_X9_noCaller σ x1) fun r1 σ1 =>
(if r1 = 0 then
(my_bnd (f_X9_in σ1 (Int32.toInt64 x2) 10 15) fun r2 σ2 =>
(if r2 = 0 then
(if x2 = 0 then
(if my_ix x1 (my_len layR 1) then
some ((σ2 1 (Int32.toNatClampNeg x1)), σ2)
else none)
else
(if x2 = 1 then
(my_bnd (f_X9_freeOf σ2 x1) fun r5 σ5 =>
some (r5, σ5))
else
(if x2 = 2 then
(my_bnd (f_X9_goodNow σ2 x1) fun r7 σ7 =>
some (r7, σ7))
else
some ((-2), σ2))))
else
(my_bnd (f_X9_noBeat σ2 (x2 - 10)) fun r9 σ9 =>
(if r9 = 0 then
(my_bnd (f_X9_pitch σ9 x1 (x2 - 10)) fun r10 σ10 =>
(if 0 ≤ r10 then
(my_bnd (f_X9_pitch σ10 x1 (x2 - 10)) fun r11 σ11 =>
some (r11, σ11))
else
some ((-9), σ10)))
else
some ((-9), σ9)))))
else
some ((-1), σ1)))
set_option maxRecDepth 100000 in
set_option maxHeartbeats 4000000 in
theorem ct_X9_ofCaller (w : my_V) {σ : my_M} {x1 : Int32} {x2 : Int32} {r : Int32} {τ : my_M} (hf : f_X9_ofCaller σ x1 x2 = some (r, τ)) : Ct w layR mX9_ofCaller 5 [.ref (w.2.2.2 0), .int x1, .int x2] σ (some (.int r)) τ := by
  refine my_met RX9 [some (.ref (w.2.2.2 0)), some (.int x1), some (.int x2)] 0 (by decide) rfl (Nat.le_of_ble_eq_true rfl) rfl (fun X h => ?_)
  unfold f_X9_ofCaller at hf
  refine g_al0 h 1 dX9_ofCaller_0 rfl ?_
  refine g_il1 h 2 dX9_ofCaller_1 rfl ?_
  obtain ⟨r1, σ1, hc1, hf⟩ := my_ofb hf
  refine g_callVi h 5 cs_X9_165 rfl lyR_0 (ct_X9_noCaller w hc1) rfl rfl (Nat.le_of_ble_eq_true rfl) ⟨Nat.le_of_ble_eq_true rfl, Nat.le_of_ble_eq_true rfl⟩ dX9_ofCaller_2 rfl ?_
  refine g_ifeq h 10 8 dX9_ofCaller_5 (by decide) rfl (fun hc => ?_) (fun hc => ?_)
  · have hf := my_ifT hc hf
    refine g_il2 h 11 dX9_ofCaller_10 rfl ?_
    refine g_i2l h 12 dX9_ofCaller_11 rfl ?_
    refine g_ldc2 h 15 tw_kl_X9_168 dX9_ofCaller_12 rfl ?_
    refine g_ldc2 h 18 tw_kl_X9_170 dX9_ofCaller_15 rfl ?_
    obtain ⟨r2, σ2, hc2, hf⟩ := my_ofb hf
    refine g_callSi h 21 cs_X9_83 (ct_X9_in w hc2) rfl rfl (Nat.le_of_ble_eq_true rfl) ⟨Nat.le_of_ble_eq_true rfl, Nat.le_of_ble_eq_true rfl⟩ dX9_ofCaller_18 rfl ?_
    refine g_ifeq h 62 24 dX9_ofCaller_21 (by decide) rfl (fun hc => ?_) (fun hc => ?_)
    · have hf := my_ifT hc hf
      refine g_il2 h 63 dX9_ofCaller_62 rfl ?_
      by_cases hs4 : x2 = 0
      · have hf := my_ifT hs4 hf
        refine g_tsI (off := 25) h 88 dX9_ofCaller_63 (0) hs4 (by decide) (by decide) rfl (by decide) ?_
        refine g_al0 h 89 dX9_ofCaller_88 rfl ?_
        refine g_geta h 92 fF_X9_7_X9 lyR_0 rfl dX9_ofCaller_89 rfl ?_
        refine g_il1 h 93 dX9_ofCaller_92 rfl ?_
        obtain ⟨hq3, hf⟩ := my_chk hf
        refine g_iald h 94 dX9_ofCaller_93 rfl hq3 ?_
        exact g_iret h dX9_ofCaller_94 (my_r1 hf) (my_r2 hf)
      · have hf := my_ifF hs4 hf
        by_cases hs6 : x2 = 1
        · have hf := my_ifT hs6 hf
          refine g_tsI (off := 32) h 95 dX9_ofCaller_63 (1) hs6 (by decide) (by decide) rfl (by decide) ?_
          refine g_al0 h 96 dX9_ofCaller_95 rfl ?_
          refine g_il1 h 97 dX9_ofCaller_96 rfl ?_
          obtain ⟨r5, σ5, hc5, hf⟩ := my_ofb hf
          refine g_callVi h 100 cs_X9_155 rfl lyR_0 (ct_X9_freeOf w hc5) rfl rfl (Nat.le_of_ble_eq_true rfl) ⟨Nat.le_of_ble_eq_true rfl, Nat.le_of_ble_eq_true rfl⟩ dX9_ofCaller_97 rfl ?_
          exact g_iret h dX9_ofCaller_100 (my_r1 hf) (my_r2 hf)
        · have hf := my_ifF hs6 hf
          by_cases hs8 : x2 = 2
          · have hf := my_ifT hs8 hf
            refine g_tsI (off := 38) h 101 dX9_ofCaller_63 (2) hs8 (by decide) (by decide) rfl (by decide) ?_
            refine g_al0 h 102 dX9_ofCaller_101 rfl ?_
            refine g_il1 h 103 dX9_ofCaller_102 rfl ?_
            obtain ⟨r7, σ7, hc7, hf⟩ := my_ofb hf
            refine g_callVi h 106 cs_X9_175 rfl lyR_0 (ct_X9_goodNow w hc7) rfl rfl (Nat.le_of_ble_eq_true rfl) ⟨Nat.le_of_ble_eq_true rfl, Nat.le_of_ble_eq_true rfl⟩ dX9_ofCaller_103 rfl ?_
            exact g_iret h dX9_ofCaller_106 (my_r1 hf) (my_r2 hf)
          · have hf := my_ifF hs8 hf
            have hs4n := lv_neT (a := 0) hs4 (by decide)
            have hs6n := lv_neT (a := 1) hs6 (by decide)
            have hs8n := lv_neT (a := 2) hs8 (by decide)
            refine g_tsO h 107 dX9_ofCaller_63 (by omega) (by decide) ?_
            refine g_bipush h 109 bp_m2 dX9_ofCaller_107 rfl ?_
            exact g_iret h dX9_ofCaller_109 (my_r1 hf) (my_r2 hf)
    · have hf := my_ifF hc hf
      refine g_al0 h 25 dX9_ofCaller_24 rfl ?_
      refine g_il2 h 26 dX9_ofCaller_25 rfl ?_
      refine g_bipush h 28 bp_10 dX9_ofCaller_26 rfl ?_
      refine g_isub h 29 dX9_ofCaller_28 rfl ?_
      obtain ⟨r9, σ9, hc9, hf⟩ := my_ofb hf
      refine g_callVi h 32 cs_X9_172 rfl lyR_0 (ct_X9_noBeat w hc9) rfl rfl (Nat.le_of_ble_eq_true rfl) ⟨Nat.le_of_ble_eq_true rfl, Nat.le_of_ble_eq_true rfl⟩ dX9_ofCaller_29 rfl ?_
      refine g_ifne h 47 35 dX9_ofCaller_32 (by decide) rfl (fun hc => ?_) (fun hc => ?_)
      · have hf := my_ifF hc hf
        refine g_bipush h 49 bp_m9 dX9_ofCaller_47 rfl ?_
        refine g_goto h 61 dX9_ofCaller_49 (by decide) ?_
        exact g_iret h dX9_ofCaller_61 (my_r1 hf) (my_r2 hf)
      · have hf := my_ifT hc hf
        refine g_al0 h 36 dX9_ofCaller_35 rfl ?_
        refine g_il1 h 37 dX9_ofCaller_36 rfl ?_
        refine g_il2 h 38 dX9_ofCaller_37 rfl ?_
        refine g_bipush h 40 bp_10 dX9_ofCaller_38 rfl ?_
        refine g_isub h 41 dX9_ofCaller_40 rfl ?_
        obtain ⟨r10, σ10, hc10, hf⟩ := my_ofb hf
        refine g_callVi h 44 cs_X9_145 rfl lyR_0 (ct_X9_pitch w hc10) rfl rfl (Nat.le_of_ble_eq_true rfl) ⟨Nat.le_of_ble_eq_true rfl, Nat.le_of_ble_eq_true rfl⟩ dX9_ofCaller_41 rfl ?_
        refine g_ifge h 52 47 dX9_ofCaller_44 (by decide) rfl (fun hc => ?_) (fun hc => ?_)
        · have hf := my_ifT hc hf
          refine g_al0 h 53 dX9_ofCaller_52 rfl ?_
          refine g_il1 h 54 dX9_ofCaller_53 rfl ?_
          refine g_il2 h 55 dX9_ofCaller_54 rfl ?_
          refine g_bipush h 57 bp_10 dX9_ofCaller_55 rfl ?_
          refine g_isub h 58 dX9_ofCaller_57 rfl ?_
          obtain ⟨r11, σ11, hc11, hf⟩ := my_ofb hf
          refine g_callVi h 61 cs_X9_145 rfl lyR_0 (ct_X9_pitch w hc11) rfl rfl (Nat.le_of_ble_eq_true rfl) ⟨Nat.le_of_ble_eq_true rfl, Nat.le_of_ble_eq_true rfl⟩ dX9_ofCaller_58 rfl ?_
          exact g_iret h dX9_ofCaller_61 (my_r1 hf) (my_r2 hf)
        · have hf := my_ifF hc hf
          refine g_bipush h 49 bp_m9 dX9_ofCaller_47 rfl ?_
          refine g_goto h 61 dX9_ofCaller_49 (by decide) ?_
          exact g_iret h dX9_ofCaller_61 (my_r1 hf) (my_r2 hf)
  · have hf := my_ifF hc hf
    refine g_iconst h 9 ic_m1 dX9_ofCaller_8 rfl ?_
    exact g_iret h dX9_ofCaller_9 (my_r1 hf) (my_r2 hf)
def b_X9_peaks_0 (k0 : my_M → Int32 → Int32 → Option (Unit × my_M)) (k1 : my_M → Int32 → Int32 → Int32 → Option (Unit × my_M)) (σ : my_M) (x1 : Int32) (x2 : Int32) : Option (Unit × my_M) :=
(if 5 < x2 then
some ((), σ)
else
k1 σ x1 x2 ((-5)))
def b_X9_peaks_1 (k0 : my_M → Int32 → Int32 → Option (Unit × my_M)) (k1 : my_M → Int32 → Int32 → Int32 → Option (Unit × my_M)) (σ : my_M) (x1 : Int32) (x2 : Int32) (x3 : Int32) : Option (Unit × my_M) :=
(if 5 < x3 then
k0 σ x1 ((x2 + 1))
else
(if x2 = 0 then
(if x3 = 0 then
(if (-1) ≤ (σ 0 19) then
k1 σ x1 x2 ((x3 + 1))
else
k1 (my_up (my_up (my_up σ 0 19 (-1)) 0 20 x2) 0 21 x3) x1 x2 ((x3 + 1)))
else
(my_bnd (f_X9_heardBy σ x1 x1 x2 x3) fun r2 σ2 =>
(if r2 ≤ (σ2 0 19) then
k1 σ2 x1 x2 ((x3 + 1))
else
k1 (my_up (my_up (my_up σ2 0 19 r2) 0 20 x2) 0 21 x3) x1 x2 ((x3 + 1)))))
else
(my_bnd (f_X9_heardBy σ x1 x1 x2 x3) fun r1 σ1 =>
(if r1 ≤ (σ1 0 19) then
k1 σ1 x1 x2 ((x3 + 1))
else
k1 (my_up (my_up (my_up σ1 0 19 r1) 0 20 x2) 0 21 x3) x1 x2 ((x3 + 1))))))
def g_X9_peaks : Nat → (my_M → Int32 → Int32 → Option (Unit × my_M)) × (my_M → Int32 → Int32 → Int32 → Option (Unit × my_M))
  | 0 => (fun _ _ _ => none, fun _ _ _ _ => none)
  | n + 1 => (b_X9_peaks_0 (g_X9_peaks n).1 (g_X9_peaks n).2, b_X9_peaks_1 (g_X9_peaks n).1 (g_X9_peaks n).2)
def f_X9_peaks (σ : my_M) (x1 : Int32) : Option (Unit × my_M) :=
(g_X9_peaks my_NF).1 (my_up σ 0 19 (-1)) x1 ((-5))
set_option maxRecDepth 100000 in
set_option maxHeartbeats 4000000 in
theorem lp_X9_peaks (w : my_V) {X : my_X} {r : Unit} {τ : my_M} (h : my_OK X w layR cX9_peaks RX9 5 (none)) : ∀ n : Nat, (∀ (σ : my_M) (x1 : Int32) (x2 : Int32), (g_X9_peaks n).1 σ x1 x2 = some (r, τ) → Go X w layR 4 5 none τ σ 8 [some (.ref (w.2.2.2 0)), some (.int x1), some (.int x2), none, none] []) ∧ (∀ (σ : my_M) (x1 : Int32) (x2 : Int32) (x3 : Int32), (g_X9_peaks n).2 σ x1 x2 x3 = some (r, τ) → Go X w layR 4 5 none τ σ 16 [some (.ref (w.2.2.2 0)), some (.int x1), some (.int x2), some (.int x3), none] []) := by
  intro n
  induction n with
  | zero => exact ⟨fun _ _ _ hf => (my_nn hf).elim, fun _ _ _ _ hf => (my_nn hf).elim⟩
  | succ n ih =>
    refine ⟨?_, ?_⟩
    · intro σ x1 x2 hf
      replace hf : b_X9_peaks_0 (g_X9_peaks n).1 (g_X9_peaks n).2 σ x1 x2 = some (r, τ) := hf
      unfold b_X9_peaks_0 at hf
      refine g_il2 h 9 dX9_peaks_8 rfl ?_
      refine g_iconst h 10 ic_5 dX9_peaks_9 rfl ?_
      refine g_icgt h 80 13 dX9_peaks_10 (by decide) rfl (fun hc => ?_) (fun hc => ?_)
      · have hf := my_ifT hc hf
        exact g_vret h dX9_peaks_80 rfl (my_r2 hf)
      · have hf := my_ifF hc hf
        refine g_bipush h 15 bp_m5 dX9_peaks_13 rfl ?_
        refine g_is3 h 16 (Nat.le_of_ble_eq_true rfl) rfl dX9_peaks_15 rfl ?_
        exact g_weak (ih.2 _ _ _ _ hf) (w_s (w_s (w_s (w_s (w_s w_0)))))
    · intro σ x1 x2 x3 hf
      replace hf : b_X9_peaks_1 (g_X9_peaks n).1 (g_X9_peaks n).2 σ x1 x2 x3 = some (r, τ) := hf
      unfold b_X9_peaks_1 at hf
      refine g_il3 h 17 dX9_peaks_16 rfl ?_
      refine g_iconst h 18 ic_5 dX9_peaks_17 rfl ?_
      refine g_icgt h 74 21 dX9_peaks_18 (by decide) rfl (fun hc => ?_) (fun hc => ?_)
      · have hf := my_ifT hc hf
        refine g_inc2 h 77 (my_inc ic_1 _) (Nat.le_of_ble_eq_true rfl) rfl dX9_peaks_74 rfl ?_
        refine g_goto h 8 dX9_peaks_77 (by decide) ?_
        exact g_weak (ih.1 _ _ _ hf) (w_s (w_s (w_s (w_n (w_s w_0)))))
      · have hf := my_ifF hc hf
        refine g_il2 h 22 dX9_peaks_21 rfl ?_
        refine g_ifne h 33 25 dX9_peaks_22 (by decide) rfl (fun hc => ?_) (fun hc => ?_)
        · have hf := my_ifF hc hf
          refine g_al0 h 34 dX9_peaks_33 rfl ?_
          refine g_il1 h 35 dX9_peaks_34 rfl ?_
          refine g_il1 h 36 dX9_peaks_35 rfl ?_
          refine g_il2 h 37 dX9_peaks_36 rfl ?_
          refine g_il3 h 38 dX9_peaks_37 rfl ?_
          obtain ⟨r1, σ1, hc1, hf⟩ := my_ofb hf
          refine g_callVi h 41 cs_X9_191 rfl lyR_0 (ct_X9_heardBy w hc1) rfl rfl (Nat.le_of_ble_eq_true rfl) ⟨Nat.le_of_ble_eq_true rfl, Nat.le_of_ble_eq_true rfl⟩ dX9_peaks_38 rfl ?_
          refine g_is4 h 43 (Nat.le_of_ble_eq_true rfl) rfl dX9_peaks_41 rfl ?_
          refine g_il4 h 45 dX9_peaks_43 rfl ?_
          refine g_al0 h 46 dX9_peaks_45 rfl ?_
          refine g_geti h 49 fF_X9_247_X9 lyR_0 rfl dX9_peaks_46 rfl ?_
          refine g_icle h 68 52 dX9_peaks_49 (by decide) rfl (fun hc => ?_) (fun hc => ?_)
          · have hf := my_ifT hc hf
            refine g_inc3 h 71 (my_inc ic_1 _) (Nat.le_of_ble_eq_true rfl) rfl dX9_peaks_68 rfl ?_
            refine g_goto h 16 dX9_peaks_71 (by decide) ?_
            exact g_weak (ih.2 _ _ _ _ hf) (w_s (w_s (w_s (w_s (w_n w_0)))))
          · have hf := my_ifF hc hf
            refine g_al0 h 53 dX9_peaks_52 rfl ?_
            refine g_il4 h 55 dX9_peaks_53 rfl ?_
            refine g_puti h 58 fP_X9_247_X9 lyR_0 rfl dX9_peaks_55 rfl ?_
            refine g_al0 h 59 dX9_peaks_58 rfl ?_
            refine g_il2 h 60 dX9_peaks_59 rfl ?_
            refine g_puti h 63 fP_X9_250_X9 lyR_0 rfl dX9_peaks_60 rfl ?_
            refine g_al0 h 64 dX9_peaks_63 rfl ?_
            refine g_il3 h 65 dX9_peaks_64 rfl ?_
            refine g_puti h 68 fP_X9_253_X9 lyR_0 rfl dX9_peaks_65 rfl ?_
            refine g_inc3 h 71 (my_inc ic_1 _) (Nat.le_of_ble_eq_true rfl) rfl dX9_peaks_68 rfl ?_
            refine g_goto h 16 dX9_peaks_71 (by decide) ?_
            exact g_weak (ih.2 _ _ _ _ hf) (w_s (w_s (w_s (w_s (w_n w_0)))))
        · have hf := my_ifT hc hf
          refine g_il3 h 26 dX9_peaks_25 rfl ?_
          refine g_ifne h 33 29 dX9_peaks_26 (by decide) rfl (fun hc => ?_) (fun hc => ?_)
          · have hf := my_ifF hc hf
            refine g_al0 h 34 dX9_peaks_33 rfl ?_
            refine g_il1 h 35 dX9_peaks_34 rfl ?_
            refine g_il1 h 36 dX9_peaks_35 rfl ?_
            refine g_il2 h 37 dX9_peaks_36 rfl ?_
            refine g_il3 h 38 dX9_peaks_37 rfl ?_
            obtain ⟨r2, σ2, hc2, hf⟩ := my_ofb hf
            refine g_callVi h 41 cs_X9_191 rfl lyR_0 (ct_X9_heardBy w hc2) rfl rfl (Nat.le_of_ble_eq_true rfl) ⟨Nat.le_of_ble_eq_true rfl, Nat.le_of_ble_eq_true rfl⟩ dX9_peaks_38 rfl ?_
            refine g_is4 h 43 (Nat.le_of_ble_eq_true rfl) rfl dX9_peaks_41 rfl ?_
            refine g_il4 h 45 dX9_peaks_43 rfl ?_
            refine g_al0 h 46 dX9_peaks_45 rfl ?_
            refine g_geti h 49 fF_X9_247_X9 lyR_0 rfl dX9_peaks_46 rfl ?_
            refine g_icle h 68 52 dX9_peaks_49 (by decide) rfl (fun hc => ?_) (fun hc => ?_)
            · have hf := my_ifT hc hf
              refine g_inc3 h 71 (my_inc ic_1 _) (Nat.le_of_ble_eq_true rfl) rfl dX9_peaks_68 rfl ?_
              refine g_goto h 16 dX9_peaks_71 (by decide) ?_
              exact g_weak (ih.2 _ _ _ _ hf) (w_s (w_s (w_s (w_s (w_n w_0)))))
            · have hf := my_ifF hc hf
              refine g_al0 h 53 dX9_peaks_52 rfl ?_
              refine g_il4 h 55 dX9_peaks_53 rfl ?_
              refine g_puti h 58 fP_X9_247_X9 lyR_0 rfl dX9_peaks_55 rfl ?_
              refine g_al0 h 59 dX9_peaks_58 rfl ?_
              refine g_il2 h 60 dX9_peaks_59 rfl ?_
              refine g_puti h 63 fP_X9_250_X9 lyR_0 rfl dX9_peaks_60 rfl ?_
              refine g_al0 h 64 dX9_peaks_63 rfl ?_
              refine g_il3 h 65 dX9_peaks_64 rfl ?_
              refine g_puti h 68 fP_X9_253_X9 lyR_0 rfl dX9_peaks_65 rfl ?_
              refine g_inc3 h 71 (my_inc ic_1 _) (Nat.le_of_ble_eq_true rfl) rfl dX9_peaks_68 rfl ?_
              refine g_goto h 16 dX9_peaks_71 (by decide) ?_
              exact g_weak (ih.2 _ _ _ _ hf) (w_s (w_s (w_s (w_s (w_n w_0)))))
          · have hf := my_ifT hc hf
            refine g_iconst h 30 ic_m1 dX9_peaks_29 rfl ?_
            refine g_goto h 41 dX9_peaks_30 (by decide) ?_
            refine g_is4 h 43 (Nat.le_of_ble_eq_true rfl) rfl dX9_peaks_41 rfl ?_
            refine g_il4 h 45 dX9_peaks_43 rfl ?_
            refine g_al0 h 46 dX9_peaks_45 rfl ?_
            refine g_geti h 49 fF_X9_247_X9 lyR_0 rfl dX9_peaks_46 rfl ?_
            refine g_icle h 68 52 dX9_peaks_49 (by decide) rfl (fun hc => ?_) (fun hc => ?_)
            · have hf := my_ifT hc hf
              refine g_inc3 h 71 (my_inc ic_1 _) (Nat.le_of_ble_eq_true rfl) rfl dX9_peaks_68 rfl ?_
              refine g_goto h 16 dX9_peaks_71 (by decide) ?_
              exact g_weak (ih.2 _ _ _ _ hf) (w_s (w_s (w_s (w_s (w_n w_0)))))
            · have hf := my_ifF hc hf
              refine g_al0 h 53 dX9_peaks_52 rfl ?_
              refine g_il4 h 55 dX9_peaks_53 rfl ?_
              refine g_puti h 58 fP_X9_247_X9 lyR_0 rfl dX9_peaks_55 rfl ?_
              refine g_al0 h 59 dX9_peaks_58 rfl ?_
              refine g_il2 h 60 dX9_peaks_59 rfl ?_
              refine g_puti h 63 fP_X9_250_X9 lyR_0 rfl dX9_peaks_60 rfl ?_
              refine g_al0 h 64 dX9_peaks_63 rfl ?_
              refine g_il3 h 65 dX9_peaks_64 rfl ?_
              refine g_puti h 68 fP_X9_253_X9 lyR_0 rfl dX9_peaks_65 rfl ?_
              refine g_inc3 h 71 (my_inc ic_1 _) (Nat.le_of_ble_eq_true rfl) rfl dX9_peaks_68 rfl ?_
              refine g_goto h 16 dX9_peaks_71 (by decide) ?_
              exact g_weak (ih.2 _ _ _ _ hf) (w_s (w_s (w_s (w_s (w_n w_0)))))
set_option maxRecDepth 100000 in
set_option maxHeartbeats 4000000 in
theorem ct_X9_peaks (w : my_V) {σ : my_M} {x1 : Int32} {r : Unit} {τ : my_M} (hf : f_X9_peaks σ x1 = some (r, τ)) : Ct w layR mX9_peaks 4 [.ref (w.2.2.2 0), .int x1] σ none τ := by
  refine my_met RX9 [some (.ref (w.2.2.2 0)), some (.int x1), none, none, none] 3 (by decide) rfl (Nat.le_of_ble_eq_true rfl) rfl (fun X h => ?_)
  unfold f_X9_peaks at hf
  refine g_al0 h 1 dX9_peaks_0 rfl ?_
  refine g_iconst h 2 ic_m1 dX9_peaks_1 rfl ?_
  refine g_puti h 5 fP_X9_247_X9 lyR_0 rfl dX9_peaks_2 rfl ?_
  refine g_bipush h 7 bp_m5 dX9_peaks_5 rfl ?_
  refine g_is2 h 8 (Nat.le_of_ble_eq_true rfl) rfl dX9_peaks_7 rfl ?_
  exact g_weak ((lp_X9_peaks w h my_NF).1 _ _ _ hf) (w_s (w_s (w_s (w_s (w_s w_0)))))
def f_X9_peak (σ : my_M) (x1 : Int32) (x2 : Int32) : Option (Int32 × my_M) :=
(my_bnd (f_X9_noCaller σ x1) fun r1 σ1 =>
(if r1 = 0 then
(my_bnd (f_X9_in σ1 (Int32.toInt64 x2) 0 2) fun r2 σ2 =>
(if r2 = 0 then
some ((-2), σ2)
else
(my_bnd (f_X9_peaks σ2 x1) fun r3 σ3 =>
(if x2 = 0 then
some ((σ3 0 19), σ3)
else
(if x2 = 1 then
some ((σ3 0 20), σ3)
else
some ((σ3 0 21), σ3))))))
else
some ((-1), σ1)))
set_option maxRecDepth 100000 in
set_option maxHeartbeats 4000000 in
theorem ct_X9_peak (w : my_V) {σ : my_M} {x1 : Int32} {x2 : Int32} {r : Int32} {τ : my_M} (hf : f_X9_peak σ x1 x2 = some (r, τ)) : Ct w layR mX9_peak 5 [.ref (w.2.2.2 0), .int x1, .int x2] σ (some (.int r)) τ := by
  refine my_met RX9 [some (.ref (w.2.2.2 0)), some (.int x1), some (.int x2)] 0 (by decide) rfl (Nat.le_of_ble_eq_true rfl) rfl (fun X h => ?_)
  unfold f_X9_peak at hf
  refine g_al0 h 1 dX9_peak_0 rfl ?_
  refine g_il1 h 2 dX9_peak_1 rfl ?_
  obtain ⟨r1, σ1, hc1, hf⟩ := my_ofb hf
  refine g_callVi h 5 cs_X9_165 rfl lyR_0 (ct_X9_noCaller w hc1) rfl rfl (Nat.le_of_ble_eq_true rfl) ⟨Nat.le_of_ble_eq_true rfl, Nat.le_of_ble_eq_true rfl⟩ dX9_peak_2 rfl ?_
  refine g_ifeq h 10 8 dX9_peak_5 (by decide) rfl (fun hc => ?_) (fun hc => ?_)
  · have hf := my_ifT hc hf
    refine g_il2 h 11 dX9_peak_10 rfl ?_
    refine g_i2l h 12 dX9_peak_11 rfl ?_
    refine g_lconst h 13 lc_0 dX9_peak_12 rfl ?_
    refine g_ldc2 h 16 tw_kl_X9_109 dX9_peak_13 rfl ?_
    obtain ⟨r2, σ2, hc2, hf⟩ := my_ofb hf
    refine g_callSi h 19 cs_X9_83 (ct_X9_in w hc2) rfl rfl (Nat.le_of_ble_eq_true rfl) ⟨Nat.le_of_ble_eq_true rfl, Nat.le_of_ble_eq_true rfl⟩ dX9_peak_16 rfl ?_
    refine g_ifne h 25 22 dX9_peak_19 (by decide) rfl (fun hc => ?_) (fun hc => ?_)
    · have hf := my_ifF hc hf
      refine g_al0 h 26 dX9_peak_25 rfl ?_
      refine g_il1 h 27 dX9_peak_26 rfl ?_
      obtain ⟨r3, σ3, hc3, hf⟩ := my_ofb hf
      refine g_callVv h 30 cs_X9_256 rfl lyR_0 (ct_X9_peaks w hc3) rfl rfl (Nat.le_of_ble_eq_true rfl) ⟨Nat.le_of_ble_eq_true rfl, Nat.le_of_ble_eq_true rfl⟩ dX9_peak_27 rfl ?_
      refine g_il2 h 31 dX9_peak_30 rfl ?_
      refine g_ifne h 41 34 dX9_peak_31 (by decide) rfl (fun hc => ?_) (fun hc => ?_)
      · have hf := my_ifF hc hf
        refine g_il2 h 42 dX9_peak_41 rfl ?_
        refine g_iconst h 43 ic_1 dX9_peak_42 rfl ?_
        refine g_icne h 53 46 dX9_peak_43 (by decide) rfl (fun hc => ?_) (fun hc => ?_)
        · have hf := my_ifF hc hf
          refine g_al0 h 54 dX9_peak_53 rfl ?_
          refine g_geti h 57 fF_X9_253_X9 lyR_0 rfl dX9_peak_54 rfl ?_
          exact g_iret h dX9_peak_57 (my_r1 hf) (my_r2 hf)
        · have hf := my_ifT hc hf
          refine g_al0 h 47 dX9_peak_46 rfl ?_
          refine g_geti h 50 fF_X9_250_X9 lyR_0 rfl dX9_peak_47 rfl ?_
          refine g_goto h 57 dX9_peak_50 (by decide) ?_
          exact g_iret h dX9_peak_57 (my_r1 hf) (my_r2 hf)
      · have hf := my_ifT hc hf
        refine g_al0 h 35 dX9_peak_34 rfl ?_
        refine g_geti h 38 fF_X9_247_X9 lyR_0 rfl dX9_peak_35 rfl ?_
        refine g_goto h 57 dX9_peak_38 (by decide) ?_
        exact g_iret h dX9_peak_57 (my_r1 hf) (my_r2 hf)
    · have hf := my_ifT hc hf
      refine g_bipush h 24 bp_m2 dX9_peak_22 rfl ?_
      exact g_iret h dX9_peak_24 (my_r1 hf) (my_r2 hf)
  · have hf := my_ifF hc hf
    refine g_iconst h 9 ic_m1 dX9_peak_8 rfl ?_
    exact g_iret h dX9_peak_9 (my_r1 hf) (my_r2 hf)
def b_X9_pitches_0 (k0 : my_M → Int32 → Int32 → Int32 → Int32 → Option (Int32 × my_M)) (σ : my_M) (x3 : Int32) (x4 : Int32) (x5 : Int32) (x6 : Int32) : Option (Int32 × my_M) :=
(if (σ 0 2) ≤ x6 then
(if my_ix x3 (my_len layR 2) then
some (x5, (my_up σ 2 (Int32.toNatClampNeg x3) x4))
else none)
else
(if my_ix x3 (my_len layR 2) then
(my_bnd (f_X9_areSo (my_up σ 2 (Int32.toNatClampNeg x3) x6)) fun r3 σ3 =>
(if r3 = 0 then
k0 σ3 x3 x4 ((x5 ||| 0)) ((x6 + 1))
else
k0 σ3 x3 x4 ((x5 ||| (1 <<< (x6 &&& 31)))) ((x6 + 1))))
else none))
def g_X9_pitches : Nat → my_M → Int32 → Int32 → Int32 → Int32 → Option (Int32 × my_M)
  | 0 => fun _ _ _ _ _ => none
  | n + 1 => b_X9_pitches_0 (g_X9_pitches n)
def f_X9_pitches (σ : my_M) (x1 : Int32) (x2 : Int32) : Option (Int32 × my_M) :=
(my_bnd (f_X9_noCaller σ x1) fun r1 σ1 =>
(if r1 = 0 then
(my_bnd (f_X9_noBeat σ1 x2) fun r2 σ2 =>
(if r2 = 0 then
(if my_ix ((6 * x1) + x2) (my_len layR 2) then
(g_X9_pitches my_NF) σ2 (((6 * x1) + x2)) ((σ2 2 (Int32.toNatClampNeg ((6 * x1) + x2)))) 0 0
else none)
else
some ((-1), σ2)))
else
some ((-1), σ1)))
set_option maxRecDepth 100000 in
set_option maxHeartbeats 4000000 in
theorem lp_X9_pitches (w : my_V) {X : my_X} {r : Int32} {τ : my_M} (h : my_OK X w layR cX9_pitches RX9 7 (some .int)) : ∀ n : Nat, (∀ (σ : my_M) (x3 : Int32) (x4 : Int32) (x5 : Int32) (x6 : Int32), (g_X9_pitches n) σ x3 x4 x5 x6 = some (r, τ) → Go X w layR 5 7 (some (.int r)) τ σ 39 [some (.ref (w.2.2.2 0)), none, none, some (.int x3), some (.int x4), some (.int x5), some (.int x6)] []) := by
  intro n
  induction n with
  | zero => exact fun _ _ _ _ _ hf => (my_nn hf).elim
  | succ n ih =>
    intro σ x3 x4 x5 x6 hf
    replace hf : b_X9_pitches_0 (g_X9_pitches n) σ x3 x4 x5 x6 = some (r, τ) := hf
    unfold b_X9_pitches_0 at hf
    refine g_il6 h 41 dX9_pitches_39 rfl ?_
    refine g_al0 h 42 dX9_pitches_41 rfl ?_
    refine g_geti h 45 fF_X9_87_X9 lyR_0 rfl dX9_pitches_42 rfl ?_
    refine g_icge h 82 48 dX9_pitches_45 (by decide) rfl (fun hc => ?_) (fun hc => ?_)
    · have hf := my_ifT hc hf
      refine g_al0 h 83 dX9_pitches_82 rfl ?_
      refine g_geta h 86 fF_X9_13_X9 lyR_0 rfl dX9_pitches_83 rfl ?_
      refine g_il3 h 87 dX9_pitches_86 rfl ?_
      refine g_il4 h 89 dX9_pitches_87 rfl ?_
      obtain ⟨hq1, hf⟩ := my_chk hf
      refine g_iast h 90 dX9_pitches_89 rfl hq1 ?_
      refine g_il5 h 92 dX9_pitches_90 rfl ?_
      exact g_iret h dX9_pitches_92 (my_r1 hf) (my_r2 hf)
    · have hf := my_ifF hc hf
      refine g_al0 h 49 dX9_pitches_48 rfl ?_
      refine g_geta h 52 fF_X9_13_X9 lyR_0 rfl dX9_pitches_49 rfl ?_
      refine g_il3 h 53 dX9_pitches_52 rfl ?_
      refine g_il6 h 55 dX9_pitches_53 rfl ?_
      obtain ⟨hq2, hf⟩ := my_chk hf
      refine g_iast h 56 dX9_pitches_55 rfl hq2 ?_
      refine g_il5 h 58 dX9_pitches_56 rfl ?_
      refine g_al0 h 59 dX9_pitches_58 rfl ?_
      obtain ⟨r3, σ3, hc3, hf⟩ := my_ofb hf
      refine g_callVi h 62 cs_X9_268 rfl lyR_0 (ct_X9_areSo w hc3) rfl rfl (Nat.le_of_ble_eq_true rfl) ⟨Nat.le_of_ble_eq_true rfl, Nat.le_of_ble_eq_true rfl⟩ dX9_pitches_59 rfl ?_
      refine g_ifeq h 72 65 dX9_pitches_62 (by decide) rfl (fun hc => ?_) (fun hc => ?_)
      · have hf := my_ifT hc hf
        refine g_iconst h 73 ic_0 dX9_pitches_72 rfl ?_
        refine g_ior h 74 dX9_pitches_73 rfl ?_
        refine g_is5 h 76 (Nat.le_of_ble_eq_true rfl) rfl dX9_pitches_74 rfl ?_
        refine g_inc6 h 79 (my_inc ic_1 _) (Nat.le_of_ble_eq_true rfl) rfl dX9_pitches_76 rfl ?_
        refine g_goto h 39 dX9_pitches_79 (by decide) ?_
        exact g_weak (ih _ _ _ _ _ hf) (w_s (w_s (w_s (w_s (w_s (w_s (w_s w_0)))))))
      · have hf := my_ifF hc hf
        refine g_iconst h 66 ic_1 dX9_pitches_65 rfl ?_
        refine g_il6 h 68 dX9_pitches_66 rfl ?_
        refine g_ishl h 69 dX9_pitches_68 rfl ?_
        refine g_goto h 73 dX9_pitches_69 (by decide) ?_
        refine g_ior h 74 dX9_pitches_73 rfl ?_
        refine g_is5 h 76 (Nat.le_of_ble_eq_true rfl) rfl dX9_pitches_74 rfl ?_
        refine g_inc6 h 79 (my_inc ic_1 _) (Nat.le_of_ble_eq_true rfl) rfl dX9_pitches_76 rfl ?_
        refine g_goto h 39 dX9_pitches_79 (by decide) ?_
        exact g_weak (ih _ _ _ _ _ hf) (w_s (w_s (w_s (w_s (w_s (w_s (w_s w_0)))))))
set_option maxRecDepth 100000 in
set_option maxHeartbeats 4000000 in
theorem ct_X9_pitches (w : my_V) {σ : my_M} {x1 : Int32} {x2 : Int32} {r : Int32} {τ : my_M} (hf : f_X9_pitches σ x1 x2 = some (r, τ)) : Ct w layR mX9_pitches 5 [.ref (w.2.2.2 0), .int x1, .int x2] σ (some (.int r)) τ := by
  refine my_met RX9 [some (.ref (w.2.2.2 0)), some (.int x1), some (.int x2), none, none, none, none] 4 (by decide) rfl (Nat.le_of_ble_eq_true rfl) rfl (fun X h => ?_)
  unfold f_X9_pitches at hf
  refine g_al0 h 1 dX9_pitches_0 rfl ?_
  refine g_il1 h 2 dX9_pitches_1 rfl ?_
  obtain ⟨r1, σ1, hc1, hf⟩ := my_ofb hf
  refine g_callVi h 5 cs_X9_165 rfl lyR_0 (ct_X9_noCaller w hc1) rfl rfl (Nat.le_of_ble_eq_true rfl) ⟨Nat.le_of_ble_eq_true rfl, Nat.le_of_ble_eq_true rfl⟩ dX9_pitches_2 rfl ?_
  refine g_ifne h 16 8 dX9_pitches_5 (by decide) rfl (fun hc => ?_) (fun hc => ?_)
  · have hf := my_ifF hc hf
    refine g_iconst h 17 ic_m1 dX9_pitches_16 rfl ?_
    exact g_iret h dX9_pitches_17 (my_r1 hf) (my_r2 hf)
  · have hf := my_ifT hc hf
    refine g_al0 h 9 dX9_pitches_8 rfl ?_
    refine g_il2 h 10 dX9_pitches_9 rfl ?_
    obtain ⟨r2, σ2, hc2, hf⟩ := my_ofb hf
    refine g_callVi h 13 cs_X9_172 rfl lyR_0 (ct_X9_noBeat w hc2) rfl rfl (Nat.le_of_ble_eq_true rfl) ⟨Nat.le_of_ble_eq_true rfl, Nat.le_of_ble_eq_true rfl⟩ dX9_pitches_10 rfl ?_
    refine g_ifeq h 18 16 dX9_pitches_13 (by decide) rfl (fun hc => ?_) (fun hc => ?_)
    · have hf := my_ifT hc hf
      refine g_bipush h 20 bp_6 dX9_pitches_18 rfl ?_
      refine g_il1 h 21 dX9_pitches_20 rfl ?_
      refine g_imul h 22 dX9_pitches_21 rfl ?_
      refine g_il2 h 23 dX9_pitches_22 rfl ?_
      refine g_iadd h 24 dX9_pitches_23 rfl ?_
      refine g_is3 h 25 (Nat.le_of_ble_eq_true rfl) rfl dX9_pitches_24 rfl ?_
      refine g_al0 h 26 dX9_pitches_25 rfl ?_
      refine g_geta h 29 fF_X9_13_X9 lyR_0 rfl dX9_pitches_26 rfl ?_
      refine g_il3 h 30 dX9_pitches_29 rfl ?_
      obtain ⟨hq3, hf⟩ := my_chk hf
      refine g_iald h 31 dX9_pitches_30 rfl hq3 ?_
      refine g_is4 h 33 (Nat.le_of_ble_eq_true rfl) rfl dX9_pitches_31 rfl ?_
      refine g_iconst h 34 ic_0 dX9_pitches_33 rfl ?_
      refine g_is5 h 36 (Nat.le_of_ble_eq_true rfl) rfl dX9_pitches_34 rfl ?_
      refine g_iconst h 37 ic_0 dX9_pitches_36 rfl ?_
      refine g_is6 h 39 (Nat.le_of_ble_eq_true rfl) rfl dX9_pitches_37 rfl ?_
      exact g_weak ((lp_X9_pitches w h my_NF) _ _ _ _ _ hf) (w_s (w_n (w_n (w_s (w_s (w_s (w_s w_0)))))))
    · have hf := my_ifF hc hf
      refine g_iconst h 17 ic_m1 dX9_pitches_16 rfl ?_
      exact g_iret h dX9_pitches_17 (my_r1 hf) (my_r2 hf)
def f_X9_put (σ : my_M) (x1 : Int32) (x2 : Int32) (x3 : Int32) : Option (Int32 × my_M) :=
(my_bnd (f_X9_noSheet σ x1) fun r1 σ1 =>
(if r1 = 0 then
(my_bnd (f_X9_noCell σ1 x1 x2) fun r2 σ2 =>
(if r2 ≤ 0 then
(if my_ix x1 (my_len layR 18) then
(if (σ2 18 (Int32.toNatClampNeg x1)) = 0 then
(if my_ix ((60 * x1) + x2) (my_len layR 19) then
(my_bnd (f_X9_refused (my_up σ2 19 (Int32.toNatClampNeg ((60 * x1) + x2)) (Int32.toInt8 x3).toInt32) 1) fun r10 σ10 =>
some (r10, σ10))
else none)
else
(if my_ix x1 (my_len layR 18) then
(if (σ2 18 (Int32.toNatClampNeg x1)) = 1 then
(if my_ix ((60 * x1) + x2) (my_len layR 19) then
(my_bnd (f_X9_refused (my_up σ2 19 (Int32.toNatClampNeg ((60 * x1) + x2)) (Int32.toInt16 x3).toInt32) 1) fun r8 σ8 =>
some (r8, σ8))
else none)
else
(if my_ix ((60 * x1) + x2) (my_len layR 19) then
(my_bnd (f_X9_refused (my_up σ2 19 (Int32.toNatClampNeg ((60 * x1) + x2)) x3) 1) fun r6 σ6 =>
some (r6, σ6))
else none))
else none))
else none)
else
(my_bnd (f_X9_noCell σ2 x1 x2) fun r11 σ11 =>
(my_bnd (f_X9_failed σ11 r11) fun r12 σ12 =>
some (r12, σ12)))))
else
(my_bnd (f_X9_refused σ1 (-1)) fun r13 σ13 =>
some (r13, σ13))))
set_option maxRecDepth 100000 in
set_option maxHeartbeats 4000000 in
theorem ct_X9_put (w : my_V) {σ : my_M} {x1 : Int32} {x2 : Int32} {x3 : Int32} {r : Int32} {τ : my_M} (hf : f_X9_put σ x1 x2 x3 = some (r, τ)) : Ct w layR mX9_put 3 [.ref (w.2.2.2 0), .int x1, .int x2, .int x3] σ (some (.int r)) τ := by
  refine my_met RX9 [some (.ref (w.2.2.2 0)), some (.int x1), some (.int x2), some (.int x3)] 0 (by decide) rfl (Nat.le_of_ble_eq_true rfl) rfl (fun X h => ?_)
  unfold f_X9_put at hf
  refine g_il1 h 1 dX9_put_0 rfl ?_
  obtain ⟨r1, σ1, hc1, hf⟩ := my_ofb hf
  refine g_callSi h 4 cs_X9_125 (ct_X9_noSheet w hc1) rfl rfl (Nat.le_of_ble_eq_true rfl) ⟨Nat.le_of_ble_eq_true rfl, Nat.le_of_ble_eq_true rfl⟩ dX9_put_1 rfl ?_
  refine g_ifeq h 13 7 dX9_put_4 (by decide) rfl (fun hc => ?_) (fun hc => ?_)
  · have hf := my_ifT hc hf
    refine g_al0 h 14 dX9_put_13 rfl ?_
    refine g_il1 h 15 dX9_put_14 rfl ?_
    refine g_il2 h 16 dX9_put_15 rfl ?_
    obtain ⟨r2, σ2, hc2, hf⟩ := my_ofb hf
    refine g_callVi h 19 cs_X9_277 rfl lyR_0 (ct_X9_noCell w hc2) rfl rfl (Nat.le_of_ble_eq_true rfl) ⟨Nat.le_of_ble_eq_true rfl, Nat.le_of_ble_eq_true rfl⟩ dX9_put_16 rfl ?_
    refine g_ifle h 33 22 dX9_put_19 (by decide) rfl (fun hc => ?_) (fun hc => ?_)
    · have hf := my_ifT hc hf
      refine g_al0 h 34 dX9_put_33 rfl ?_
      refine g_geta h 37 fF_X9_64_X9 lyR_0 rfl dX9_put_34 rfl ?_
      refine g_bipush h 39 bp_60 dX9_put_37 rfl ?_
      refine g_il1 h 40 dX9_put_39 rfl ?_
      refine g_imul h 41 dX9_put_40 rfl ?_
      refine g_il2 h 42 dX9_put_41 rfl ?_
      refine g_iadd h 43 dX9_put_42 rfl ?_
      refine g_al0 h 44 dX9_put_43 rfl ?_
      refine g_geta h 47 fF_X9_61_X9 lyR_0 rfl dX9_put_44 rfl ?_
      refine g_il1 h 48 dX9_put_47 rfl ?_
      obtain ⟨hq3, hf⟩ := my_chk hf
      refine g_iald h 49 dX9_put_48 rfl hq3 ?_
      refine g_ifne h 57 52 dX9_put_49 (by decide) rfl (fun hc => ?_) (fun hc => ?_)
      · have hf := my_ifF hc hf
        refine g_al0 h 58 dX9_put_57 rfl ?_
        refine g_geta h 61 fF_X9_61_X9 lyR_0 rfl dX9_put_58 rfl ?_
        refine g_il1 h 62 dX9_put_61 rfl ?_
        obtain ⟨hq4, hf⟩ := my_chk hf
        refine g_iald h 63 dX9_put_62 rfl hq4 ?_
        refine g_iconst h 64 ic_1 dX9_put_63 rfl ?_
        refine g_icne h 72 67 dX9_put_64 (by decide) rfl (fun hc => ?_) (fun hc => ?_)
        · have hf := my_ifF hc hf
          refine g_il3 h 73 dX9_put_72 rfl ?_
          obtain ⟨hq5, hf⟩ := my_chk hf
          refine g_iast h 74 dX9_put_73 rfl hq5 ?_
          refine g_al0 h 75 dX9_put_74 rfl ?_
          refine g_iconst h 76 ic_1 dX9_put_75 rfl ?_
          obtain ⟨r6, σ6, hc6, hf⟩ := my_ofb hf
          refine g_callVi h 79 cs_X9_129 rfl lyR_0 (ct_X9_refused w hc6) rfl rfl (Nat.le_of_ble_eq_true rfl) ⟨Nat.le_of_ble_eq_true rfl, Nat.le_of_ble_eq_true rfl⟩ dX9_put_76 rfl ?_
          exact g_iret h dX9_put_79 (my_r1 hf) (my_r2 hf)
        · have hf := my_ifT hc hf
          refine g_il3 h 68 dX9_put_67 rfl ?_
          refine g_i2s h 69 dX9_put_68 rfl ?_
          refine g_goto h 73 dX9_put_69 (by decide) ?_
          obtain ⟨hq7, hf⟩ := my_chk hf
          refine g_iast h 74 dX9_put_73 rfl hq7 ?_
          refine g_al0 h 75 dX9_put_74 rfl ?_
          refine g_iconst h 76 ic_1 dX9_put_75 rfl ?_
          obtain ⟨r8, σ8, hc8, hf⟩ := my_ofb hf
          refine g_callVi h 79 cs_X9_129 rfl lyR_0 (ct_X9_refused w hc8) rfl rfl (Nat.le_of_ble_eq_true rfl) ⟨Nat.le_of_ble_eq_true rfl, Nat.le_of_ble_eq_true rfl⟩ dX9_put_76 rfl ?_
          exact g_iret h dX9_put_79 (my_r1 hf) (my_r2 hf)
      · have hf := my_ifT hc hf
        refine g_il3 h 53 dX9_put_52 rfl ?_
        refine g_i2b h 54 dX9_put_53 rfl ?_
        refine g_goto h 73 dX9_put_54 (by decide) ?_
        obtain ⟨hq9, hf⟩ := my_chk hf
        refine g_iast h 74 dX9_put_73 rfl hq9 ?_
        refine g_al0 h 75 dX9_put_74 rfl ?_
        refine g_iconst h 76 ic_1 dX9_put_75 rfl ?_
        obtain ⟨r10, σ10, hc10, hf⟩ := my_ofb hf
        refine g_callVi h 79 cs_X9_129 rfl lyR_0 (ct_X9_refused w hc10) rfl rfl (Nat.le_of_ble_eq_true rfl) ⟨Nat.le_of_ble_eq_true rfl, Nat.le_of_ble_eq_true rfl⟩ dX9_put_76 rfl ?_
        exact g_iret h dX9_put_79 (my_r1 hf) (my_r2 hf)
    · have hf := my_ifF hc hf
      refine g_al0 h 23 dX9_put_22 rfl ?_
      refine g_al0 h 24 dX9_put_23 rfl ?_
      refine g_il1 h 25 dX9_put_24 rfl ?_
      refine g_il2 h 26 dX9_put_25 rfl ?_
      obtain ⟨r11, σ11, hc11, hf⟩ := my_ofb hf
      refine g_callVi h 29 cs_X9_277 rfl lyR_0 (ct_X9_noCell w hc11) rfl rfl (Nat.le_of_ble_eq_true rfl) ⟨Nat.le_of_ble_eq_true rfl, Nat.le_of_ble_eq_true rfl⟩ dX9_put_26 rfl ?_
      obtain ⟨r12, σ12, hc12, hf⟩ := my_ofb hf
      refine g_callVi h 32 cs_X9_117 rfl lyR_0 (ct_X9_failed w hc12) rfl rfl (Nat.le_of_ble_eq_true rfl) ⟨Nat.le_of_ble_eq_true rfl, Nat.le_of_ble_eq_true rfl⟩ dX9_put_29 rfl ?_
      exact g_iret h dX9_put_32 (my_r1 hf) (my_r2 hf)
  · have hf := my_ifF hc hf
    refine g_al0 h 8 dX9_put_7 rfl ?_
    refine g_iconst h 9 ic_m1 dX9_put_8 rfl ?_
    obtain ⟨r13, σ13, hc13, hf⟩ := my_ofb hf
    refine g_callVi h 12 cs_X9_129 rfl lyR_0 (ct_X9_refused w hc13) rfl rfl (Nat.le_of_ble_eq_true rfl) ⟨Nat.le_of_ble_eq_true rfl, Nat.le_of_ble_eq_true rfl⟩ dX9_put_9 rfl ?_
    exact g_iret h dX9_put_12 (my_r1 hf) (my_r2 hf)
def f_X9_reading (σ : my_M) (x1 : Int32) (x2 : Int32) (x3 : Int32) (x4 : Int32) (x5 : Int32) : Option (Int32 × my_M) :=
(my_bnd (f_X9_noCaller σ x1) fun r1 σ1 =>
(if r1 = 0 then
(my_bnd (f_X9_noCaller σ1 x2) fun r2 σ2 =>
(if r2 = 0 then
(my_bnd (f_X9_isShift σ2 x3) fun r3 σ3 =>
(if r3 = 0 then
some ((-2), σ3)
else
(my_bnd (f_X9_isShift σ3 x4) fun r4 σ4 =>
(if r4 = 0 then
some ((-2), σ4)
else
(my_bnd (f_X9_in σ4 (Int32.toInt64 x5) 0 20) fun r5 σ5 =>
(if r5 = 0 then
some ((-2), σ5)
else
(if (σ5 0 22) = 8 then
some ((-4), σ5)
else
(if my_ix (σ5 0 22) (my_len layR 12) then
(if my_ix ((my_up σ5 12 (Int32.toNatClampNeg (σ5 0 22)) x1) 0 22) (my_len layR 13) then
(if my_ix ((my_up (my_up σ5 12 (Int32.toNatClampNeg (σ5 0 22)) x1) 13 (Int32.toNatClampNeg ((my_up σ5 12 (Int32.toNatClampNeg (σ5 0 22)) x1) 0 22)) x2) 0 22) (my_len layR 14) then
(if my_ix ((my_up (my_up (my_up σ5 12 (Int32.toNatClampNeg (σ5 0 22)) x1) 13 (Int32.toNatClampNeg ((my_up σ5 12 (Int32.toNatClampNeg (σ5 0 22)) x1) 0 22)) x2) 14 (Int32.toNatClampNeg ((my_up (my_up σ5 12 (Int32.toNatClampNeg (σ5 0 22)) x1) 13 (Int32.toNatClampNeg ((my_up σ5 12 (Int32.toNatClampNeg (σ5 0 22)) x1) 0 22)) x2) 0 22)) x3) 0 22) (my_len layR 15) then
(if my_ix ((my_up (my_up (my_up (my_up σ5 12 (Int32.toNatClampNeg (σ5 0 22)) x1) 13 (Int32.toNatClampNeg ((my_up σ5 12 (Int32.toNatClampNeg (σ5 0 22)) x1) 0 22)) x2) 14 (Int32.toNatClampNeg ((my_up (my_up σ5 12 (Int32.toNatClampNeg (σ5 0 22)) x1) 13 (Int32.toNatClampNeg ((my_up σ5 12 (Int32.toNatClampNeg (σ5 0 22)) x1) 0 22)) x2) 0 22)) x3) 15 (Int32.toNatClampNeg ((my_up (my_up (my_up σ5 12 (Int32.toNatClampNeg (σ5 0 22)) x1) 13 (Int32.toNatClampNeg ((my_up σ5 12 (Int32.toNatClampNeg (σ5 0 22)) x1) 0 22)) x2) 14 (Int32.toNatClampNeg ((my_up (my_up σ5 12 (Int32.toNatClampNeg (σ5 0 22)) x1) 13 (Int32.toNatClampNeg ((my_up σ5 12 (Int32.toNatClampNeg (σ5 0 22)) x1) 0 22)) x2) 0 22)) x3) 0 22)) x4) 0 22) (my_len layR 16) then
some ((((my_up (my_up (my_up (my_up (my_up (my_up σ5 12 (Int32.toNatClampNeg (σ5 0 22)) x1) 13 (Int32.toNatClampNeg ((my_up σ5 12 (Int32.toNatClampNeg (σ5 0 22)) x1) 0 22)) x2) 14 (Int32.toNatClampNeg ((my_up (my_up σ5 12 (Int32.toNatClampNeg (σ5 0 22)) x1) 13 (Int32.toNatClampNeg ((my_up σ5 12 (Int32.toNatClampNeg (σ5 0 22)) x1) 0 22)) x2) 0 22)) x3) 15 (Int32.toNatClampNeg ((my_up (my_up (my_up σ5 12 (Int32.toNatClampNeg (σ5 0 22)) x1) 13 (Int32.toNatClampNeg ((my_up σ5 12 (Int32.toNatClampNeg (σ5 0 22)) x1) 0 22)) x2) 14 (Int32.toNatClampNeg ((my_up (my_up σ5 12 (Int32.toNatClampNeg (σ5 0 22)) x1) 13 (Int32.toNatClampNeg ((my_up σ5 12 (Int32.toNatClampNeg (σ5 0 22)) x1) 0 22)) x2) 0 22)) x3) 0 22)) x4) 16 (Int32.toNatClampNeg ((my_up (my_up (my_up (my_up σ5 12 (Int32.toNatClampNeg (σ5 0 22)) x1) 13 (Int32.toNatClampNeg ((my_up σ5 12 (Int32.toNatClampNeg (σ5 0 22)) x1) 0 22)) x2) 14 (Int32.toNatClampNeg ((my_up (my_up σ5 12 (Int32.toNatClampNeg (σ5 0 22)) x1) 13 (Int32.toNatClampNeg ((my_up σ5 12 (Int32.toNatClampNeg (σ5 0 22)) x1) 0 22)) x2) 0 22)) x3) 15 (Int32.toNatClampNeg ((my_up (my_up (my_up σ5 12 (Int32.toNatClampNeg (σ5 0 22)) x1) 13 (Int32.toNatClampNeg ((my_up σ5 12 (Int32.toNatClampNeg (σ5 0 22)) x1) 0 22)) x2) 14 (Int32.toNatClampNeg ((my_up (my_up σ5 12 (Int32.toNatClampNeg (σ5 0 22)) x1) 13 (Int32.toNatClampNeg ((my_up σ5 12 (Int32.toNatClampNeg (σ5 0 22)) x1) 0 22)) x2) 0 22)) x3) 0 22)) x4) 0 22)) x5) 0 22 (((my_up (my_up (my_up (my_up (my_up σ5 12 (Int32.toNatClampNeg (σ5 0 22)) x1) 13 (Int32.toNatClampNeg ((my_up σ5 12 (Int32.toNatClampNeg (σ5 0 22)) x1) 0 22)) x2) 14 (Int32.toNatClampNeg ((my_up (my_up σ5 12 (Int32.toNatClampNeg (σ5 0 22)) x1) 13 (Int32.toNatClampNeg ((my_up σ5 12 (Int32.toNatClampNeg (σ5 0 22)) x1) 0 22)) x2) 0 22)) x3) 15 (Int32.toNatClampNeg ((my_up (my_up (my_up σ5 12 (Int32.toNatClampNeg (σ5 0 22)) x1) 13 (Int32.toNatClampNeg ((my_up σ5 12 (Int32.toNatClampNeg (σ5 0 22)) x1) 0 22)) x2) 14 (Int32.toNatClampNeg ((my_up (my_up σ5 12 (Int32.toNatClampNeg (σ5 0 22)) x1) 13 (Int32.toNatClampNeg ((my_up σ5 12 (Int32.toNatClampNeg (σ5 0 22)) x1) 0 22)) x2) 0 22)) x3) 0 22)) x4) 16 (Int32.toNatClampNeg ((my_up (my_up (my_up (my_up σ5 12 (Int32.toNatClampNeg (σ5 0 22)) x1) 13 (Int32.toNatClampNeg ((my_up σ5 12 (Int32.toNatClampNeg (σ5 0 22)) x1) 0 22)) x2) 14 (Int32.toNatClampNeg ((my_up (my_up σ5 12 (Int32.toNatClampNeg (σ5 0 22)) x1) 13 (Int32.toNatClampNeg ((my_up σ5 12 (Int32.toNatClampNeg (σ5 0 22)) x1) 0 22)) x2) 0 22)) x3) 15 (Int32.toNatClampNeg ((my_up (my_up (my_up σ5 12 (Int32.toNatClampNeg (σ5 0 22)) x1) 13 (Int32.toNatClampNeg ((my_up σ5 12 (Int32.toNatClampNeg (σ5 0 22)) x1) 0 22)) x2) 14 (Int32.toNatClampNeg ((my_up (my_up σ5 12 (Int32.toNatClampNeg (σ5 0 22)) x1) 13 (Int32.toNatClampNeg ((my_up σ5 12 (Int32.toNatClampNeg (σ5 0 22)) x1) 0 22)) x2) 0 22)) x3) 0 22)) x4) 0 22)) x5) 0 22) + 1)) 0 22) - 1), (my_up (my_up (my_up (my_up (my_up (my_up σ5 12 (Int32.toNatClampNeg (σ5 0 22)) x1) 13 (Int32.toNatClampNeg ((my_up σ5 12 (Int32.toNatClampNeg (σ5 0 22)) x1) 0 22)) x2) 14 (Int32.toNatClampNeg ((my_up (my_up σ5 12 (Int32.toNatClampNeg (σ5 0 22)) x1) 13 (Int32.toNatClampNeg ((my_up σ5 12 (Int32.toNatClampNeg (σ5 0 22)) x1) 0 22)) x2) 0 22)) x3) 15 (Int32.toNatClampNeg ((my_up (my_up (my_up σ5 12 (Int32.toNatClampNeg (σ5 0 22)) x1) 13 (Int32.toNatClampNeg ((my_up σ5 12 (Int32.toNatClampNeg (σ5 0 22)) x1) 0 22)) x2) 14 (Int32.toNatClampNeg ((my_up (my_up σ5 12 (Int32.toNatClampNeg (σ5 0 22)) x1) 13 (Int32.toNatClampNeg ((my_up σ5 12 (Int32.toNatClampNeg (σ5 0 22)) x1) 0 22)) x2) 0 22)) x3) 0 22)) x4) 16 (Int32.toNatClampNeg ((my_up (my_up (my_up (my_up σ5 12 (Int32.toNatClampNeg (σ5 0 22)) x1) 13 (Int32.toNatClampNeg ((my_up σ5 12 (Int32.toNatClampNeg (σ5 0 22)) x1) 0 22)) x2) 14 (Int32.toNatClampNeg ((my_up (my_up σ5 12 (Int32.toNatClampNeg (σ5 0 22)) x1) 13 (Int32.toNatClampNeg ((my_up σ5 12 (Int32.toNatClampNeg (σ5 0 22)) x1) 0 22)) x2) 0 22)) x3) 15 (Int32.toNatClampNeg ((my_up (my_up (my_up σ5 12 (Int32.toNatClampNeg (σ5 0 22)) x1) 13 (Int32.toNatClampNeg ((my_up σ5 12 (Int32.toNatClampNeg (σ5 0 22)) x1) 0 22)) x2) 14 (Int32.toNatClampNeg ((my_up (my_up σ5 12 (Int32.toNatClampNeg (σ5 0 22)) x1) 13 (Int32.toNatClampNeg ((my_up σ5 12 (Int32.toNatClampNeg (σ5 0 22)) x1) 0 22)) x2) 0 22)) x3) 0 22)) x4) 0 22)) x5) 0 22 (((my_up (my_up (my_up (my_up (my_up σ5 12 (Int32.toNatClampNeg (σ5 0 22)) x1) 13 (Int32.toNatClampNeg ((my_up σ5 12 (Int32.toNatClampNeg (σ5 0 22)) x1) 0 22)) x2) 14 (Int32.toNatClampNeg ((my_up (my_up σ5 12 (Int32.toNatClampNeg (σ5 0 22)) x1) 13 (Int32.toNatClampNeg ((my_up σ5 12 (Int32.toNatClampNeg (σ5 0 22)) x1) 0 22)) x2) 0 22)) x3) 15 (Int32.toNatClampNeg ((my_up (my_up (my_up σ5 12 (Int32.toNatClampNeg (σ5 0 22)) x1) 13 (Int32.toNatClampNeg ((my_up σ5 12 (Int32.toNatClampNeg (σ5 0 22)) x1) 0 22)) x2) 14 (Int32.toNatClampNeg ((my_up (my_up σ5 12 (Int32.toNatClampNeg (σ5 0 22)) x1) 13 (Int32.toNatClampNeg ((my_up σ5 12 (Int32.toNatClampNeg (σ5 0 22)) x1) 0 22)) x2) 0 22)) x3) 0 22)) x4) 16 (Int32.toNatClampNeg ((my_up (my_up (my_up (my_up σ5 12 (Int32.toNatClampNeg (σ5 0 22)) x1) 13 (Int32.toNatClampNeg ((my_up σ5 12 (Int32.toNatClampNeg (σ5 0 22)) x1) 0 22)) x2) 14 (Int32.toNatClampNeg ((my_up (my_up σ5 12 (Int32.toNatClampNeg (σ5 0 22)) x1) 13 (Int32.toNatClampNeg ((my_up σ5 12 (Int32.toNatClampNeg (σ5 0 22)) x1) 0 22)) x2) 0 22)) x3) 15 (Int32.toNatClampNeg ((my_up (my_up (my_up σ5 12 (Int32.toNatClampNeg (σ5 0 22)) x1) 13 (Int32.toNatClampNeg ((my_up σ5 12 (Int32.toNatClampNeg (σ5 0 22)) x1) 0 22)) x2) 14 (Int32.toNatClampNeg ((my_up (my_up σ5 12 (Int32.toNatClampNeg (σ5 0 22)) x1) 13 (Int32.toNatClampNeg ((my_up σ5 12 (Int32.toNatClampNeg (σ5 0 22)) x1) 0 22)) x2) 0 22)) x3) 0 22)) x4) 0 22)) x5) 0 22) + 1)))
else none)
else none)
else none)
else none)
else none))))))))
else
some ((-1), σ2)))
else
some ((-1), σ1)))
set_option maxRecDepth 100000 in
set_option maxHeartbeats 4000000 in
theorem ct_X9_reading (w : my_V) {σ : my_M} {x1 : Int32} {x2 : Int32} {x3 : Int32} {x4 : Int32} {x5 : Int32} {r : Int32} {τ : my_M} (hf : f_X9_reading σ x1 x2 x3 x4 x5 = some (r, τ)) : Ct w layR mX9_reading 3 [.ref (w.2.2.2 0), .int x1, .int x2, .int x3, .int x4, .int x5] σ (some (.int r)) τ := by
  refine my_met RX9 [some (.ref (w.2.2.2 0)), some (.int x1), some (.int x2), some (.int x3), some (.int x4), some (.int x5)] 0 (by decide) rfl (Nat.le_of_ble_eq_true rfl) rfl (fun X h => ?_)
  unfold f_X9_reading at hf
  refine g_al0 h 1 dX9_reading_0 rfl ?_
  refine g_il1 h 2 dX9_reading_1 rfl ?_
  obtain ⟨r1, σ1, hc1, hf⟩ := my_ofb hf
  refine g_callVi h 5 cs_X9_165 rfl lyR_0 (ct_X9_noCaller w hc1) rfl rfl (Nat.le_of_ble_eq_true rfl) ⟨Nat.le_of_ble_eq_true rfl, Nat.le_of_ble_eq_true rfl⟩ dX9_reading_2 rfl ?_
  refine g_ifne h 16 8 dX9_reading_5 (by decide) rfl (fun hc => ?_) (fun hc => ?_)
  · have hf := my_ifF hc hf
    refine g_iconst h 17 ic_m1 dX9_reading_16 rfl ?_
    exact g_iret h dX9_reading_17 (my_r1 hf) (my_r2 hf)
  · have hf := my_ifT hc hf
    refine g_al0 h 9 dX9_reading_8 rfl ?_
    refine g_il2 h 10 dX9_reading_9 rfl ?_
    obtain ⟨r2, σ2, hc2, hf⟩ := my_ofb hf
    refine g_callVi h 13 cs_X9_165 rfl lyR_0 (ct_X9_noCaller w hc2) rfl rfl (Nat.le_of_ble_eq_true rfl) ⟨Nat.le_of_ble_eq_true rfl, Nat.le_of_ble_eq_true rfl⟩ dX9_reading_10 rfl ?_
    refine g_ifeq h 18 16 dX9_reading_13 (by decide) rfl (fun hc => ?_) (fun hc => ?_)
    · have hf := my_ifT hc hf
      refine g_il3 h 19 dX9_reading_18 rfl ?_
      obtain ⟨r3, σ3, hc3, hf⟩ := my_ofb hf
      refine g_callSi h 22 cs_X9_188 (ct_X9_isShift w hc3) rfl rfl (Nat.le_of_ble_eq_true rfl) ⟨Nat.le_of_ble_eq_true rfl, Nat.le_of_ble_eq_true rfl⟩ dX9_reading_19 rfl ?_
      refine g_ifeq h 46 25 dX9_reading_22 (by decide) rfl (fun hc => ?_) (fun hc => ?_)
      · have hf := my_ifT hc hf
        refine g_bipush h 48 bp_m2 dX9_reading_46 rfl ?_
        exact g_iret h dX9_reading_48 (my_r1 hf) (my_r2 hf)
      · have hf := my_ifF hc hf
        refine g_il4 h 27 dX9_reading_25 rfl ?_
        obtain ⟨r4, σ4, hc4, hf⟩ := my_ofb hf
        refine g_callSi h 30 cs_X9_188 (ct_X9_isShift w hc4) rfl rfl (Nat.le_of_ble_eq_true rfl) ⟨Nat.le_of_ble_eq_true rfl, Nat.le_of_ble_eq_true rfl⟩ dX9_reading_27 rfl ?_
        refine g_ifeq h 46 33 dX9_reading_30 (by decide) rfl (fun hc => ?_) (fun hc => ?_)
        · have hf := my_ifT hc hf
          refine g_bipush h 48 bp_m2 dX9_reading_46 rfl ?_
          exact g_iret h dX9_reading_48 (my_r1 hf) (my_r2 hf)
        · have hf := my_ifF hc hf
          refine g_il5 h 35 dX9_reading_33 rfl ?_
          refine g_i2l h 36 dX9_reading_35 rfl ?_
          refine g_lconst h 37 lc_0 dX9_reading_36 rfl ?_
          refine g_ldc2 h 40 tw_kl_X9_195 dX9_reading_37 rfl ?_
          obtain ⟨r5, σ5, hc5, hf⟩ := my_ofb hf
          refine g_callSi h 43 cs_X9_83 (ct_X9_in w hc5) rfl rfl (Nat.le_of_ble_eq_true rfl) ⟨Nat.le_of_ble_eq_true rfl, Nat.le_of_ble_eq_true rfl⟩ dX9_reading_40 rfl ?_
          refine g_ifne h 49 46 dX9_reading_43 (by decide) rfl (fun hc => ?_) (fun hc => ?_)
          · have hf := my_ifF hc hf
            refine g_al0 h 50 dX9_reading_49 rfl ?_
            refine g_geti h 53 fF_X9_142_X9 lyR_0 rfl dX9_reading_50 rfl ?_
            refine g_bipush h 55 bp_8 dX9_reading_53 rfl ?_
            refine g_icne h 61 58 dX9_reading_55 (by decide) rfl (fun hc => ?_) (fun hc => ?_)
            · have hf := my_ifF hc hf
              refine g_al0 h 62 dX9_reading_61 rfl ?_
              refine g_geta h 65 fF_X9_43_X9 lyR_0 rfl dX9_reading_62 rfl ?_
              refine g_al0 h 66 dX9_reading_65 rfl ?_
              refine g_geti h 69 fF_X9_142_X9 lyR_0 rfl dX9_reading_66 rfl ?_
              refine g_il1 h 70 dX9_reading_69 rfl ?_
              obtain ⟨hq6, hf⟩ := my_chk hf
              refine g_iast h 71 dX9_reading_70 rfl hq6 ?_
              refine g_al0 h 72 dX9_reading_71 rfl ?_
              refine g_geta h 75 fF_X9_46_X9 lyR_0 rfl dX9_reading_72 rfl ?_
              refine g_al0 h 76 dX9_reading_75 rfl ?_
              refine g_geti h 79 fF_X9_142_X9 lyR_0 rfl dX9_reading_76 rfl ?_
              refine g_il2 h 80 dX9_reading_79 rfl ?_
              obtain ⟨hq7, hf⟩ := my_chk hf
              refine g_iast h 81 dX9_reading_80 rfl hq7 ?_
              refine g_al0 h 82 dX9_reading_81 rfl ?_
              refine g_geta h 85 fF_X9_49_X9 lyR_0 rfl dX9_reading_82 rfl ?_
              refine g_al0 h 86 dX9_reading_85 rfl ?_
              refine g_geti h 89 fF_X9_142_X9 lyR_0 rfl dX9_reading_86 rfl ?_
              refine g_il3 h 90 dX9_reading_89 rfl ?_
              obtain ⟨hq8, hf⟩ := my_chk hf
              refine g_iast h 91 dX9_reading_90 rfl hq8 ?_
              refine g_al0 h 92 dX9_reading_91 rfl ?_
              refine g_geta h 95 fF_X9_52_X9 lyR_0 rfl dX9_reading_92 rfl ?_
              refine g_al0 h 96 dX9_reading_95 rfl ?_
              refine g_geti h 99 fF_X9_142_X9 lyR_0 rfl dX9_reading_96 rfl ?_
              refine g_il4 h 101 dX9_reading_99 rfl ?_
              obtain ⟨hq9, hf⟩ := my_chk hf
              refine g_iast h 102 dX9_reading_101 rfl hq9 ?_
              refine g_al0 h 103 dX9_reading_102 rfl ?_
              refine g_geta h 106 fF_X9_55_X9 lyR_0 rfl dX9_reading_103 rfl ?_
              refine g_al0 h 107 dX9_reading_106 rfl ?_
              refine g_geti h 110 fF_X9_142_X9 lyR_0 rfl dX9_reading_107 rfl ?_
              refine g_il5 h 112 dX9_reading_110 rfl ?_
              obtain ⟨hq10, hf⟩ := my_chk hf
              refine g_iast h 113 dX9_reading_112 rfl hq10 ?_
              refine g_al0 h 114 dX9_reading_113 rfl ?_
              refine g_dup h 115 rfl dX9_reading_114 rfl ?_
              refine g_geti h 118 fF_X9_142_X9 lyR_0 rfl dX9_reading_115 rfl ?_
              refine g_iconst h 119 ic_1 dX9_reading_118 rfl ?_
              refine g_iadd h 120 dX9_reading_119 rfl ?_
              refine g_puti h 123 fP_X9_142_X9 lyR_0 rfl dX9_reading_120 rfl ?_
              refine g_al0 h 124 dX9_reading_123 rfl ?_
              refine g_geti h 127 fF_X9_142_X9 lyR_0 rfl dX9_reading_124 rfl ?_
              refine g_iconst h 128 ic_1 dX9_reading_127 rfl ?_
              refine g_isub h 129 dX9_reading_128 rfl ?_
              exact g_iret h dX9_reading_129 (my_r1 hf) (my_r2 hf)
            · have hf := my_ifT hc hf
              refine g_bipush h 60 bp_m4 dX9_reading_58 rfl ?_
              exact g_iret h dX9_reading_60 (my_r1 hf) (my_r2 hf)
          · have hf := my_ifT hc hf
            refine g_bipush h 48 bp_m2 dX9_reading_46 rfl ?_
            exact g_iret h dX9_reading_48 (my_r1 hf) (my_r2 hf)
    · have hf := my_ifF hc hf
      refine g_iconst h 17 ic_m1 dX9_reading_16 rfl ?_
      exact g_iret h dX9_reading_17 (my_r1 hf) (my_r2 hf)
def b_X9_triesFirst_0 (k0 : my_M → Int32 → Option (Unit × my_M)) (σ : my_M) (x1 : Int32) : Option (Unit × my_M) :=
(if 6 ≤ x1 then
some ((), σ)
else
(if my_ix x1 (my_len layR 5) then
k0 (my_up σ 5 (Int32.toNatClampNeg x1) 0) ((x1 + 1))
else none))
def g_X9_triesFirst : Nat → my_M → Int32 → Option (Unit × my_M)
  | 0 => fun _ _ => none
  | n + 1 => b_X9_triesFirst_0 (g_X9_triesFirst n)
def f_X9_triesFirst (σ : my_M) : Option (Unit × my_M) :=
(g_X9_triesFirst my_NF) σ 0
set_option maxRecDepth 100000 in
set_option maxHeartbeats 4000000 in
theorem lp_X9_triesFirst (w : my_V) {X : my_X} {r : Unit} {τ : my_M} (h : my_OK X w layR cX9_triesFirst RX9 2 (none)) : ∀ n : Nat, (∀ (σ : my_M) (x1 : Int32), (g_X9_triesFirst n) σ x1 = some (r, τ) → Go X w layR 1 2 none τ σ 2 [some (.ref (w.2.2.2 0)), some (.int x1)] []) := by
  intro n
  induction n with
  | zero => exact fun _ _ hf => (my_nn hf).elim
  | succ n ih =>
    intro σ x1 hf
    replace hf : b_X9_triesFirst_0 (g_X9_triesFirst n) σ x1 = some (r, τ) := hf
    unfold b_X9_triesFirst_0 at hf
    refine g_il1 h 3 dX9_triesFirst_2 rfl ?_
    refine g_bipush h 5 bp_6 dX9_triesFirst_3 rfl ?_
    refine g_icge h 21 8 dX9_triesFirst_5 (by decide) rfl (fun hc => ?_) (fun hc => ?_)
    · have hf := my_ifT hc hf
      exact g_vret h dX9_triesFirst_21 rfl (my_r2 hf)
    · have hf := my_ifF hc hf
      refine g_al0 h 9 dX9_triesFirst_8 rfl ?_
      refine g_geta h 12 fF_X9_22_X9 lyR_0 rfl dX9_triesFirst_9 rfl ?_
      refine g_il1 h 13 dX9_triesFirst_12 rfl ?_
      refine g_iconst h 14 ic_0 dX9_triesFirst_13 rfl ?_
      obtain ⟨hq1, hf⟩ := my_chk hf
      refine g_iast h 15 dX9_triesFirst_14 rfl hq1 ?_
      refine g_inc1 h 18 (my_inc ic_1 _) (Nat.le_of_ble_eq_true rfl) rfl dX9_triesFirst_15 rfl ?_
      refine g_goto h 2 dX9_triesFirst_18 (by decide) ?_
      exact g_weak (ih _ _ hf) (w_s (w_s w_0))
set_option maxRecDepth 100000 in
set_option maxHeartbeats 4000000 in
theorem ct_X9_triesFirst (w : my_V) {σ : my_M} {r : Unit} {τ : my_M} (hf : f_X9_triesFirst σ = some (r, τ)) : Ct w layR mX9_triesFirst 1 [.ref (w.2.2.2 0)] σ none τ := by
  refine my_met RX9 [some (.ref (w.2.2.2 0)), none] 1 (by decide) rfl (Nat.le_of_ble_eq_true rfl) rfl (fun X h => ?_)
  unfold f_X9_triesFirst at hf
  refine g_iconst h 1 ic_0 dX9_triesFirst_0 rfl ?_
  refine g_is1 h 2 (Nat.le_of_ble_eq_true rfl) rfl dX9_triesFirst_1 rfl ?_
  exact g_weak ((lp_X9_triesFirst w h my_NF) _ _ hf) (w_s (w_s w_0))
def b_X9_rows_0 (k0 : my_M → Int32 → Int32 → Option (Int32 × my_M)) (σ : my_M) (x1 : Int32) (x2 : Int32) : Option (Int32 × my_M) :=
(if x2 = 0 then
some (x1, σ)
else
(my_bnd (f_X9_isGood σ) fun r1 σ1 =>
(my_bnd (f_X9_triesNext σ1) fun r2 σ2 =>
k0 σ2 ((x1 + (if r1 = 0 then 0 else 1 : Int32))) r2)))
def g_X9_rows : Nat → my_M → Int32 → Int32 → Option (Int32 × my_M)
  | 0 => fun _ _ _ => none
  | n + 1 => b_X9_rows_0 (g_X9_rows n)
def f_X9_rows (σ : my_M) : Option (Int32 × my_M) :=
(if (σ 0 1) = 0 then
some ((-3), σ)
else
(my_bnd (f_X9_triesFirst σ) fun r1 σ1 =>
(g_X9_rows my_NF) σ1 0 1))
set_option maxRecDepth 100000 in
set_option maxHeartbeats 4000000 in
theorem lp_X9_rows (w : my_V) {X : my_X} {r : Int32} {τ : my_M} (h : my_OK X w layR cX9_rows RX9 3 (some .int)) : ∀ n : Nat, (∀ (σ : my_M) (x1 : Int32) (x2 : Int32), (g_X9_rows n) σ x1 x2 = some (r, τ) → Go X w layR 4 3 (some (.int r)) τ σ 18 [some (.ref (w.2.2.2 0)), some (.int x1), some (.int x2)] []) := by
  intro n
  induction n with
  | zero => exact fun _ _ _ hf => (my_nn hf).elim
  | succ n ih =>
    intro σ x1 x2 hf
    replace hf : b_X9_rows_0 (g_X9_rows n) σ x1 x2 = some (r, τ) := hf
    unfold b_X9_rows_0 at hf
    refine g_il2 h 19 dX9_rows_18 rfl ?_
    refine g_ifeq h 45 22 dX9_rows_19 (by decide) rfl (fun hc => ?_) (fun hc => ?_)
    · have hf := my_ifT hc hf
      refine g_il1 h 46 dX9_rows_45 rfl ?_
      exact g_iret h dX9_rows_46 (my_r1 hf) (my_r2 hf)
    · have hf := my_ifF hc hf
      refine g_il1 h 23 dX9_rows_22 rfl ?_
      refine g_al0 h 24 dX9_rows_23 rfl ?_
      obtain ⟨r1, σ1, hc1, hf⟩ := my_ofb hf
      refine g_callVi h 27 cs_X9_162 rfl lyR_0 (ct_X9_isGood w hc1) rfl rfl (Nat.le_of_ble_eq_true rfl) ⟨Nat.le_of_ble_eq_true rfl, Nat.le_of_ble_eq_true rfl⟩ dX9_rows_24 rfl ?_
      refine g_ifeq_sel h 34 35 dX9_rows_27 (by decide) dX9_rows_30 ic_1 dX9_rows_31 (by decide) dX9_rows_34 ic_0 rfl ?_
      refine g_iadd h 36 dX9_rows_35 rfl ?_
      refine g_is1 h 37 (Nat.le_of_ble_eq_true rfl) rfl dX9_rows_36 rfl ?_
      refine g_al0 h 38 dX9_rows_37 rfl ?_
      obtain ⟨r2, σ2, hc2, hf⟩ := my_ofb hf
      refine g_callVi h 41 cs_X9_262 rfl lyR_0 (ct_X9_triesNext w hc2) rfl rfl (Nat.le_of_ble_eq_true rfl) ⟨Nat.le_of_ble_eq_true rfl, Nat.le_of_ble_eq_true rfl⟩ dX9_rows_38 rfl ?_
      refine g_is2 h 42 (Nat.le_of_ble_eq_true rfl) rfl dX9_rows_41 rfl ?_
      refine g_goto h 18 dX9_rows_42 (by decide) ?_
      exact g_weak (ih _ _ _ hf) (w_s (w_s (w_s w_0)))
set_option maxRecDepth 100000 in
set_option maxHeartbeats 4000000 in
theorem ct_X9_rows (w : my_V) {σ : my_M} {r : Int32} {τ : my_M} (hf : f_X9_rows σ = some (r, τ)) : Ct w layR mX9_rows 4 [.ref (w.2.2.2 0)] σ (some (.int r)) τ := by
  refine my_met RX9 [some (.ref (w.2.2.2 0)), none, none] 2 (by decide) rfl (Nat.le_of_ble_eq_true rfl) rfl (fun X h => ?_)
  unfold f_X9_rows at hf
  refine g_al0 h 1 dX9_rows_0 rfl ?_
  refine g_geti h 4 fF_X9_80_X9 lyR_0 rfl dX9_rows_1 rfl ?_
  refine g_ifne h 10 7 dX9_rows_4 (by decide) rfl (fun hc => ?_) (fun hc => ?_)
  · have hf := my_ifF hc hf
    refine g_iconst h 11 ic_0 dX9_rows_10 rfl ?_
    refine g_is1 h 12 (Nat.le_of_ble_eq_true rfl) rfl dX9_rows_11 rfl ?_
    refine g_al0 h 13 dX9_rows_12 rfl ?_
    obtain ⟨r1, σ1, hc1, hf⟩ := my_ofb hf
    refine g_callVv h 16 cs_X9_259 rfl lyR_0 (ct_X9_triesFirst w hc1) rfl rfl (Nat.le_of_ble_eq_true rfl) ⟨Nat.le_of_ble_eq_true rfl, Nat.le_of_ble_eq_true rfl⟩ dX9_rows_13 rfl ?_
    refine g_iconst h 17 ic_1 dX9_rows_16 rfl ?_
    refine g_is2 h 18 (Nat.le_of_ble_eq_true rfl) rfl dX9_rows_17 rfl ?_
    exact g_weak ((lp_X9_rows w h my_NF) _ _ _ hf) (w_s (w_s (w_s w_0)))
  · have hf := my_ifT hc hf
    refine g_bipush h 9 bp_m3 dX9_rows_7 rfl ?_
    exact g_iret h dX9_rows_9 (my_r1 hf) (my_r2 hf)
def f_X9_send (σ : my_M) (x1 : Int32) (x2 : Int32) (x3 : Int32) : Option (Int32 × my_M) :=
(my_bnd (f_X9_noCaller σ x1) fun r1 σ1 =>
(if r1 = 0 then
(my_bnd (f_X9_in σ1 (Int32.toInt64 x2) 0 20) fun r2 σ2 =>
(if r2 = 0 then
some ((-2), σ2)
else
(my_bnd (f_X9_in σ2 (Int32.toInt64 x3) 0 5) fun r3 σ3 =>
(if r3 = 0 then
some ((-2), σ3)
else
(my_bnd (f_X9_sends σ3 x1 x2 x3) fun r4 σ4 =>
(if r4 = 0 then
some ((-4), σ4)
else
some (((σ4 0 11) - 1), σ4)))))))
else
some ((-1), σ1)))
set_option maxRecDepth 100000 in
set_option maxHeartbeats 4000000 in
theorem ct_X9_send (w : my_V) {σ : my_M} {x1 : Int32} {x2 : Int32} {x3 : Int32} {r : Int32} {τ : my_M} (hf : f_X9_send σ x1 x2 x3 = some (r, τ)) : Ct w layR mX9_send 3 [.ref (w.2.2.2 0), .int x1, .int x2, .int x3] σ (some (.int r)) τ := by
  refine my_met RX9 [some (.ref (w.2.2.2 0)), some (.int x1), some (.int x2), some (.int x3)] 0 (by decide) rfl (Nat.le_of_ble_eq_true rfl) rfl (fun X h => ?_)
  unfold f_X9_send at hf
  refine g_al0 h 1 dX9_send_0 rfl ?_
  refine g_il1 h 2 dX9_send_1 rfl ?_
  obtain ⟨r1, σ1, hc1, hf⟩ := my_ofb hf
  refine g_callVi h 5 cs_X9_165 rfl lyR_0 (ct_X9_noCaller w hc1) rfl rfl (Nat.le_of_ble_eq_true rfl) ⟨Nat.le_of_ble_eq_true rfl, Nat.le_of_ble_eq_true rfl⟩ dX9_send_2 rfl ?_
  refine g_ifeq h 10 8 dX9_send_5 (by decide) rfl (fun hc => ?_) (fun hc => ?_)
  · have hf := my_ifT hc hf
    refine g_il2 h 11 dX9_send_10 rfl ?_
    refine g_i2l h 12 dX9_send_11 rfl ?_
    refine g_lconst h 13 lc_0 dX9_send_12 rfl ?_
    refine g_ldc2 h 16 tw_kl_X9_195 dX9_send_13 rfl ?_
    obtain ⟨r2, σ2, hc2, hf⟩ := my_ofb hf
    refine g_callSi h 19 cs_X9_83 (ct_X9_in w hc2) rfl rfl (Nat.le_of_ble_eq_true rfl) ⟨Nat.le_of_ble_eq_true rfl, Nat.le_of_ble_eq_true rfl⟩ dX9_send_16 rfl ?_
    refine g_ifeq h 34 22 dX9_send_19 (by decide) rfl (fun hc => ?_) (fun hc => ?_)
    · have hf := my_ifT hc hf
      refine g_bipush h 36 bp_m2 dX9_send_34 rfl ?_
      exact g_iret h dX9_send_36 (my_r1 hf) (my_r2 hf)
    · have hf := my_ifF hc hf
      refine g_il3 h 23 dX9_send_22 rfl ?_
      refine g_i2l h 24 dX9_send_23 rfl ?_
      refine g_lconst h 25 lc_0 dX9_send_24 rfl ?_
      refine g_ldc2 h 28 tw_kl_X9_186 dX9_send_25 rfl ?_
      obtain ⟨r3, σ3, hc3, hf⟩ := my_ofb hf
      refine g_callSi h 31 cs_X9_83 (ct_X9_in w hc3) rfl rfl (Nat.le_of_ble_eq_true rfl) ⟨Nat.le_of_ble_eq_true rfl, Nat.le_of_ble_eq_true rfl⟩ dX9_send_28 rfl ?_
      refine g_ifne h 37 34 dX9_send_31 (by decide) rfl (fun hc => ?_) (fun hc => ?_)
      · have hf := my_ifF hc hf
        refine g_al0 h 38 dX9_send_37 rfl ?_
        refine g_il1 h 39 dX9_send_38 rfl ?_
        refine g_il2 h 40 dX9_send_39 rfl ?_
        refine g_il3 h 41 dX9_send_40 rfl ?_
        obtain ⟨r4, σ4, hc4, hf⟩ := my_ofb hf
        refine g_callVi h 44 cs_X9_197 rfl lyR_0 (ct_X9_sends w hc4) rfl rfl (Nat.le_of_ble_eq_true rfl) ⟨Nat.le_of_ble_eq_true rfl, Nat.le_of_ble_eq_true rfl⟩ dX9_send_41 rfl ?_
        refine g_ifeq h 56 47 dX9_send_44 (by decide) rfl (fun hc => ?_) (fun hc => ?_)
        · have hf := my_ifT hc hf
          refine g_bipush h 58 bp_m4 dX9_send_56 rfl ?_
          exact g_iret h dX9_send_58 (my_r1 hf) (my_r2 hf)
        · have hf := my_ifF hc hf
          refine g_al0 h 48 dX9_send_47 rfl ?_
          refine g_geti h 51 fF_X9_139_X9 lyR_0 rfl dX9_send_48 rfl ?_
          refine g_iconst h 52 ic_1 dX9_send_51 rfl ?_
          refine g_isub h 53 dX9_send_52 rfl ?_
          refine g_goto h 58 dX9_send_53 (by decide) ?_
          exact g_iret h dX9_send_58 (my_r1 hf) (my_r2 hf)
      · have hf := my_ifT hc hf
        refine g_bipush h 36 bp_m2 dX9_send_34 rfl ?_
        exact g_iret h dX9_send_36 (my_r1 hf) (my_r2 hf)
  · have hf := my_ifF hc hf
    refine g_iconst h 9 ic_m1 dX9_send_8 rfl ?_
    exact g_iret h dX9_send_9 (my_r1 hf) (my_r2 hf)
def b_X9_sheet_0 (k0 : my_M → Int32 → Int32 → Int32 → Option (Int32 × my_M)) (σ : my_M) (x1 : Int32) (x3 : Int32) (x4 : Int32) : Option (Int32 × my_M) :=
(if x3 ≤ x4 then
(my_bnd (f_X9_refused σ 1) fun r1 σ1 =>
some (r1, σ1))
else
(if my_ix ((60 * x1) + x4) (my_len layR 19) then
k0 (my_up σ 19 (Int32.toNatClampNeg ((60 * x1) + x4)) 0) x1 x3 ((x4 + 1))
else none))
def g_X9_sheet : Nat → my_M → Int32 → Int32 → Int32 → Option (Int32 × my_M)
  | 0 => fun _ _ _ _ => none
  | n + 1 => b_X9_sheet_0 (g_X9_sheet n)
def f_X9_sheet (σ : my_M) (x1 : Int32) (x2 : Int32) (x3 : Int32) : Option (Int32 × my_M) :=
(my_bnd (f_X9_noSheet σ x1) fun r1 σ1 =>
(if r1 = 0 then
(my_bnd (f_X9_in σ1 (Int32.toInt64 x2) 0 2) fun r2 σ2 =>
(if r2 = 0 then
(my_bnd (f_X9_refused σ2 (-2)) fun r3 σ3 =>
some (r3, σ3))
else
(if x3 ≤ 60 then
(if 0 ≤ x3 then
(if my_ix x1 (my_len layR 17) then
(if my_ix x1 (my_len layR 18) then
(g_X9_sheet my_NF) (my_up (my_up σ2 17 (Int32.toNatClampNeg x1) x3) 18 (Int32.toNatClampNeg x1) x2) x1 x3 0
else none)
else none)
else
(my_bnd (f_X9_failed σ2 4) fun r6 σ6 =>
some (r6, σ6)))
else
(my_bnd (f_X9_refused σ2 (-2)) fun r7 σ7 =>
some (r7, σ7)))))
else
(my_bnd (f_X9_refused σ1 (-1)) fun r8 σ8 =>
some (r8, σ8))))
set_option maxRecDepth 100000 in
set_option maxHeartbeats 4000000 in
theorem lp_X9_sheet (w : my_V) {X : my_X} {r : Int32} {τ : my_M} (h : my_OK X w layR cX9_sheet RX9 5 (some .int)) : ∀ n : Nat, (∀ (σ : my_M) (x1 : Int32) (x3 : Int32) (x4 : Int32), (g_X9_sheet n) σ x1 x3 x4 = some (r, τ) → Go X w layR 3 5 (some (.int r)) τ σ 65 [some (.ref (w.2.2.2 0)), some (.int x1), none, some (.int x3), some (.int x4)] []) := by
  intro n
  induction n with
  | zero => exact fun _ _ _ _ hf => (my_nn hf).elim
  | succ n ih =>
    intro σ x1 x3 x4 hf
    replace hf : b_X9_sheet_0 (g_X9_sheet n) σ x1 x3 x4 = some (r, τ) := hf
    unfold b_X9_sheet_0 at hf
    refine g_il4 h 67 dX9_sheet_65 rfl ?_
    refine g_il3 h 68 dX9_sheet_67 rfl ?_
    refine g_icge h 90 71 dX9_sheet_68 (by decide) rfl (fun hc => ?_) (fun hc => ?_)
    · have hf := my_ifT hc hf
      refine g_al0 h 91 dX9_sheet_90 rfl ?_
      refine g_iconst h 92 ic_1 dX9_sheet_91 rfl ?_
      obtain ⟨r1, σ1, hc1, hf⟩ := my_ofb hf
      refine g_callVi h 95 cs_X9_129 rfl lyR_0 (ct_X9_refused w hc1) rfl rfl (Nat.le_of_ble_eq_true rfl) ⟨Nat.le_of_ble_eq_true rfl, Nat.le_of_ble_eq_true rfl⟩ dX9_sheet_92 rfl ?_
      exact g_iret h dX9_sheet_95 (my_r1 hf) (my_r2 hf)
    · have hf := my_ifF hc hf
      refine g_al0 h 72 dX9_sheet_71 rfl ?_
      refine g_geta h 75 fF_X9_64_X9 lyR_0 rfl dX9_sheet_72 rfl ?_
      refine g_bipush h 77 bp_60 dX9_sheet_75 rfl ?_
      refine g_il1 h 78 dX9_sheet_77 rfl ?_
      refine g_imul h 79 dX9_sheet_78 rfl ?_
      refine g_il4 h 81 dX9_sheet_79 rfl ?_
      refine g_iadd h 82 dX9_sheet_81 rfl ?_
      refine g_iconst h 83 ic_0 dX9_sheet_82 rfl ?_
      obtain ⟨hq2, hf⟩ := my_chk hf
      refine g_iast h 84 dX9_sheet_83 rfl hq2 ?_
      refine g_inc4 h 87 (my_inc ic_1 _) (Nat.le_of_ble_eq_true rfl) rfl dX9_sheet_84 rfl ?_
      refine g_goto h 65 dX9_sheet_87 (by decide) ?_
      exact g_weak (ih _ _ _ _ hf) (w_s (w_s (w_s (w_s (w_s w_0)))))
set_option maxRecDepth 100000 in
set_option maxHeartbeats 4000000 in
theorem ct_X9_sheet (w : my_V) {σ : my_M} {x1 : Int32} {x2 : Int32} {x3 : Int32} {r : Int32} {τ : my_M} (hf : f_X9_sheet σ x1 x2 x3 = some (r, τ)) : Ct w layR mX9_sheet 3 [.ref (w.2.2.2 0), .int x1, .int x2, .int x3] σ (some (.int r)) τ := by
  refine my_met RX9 [some (.ref (w.2.2.2 0)), some (.int x1), some (.int x2), some (.int x3), none] 1 (by decide) rfl (Nat.le_of_ble_eq_true rfl) rfl (fun X h => ?_)
  unfold f_X9_sheet at hf
  refine g_il1 h 1 dX9_sheet_0 rfl ?_
  obtain ⟨r1, σ1, hc1, hf⟩ := my_ofb hf
  refine g_callSi h 4 cs_X9_125 (ct_X9_noSheet w hc1) rfl rfl (Nat.le_of_ble_eq_true rfl) ⟨Nat.le_of_ble_eq_true rfl, Nat.le_of_ble_eq_true rfl⟩ dX9_sheet_1 rfl ?_
  refine g_ifeq h 13 7 dX9_sheet_4 (by decide) rfl (fun hc => ?_) (fun hc => ?_)
  · have hf := my_ifT hc hf
    refine g_il2 h 14 dX9_sheet_13 rfl ?_
    refine g_i2l h 15 dX9_sheet_14 rfl ?_
    refine g_lconst h 16 lc_0 dX9_sheet_15 rfl ?_
    refine g_ldc2 h 19 tw_kl_X9_109 dX9_sheet_16 rfl ?_
    obtain ⟨r2, σ2, hc2, hf⟩ := my_ofb hf
    refine g_callSi h 22 cs_X9_83 (ct_X9_in w hc2) rfl rfl (Nat.le_of_ble_eq_true rfl) ⟨Nat.le_of_ble_eq_true rfl, Nat.le_of_ble_eq_true rfl⟩ dX9_sheet_19 rfl ?_
    refine g_ifeq h 31 25 dX9_sheet_22 (by decide) rfl (fun hc => ?_) (fun hc => ?_)
    · have hf := my_ifT hc hf
      refine g_al0 h 32 dX9_sheet_31 rfl ?_
      refine g_bipush h 34 bp_m2 dX9_sheet_32 rfl ?_
      obtain ⟨r3, σ3, hc3, hf⟩ := my_ofb hf
      refine g_callVi h 37 cs_X9_129 rfl lyR_0 (ct_X9_refused w hc3) rfl rfl (Nat.le_of_ble_eq_true rfl) ⟨Nat.le_of_ble_eq_true rfl, Nat.le_of_ble_eq_true rfl⟩ dX9_sheet_34 rfl ?_
      exact g_iret h dX9_sheet_37 (my_r1 hf) (my_r2 hf)
    · have hf := my_ifF hc hf
      refine g_il3 h 26 dX9_sheet_25 rfl ?_
      refine g_bipush h 28 bp_60 dX9_sheet_26 rfl ?_
      refine g_icle h 38 31 dX9_sheet_28 (by decide) rfl (fun hc => ?_) (fun hc => ?_)
      · have hf := my_ifT hc hf
        refine g_il3 h 39 dX9_sheet_38 rfl ?_
        refine g_ifge h 48 42 dX9_sheet_39 (by decide) rfl (fun hc => ?_) (fun hc => ?_)
        · have hf := my_ifT hc hf
          refine g_al0 h 49 dX9_sheet_48 rfl ?_
          refine g_geta h 52 fF_X9_58_X9 lyR_0 rfl dX9_sheet_49 rfl ?_
          refine g_il1 h 53 dX9_sheet_52 rfl ?_
          refine g_il3 h 54 dX9_sheet_53 rfl ?_
          obtain ⟨hq4, hf⟩ := my_chk hf
          refine g_iast h 55 dX9_sheet_54 rfl hq4 ?_
          refine g_al0 h 56 dX9_sheet_55 rfl ?_
          refine g_geta h 59 fF_X9_61_X9 lyR_0 rfl dX9_sheet_56 rfl ?_
          refine g_il1 h 60 dX9_sheet_59 rfl ?_
          refine g_il2 h 61 dX9_sheet_60 rfl ?_
          obtain ⟨hq5, hf⟩ := my_chk hf
          refine g_iast h 62 dX9_sheet_61 rfl hq5 ?_
          refine g_iconst h 63 ic_0 dX9_sheet_62 rfl ?_
          refine g_is4 h 65 (Nat.le_of_ble_eq_true rfl) rfl dX9_sheet_63 rfl ?_
          exact g_weak ((lp_X9_sheet w h my_NF) _ _ _ _ hf) (w_s (w_s (w_n (w_s (w_s w_0)))))
        · have hf := my_ifF hc hf
          refine g_al0 h 43 dX9_sheet_42 rfl ?_
          refine g_iconst h 44 ic_4 dX9_sheet_43 rfl ?_
          obtain ⟨r6, σ6, hc6, hf⟩ := my_ofb hf
          refine g_callVi h 47 cs_X9_117 rfl lyR_0 (ct_X9_failed w hc6) rfl rfl (Nat.le_of_ble_eq_true rfl) ⟨Nat.le_of_ble_eq_true rfl, Nat.le_of_ble_eq_true rfl⟩ dX9_sheet_44 rfl ?_
          exact g_iret h dX9_sheet_47 (my_r1 hf) (my_r2 hf)
      · have hf := my_ifF hc hf
        refine g_al0 h 32 dX9_sheet_31 rfl ?_
        refine g_bipush h 34 bp_m2 dX9_sheet_32 rfl ?_
        obtain ⟨r7, σ7, hc7, hf⟩ := my_ofb hf
        refine g_callVi h 37 cs_X9_129 rfl lyR_0 (ct_X9_refused w hc7) rfl rfl (Nat.le_of_ble_eq_true rfl) ⟨Nat.le_of_ble_eq_true rfl, Nat.le_of_ble_eq_true rfl⟩ dX9_sheet_34 rfl ?_
        exact g_iret h dX9_sheet_37 (my_r1 hf) (my_r2 hf)
  · have hf := my_ifF hc hf
    refine g_al0 h 8 dX9_sheet_7 rfl ?_
    refine g_iconst h 9 ic_m1 dX9_sheet_8 rfl ?_
    obtain ⟨r8, σ8, hc8, hf⟩ := my_ofb hf
    refine g_callVi h 12 cs_X9_129 rfl lyR_0 (ct_X9_refused w hc8) rfl rfl (Nat.le_of_ble_eq_true rfl) ⟨Nat.le_of_ble_eq_true rfl, Nat.le_of_ble_eq_true rfl⟩ dX9_sheet_9 rfl ?_
    exact g_iret h dX9_sheet_12 (my_r1 hf) (my_r2 hf)
