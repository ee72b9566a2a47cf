theorem cs_L_13 : my_CV RL 13 RX8 mX8_callers 4 := ⟨cd_X8_callers, tw_ml_L_13, tw_im_X8_callers, tw_se_X8_X8_callers⟩
theorem cs_L_17 : my_CV RL 17 RX9 mX9_callers 4 := ⟨cd_X9_callers, tw_ml_L_17, tw_im_X9_callers, tw_se_X9_X9_callers⟩
theorem cs_L_18 : my_CV RL 18 RX8 mX8_ofCaller 2 := ⟨cd_X8_ofCaller, tw_ml_L_18, tw_im_X8_ofCaller, tw_se_X8_X8_ofCaller⟩
theorem cs_L_22 : my_CV RL 22 RX9 mX9_ofCaller 2 := ⟨cd_X9_ofCaller, tw_ml_L_22, tw_im_X9_ofCaller, tw_se_X9_X9_ofCaller⟩
theorem cs_L_23 : my_CV RL 23 RX8 mX8_tune 3 := ⟨cd_X8_tune, tw_ml_L_23, tw_im_X8_tune, tw_se_X8_X8_tune⟩
theorem cs_L_27 : my_CV RL 27 RX9 mX9_tune 3 := ⟨cd_X9_tune, tw_ml_L_27, tw_im_X9_tune, tw_se_X9_X9_tune⟩
theorem cs_L_28 : my_CV RL 28 RX8 mX8_hears 4 := ⟨cd_X8_hears, tw_ml_L_28, tw_im_X8_hears, tw_se_X8_X8_hears⟩
theorem cs_L_31 : my_CV RL 31 RX9 mX9_hears 4 := ⟨cd_X9_hears, tw_ml_L_31, tw_im_X9_hears, tw_se_X9_X9_hears⟩
theorem cs_L_32 : my_CV RL 32 RX8 mX8_send 3 := ⟨cd_X8_send, tw_ml_L_32, tw_im_X8_send, tw_se_X8_X8_send⟩
theorem cs_L_35 : my_CV RL 35 RX9 mX9_send 3 := ⟨cd_X9_send, tw_ml_L_35, tw_im_X9_send, tw_se_X9_X9_send⟩
theorem cs_L_36 : my_CV RL 36 RX8 mX8_unsend 1 := ⟨cd_X8_unsend, tw_ml_L_36, tw_im_X8_unsend, tw_se_X8_X8_unsend⟩
theorem cs_L_40 : my_CV RL 40 RX9 mX9_unsend 1 := ⟨cd_X9_unsend, tw_ml_L_40, tw_im_X9_unsend, tw_se_X9_X9_unsend⟩
theorem cs_L_41 : my_CV RL 41 RX8 mX8_air 1 := ⟨cd_X8_air, tw_ml_L_41, tw_im_X8_air, tw_se_X8_X8_air⟩
theorem cs_L_44 : my_CV RL 44 RX9 mX9_air 1 := ⟨cd_X9_air, tw_ml_L_44, tw_im_X9_air, tw_se_X9_X9_air⟩
theorem cs_L_45 : my_CV RL 45 RX8 mX8_listen 2 := ⟨cd_X8_listen, tw_ml_L_45, tw_im_X8_listen, tw_se_X8_X8_listen⟩
theorem cs_L_48 : my_CV RL 48 RX9 mX9_listen 2 := ⟨cd_X9_listen, tw_ml_L_48, tw_im_X9_listen, tw_se_X9_X9_listen⟩
theorem cs_L_49 : my_CV RL 49 RX8 mX8_loudest 2 := ⟨cd_X8_loudest, tw_ml_L_49, tw_im_X8_loudest, tw_se_X8_X8_loudest⟩
theorem cs_L_52 : my_CV RL 52 RX9 mX9_loudest 2 := ⟨cd_X9_loudest, tw_ml_L_52, tw_im_X9_loudest, tw_se_X9_X9_loudest⟩
theorem cs_L_53 : my_CV RL 53 RX8 mX8_day 5 := ⟨cd_X8_day, tw_ml_L_53, tw_im_X8_day, tw_se_X8_X8_day⟩
theorem cs_L_57 : my_CV RL 57 RX9 mX9_day 5 := ⟨cd_X9_day, tw_ml_L_57, tw_im_X9_day, tw_se_X9_X9_day⟩
theorem cs_L_58 : my_CV RL 58 RX8 mX8_peak 2 := ⟨cd_X8_peak, tw_ml_L_58, tw_im_X8_peak, tw_se_X8_X8_peak⟩
theorem cs_L_61 : my_CV RL 61 RX9 mX9_peak 2 := ⟨cd_X9_peak, tw_ml_L_61, tw_im_X9_peak, tw_se_X9_X9_peak⟩
theorem cs_L_62 : my_CV RL 62 RX8 mX8_clash 2 := ⟨cd_X8_clash, tw_ml_L_62, tw_im_X8_clash, tw_se_X8_X8_clash⟩
theorem cs_L_65 : my_CV RL 65 RX9 mX9_clash 2 := ⟨cd_X9_clash, tw_ml_L_65, tw_im_X9_clash, tw_se_X9_X9_clash⟩
theorem cs_L_66 : my_CV RL 66 RX8 mX8_rows 0 := ⟨cd_X8_rows, tw_ml_L_66, tw_im_X8_rows, tw_se_X8_X8_rows⟩
theorem cs_L_70 : my_CV RL 70 RX9 mX9_rows 0 := ⟨cd_X9_rows, tw_ml_L_70, tw_im_X9_rows, tw_se_X9_X9_rows⟩
theorem cs_L_71 : my_CV RL 71 RX8 mX8_ways 2 := ⟨cd_X8_ways, tw_ml_L_71, tw_im_X8_ways, tw_se_X8_X8_ways⟩
theorem cs_L_74 : my_CV RL 74 RX9 mX9_ways 2 := ⟨cd_X9_ways, tw_ml_L_74, tw_im_X9_ways, tw_se_X9_X9_ways⟩
theorem cs_L_75 : my_CV RL 75 RX8 mX8_next 2 := ⟨cd_X8_next, tw_ml_L_75, tw_im_X8_next, tw_se_X8_X8_next⟩
theorem cs_L_78 : my_CV RL 78 RX9 mX9_next 2 := ⟨cd_X9_next, tw_ml_L_78, tw_im_X9_next, tw_se_X9_X9_next⟩
theorem cs_L_79 : my_CV RL 79 RX8 mX8_reading 5 := ⟨cd_X8_reading, tw_ml_L_79, tw_im_X8_reading, tw_se_X8_X8_reading⟩
theorem cs_L_82 : my_CV RL 82 RX9 mX9_reading 5 := ⟨cd_X9_reading, tw_ml_L_82, tw_im_X9_reading, tw_se_X9_X9_reading⟩
theorem cs_L_83 : my_CV RL 83 RX8 mX8_back 1 := ⟨cd_X8_back, tw_ml_L_83, tw_im_X8_back, tw_se_X8_X8_back⟩
theorem cs_L_86 : my_CV RL 86 RX9 mX9_back 1 := ⟨cd_X9_back, tw_ml_L_86, tw_im_X9_back, tw_se_X9_X9_back⟩
theorem cs_L_87 : my_CV RL 87 RX8 mX8_kinds 1 := ⟨cd_X8_kinds, tw_ml_L_87, tw_im_X8_kinds, tw_se_X8_X8_kinds⟩
theorem cs_L_90 : my_CV RL 90 RX9 mX9_kinds 1 := ⟨cd_X9_kinds, tw_ml_L_90, tw_im_X9_kinds, tw_se_X9_X9_kinds⟩
theorem cs_L_91 : my_CV RL 91 RX8 mX8_pitches 2 := ⟨cd_X8_pitches, tw_ml_L_91, tw_im_X8_pitches, tw_se_X8_X8_pitches⟩
theorem cs_L_94 : my_CV RL 94 RX9 mX9_pitches 2 := ⟨cd_X9_pitches, tw_ml_L_94, tw_im_X9_pitches, tw_se_X9_X9_pitches⟩
theorem cs_L_95 : my_CV RL 95 RX8 mX8_odds 3 := ⟨cd_X8_odds, tw_ml_L_95, tw_im_X8_odds, tw_se_X8_X8_odds⟩
theorem cs_L_99 : my_CV RL 99 RX9 mX9_odds 3 := ⟨cd_X9_odds, tw_ml_L_99, tw_im_X9_odds, tw_se_X9_X9_odds⟩
theorem cs_L_100 : my_CV RL 100 RX8 mX8_sheet 3 := ⟨cd_X8_sheet, tw_ml_L_100, tw_im_X8_sheet, tw_se_X8_X8_sheet⟩
theorem cs_L_103 : my_CV RL 103 RX9 mX9_sheet 3 := ⟨cd_X9_sheet, tw_ml_L_103, tw_im_X9_sheet, tw_se_X9_X9_sheet⟩
theorem cs_L_104 : my_CV RL 104 RX8 mX8_lose 1 := ⟨cd_X8_lose, tw_ml_L_104, tw_im_X8_lose, tw_se_X8_X8_lose⟩
theorem cs_L_107 : my_CV RL 107 RX9 mX9_lose 1 := ⟨cd_X9_lose, tw_ml_L_107, tw_im_X9_lose, tw_se_X9_X9_lose⟩
theorem cs_L_108 : my_CV RL 108 RX8 mX8_put 3 := ⟨cd_X8_put, tw_ml_L_108, tw_im_X8_put, tw_se_X8_X8_put⟩
theorem cs_L_111 : my_CV RL 111 RX9 mX9_put 3 := ⟨cd_X9_put, tw_ml_L_111, tw_im_X9_put, tw_se_X9_X9_put⟩
theorem cs_L_112 : my_CV RL 112 RX8 mX8_cell 3 := ⟨cd_X8_cell, tw_ml_L_112, tw_im_X8_cell, tw_se_X8_X8_cell⟩
theorem cs_L_115 : my_CV RL 115 RX9 mX9_cell 3 := ⟨cd_X9_cell, tw_ml_L_115, tw_im_X9_cell, tw_se_X9_X9_cell⟩
theorem cs_L_116 : my_CV RL 116 RX8 mX8_copy 5 := ⟨cd_X8_copy, tw_ml_L_116, tw_im_X8_copy, tw_se_X8_X8_copy⟩
theorem cs_L_119 : my_CV RL 119 RX9 mX9_copy 5 := ⟨cd_X9_copy, tw_ml_L_119, tw_im_X9_copy, tw_se_X9_X9_copy⟩
theorem cs_L_120 : my_CV RL 120 RX8 mX8_tell 1 := ⟨cd_X8_tell, tw_ml_L_120, tw_im_X8_tell, tw_se_X8_X8_tell⟩
theorem cs_L_123 : my_CV RL 123 RX9 mX9_tell 1 := ⟨cd_X9_tell, tw_ml_L_123, tw_im_X9_tell, tw_se_X9_X9_tell⟩
theorem cs_L_124 : my_CV RL 124 RX8 mX8_hail 1 := ⟨cd_X8_hail, tw_ml_L_124, tw_im_X8_hail, tw_se_X8_X8_hail⟩
theorem cs_L_127 : my_CV RL 127 RX9 mX9_hail 1 := ⟨cd_X9_hail, tw_ml_L_127, tw_im_X9_hail, tw_se_X9_X9_hail⟩
theorem cs_L_128 : my_CV RL 128 RX8 mX8_as 2 := ⟨cd_X8_as, tw_ml_L_128, tw_im_X8_as, tw_se_X8_X8_as⟩
theorem cs_L_131 : my_CV RL 131 RX9 mX9_as 2 := ⟨cd_X9_as, tw_ml_L_131, tw_im_X9_as, tw_se_X9_X9_as⟩
theorem cs_L_132 : my_CV RL 132 RX8 mX8_trace 0 := ⟨cd_X8_trace, tw_ml_L_132, tw_im_X8_trace, tw_se_X8_X8_trace⟩
theorem cs_L_135 : my_CV RL 135 RX9 mX9_trace 0 := ⟨cd_X9_trace, tw_ml_L_135, tw_im_X9_trace, tw_se_X9_X9_trace⟩
theorem cs_L_136 : my_CV RL 136 RX8 mX8_fault 0 := ⟨cd_X8_fault, tw_ml_L_136, tw_im_X8_fault, tw_se_X8_X8_fault⟩
theorem cs_L_139 : my_CV RL 139 RX9 mX9_fault 0 := ⟨cd_X9_fault, tw_ml_L_139, tw_im_X9_fault, tw_se_X9_X9_fault⟩
theorem cs_L_140 : my_CV RL 140 RX8 mX8_many 1 := ⟨cd_X8_many, tw_ml_L_140, tw_im_X8_many, tw_se_X8_X8_many⟩
theorem cs_L_143 : my_CV RL 143 RX9 mX9_many 1 := ⟨cd_X9_many, tw_ml_L_143, tw_im_X9_many, tw_se_X9_X9_many⟩
theorem nj_0 : nI 0 = (0 : Int32) := by decide
theorem nj_1 : nI 1 = (1 : Int32) := by decide
theorem nj_2 : nI 2 = (2 : Int32) := by decide
theorem nj_3 : nI 3 = (3 : Int32) := by decide
theorem nj_4 : nI 4 = (4 : Int32) := by decide
theorem nj_5 : nI 5 = (5 : Int32) := by decide
theorem nk_0 : nI 0 = (0 : Int32) := by decide
theorem nk_1 : nI 1 = (1 : Int32) := by decide
theorem nk_2 : nI 2 = (2 : Int32) := by decide
theorem nk_3 : nI 3 = (3 : Int32) := by decide
theorem nk_4 : nI 4 = (4 : Int32) := by decide
theorem nk_5 : nI 5 = (5 : Int32) := by decide
theorem nk_6 : nI 6 = (6 : Int32) := by decide
theorem nk_7 : nI 7 = (7 : Int32) := by decide
theorem nk_8 : nI 8 = (8 : Int32) := by decide
theorem nk_9 : nI 9 = (9 : Int32) := by decide
theorem nk_10 : nI 10 = (10 : Int32) := by decide
theorem nk_11 : nI 11 = (11 : Int32) := by decide
theorem nk_12 : nI 12 = (12 : Int32) := by decide
theorem nk_13 : nI 13 = (13 : Int32) := by decide
theorem nk_14 : nI 14 = (14 : Int32) := by decide
theorem nk_15 : nI 15 = (15 : Int32) := by decide
theorem nk_16 : nI 16 = (16 : Int32) := by decide
theorem nk_17 : nI 17 = (17 : Int32) := by decide
theorem nk_18 : nI 18 = (18 : Int32) := by decide
theorem nk_19 : nI 19 = (19 : Int32) := by decide
theorem nk_20 : nI 20 = (20 : Int32) := by decide
theorem nk_21 : nI 21 = (21 : Int32) := by decide
theorem nk_22 : nI 22 = (22 : Int32) := by decide
theorem nk_23 : nI 23 = (23 : Int32) := by decide
theorem nk_24 : nI 24 = (24 : Int32) := by decide
theorem nk_25 : nI 25 = (25 : Int32) := by decide
theorem nk_26 : nI 26 = (26 : Int32) := by decide
theorem nk_27 : nI 27 = (27 : Int32) := by decide
theorem nk_28 : nI 28 = (28 : Int32) := by decide
theorem nk_29 : nI 29 = (29 : Int32) := by decide
theorem nk_30 : nI 30 = (30 : Int32) := by decide
theorem ic_6 : Int32.ofInt 6 = (6 : Int32) := by decide
theorem bpL_6 : (Int8.ofInt 6).toInt32 = (6 : Int32) := by decide
theorem bpL_31 : (Int8.ofInt 31).toInt32 = (31 : Int32) := by decide
section LAW
variable {X : my_X} {l : Launch} {D : va_G} {cA : Nat → ClassId} {iC iR : Nat → Nat} {b L : Nat} {xs : Nat → Int32}
set_option maxHeartbeats 1000000 in
theorem lc_case_0 (h : my_OL X l D cA iC iR b L xs) (hL : L ≤ 3072) {i : Nat} (hi : i + 6 ≤ L) {σ ρ σ1 ρ1 : my_M} {r : Int32} (h1 : f_X8_callers σ (xs (nI i + 1).toNatClampNeg) (xs (nI i + 2).toNatClampNeg) (xs (nI i + 3).toNatClampNeg) (xs (nI i + 4).toNatClampNeg) = some (r, σ1)) (h2 : f_X9_callers ρ (xs (nI i + 1).toNatClampNeg) (xs (nI i + 2).toNatClampNeg) (xs (nI i + 3).toNatClampNeg) (xs (nI i + 4).toNatClampNeg) = some (r, ρ1)) (hk : GoL X l D cA iC iR σ1 ρ1 1247 [some (.ref b), some (.ref (iC 0)), some (.ref (iR 0)), some (.int (nI i))] []) : GoL X l D cA iC iR σ ρ 172 [some (.ref b), some (.ref (iC 0)), some (.ref (iR 0)), some (.int (nI i))] [] := by
  refine l_al1 h 173 dL_law_172 rfl ?_
  refine l_al0 h 174 dL_law_173 rfl ?_
  refine l_il3 h 175 dL_law_174 rfl ?_
  refine l_iconst h 176 ic_1 dL_law_175 rfl ?_
  refine l_iadd h 177 dL_law_176 rfl ?_
  refine l_sld h 178 (my_pin nj_1 (by omega) hL) dL_law_177 rfl ?_
  refine l_al0 h 179 dL_law_178 rfl ?_
  refine l_il3 h 180 dL_law_179 rfl ?_
  refine l_iconst h 181 ic_2 dL_law_180 rfl ?_
  refine l_iadd h 182 dL_law_181 rfl ?_
  refine l_sld h 183 (my_pin nj_2 (by omega) hL) dL_law_182 rfl ?_
  refine l_al0 h 184 dL_law_183 rfl ?_
  refine l_il3 h 185 dL_law_184 rfl ?_
  refine l_iconst h 186 ic_3 dL_law_185 rfl ?_
  refine l_iadd h 187 dL_law_186 rfl ?_
  refine l_sld h 188 (my_pin nj_3 (by omega) hL) dL_law_187 rfl ?_
  refine l_al0 h 189 dL_law_188 rfl ?_
  refine l_il3 h 190 dL_law_189 rfl ?_
  refine l_iconst h 191 ic_4 dL_law_190 rfl ?_
  refine l_iadd h 192 dL_law_191 rfl ?_
  refine l_sld h 193 (my_pin nj_4 (by omega) hL) dL_law_192 rfl ?_
  refine l_callCi h 196 cs_L_13 (ct_X8_callers _ h1) rfl rfl (Nat.le_of_ble_eq_true rfl) ⟨Nat.le_of_ble_eq_true rfl, Nat.le_of_ble_eq_true rfl⟩ dL_law_193 rfl ?_
  refine l_al2 h 197 dL_law_196 rfl ?_
  refine l_al0 h 198 dL_law_197 rfl ?_
  refine l_il3 h 199 dL_law_198 rfl ?_
  refine l_iconst h 200 ic_1 dL_law_199 rfl ?_
  refine l_iadd h 201 dL_law_200 rfl ?_
  refine l_sld h 202 (my_pin nj_1 (by omega) hL) dL_law_201 rfl ?_
  refine l_al0 h 203 dL_law_202 rfl ?_
  refine l_il3 h 204 dL_law_203 rfl ?_
  refine l_iconst h 205 ic_2 dL_law_204 rfl ?_
  refine l_iadd h 206 dL_law_205 rfl ?_
  refine l_sld h 207 (my_pin nj_2 (by omega) hL) dL_law_206 rfl ?_
  refine l_al0 h 208 dL_law_207 rfl ?_
  refine l_il3 h 209 dL_law_208 rfl ?_
  refine l_iconst h 210 ic_3 dL_law_209 rfl ?_
  refine l_iadd h 211 dL_law_210 rfl ?_
  refine l_sld h 212 (my_pin nj_3 (by omega) hL) dL_law_211 rfl ?_
  refine l_al0 h 213 dL_law_212 rfl ?_
  refine l_il3 h 214 dL_law_213 rfl ?_
  refine l_iconst h 215 ic_4 dL_law_214 rfl ?_
  refine l_iadd h 216 dL_law_215 rfl ?_
  refine l_sld h 217 (my_pin nj_4 (by omega) hL) dL_law_216 rfl ?_
  refine l_callRi h 220 cs_L_17 (ct_X9_callers _ h2) rfl rfl (Nat.le_of_ble_eq_true rfl) ⟨Nat.le_of_ble_eq_true rfl, Nat.le_of_ble_eq_true rfl⟩ dL_law_217 rfl ?_
  exact l_same h 1247 dL_law_220 (by decide) hk
set_option maxHeartbeats 1000000 in
theorem lc_case_1 (h : my_OL X l D cA iC iR b L xs) (hL : L ≤ 3072) {i : Nat} (hi : i + 6 ≤ L) {σ ρ σ1 ρ1 : my_M} {r : Int32} (h1 : f_X8_ofCaller σ (xs (nI i + 1).toNatClampNeg) (xs (nI i + 2).toNatClampNeg) = some (r, σ1)) (h2 : f_X9_ofCaller ρ (xs (nI i + 1).toNatClampNeg) (xs (nI i + 2).toNatClampNeg) = some (r, ρ1)) (hk : GoL X l D cA iC iR σ1 ρ1 1247 [some (.ref b), some (.ref (iC 0)), some (.ref (iR 0)), some (.int (nI i))] []) : GoL X l D cA iC iR σ ρ 225 [some (.ref b), some (.ref (iC 0)), some (.ref (iR 0)), some (.int (nI i))] [] := by
  refine l_al1 h 226 dL_law_225 rfl ?_
  refine l_al0 h 227 dL_law_226 rfl ?_
  refine l_il3 h 228 dL_law_227 rfl ?_
  refine l_iconst h 229 ic_1 dL_law_228 rfl ?_
  refine l_iadd h 230 dL_law_229 rfl ?_
  refine l_sld h 231 (my_pin nj_1 (by omega) hL) dL_law_230 rfl ?_
  refine l_al0 h 232 dL_law_231 rfl ?_
  refine l_il3 h 233 dL_law_232 rfl ?_
  refine l_iconst h 234 ic_2 dL_law_233 rfl ?_
  refine l_iadd h 235 dL_law_234 rfl ?_
  refine l_sld h 236 (my_pin nj_2 (by omega) hL) dL_law_235 rfl ?_
  refine l_callCi h 239 cs_L_18 (ct_X8_ofCaller _ h1) rfl rfl (Nat.le_of_ble_eq_true rfl) ⟨Nat.le_of_ble_eq_true rfl, Nat.le_of_ble_eq_true rfl⟩ dL_law_236 rfl ?_
  refine l_al2 h 240 dL_law_239 rfl ?_
  refine l_al0 h 241 dL_law_240 rfl ?_
  refine l_il3 h 242 dL_law_241 rfl ?_
  refine l_iconst h 243 ic_1 dL_law_242 rfl ?_
  refine l_iadd h 244 dL_law_243 rfl ?_
  refine l_sld h 245 (my_pin nj_1 (by omega) hL) dL_law_244 rfl ?_
  refine l_al0 h 246 dL_law_245 rfl ?_
  refine l_il3 h 247 dL_law_246 rfl ?_
  refine l_iconst h 248 ic_2 dL_law_247 rfl ?_
  refine l_iadd h 249 dL_law_248 rfl ?_
  refine l_sld h 250 (my_pin nj_2 (by omega) hL) dL_law_249 rfl ?_
  refine l_callRi h 253 cs_L_22 (ct_X9_ofCaller _ h2) rfl rfl (Nat.le_of_ble_eq_true rfl) ⟨Nat.le_of_ble_eq_true rfl, Nat.le_of_ble_eq_true rfl⟩ dL_law_250 rfl ?_
  exact l_same h 1247 dL_law_253 (by decide) hk
set_option maxHeartbeats 1000000 in
theorem lc_case_2 (h : my_OL X l D cA iC iR b L xs) (hL : L ≤ 3072) {i : Nat} (hi : i + 6 ≤ L) {σ ρ σ1 ρ1 : my_M} {r : Int32} (h1 : f_X8_tune σ (xs (nI i + 1).toNatClampNeg) (xs (nI i + 2).toNatClampNeg) (xs (nI i + 3).toNatClampNeg) = some (r, σ1)) (h2 : f_X9_tune ρ (xs (nI i + 1).toNatClampNeg) (xs (nI i + 2).toNatClampNeg) (xs (nI i + 3).toNatClampNeg) = some (r, ρ1)) (hk : GoL X l D cA iC iR σ1 ρ1 1247 [some (.ref b), some (.ref (iC 0)), some (.ref (iR 0)), some (.int (nI i))] []) : GoL X l D cA iC iR σ ρ 258 [some (.ref b), some (.ref (iC 0)), some (.ref (iR 0)), some (.int (nI i))] [] := by
  refine l_al1 h 259 dL_law_258 rfl ?_
  refine l_al0 h 260 dL_law_259 rfl ?_
  refine l_il3 h 261 dL_law_260 rfl ?_
  refine l_iconst h 262 ic_1 dL_law_261 rfl ?_
  refine l_iadd h 263 dL_law_262 rfl ?_
  refine l_sld h 264 (my_pin nj_1 (by omega) hL) dL_law_263 rfl ?_
  refine l_al0 h 265 dL_law_264 rfl ?_
  refine l_il3 h 266 dL_law_265 rfl ?_
  refine l_iconst h 267 ic_2 dL_law_266 rfl ?_
  refine l_iadd h 268 dL_law_267 rfl ?_
  refine l_sld h 269 (my_pin nj_2 (by omega) hL) dL_law_268 rfl ?_
  refine l_al0 h 270 dL_law_269 rfl ?_
  refine l_il3 h 271 dL_law_270 rfl ?_
  refine l_iconst h 272 ic_3 dL_law_271 rfl ?_
  refine l_iadd h 273 dL_law_272 rfl ?_
  refine l_sld h 274 (my_pin nj_3 (by omega) hL) dL_law_273 rfl ?_
  refine l_callCi h 277 cs_L_23 (ct_X8_tune _ h1) rfl rfl (Nat.le_of_ble_eq_true rfl) ⟨Nat.le_of_ble_eq_true rfl, Nat.le_of_ble_eq_true rfl⟩ dL_law_274 rfl ?_
  refine l_al2 h 278 dL_law_277 rfl ?_
  refine l_al0 h 279 dL_law_278 rfl ?_
  refine l_il3 h 280 dL_law_279 rfl ?_
  refine l_iconst h 281 ic_1 dL_law_280 rfl ?_
  refine l_iadd h 282 dL_law_281 rfl ?_
  refine l_sld h 283 (my_pin nj_1 (by omega) hL) dL_law_282 rfl ?_
  refine l_al0 h 284 dL_law_283 rfl ?_
  refine l_il3 h 285 dL_law_284 rfl ?_
  refine l_iconst h 286 ic_2 dL_law_285 rfl ?_
  refine l_iadd h 287 dL_law_286 rfl ?_
  refine l_sld h 288 (my_pin nj_2 (by omega) hL) dL_law_287 rfl ?_
  refine l_al0 h 289 dL_law_288 rfl ?_
  refine l_il3 h 290 dL_law_289 rfl ?_
  refine l_iconst h 291 ic_3 dL_law_290 rfl ?_
  refine l_iadd h 292 dL_law_291 rfl ?_
  refine l_sld h 293 (my_pin nj_3 (by omega) hL) dL_law_292 rfl ?_
  refine l_callRi h 296 cs_L_27 (ct_X9_tune _ h2) rfl rfl (Nat.le_of_ble_eq_true rfl) ⟨Nat.le_of_ble_eq_true rfl, Nat.le_of_ble_eq_true rfl⟩ dL_law_293 rfl ?_
  exact l_same h 1247 dL_law_296 (by decide) hk
set_option maxHeartbeats 1000000 in
theorem lc_case_3 (h : my_OL X l D cA iC iR b L xs) (hL : L ≤ 3072) {i : Nat} (hi : i + 6 ≤ L) {σ ρ σ1 ρ1 : my_M} {r : Int32} (h1 : f_X8_hears σ (xs (nI i + 1).toNatClampNeg) (xs (nI i + 2).toNatClampNeg) (xs (nI i + 3).toNatClampNeg) (xs (nI i + 4).toNatClampNeg) = some (r, σ1)) (h2 : f_X9_hears ρ (xs (nI i + 1).toNatClampNeg) (xs (nI i + 2).toNatClampNeg) (xs (nI i + 3).toNatClampNeg) (xs (nI i + 4).toNatClampNeg) = some (r, ρ1)) (hk : GoL X l D cA iC iR σ1 ρ1 1247 [some (.ref b), some (.ref (iC 0)), some (.ref (iR 0)), some (.int (nI i))] []) : GoL X l D cA iC iR σ ρ 301 [some (.ref b), some (.ref (iC 0)), some (.ref (iR 0)), some (.int (nI i))] [] := by
  refine l_al1 h 302 dL_law_301 rfl ?_
  refine l_al0 h 303 dL_law_302 rfl ?_
  refine l_il3 h 304 dL_law_303 rfl ?_
  refine l_iconst h 305 ic_1 dL_law_304 rfl ?_
  refine l_iadd h 306 dL_law_305 rfl ?_
  refine l_sld h 307 (my_pin nj_1 (by omega) hL) dL_law_306 rfl ?_
  refine l_al0 h 308 dL_law_307 rfl ?_
  refine l_il3 h 309 dL_law_308 rfl ?_
  refine l_iconst h 310 ic_2 dL_law_309 rfl ?_
  refine l_iadd h 311 dL_law_310 rfl ?_
  refine l_sld h 312 (my_pin nj_2 (by omega) hL) dL_law_311 rfl ?_
  refine l_al0 h 313 dL_law_312 rfl ?_
  refine l_il3 h 314 dL_law_313 rfl ?_
  refine l_iconst h 315 ic_3 dL_law_314 rfl ?_
  refine l_iadd h 316 dL_law_315 rfl ?_
  refine l_sld h 317 (my_pin nj_3 (by omega) hL) dL_law_316 rfl ?_
  refine l_al0 h 318 dL_law_317 rfl ?_
  refine l_il3 h 319 dL_law_318 rfl ?_
  refine l_iconst h 320 ic_4 dL_law_319 rfl ?_
  refine l_iadd h 321 dL_law_320 rfl ?_
  refine l_sld h 322 (my_pin nj_4 (by omega) hL) dL_law_321 rfl ?_
  refine l_callCi h 325 cs_L_28 (ct_X8_hears _ h1) rfl rfl (Nat.le_of_ble_eq_true rfl) ⟨Nat.le_of_ble_eq_true rfl, Nat.le_of_ble_eq_true rfl⟩ dL_law_322 rfl ?_
  refine l_al2 h 326 dL_law_325 rfl ?_
  refine l_al0 h 327 dL_law_326 rfl ?_
  refine l_il3 h 328 dL_law_327 rfl ?_
  refine l_iconst h 329 ic_1 dL_law_328 rfl ?_
  refine l_iadd h 330 dL_law_329 rfl ?_
  refine l_sld h 331 (my_pin nj_1 (by omega) hL) dL_law_330 rfl ?_
  refine l_al0 h 332 dL_law_331 rfl ?_
  refine l_il3 h 333 dL_law_332 rfl ?_
  refine l_iconst h 334 ic_2 dL_law_333 rfl ?_
  refine l_iadd h 335 dL_law_334 rfl ?_
  refine l_sld h 336 (my_pin nj_2 (by omega) hL) dL_law_335 rfl ?_
  refine l_al0 h 337 dL_law_336 rfl ?_
  refine l_il3 h 338 dL_law_337 rfl ?_
  refine l_iconst h 339 ic_3 dL_law_338 rfl ?_
  refine l_iadd h 340 dL_law_339 rfl ?_
  refine l_sld h 341 (my_pin nj_3 (by omega) hL) dL_law_340 rfl ?_
  refine l_al0 h 342 dL_law_341 rfl ?_
  refine l_il3 h 343 dL_law_342 rfl ?_
  refine l_iconst h 344 ic_4 dL_law_343 rfl ?_
  refine l_iadd h 345 dL_law_344 rfl ?_
  refine l_sld h 346 (my_pin nj_4 (by omega) hL) dL_law_345 rfl ?_
  refine l_callRi h 349 cs_L_31 (ct_X9_hears _ h2) rfl rfl (Nat.le_of_ble_eq_true rfl) ⟨Nat.le_of_ble_eq_true rfl, Nat.le_of_ble_eq_true rfl⟩ dL_law_346 rfl ?_
  exact l_same h 1247 dL_law_349 (by decide) hk
set_option maxHeartbeats 1000000 in
theorem lc_case_4 (h : my_OL X l D cA iC iR b L xs) (hL : L ≤ 3072) {i : Nat} (hi : i + 6 ≤ L) {σ ρ σ1 ρ1 : my_M} {r : Int32} (h1 : f_X8_send σ (xs (nI i + 1).toNatClampNeg) (xs (nI i + 2).toNatClampNeg) (xs (nI i + 3).toNatClampNeg) = some (r, σ1)) (h2 : f_X9_send ρ (xs (nI i + 1).toNatClampNeg) (xs (nI i + 2).toNatClampNeg) (xs (nI i + 3).toNatClampNeg) = some (r, ρ1)) (hk : GoL X l D cA iC iR σ1 ρ1 1247 [some (.ref b), some (.ref (iC 0)), some (.ref (iR 0)), some (.int (nI i))] []) : GoL X l D cA iC iR σ ρ 354 [some (.ref b), some (.ref (iC 0)), some (.ref (iR 0)), some (.int (nI i))] [] := by
  refine l_al1 h 355 dL_law_354 rfl ?_
  refine l_al0 h 356 dL_law_355 rfl ?_
  refine l_il3 h 357 dL_law_356 rfl ?_
  refine l_iconst h 358 ic_1 dL_law_357 rfl ?_
  refine l_iadd h 359 dL_law_358 rfl ?_
  refine l_sld h 360 (my_pin nj_1 (by omega) hL) dL_law_359 rfl ?_
  refine l_al0 h 361 dL_law_360 rfl ?_
  refine l_il3 h 362 dL_law_361 rfl ?_
  refine l_iconst h 363 ic_2 dL_law_362 rfl ?_
  refine l_iadd h 364 dL_law_363 rfl ?_
  refine l_sld h 365 (my_pin nj_2 (by omega) hL) dL_law_364 rfl ?_
  refine l_al0 h 366 dL_law_365 rfl ?_
  refine l_il3 h 367 dL_law_366 rfl ?_
  refine l_iconst h 368 ic_3 dL_law_367 rfl ?_
  refine l_iadd h 369 dL_law_368 rfl ?_
  refine l_sld h 370 (my_pin nj_3 (by omega) hL) dL_law_369 rfl ?_
  refine l_callCi h 373 cs_L_32 (ct_X8_send _ h1) rfl rfl (Nat.le_of_ble_eq_true rfl) ⟨Nat.le_of_ble_eq_true rfl, Nat.le_of_ble_eq_true rfl⟩ dL_law_370 rfl ?_
  refine l_al2 h 374 dL_law_373 rfl ?_
  refine l_al0 h 375 dL_law_374 rfl ?_
  refine l_il3 h 376 dL_law_375 rfl ?_
  refine l_iconst h 377 ic_1 dL_law_376 rfl ?_
  refine l_iadd h 378 dL_law_377 rfl ?_
  refine l_sld h 379 (my_pin nj_1 (by omega) hL) dL_law_378 rfl ?_
  refine l_al0 h 380 dL_law_379 rfl ?_
  refine l_il3 h 381 dL_law_380 rfl ?_
  refine l_iconst h 382 ic_2 dL_law_381 rfl ?_
  refine l_iadd h 383 dL_law_382 rfl ?_
  refine l_sld h 384 (my_pin nj_2 (by omega) hL) dL_law_383 rfl ?_
  refine l_al0 h 385 dL_law_384 rfl ?_
  refine l_il3 h 386 dL_law_385 rfl ?_
  refine l_iconst h 387 ic_3 dL_law_386 rfl ?_
  refine l_iadd h 388 dL_law_387 rfl ?_
  refine l_sld h 389 (my_pin nj_3 (by omega) hL) dL_law_388 rfl ?_
  refine l_callRi h 392 cs_L_35 (ct_X9_send _ h2) rfl rfl (Nat.le_of_ble_eq_true rfl) ⟨Nat.le_of_ble_eq_true rfl, Nat.le_of_ble_eq_true rfl⟩ dL_law_389 rfl ?_
  exact l_same h 1247 dL_law_392 (by decide) hk
set_option maxHeartbeats 1000000 in
theorem lc_case_5 (h : my_OL X l D cA iC iR b L xs) (hL : L ≤ 3072) {i : Nat} (hi : i + 6 ≤ L) {σ ρ σ1 ρ1 : my_M} {r : Int32} (h1 : f_X8_unsend σ (xs (nI i + 1).toNatClampNeg) = some (r, σ1)) (h2 : f_X9_unsend ρ (xs (nI i + 1).toNatClampNeg) = some (r, ρ1)) (hk : GoL X l D cA iC iR σ1 ρ1 1247 [some (.ref b), some (.ref (iC 0)), some (.ref (iR 0)), some (.int (nI i))] []) : GoL X l D cA iC iR σ ρ 397 [some (.ref b), some (.ref (iC 0)), some (.ref (iR 0)), some (.int (nI i))] [] := by
  refine l_al1 h 398 dL_law_397 rfl ?_
  refine l_al0 h 399 dL_law_398 rfl ?_
  refine l_il3 h 400 dL_law_399 rfl ?_
  refine l_iconst h 401 ic_1 dL_law_400 rfl ?_
  refine l_iadd h 402 dL_law_401 rfl ?_
  refine l_sld h 403 (my_pin nj_1 (by omega) hL) dL_law_402 rfl ?_
  refine l_callCi h 406 cs_L_36 (ct_X8_unsend _ h1) rfl rfl (Nat.le_of_ble_eq_true rfl) ⟨Nat.le_of_ble_eq_true rfl, Nat.le_of_ble_eq_true rfl⟩ dL_law_403 rfl ?_
  refine l_al2 h 407 dL_law_406 rfl ?_
  refine l_al0 h 408 dL_law_407 rfl ?_
  refine l_il3 h 409 dL_law_408 rfl ?_
  refine l_iconst h 410 ic_1 dL_law_409 rfl ?_
  refine l_iadd h 411 dL_law_410 rfl ?_
  refine l_sld h 412 (my_pin nj_1 (by omega) hL) dL_law_411 rfl ?_
  refine l_callRi h 415 cs_L_40 (ct_X9_unsend _ h2) rfl rfl (Nat.le_of_ble_eq_true rfl) ⟨Nat.le_of_ble_eq_true rfl, Nat.le_of_ble_eq_true rfl⟩ dL_law_412 rfl ?_
  exact l_same h 1247 dL_law_415 (by decide) hk
set_option maxHeartbeats 1000000 in
theorem lc_case_6 (h : my_OL X l D cA iC iR b L xs) (hL : L ≤ 3072) {i : Nat} (hi : i + 6 ≤ L) {σ ρ σ1 ρ1 : my_M} {r : Int32} (h1 : f_X8_air σ (xs (nI i + 1).toNatClampNeg) = some (r, σ1)) (h2 : f_X9_air ρ (xs (nI i + 1).toNatClampNeg) = some (r, ρ1)) (hk : GoL X l D cA iC iR σ1 ρ1 1247 [some (.ref b), some (.ref (iC 0)), some (.ref (iR 0)), some (.int (nI i))] []) : GoL X l D cA iC iR σ ρ 420 [some (.ref b), some (.ref (iC 0)), some (.ref (iR 0)), some (.int (nI i))] [] := by
  refine l_al1 h 421 dL_law_420 rfl ?_
  refine l_al0 h 422 dL_law_421 rfl ?_
  refine l_il3 h 423 dL_law_422 rfl ?_
  refine l_iconst h 424 ic_1 dL_law_423 rfl ?_
  refine l_iadd h 425 dL_law_424 rfl ?_
  refine l_sld h 426 (my_pin nj_1 (by omega) hL) dL_law_425 rfl ?_
  refine l_callCi h 429 cs_L_41 (ct_X8_air _ h1) rfl rfl (Nat.le_of_ble_eq_true rfl) ⟨Nat.le_of_ble_eq_true rfl, Nat.le_of_ble_eq_true rfl⟩ dL_law_426 rfl ?_
  refine l_al2 h 430 dL_law_429 rfl ?_
  refine l_al0 h 431 dL_law_430 rfl ?_
  refine l_il3 h 432 dL_law_431 rfl ?_
  refine l_iconst h 433 ic_1 dL_law_432 rfl ?_
  refine l_iadd h 434 dL_law_433 rfl ?_
  refine l_sld h 435 (my_pin nj_1 (by omega) hL) dL_law_434 rfl ?_
  refine l_callRi h 438 cs_L_44 (ct_X9_air _ h2) rfl rfl (Nat.le_of_ble_eq_true rfl) ⟨Nat.le_of_ble_eq_true rfl, Nat.le_of_ble_eq_true rfl⟩ dL_law_435 rfl ?_
  exact l_same h 1247 dL_law_438 (by decide) hk
set_option maxHeartbeats 1000000 in
theorem lc_case_7 (h : my_OL X l D cA iC iR b L xs) (hL : L ≤ 3072) {i : Nat} (hi : i + 6 ≤ L) {σ ρ σ1 ρ1 : my_M} {r : Int32} (h1 : f_X8_listen σ (xs (nI i + 1).toNatClampNeg) (xs (nI i + 2).toNatClampNeg) = some (r, σ1)) (h2 : f_X9_listen ρ (xs (nI i + 1).toNatClampNeg) (xs (nI i + 2).toNatClampNeg) = some (r, ρ1)) (hk : GoL X l D cA iC iR σ1 ρ1 1247 [some (.ref b), some (.ref (iC 0)), some (.ref (iR 0)), some (.int (nI i))] []) : GoL X l D cA iC iR σ ρ 443 [some (.ref b), some (.ref (iC 0)), some (.ref (iR 0)), some (.int (nI i))] [] := by
  refine l_al1 h 444 dL_law_443 rfl ?_
  refine l_al0 h 445 dL_law_444 rfl ?_
  refine l_il3 h 446 dL_law_445 rfl ?_
  refine l_iconst h 447 ic_1 dL_law_446 rfl ?_
  refine l_iadd h 448 dL_law_447 rfl ?_
  refine l_sld h 449 (my_pin nj_1 (by omega) hL) dL_law_448 rfl ?_
  refine l_al0 h 450 dL_law_449 rfl ?_
  refine l_il3 h 451 dL_law_450 rfl ?_
  refine l_iconst h 452 ic_2 dL_law_451 rfl ?_
  refine l_iadd h 453 dL_law_452 rfl ?_
  refine l_sld h 454 (my_pin nj_2 (by omega) hL) dL_law_453 rfl ?_
  refine l_callCi h 457 cs_L_45 (ct_X8_listen _ h1) rfl rfl (Nat.le_of_ble_eq_true rfl) ⟨Nat.le_of_ble_eq_true rfl, Nat.le_of_ble_eq_true rfl⟩ dL_law_454 rfl ?_
  refine l_al2 h 458 dL_law_457 rfl ?_
  refine l_al0 h 459 dL_law_458 rfl ?_
  refine l_il3 h 460 dL_law_459 rfl ?_
  refine l_iconst h 461 ic_1 dL_law_460 rfl ?_
  refine l_iadd h 462 dL_law_461 rfl ?_
  refine l_sld h 463 (my_pin nj_1 (by omega) hL) dL_law_462 rfl ?_
  refine l_al0 h 464 dL_law_463 rfl ?_
  refine l_il3 h 465 dL_law_464 rfl ?_
  refine l_iconst h 466 ic_2 dL_law_465 rfl ?_
  refine l_iadd h 467 dL_law_466 rfl ?_
  refine l_sld h 468 (my_pin nj_2 (by omega) hL) dL_law_467 rfl ?_
  refine l_callRi h 471 cs_L_48 (ct_X9_listen _ h2) rfl rfl (Nat.le_of_ble_eq_true rfl) ⟨Nat.le_of_ble_eq_true rfl, Nat.le_of_ble_eq_true rfl⟩ dL_law_468 rfl ?_
  exact l_same h 1247 dL_law_471 (by decide) hk
set_option maxHeartbeats 1000000 in
theorem lc_case_8 (h : my_OL X l D cA iC iR b L xs) (hL : L ≤ 3072) {i : Nat} (hi : i + 6 ≤ L) {σ ρ σ1 ρ1 : my_M} {r : Int32} (h1 : f_X8_loudest σ (xs (nI i + 1).toNatClampNeg) (xs (nI i + 2).toNatClampNeg) = some (r, σ1)) (h2 : f_X9_loudest ρ (xs (nI i + 1).toNatClampNeg) (xs (nI i + 2).toNatClampNeg) = some (r, ρ1)) (hk : GoL X l D cA iC iR σ1 ρ1 1247 [some (.ref b), some (.ref (iC 0)), some (.ref (iR 0)), some (.int (nI i))] []) : GoL X l D cA iC iR σ ρ 476 [some (.ref b), some (.ref (iC 0)), some (.ref (iR 0)), some (.int (nI i))] [] := by
  refine l_al1 h 477 dL_law_476 rfl ?_
  refine l_al0 h 478 dL_law_477 rfl ?_
  refine l_il3 h 479 dL_law_478 rfl ?_
  refine l_iconst h 480 ic_1 dL_law_479 rfl ?_
  refine l_iadd h 481 dL_law_480 rfl ?_
  refine l_sld h 482 (my_pin nj_1 (by omega) hL) dL_law_481 rfl ?_
  refine l_al0 h 483 dL_law_482 rfl ?_
  refine l_il3 h 484 dL_law_483 rfl ?_
  refine l_iconst h 485 ic_2 dL_law_484 rfl ?_
  refine l_iadd h 486 dL_law_485 rfl ?_
  refine l_sld h 487 (my_pin nj_2 (by omega) hL) dL_law_486 rfl ?_
  refine l_callCi h 490 cs_L_49 (ct_X8_loudest _ h1) rfl rfl (Nat.le_of_ble_eq_true rfl) ⟨Nat.le_of_ble_eq_true rfl, Nat.le_of_ble_eq_true rfl⟩ dL_law_487 rfl ?_
  refine l_al2 h 491 dL_law_490 rfl ?_
  refine l_al0 h 492 dL_law_491 rfl ?_
  refine l_il3 h 493 dL_law_492 rfl ?_
  refine l_iconst h 494 ic_1 dL_law_493 rfl ?_
  refine l_iadd h 495 dL_law_494 rfl ?_
  refine l_sld h 496 (my_pin nj_1 (by omega) hL) dL_law_495 rfl ?_
  refine l_al0 h 497 dL_law_496 rfl ?_
  refine l_il3 h 498 dL_law_497 rfl ?_
  refine l_iconst h 499 ic_2 dL_law_498 rfl ?_
  refine l_iadd h 500 dL_law_499 rfl ?_
  refine l_sld h 501 (my_pin nj_2 (by omega) hL) dL_law_500 rfl ?_
  refine l_callRi h 504 cs_L_52 (ct_X9_loudest _ h2) rfl rfl (Nat.le_of_ble_eq_true rfl) ⟨Nat.le_of_ble_eq_true rfl, Nat.le_of_ble_eq_true rfl⟩ dL_law_501 rfl ?_
  exact l_same h 1247 dL_law_504 (by decide) hk
set_option maxHeartbeats 1000000 in
theorem lc_case_9 (h : my_OL X l D cA iC iR b L xs) (hL : L ≤ 3072) {i : Nat} (hi : i + 6 ≤ L) {σ ρ σ1 ρ1 : my_M} {r : Int32} (h1 : f_X8_day σ (xs (nI i + 1).toNatClampNeg) (xs (nI i + 2).toNatClampNeg) (xs (nI i + 3).toNatClampNeg) (xs (nI i + 4).toNatClampNeg) (xs (nI i + 5).toNatClampNeg) = some (r, σ1)) (h2 : f_X9_day ρ (xs (nI i + 1).toNatClampNeg) (xs (nI i + 2).toNatClampNeg) (xs (nI i + 3).toNatClampNeg) (xs (nI i + 4).toNatClampNeg) (xs (nI i + 5).toNatClampNeg) = some (r, ρ1)) (hk : GoL X l D cA iC iR σ1 ρ1 1247 [some (.ref b), some (.ref (iC 0)), some (.ref (iR 0)), some (.int (nI i))] []) : GoL X l D cA iC iR σ ρ 509 [some (.ref b), some (.ref (iC 0)), some (.ref (iR 0)), some (.int (nI i))] [] := by
  refine l_al1 h 510 dL_law_509 rfl ?_
  refine l_al0 h 511 dL_law_510 rfl ?_
  refine l_il3 h 512 dL_law_511 rfl ?_
  refine l_iconst h 513 ic_1 dL_law_512 rfl ?_
  refine l_iadd h 514 dL_law_513 rfl ?_
  refine l_sld h 515 (my_pin nj_1 (by omega) hL) dL_law_514 rfl ?_
  refine l_al0 h 516 dL_law_515 rfl ?_
  refine l_il3 h 517 dL_law_516 rfl ?_
  refine l_iconst h 518 ic_2 dL_law_517 rfl ?_
  refine l_iadd h 519 dL_law_518 rfl ?_
  refine l_sld h 520 (my_pin nj_2 (by omega) hL) dL_law_519 rfl ?_
  refine l_al0 h 521 dL_law_520 rfl ?_
  refine l_il3 h 522 dL_law_521 rfl ?_
  refine l_iconst h 523 ic_3 dL_law_522 rfl ?_
  refine l_iadd h 524 dL_law_523 rfl ?_
  refine l_sld h 525 (my_pin nj_3 (by omega) hL) dL_law_524 rfl ?_
  refine l_al0 h 526 dL_law_525 rfl ?_
  refine l_il3 h 527 dL_law_526 rfl ?_
  refine l_iconst h 528 ic_4 dL_law_527 rfl ?_
  refine l_iadd h 529 dL_law_528 rfl ?_
  refine l_sld h 530 (my_pin nj_4 (by omega) hL) dL_law_529 rfl ?_
  refine l_al0 h 531 dL_law_530 rfl ?_
  refine l_il3 h 532 dL_law_531 rfl ?_
  refine l_iconst h 533 ic_5 dL_law_532 rfl ?_
  refine l_iadd h 534 dL_law_533 rfl ?_
  refine l_sld h 535 (my_pin nj_5 (by omega) hL) dL_law_534 rfl ?_
  refine l_callCi h 538 cs_L_53 (ct_X8_day _ h1) rfl rfl (Nat.le_of_ble_eq_true rfl) ⟨Nat.le_of_ble_eq_true rfl, Nat.le_of_ble_eq_true rfl⟩ dL_law_535 rfl ?_
  refine l_al2 h 539 dL_law_538 rfl ?_
  refine l_al0 h 540 dL_law_539 rfl ?_
  refine l_il3 h 541 dL_law_540 rfl ?_
  refine l_iconst h 542 ic_1 dL_law_541 rfl ?_
  refine l_iadd h 543 dL_law_542 rfl ?_
  refine l_sld h 544 (my_pin nj_1 (by omega) hL) dL_law_543 rfl ?_
  refine l_al0 h 545 dL_law_544 rfl ?_
  refine l_il3 h 546 dL_law_545 rfl ?_
  refine l_iconst h 547 ic_2 dL_law_546 rfl ?_
  refine l_iadd h 548 dL_law_547 rfl ?_
  refine l_sld h 549 (my_pin nj_2 (by omega) hL) dL_law_548 rfl ?_
  refine l_al0 h 550 dL_law_549 rfl ?_
  refine l_il3 h 551 dL_law_550 rfl ?_
  refine l_iconst h 552 ic_3 dL_law_551 rfl ?_
  refine l_iadd h 553 dL_law_552 rfl ?_
  refine l_sld h 554 (my_pin nj_3 (by omega) hL) dL_law_553 rfl ?_
  refine l_al0 h 555 dL_law_554 rfl ?_
  refine l_il3 h 556 dL_law_555 rfl ?_
  refine l_iconst h 557 ic_4 dL_law_556 rfl ?_
  refine l_iadd h 558 dL_law_557 rfl ?_
  refine l_sld h 559 (my_pin nj_4 (by omega) hL) dL_law_558 rfl ?_
  refine l_al0 h 560 dL_law_559 rfl ?_
  refine l_il3 h 561 dL_law_560 rfl ?_
  refine l_iconst h 562 ic_5 dL_law_561 rfl ?_
  refine l_iadd h 563 dL_law_562 rfl ?_
  refine l_sld h 564 (my_pin nj_5 (by omega) hL) dL_law_563 rfl ?_
  refine l_callRi h 567 cs_L_57 (ct_X9_day _ h2) rfl rfl (Nat.le_of_ble_eq_true rfl) ⟨Nat.le_of_ble_eq_true rfl, Nat.le_of_ble_eq_true rfl⟩ dL_law_564 rfl ?_
  exact l_same h 1247 dL_law_567 (by decide) hk
set_option maxHeartbeats 1000000 in
theorem lc_case_10 (h : my_OL X l D cA iC iR b L xs) (hL : L ≤ 3072) {i : Nat} (hi : i + 6 ≤ L) {σ ρ σ1 ρ1 : my_M} {r : Int32} (h1 : f_X8_peak σ (xs (nI i + 1).toNatClampNeg) (xs (nI i + 2).toNatClampNeg) = some (r, σ1)) (h2 : f_X9_peak ρ (xs (nI i + 1).toNatClampNeg) (xs (nI i + 2).toNatClampNeg) = some (r, ρ1)) (hk : GoL X l D cA iC iR σ1 ρ1 1247 [some (.ref b), some (.ref (iC 0)), some (.ref (iR 0)), some (.int (nI i))] []) : GoL X l D cA iC iR σ ρ 572 [some (.ref b), some (.ref (iC 0)), some (.ref (iR 0)), some (.int (nI i))] [] := by
  refine l_al1 h 573 dL_law_572 rfl ?_
  refine l_al0 h 574 dL_law_573 rfl ?_
  refine l_il3 h 575 dL_law_574 rfl ?_
  refine l_iconst h 576 ic_1 dL_law_575 rfl ?_
  refine l_iadd h 577 dL_law_576 rfl ?_
  refine l_sld h 578 (my_pin nj_1 (by omega) hL) dL_law_577 rfl ?_
  refine l_al0 h 579 dL_law_578 rfl ?_
  refine l_il3 h 580 dL_law_579 rfl ?_
  refine l_iconst h 581 ic_2 dL_law_580 rfl ?_
  refine l_iadd h 582 dL_law_581 rfl ?_
  refine l_sld h 583 (my_pin nj_2 (by omega) hL) dL_law_582 rfl ?_
  refine l_callCi h 586 cs_L_58 (ct_X8_peak _ h1) rfl rfl (Nat.le_of_ble_eq_true rfl) ⟨Nat.le_of_ble_eq_true rfl, Nat.le_of_ble_eq_true rfl⟩ dL_law_583 rfl ?_
  refine l_al2 h 587 dL_law_586 rfl ?_
  refine l_al0 h 588 dL_law_587 rfl ?_
  refine l_il3 h 589 dL_law_588 rfl ?_
  refine l_iconst h 590 ic_1 dL_law_589 rfl ?_
  refine l_iadd h 591 dL_law_590 rfl ?_
  refine l_sld h 592 (my_pin nj_1 (by omega) hL) dL_law_591 rfl ?_
  refine l_al0 h 593 dL_law_592 rfl ?_
  refine l_il3 h 594 dL_law_593 rfl ?_
  refine l_iconst h 595 ic_2 dL_law_594 rfl ?_
  refine l_iadd h 596 dL_law_595 rfl ?_
  refine l_sld h 597 (my_pin nj_2 (by omega) hL) dL_law_596 rfl ?_
  refine l_callRi h 600 cs_L_61 (ct_X9_peak _ h2) rfl rfl (Nat.le_of_ble_eq_true rfl) ⟨Nat.le_of_ble_eq_true rfl, Nat.le_of_ble_eq_true rfl⟩ dL_law_597 rfl ?_
  exact l_same h 1247 dL_law_600 (by decide) hk
set_option maxHeartbeats 1000000 in
theorem lc_case_11 (h : my_OL X l D cA iC iR b L xs) (hL : L ≤ 3072) {i : Nat} (hi : i + 6 ≤ L) {σ ρ σ1 ρ1 : my_M} {r : Int32} (h1 : f_X8_clash σ (xs (nI i + 1).toNatClampNeg) (xs (nI i + 2).toNatClampNeg) = some (r, σ1)) (h2 : f_X9_clash ρ (xs (nI i + 1).toNatClampNeg) (xs (nI i + 2).toNatClampNeg) = some (r, ρ1)) (hk : GoL X l D cA iC iR σ1 ρ1 1247 [some (.ref b), some (.ref (iC 0)), some (.ref (iR 0)), some (.int (nI i))] []) : GoL X l D cA iC iR σ ρ 605 [some (.ref b), some (.ref (iC 0)), some (.ref (iR 0)), some (.int (nI i))] [] := by
  refine l_al1 h 606 dL_law_605 rfl ?_
  refine l_al0 h 607 dL_law_606 rfl ?_
  refine l_il3 h 608 dL_law_607 rfl ?_
  refine l_iconst h 609 ic_1 dL_law_608 rfl ?_
  refine l_iadd h 610 dL_law_609 rfl ?_
  refine l_sld h 611 (my_pin nj_1 (by omega) hL) dL_law_610 rfl ?_
  refine l_al0 h 612 dL_law_611 rfl ?_
  refine l_il3 h 613 dL_law_612 rfl ?_
  refine l_iconst h 614 ic_2 dL_law_613 rfl ?_
  refine l_iadd h 615 dL_law_614 rfl ?_
  refine l_sld h 616 (my_pin nj_2 (by omega) hL) dL_law_615 rfl ?_
  refine l_callCi h 619 cs_L_62 (ct_X8_clash _ h1) rfl rfl (Nat.le_of_ble_eq_true rfl) ⟨Nat.le_of_ble_eq_true rfl, Nat.le_of_ble_eq_true rfl⟩ dL_law_616 rfl ?_
  refine l_al2 h 620 dL_law_619 rfl ?_
  refine l_al0 h 621 dL_law_620 rfl ?_
  refine l_il3 h 622 dL_law_621 rfl ?_
  refine l_iconst h 623 ic_1 dL_law_622 rfl ?_
  refine l_iadd h 624 dL_law_623 rfl ?_
  refine l_sld h 625 (my_pin nj_1 (by omega) hL) dL_law_624 rfl ?_
  refine l_al0 h 626 dL_law_625 rfl ?_
  refine l_il3 h 627 dL_law_626 rfl ?_
  refine l_iconst h 628 ic_2 dL_law_627 rfl ?_
  refine l_iadd h 629 dL_law_628 rfl ?_
  refine l_sld h 630 (my_pin nj_2 (by omega) hL) dL_law_629 rfl ?_
  refine l_callRi h 633 cs_L_65 (ct_X9_clash _ h2) rfl rfl (Nat.le_of_ble_eq_true rfl) ⟨Nat.le_of_ble_eq_true rfl, Nat.le_of_ble_eq_true rfl⟩ dL_law_630 rfl ?_
  exact l_same h 1247 dL_law_633 (by decide) hk
set_option maxHeartbeats 1000000 in
theorem lc_case_12 (h : my_OL X l D cA iC iR b L xs) (hL : L ≤ 3072) {i : Nat} (hi : i + 6 ≤ L) {σ ρ σ1 ρ1 : my_M} {r : Int32} (h1 : f_X8_rows σ  = some (r, σ1)) (h2 : f_X9_rows ρ  = some (r, ρ1)) (hk : GoL X l D cA iC iR σ1 ρ1 1247 [some (.ref b), some (.ref (iC 0)), some (.ref (iR 0)), some (.int (nI i))] []) : GoL X l D cA iC iR σ ρ 638 [some (.ref b), some (.ref (iC 0)), some (.ref (iR 0)), some (.int (nI i))] [] := by
  refine l_al1 h 639 dL_law_638 rfl ?_
  refine l_callCi h 642 cs_L_66 (ct_X8_rows _ h1) rfl rfl (Nat.le_of_ble_eq_true rfl) ⟨Nat.le_of_ble_eq_true rfl, Nat.le_of_ble_eq_true rfl⟩ dL_law_639 rfl ?_
  refine l_al2 h 643 dL_law_642 rfl ?_
  refine l_callRi h 646 cs_L_70 (ct_X9_rows _ h2) rfl rfl (Nat.le_of_ble_eq_true rfl) ⟨Nat.le_of_ble_eq_true rfl, Nat.le_of_ble_eq_true rfl⟩ dL_law_643 rfl ?_
  exact l_same h 1247 dL_law_646 (by decide) hk
set_option maxHeartbeats 1000000 in
theorem lc_case_13 (h : my_OL X l D cA iC iR b L xs) (hL : L ≤ 3072) {i : Nat} (hi : i + 6 ≤ L) {σ ρ σ1 ρ1 : my_M} {r : Int32} (h1 : f_X8_ways σ (xs (nI i + 1).toNatClampNeg) (xs (nI i + 2).toNatClampNeg) = some (r, σ1)) (h2 : f_X9_ways ρ (xs (nI i + 1).toNatClampNeg) (xs (nI i + 2).toNatClampNeg) = some (r, ρ1)) (hk : GoL X l D cA iC iR σ1 ρ1 1247 [some (.ref b), some (.ref (iC 0)), some (.ref (iR 0)), some (.int (nI i))] []) : GoL X l D cA iC iR σ ρ 651 [some (.ref b), some (.ref (iC 0)), some (.ref (iR 0)), some (.int (nI i))] [] := by
  refine l_al1 h 652 dL_law_651 rfl ?_
  refine l_al0 h 653 dL_law_652 rfl ?_
  refine l_il3 h 654 dL_law_653 rfl ?_
  refine l_iconst h 655 ic_1 dL_law_654 rfl ?_
  refine l_iadd h 656 dL_law_655 rfl ?_
  refine l_sld h 657 (my_pin nj_1 (by omega) hL) dL_law_656 rfl ?_
  refine l_al0 h 658 dL_law_657 rfl ?_
  refine l_il3 h 659 dL_law_658 rfl ?_
  refine l_iconst h 660 ic_2 dL_law_659 rfl ?_
  refine l_iadd h 661 dL_law_660 rfl ?_
  refine l_sld h 662 (my_pin nj_2 (by omega) hL) dL_law_661 rfl ?_
  refine l_callCi h 665 cs_L_71 (ct_X8_ways _ h1) rfl rfl (Nat.le_of_ble_eq_true rfl) ⟨Nat.le_of_ble_eq_true rfl, Nat.le_of_ble_eq_true rfl⟩ dL_law_662 rfl ?_
  refine l_al2 h 666 dL_law_665 rfl ?_
  refine l_al0 h 667 dL_law_666 rfl ?_
  refine l_il3 h 668 dL_law_667 rfl ?_
  refine l_iconst h 669 ic_1 dL_law_668 rfl ?_
  refine l_iadd h 670 dL_law_669 rfl ?_
  refine l_sld h 671 (my_pin nj_1 (by omega) hL) dL_law_670 rfl ?_
  refine l_al0 h 672 dL_law_671 rfl ?_
  refine l_il3 h 673 dL_law_672 rfl ?_
  refine l_iconst h 674 ic_2 dL_law_673 rfl ?_
  refine l_iadd h 675 dL_law_674 rfl ?_
  refine l_sld h 676 (my_pin nj_2 (by omega) hL) dL_law_675 rfl ?_
  refine l_callRi h 679 cs_L_74 (ct_X9_ways _ h2) rfl rfl (Nat.le_of_ble_eq_true rfl) ⟨Nat.le_of_ble_eq_true rfl, Nat.le_of_ble_eq_true rfl⟩ dL_law_676 rfl ?_
  exact l_same h 1247 dL_law_679 (by decide) hk
set_option maxHeartbeats 1000000 in
theorem lc_case_14 (h : my_OL X l D cA iC iR b L xs) (hL : L ≤ 3072) {i : Nat} (hi : i + 6 ≤ L) {σ ρ σ1 ρ1 : my_M} {r : Int32} (h1 : f_X8_next σ (xs (nI i + 1).toNatClampNeg) (xs (nI i + 2).toNatClampNeg) = some (r, σ1)) (h2 : f_X9_next ρ (xs (nI i + 1).toNatClampNeg) (xs (nI i + 2).toNatClampNeg) = some (r, ρ1)) (hk : GoL X l D cA iC iR σ1 ρ1 1247 [some (.ref b), some (.ref (iC 0)), some (.ref (iR 0)), some (.int (nI i))] []) : GoL X l D cA iC iR σ ρ 684 [some (.ref b), some (.ref (iC 0)), some (.ref (iR 0)), some (.int (nI i))] [] := by
  refine l_al1 h 685 dL_law_684 rfl ?_
  refine l_al0 h 686 dL_law_685 rfl ?_
  refine l_il3 h 687 dL_law_686 rfl ?_
  refine l_iconst h 688 ic_1 dL_law_687 rfl ?_
  refine l_iadd h 689 dL_law_688 rfl ?_
  refine l_sld h 690 (my_pin nj_1 (by omega) hL) dL_law_689 rfl ?_
  refine l_al0 h 691 dL_law_690 rfl ?_
  refine l_il3 h 692 dL_law_691 rfl ?_
  refine l_iconst h 693 ic_2 dL_law_692 rfl ?_
  refine l_iadd h 694 dL_law_693 rfl ?_
  refine l_sld h 695 (my_pin nj_2 (by omega) hL) dL_law_694 rfl ?_
  refine l_callCi h 698 cs_L_75 (ct_X8_next _ h1) rfl rfl (Nat.le_of_ble_eq_true rfl) ⟨Nat.le_of_ble_eq_true rfl, Nat.le_of_ble_eq_true rfl⟩ dL_law_695 rfl ?_
  refine l_al2 h 699 dL_law_698 rfl ?_
  refine l_al0 h 700 dL_law_699 rfl ?_
  refine l_il3 h 701 dL_law_700 rfl ?_
  refine l_iconst h 702 ic_1 dL_law_701 rfl ?_
  refine l_iadd h 703 dL_law_702 rfl ?_
  refine l_sld h 704 (my_pin nj_1 (by omega) hL) dL_law_703 rfl ?_
  refine l_al0 h 705 dL_law_704 rfl ?_
  refine l_il3 h 706 dL_law_705 rfl ?_
  refine l_iconst h 707 ic_2 dL_law_706 rfl ?_
  refine l_iadd h 708 dL_law_707 rfl ?_
  refine l_sld h 709 (my_pin nj_2 (by omega) hL) dL_law_708 rfl ?_
  refine l_callRi h 712 cs_L_78 (ct_X9_next _ h2) rfl rfl (Nat.le_of_ble_eq_true rfl) ⟨Nat.le_of_ble_eq_true rfl, Nat.le_of_ble_eq_true rfl⟩ dL_law_709 rfl ?_
  exact l_same h 1247 dL_law_712 (by decide) hk
set_option maxHeartbeats 1000000 in
theorem lc_case_15 (h : my_OL X l D cA iC iR b L xs) (hL : L ≤ 3072) {i : Nat} (hi : i + 6 ≤ L) {σ ρ σ1 ρ1 : my_M} {r : Int32} (h1 : f_X8_reading σ (xs (nI i + 1).toNatClampNeg) (xs (nI i + 2).toNatClampNeg) (xs (nI i + 3).toNatClampNeg) (xs (nI i + 4).toNatClampNeg) (xs (nI i + 5).toNatClampNeg) = some (r, σ1)) (h2 : f_X9_reading ρ (xs (nI i + 1).toNatClampNeg) (xs (nI i + 2).toNatClampNeg) (xs (nI i + 3).toNatClampNeg) (xs (nI i + 4).toNatClampNeg) (xs (nI i + 5).toNatClampNeg) = some (r, ρ1)) (hk : GoL X l D cA iC iR σ1 ρ1 1247 [some (.ref b), some (.ref (iC 0)), some (.ref (iR 0)), some (.int (nI i))] []) : GoL X l D cA iC iR σ ρ 717 [some (.ref b), some (.ref (iC 0)), some (.ref (iR 0)), some (.int (nI i))] [] := by
  refine l_al1 h 718 dL_law_717 rfl ?_
  refine l_al0 h 719 dL_law_718 rfl ?_
  refine l_il3 h 720 dL_law_719 rfl ?_
  refine l_iconst h 721 ic_1 dL_law_720 rfl ?_
  refine l_iadd h 722 dL_law_721 rfl ?_
  refine l_sld h 723 (my_pin nj_1 (by omega) hL) dL_law_722 rfl ?_
  refine l_al0 h 724 dL_law_723 rfl ?_
  refine l_il3 h 725 dL_law_724 rfl ?_
  refine l_iconst h 726 ic_2 dL_law_725 rfl ?_
  refine l_iadd h 727 dL_law_726 rfl ?_
  refine l_sld h 728 (my_pin nj_2 (by omega) hL) dL_law_727 rfl ?_
  refine l_al0 h 729 dL_law_728 rfl ?_
  refine l_il3 h 730 dL_law_729 rfl ?_
  refine l_iconst h 731 ic_3 dL_law_730 rfl ?_
  refine l_iadd h 732 dL_law_731 rfl ?_
  refine l_sld h 733 (my_pin nj_3 (by omega) hL) dL_law_732 rfl ?_
  refine l_al0 h 734 dL_law_733 rfl ?_
  refine l_il3 h 735 dL_law_734 rfl ?_
  refine l_iconst h 736 ic_4 dL_law_735 rfl ?_
  refine l_iadd h 737 dL_law_736 rfl ?_
  refine l_sld h 738 (my_pin nj_4 (by omega) hL) dL_law_737 rfl ?_
  refine l_al0 h 739 dL_law_738 rfl ?_
  refine l_il3 h 740 dL_law_739 rfl ?_
  refine l_iconst h 741 ic_5 dL_law_740 rfl ?_
  refine l_iadd h 742 dL_law_741 rfl ?_
  refine l_sld h 743 (my_pin nj_5 (by omega) hL) dL_law_742 rfl ?_
  refine l_callCi h 746 cs_L_79 (ct_X8_reading _ h1) rfl rfl (Nat.le_of_ble_eq_true rfl) ⟨Nat.le_of_ble_eq_true rfl, Nat.le_of_ble_eq_true rfl⟩ dL_law_743 rfl ?_
  refine l_al2 h 747 dL_law_746 rfl ?_
  refine l_al0 h 748 dL_law_747 rfl ?_
  refine l_il3 h 749 dL_law_748 rfl ?_
  refine l_iconst h 750 ic_1 dL_law_749 rfl ?_
  refine l_iadd h 751 dL_law_750 rfl ?_
  refine l_sld h 752 (my_pin nj_1 (by omega) hL) dL_law_751 rfl ?_
  refine l_al0 h 753 dL_law_752 rfl ?_
  refine l_il3 h 754 dL_law_753 rfl ?_
  refine l_iconst h 755 ic_2 dL_law_754 rfl ?_
  refine l_iadd h 756 dL_law_755 rfl ?_
  refine l_sld h 757 (my_pin nj_2 (by omega) hL) dL_law_756 rfl ?_
  refine l_al0 h 758 dL_law_757 rfl ?_
  refine l_il3 h 759 dL_law_758 rfl ?_
  refine l_iconst h 760 ic_3 dL_law_759 rfl ?_
  refine l_iadd h 761 dL_law_760 rfl ?_
  refine l_sld h 762 (my_pin nj_3 (by omega) hL) dL_law_761 rfl ?_
  refine l_al0 h 763 dL_law_762 rfl ?_
  refine l_il3 h 764 dL_law_763 rfl ?_
  refine l_iconst h 765 ic_4 dL_law_764 rfl ?_
  refine l_iadd h 766 dL_law_765 rfl ?_
  refine l_sld h 767 (my_pin nj_4 (by omega) hL) dL_law_766 rfl ?_
  refine l_al0 h 768 dL_law_767 rfl ?_
  refine l_il3 h 769 dL_law_768 rfl ?_
  refine l_iconst h 770 ic_5 dL_law_769 rfl ?_
  refine l_iadd h 771 dL_law_770 rfl ?_
  refine l_sld h 772 (my_pin nj_5 (by omega) hL) dL_law_771 rfl ?_
  refine l_callRi h 775 cs_L_82 (ct_X9_reading _ h2) rfl rfl (Nat.le_of_ble_eq_true rfl) ⟨Nat.le_of_ble_eq_true rfl, Nat.le_of_ble_eq_true rfl⟩ dL_law_772 rfl ?_
  exact l_same h 1247 dL_law_775 (by decide) hk
set_option maxHeartbeats 1000000 in
theorem lc_case_16 (h : my_OL X l D cA iC iR b L xs) (hL : L ≤ 3072) {i : Nat} (hi : i + 6 ≤ L) {σ ρ σ1 ρ1 : my_M} {r : Int32} (h1 : f_X8_back σ (xs (nI i + 1).toNatClampNeg) = some (r, σ1)) (h2 : f_X9_back ρ (xs (nI i + 1).toNatClampNeg) = some (r, ρ1)) (hk : GoL X l D cA iC iR σ1 ρ1 1247 [some (.ref b), some (.ref (iC 0)), some (.ref (iR 0)), some (.int (nI i))] []) : GoL X l D cA iC iR σ ρ 780 [some (.ref b), some (.ref (iC 0)), some (.ref (iR 0)), some (.int (nI i))] [] := by
  refine l_al1 h 781 dL_law_780 rfl ?_
  refine l_al0 h 782 dL_law_781 rfl ?_
  refine l_il3 h 783 dL_law_782 rfl ?_
  refine l_iconst h 784 ic_1 dL_law_783 rfl ?_
  refine l_iadd h 785 dL_law_784 rfl ?_
  refine l_sld h 786 (my_pin nj_1 (by omega) hL) dL_law_785 rfl ?_
  refine l_callCi h 789 cs_L_83 (ct_X8_back _ h1) rfl rfl (Nat.le_of_ble_eq_true rfl) ⟨Nat.le_of_ble_eq_true rfl, Nat.le_of_ble_eq_true rfl⟩ dL_law_786 rfl ?_
  refine l_al2 h 790 dL_law_789 rfl ?_
  refine l_al0 h 791 dL_law_790 rfl ?_
  refine l_il3 h 792 dL_law_791 rfl ?_
  refine l_iconst h 793 ic_1 dL_law_792 rfl ?_
  refine l_iadd h 794 dL_law_793 rfl ?_
  refine l_sld h 795 (my_pin nj_1 (by omega) hL) dL_law_794 rfl ?_
  refine l_callRi h 798 cs_L_86 (ct_X9_back _ h2) rfl rfl (Nat.le_of_ble_eq_true rfl) ⟨Nat.le_of_ble_eq_true rfl, Nat.le_of_ble_eq_true rfl⟩ dL_law_795 rfl ?_
  exact l_same h 1247 dL_law_798 (by decide) hk
set_option maxHeartbeats 1000000 in
theorem lc_case_17 (h : my_OL X l D cA iC iR b L xs) (hL : L ≤ 3072) {i : Nat} (hi : i + 6 ≤ L) {σ ρ σ1 ρ1 : my_M} {r : Int32} (h1 : f_X8_kinds σ (xs (nI i + 1).toNatClampNeg) = some (r, σ1)) (h2 : f_X9_kinds ρ (xs (nI i + 1).toNatClampNeg) = some (r, ρ1)) (hk : GoL X l D cA iC iR σ1 ρ1 1247 [some (.ref b), some (.ref (iC 0)), some (.ref (iR 0)), some (.int (nI i))] []) : GoL X l D cA iC iR σ ρ 803 [some (.ref b), some (.ref (iC 0)), some (.ref (iR 0)), some (.int (nI i))] [] := by
  refine l_al1 h 804 dL_law_803 rfl ?_
  refine l_al0 h 805 dL_law_804 rfl ?_
  refine l_il3 h 806 dL_law_805 rfl ?_
  refine l_iconst h 807 ic_1 dL_law_806 rfl ?_
  refine l_iadd h 808 dL_law_807 rfl ?_
  refine l_sld h 809 (my_pin nj_1 (by omega) hL) dL_law_808 rfl ?_
  refine l_callCi h 812 cs_L_87 (ct_X8_kinds _ h1) rfl rfl (Nat.le_of_ble_eq_true rfl) ⟨Nat.le_of_ble_eq_true rfl, Nat.le_of_ble_eq_true rfl⟩ dL_law_809 rfl ?_
  refine l_al2 h 813 dL_law_812 rfl ?_
  refine l_al0 h 814 dL_law_813 rfl ?_
  refine l_il3 h 815 dL_law_814 rfl ?_
  refine l_iconst h 816 ic_1 dL_law_815 rfl ?_
  refine l_iadd h 817 dL_law_816 rfl ?_
  refine l_sld h 818 (my_pin nj_1 (by omega) hL) dL_law_817 rfl ?_
  refine l_callRi h 821 cs_L_90 (ct_X9_kinds _ h2) rfl rfl (Nat.le_of_ble_eq_true rfl) ⟨Nat.le_of_ble_eq_true rfl, Nat.le_of_ble_eq_true rfl⟩ dL_law_818 rfl ?_
  exact l_same h 1247 dL_law_821 (by decide) hk
set_option maxHeartbeats 1000000 in
theorem lc_case_18 (h : my_OL X l D cA iC iR b L xs) (hL : L ≤ 3072) {i : Nat} (hi : i + 6 ≤ L) {σ ρ σ1 ρ1 : my_M} {r : Int32} (h1 : f_X8_pitches σ (xs (nI i + 1).toNatClampNeg) (xs (nI i + 2).toNatClampNeg) = some (r, σ1)) (h2 : f_X9_pitches ρ (xs (nI i + 1).toNatClampNeg) (xs (nI i + 2).toNatClampNeg) = some (r, ρ1)) (hk : GoL X l D cA iC iR σ1 ρ1 1247 [some (.ref b), some (.ref (iC 0)), some (.ref (iR 0)), some (.int (nI i))] []) : GoL X l D cA iC iR σ ρ 826 [some (.ref b), some (.ref (iC 0)), some (.ref (iR 0)), some (.int (nI i))] [] := by
  refine l_al1 h 827 dL_law_826 rfl ?_
  refine l_al0 h 828 dL_law_827 rfl ?_
  refine l_il3 h 829 dL_law_828 rfl ?_
  refine l_iconst h 830 ic_1 dL_law_829 rfl ?_
  refine l_iadd h 831 dL_law_830 rfl ?_
  refine l_sld h 832 (my_pin nj_1 (by omega) hL) dL_law_831 rfl ?_
  refine l_al0 h 833 dL_law_832 rfl ?_
  refine l_il3 h 834 dL_law_833 rfl ?_
  refine l_iconst h 835 ic_2 dL_law_834 rfl ?_
  refine l_iadd h 836 dL_law_835 rfl ?_
  refine l_sld h 837 (my_pin nj_2 (by omega) hL) dL_law_836 rfl ?_
  refine l_callCi h 840 cs_L_91 (ct_X8_pitches _ h1) rfl rfl (Nat.le_of_ble_eq_true rfl) ⟨Nat.le_of_ble_eq_true rfl, Nat.le_of_ble_eq_true rfl⟩ dL_law_837 rfl ?_
  refine l_al2 h 841 dL_law_840 rfl ?_
  refine l_al0 h 842 dL_law_841 rfl ?_
  refine l_il3 h 843 dL_law_842 rfl ?_
  refine l_iconst h 844 ic_1 dL_law_843 rfl ?_
  refine l_iadd h 845 dL_law_844 rfl ?_
  refine l_sld h 846 (my_pin nj_1 (by omega) hL) dL_law_845 rfl ?_
  refine l_al0 h 847 dL_law_846 rfl ?_
  refine l_il3 h 848 dL_law_847 rfl ?_
  refine l_iconst h 849 ic_2 dL_law_848 rfl ?_
  refine l_iadd h 850 dL_law_849 rfl ?_
  refine l_sld h 851 (my_pin nj_2 (by omega) hL) dL_law_850 rfl ?_
  refine l_callRi h 854 cs_L_94 (ct_X9_pitches _ h2) rfl rfl (Nat.le_of_ble_eq_true rfl) ⟨Nat.le_of_ble_eq_true rfl, Nat.le_of_ble_eq_true rfl⟩ dL_law_851 rfl ?_
  exact l_same h 1247 dL_law_854 (by decide) hk
set_option maxHeartbeats 1000000 in
theorem lc_case_19 (h : my_OL X l D cA iC iR b L xs) (hL : L ≤ 3072) {i : Nat} (hi : i + 6 ≤ L) {σ ρ σ1 ρ1 : my_M} {r : Int64} (h1 : f_X8_odds σ (xs (nI i + 1).toNatClampNeg) (xs (nI i + 2).toNatClampNeg) (xs (nI i + 3).toNatClampNeg) = some (r, σ1)) (h2 : f_X9_odds ρ (xs (nI i + 1).toNatClampNeg) (xs (nI i + 2).toNatClampNeg) (xs (nI i + 3).toNatClampNeg) = some (r, ρ1)) (hk : GoL X l D cA iC iR σ1 ρ1 1247 [some (.ref b), some (.ref (iC 0)), some (.ref (iR 0)), some (.int (nI i))] []) : GoL X l D cA iC iR σ ρ 859 [some (.ref b), some (.ref (iC 0)), some (.ref (iR 0)), some (.int (nI i))] [] := by
  refine l_al1 h 860 dL_law_859 rfl ?_
  refine l_al0 h 861 dL_law_860 rfl ?_
  refine l_il3 h 862 dL_law_861 rfl ?_
  refine l_iconst h 863 ic_1 dL_law_862 rfl ?_
  refine l_iadd h 864 dL_law_863 rfl ?_
  refine l_sld h 865 (my_pin nj_1 (by omega) hL) dL_law_864 rfl ?_
  refine l_al0 h 866 dL_law_865 rfl ?_
  refine l_il3 h 867 dL_law_866 rfl ?_
  refine l_iconst h 868 ic_2 dL_law_867 rfl ?_
  refine l_iadd h 869 dL_law_868 rfl ?_
  refine l_sld h 870 (my_pin nj_2 (by omega) hL) dL_law_869 rfl ?_
  refine l_al0 h 871 dL_law_870 rfl ?_
  refine l_il3 h 872 dL_law_871 rfl ?_
  refine l_iconst h 873 ic_3 dL_law_872 rfl ?_
  refine l_iadd h 874 dL_law_873 rfl ?_
  refine l_sld h 875 (my_pin nj_3 (by omega) hL) dL_law_874 rfl ?_
  refine l_callCl h 878 cs_L_95 (ct_X8_odds _ h1) rfl rfl (Nat.le_of_ble_eq_true rfl) ⟨Nat.le_of_ble_eq_true rfl, Nat.le_of_ble_eq_true rfl⟩ dL_law_875 rfl ?_
  refine l_al2 h 879 dL_law_878 rfl ?_
  refine l_al0 h 880 dL_law_879 rfl ?_
  refine l_il3 h 881 dL_law_880 rfl ?_
  refine l_iconst h 882 ic_1 dL_law_881 rfl ?_
  refine l_iadd h 883 dL_law_882 rfl ?_
  refine l_sld h 884 (my_pin nj_1 (by omega) hL) dL_law_883 rfl ?_
  refine l_al0 h 885 dL_law_884 rfl ?_
  refine l_il3 h 886 dL_law_885 rfl ?_
  refine l_iconst h 887 ic_2 dL_law_886 rfl ?_
  refine l_iadd h 888 dL_law_887 rfl ?_
  refine l_sld h 889 (my_pin nj_2 (by omega) hL) dL_law_888 rfl ?_
  refine l_al0 h 890 dL_law_889 rfl ?_
  refine l_il3 h 891 dL_law_890 rfl ?_
  refine l_iconst h 892 ic_3 dL_law_891 rfl ?_
  refine l_iadd h 893 dL_law_892 rfl ?_
  refine l_sld h 894 (my_pin nj_3 (by omega) hL) dL_law_893 rfl ?_
  refine l_callRl h 897 cs_L_99 (ct_X9_odds _ h2) rfl rfl (Nat.le_of_ble_eq_true rfl) ⟨Nat.le_of_ble_eq_true rfl, Nat.le_of_ble_eq_true rfl⟩ dL_law_894 rfl ?_
  exact l_sameL h 1247 dL_law_897 dL_law_898 (by decide) hk
set_option maxHeartbeats 1000000 in
theorem lc_case_20 (h : my_OL X l D cA iC iR b L xs) (hL : L ≤ 3072) {i : Nat} (hi : i + 6 ≤ L) {σ ρ σ1 ρ1 : my_M} {r : Int32} (h1 : f_X8_sheet σ (xs (nI i + 1).toNatClampNeg) (xs (nI i + 2).toNatClampNeg) (xs (nI i + 3).toNatClampNeg) = some (r, σ1)) (h2 : f_X9_sheet ρ (xs (nI i + 1).toNatClampNeg) (xs (nI i + 2).toNatClampNeg) (xs (nI i + 3).toNatClampNeg) = some (r, ρ1)) (hk : GoL X l D cA iC iR σ1 ρ1 1247 [some (.ref b), some (.ref (iC 0)), some (.ref (iR 0)), some (.int (nI i))] []) : GoL X l D cA iC iR σ ρ 903 [some (.ref b), some (.ref (iC 0)), some (.ref (iR 0)), some (.int (nI i))] [] := by
  refine l_al1 h 904 dL_law_903 rfl ?_
  refine l_al0 h 905 dL_law_904 rfl ?_
  refine l_il3 h 906 dL_law_905 rfl ?_
  refine l_iconst h 907 ic_1 dL_law_906 rfl ?_
  refine l_iadd h 908 dL_law_907 rfl ?_
  refine l_sld h 909 (my_pin nj_1 (by omega) hL) dL_law_908 rfl ?_
  refine l_al0 h 910 dL_law_909 rfl ?_
  refine l_il3 h 911 dL_law_910 rfl ?_
  refine l_iconst h 912 ic_2 dL_law_911 rfl ?_
  refine l_iadd h 913 dL_law_912 rfl ?_
  refine l_sld h 914 (my_pin nj_2 (by omega) hL) dL_law_913 rfl ?_
  refine l_al0 h 915 dL_law_914 rfl ?_
  refine l_il3 h 916 dL_law_915 rfl ?_
  refine l_iconst h 917 ic_3 dL_law_916 rfl ?_
  refine l_iadd h 918 dL_law_917 rfl ?_
  refine l_sld h 919 (my_pin nj_3 (by omega) hL) dL_law_918 rfl ?_
  refine l_callCi h 922 cs_L_100 (ct_X8_sheet _ h1) rfl rfl (Nat.le_of_ble_eq_true rfl) ⟨Nat.le_of_ble_eq_true rfl, Nat.le_of_ble_eq_true rfl⟩ dL_law_919 rfl ?_
  refine l_al2 h 923 dL_law_922 rfl ?_
  refine l_al0 h 924 dL_law_923 rfl ?_
  refine l_il3 h 925 dL_law_924 rfl ?_
  refine l_iconst h 926 ic_1 dL_law_925 rfl ?_
  refine l_iadd h 927 dL_law_926 rfl ?_
  refine l_sld h 928 (my_pin nj_1 (by omega) hL) dL_law_927 rfl ?_
  refine l_al0 h 929 dL_law_928 rfl ?_
  refine l_il3 h 930 dL_law_929 rfl ?_
  refine l_iconst h 931 ic_2 dL_law_930 rfl ?_
  refine l_iadd h 932 dL_law_931 rfl ?_
  refine l_sld h 933 (my_pin nj_2 (by omega) hL) dL_law_932 rfl ?_
  refine l_al0 h 934 dL_law_933 rfl ?_
  refine l_il3 h 935 dL_law_934 rfl ?_
  refine l_iconst h 936 ic_3 dL_law_935 rfl ?_
  refine l_iadd h 937 dL_law_936 rfl ?_
  refine l_sld h 938 (my_pin nj_3 (by omega) hL) dL_law_937 rfl ?_
  refine l_callRi h 941 cs_L_103 (ct_X9_sheet _ h2) rfl rfl (Nat.le_of_ble_eq_true rfl) ⟨Nat.le_of_ble_eq_true rfl, Nat.le_of_ble_eq_true rfl⟩ dL_law_938 rfl ?_
  exact l_same h 1247 dL_law_941 (by decide) hk
set_option maxHeartbeats 1000000 in
theorem lc_case_21 (h : my_OL X l D cA iC iR b L xs) (hL : L ≤ 3072) {i : Nat} (hi : i + 6 ≤ L) {σ ρ σ1 ρ1 : my_M} {r : Int32} (h1 : f_X8_lose σ (xs (nI i + 1).toNatClampNeg) = some (r, σ1)) (h2 : f_X9_lose ρ (xs (nI i + 1).toNatClampNeg) = some (r, ρ1)) (hk : GoL X l D cA iC iR σ1 ρ1 1247 [some (.ref b), some (.ref (iC 0)), some (.ref (iR 0)), some (.int (nI i))] []) : GoL X l D cA iC iR σ ρ 946 [some (.ref b), some (.ref (iC 0)), some (.ref (iR 0)), some (.int (nI i))] [] := by
  refine l_al1 h 947 dL_law_946 rfl ?_
  refine l_al0 h 948 dL_law_947 rfl ?_
  refine l_il3 h 949 dL_law_948 rfl ?_
  refine l_iconst h 950 ic_1 dL_law_949 rfl ?_
  refine l_iadd h 951 dL_law_950 rfl ?_
  refine l_sld h 952 (my_pin nj_1 (by omega) hL) dL_law_951 rfl ?_
  refine l_callCi h 955 cs_L_104 (ct_X8_lose _ h1) rfl rfl (Nat.le_of_ble_eq_true rfl) ⟨Nat.le_of_ble_eq_true rfl, Nat.le_of_ble_eq_true rfl⟩ dL_law_952 rfl ?_
  refine l_al2 h 956 dL_law_955 rfl ?_
  refine l_al0 h 957 dL_law_956 rfl ?_
  refine l_il3 h 958 dL_law_957 rfl ?_
  refine l_iconst h 959 ic_1 dL_law_958 rfl ?_
  refine l_iadd h 960 dL_law_959 rfl ?_
  refine l_sld h 961 (my_pin nj_1 (by omega) hL) dL_law_960 rfl ?_
  refine l_callRi h 964 cs_L_107 (ct_X9_lose _ h2) rfl rfl (Nat.le_of_ble_eq_true rfl) ⟨Nat.le_of_ble_eq_true rfl, Nat.le_of_ble_eq_true rfl⟩ dL_law_961 rfl ?_
  exact l_same h 1247 dL_law_964 (by decide) hk
set_option maxHeartbeats 1000000 in
theorem lc_case_22 (h : my_OL X l D cA iC iR b L xs) (hL : L ≤ 3072) {i : Nat} (hi : i + 6 ≤ L) {σ ρ σ1 ρ1 : my_M} {r : Int32} (h1 : f_X8_put σ (xs (nI i + 1).toNatClampNeg) (xs (nI i + 2).toNatClampNeg) (xs (nI i + 3).toNatClampNeg) = some (r, σ1)) (h2 : f_X9_put ρ (xs (nI i + 1).toNatClampNeg) (xs (nI i + 2).toNatClampNeg) (xs (nI i + 3).toNatClampNeg) = some (r, ρ1)) (hk : GoL X l D cA iC iR σ1 ρ1 1247 [some (.ref b), some (.ref (iC 0)), some (.ref (iR 0)), some (.int (nI i))] []) : GoL X l D cA iC iR σ ρ 969 [some (.ref b), some (.ref (iC 0)), some (.ref (iR 0)), some (.int (nI i))] [] := by
  refine l_al1 h 970 dL_law_969 rfl ?_
  refine l_al0 h 971 dL_law_970 rfl ?_
  refine l_il3 h 972 dL_law_971 rfl ?_
  refine l_iconst h 973 ic_1 dL_law_972 rfl ?_
  refine l_iadd h 974 dL_law_973 rfl ?_
  refine l_sld h 975 (my_pin nj_1 (by omega) hL) dL_law_974 rfl ?_
  refine l_al0 h 976 dL_law_975 rfl ?_
  refine l_il3 h 977 dL_law_976 rfl ?_
  refine l_iconst h 978 ic_2 dL_law_977 rfl ?_
  refine l_iadd h 979 dL_law_978 rfl ?_
  refine l_sld h 980 (my_pin nj_2 (by omega) hL) dL_law_979 rfl ?_
  refine l_al0 h 981 dL_law_980 rfl ?_
  refine l_il3 h 982 dL_law_981 rfl ?_
  refine l_iconst h 983 ic_3 dL_law_982 rfl ?_
  refine l_iadd h 984 dL_law_983 rfl ?_
  refine l_sld h 985 (my_pin nj_3 (by omega) hL) dL_law_984 rfl ?_
  refine l_callCi h 988 cs_L_108 (ct_X8_put _ h1) rfl rfl (Nat.le_of_ble_eq_true rfl) ⟨Nat.le_of_ble_eq_true rfl, Nat.le_of_ble_eq_true rfl⟩ dL_law_985 rfl ?_
  refine l_al2 h 989 dL_law_988 rfl ?_
  refine l_al0 h 990 dL_law_989 rfl ?_
  refine l_il3 h 991 dL_law_990 rfl ?_
  refine l_iconst h 992 ic_1 dL_law_991 rfl ?_
  refine l_iadd h 993 dL_law_992 rfl ?_
  refine l_sld h 994 (my_pin nj_1 (by omega) hL) dL_law_993 rfl ?_
  refine l_al0 h 995 dL_law_994 rfl ?_
  refine l_il3 h 996 dL_law_995 rfl ?_
  refine l_iconst h 997 ic_2 dL_law_996 rfl ?_
  refine l_iadd h 998 dL_law_997 rfl ?_
  refine l_sld h 999 (my_pin nj_2 (by omega) hL) dL_law_998 rfl ?_
  refine l_al0 h 1000 dL_law_999 rfl ?_
  refine l_il3 h 1001 dL_law_1000 rfl ?_
  refine l_iconst h 1002 ic_3 dL_law_1001 rfl ?_
  refine l_iadd h 1003 dL_law_1002 rfl ?_
  refine l_sld h 1004 (my_pin nj_3 (by omega) hL) dL_law_1003 rfl ?_
  refine l_callRi h 1007 cs_L_111 (ct_X9_put _ h2) rfl rfl (Nat.le_of_ble_eq_true rfl) ⟨Nat.le_of_ble_eq_true rfl, Nat.le_of_ble_eq_true rfl⟩ dL_law_1004 rfl ?_
  exact l_same h 1247 dL_law_1007 (by decide) hk
set_option maxHeartbeats 1000000 in
theorem lc_case_23 (h : my_OL X l D cA iC iR b L xs) (hL : L ≤ 3072) {i : Nat} (hi : i + 6 ≤ L) {σ ρ σ1 ρ1 : my_M} {r : Int64} (h1 : f_X8_cell σ (xs (nI i + 1).toNatClampNeg) (xs (nI i + 2).toNatClampNeg) (xs (nI i + 3).toNatClampNeg) = some (r, σ1)) (h2 : f_X9_cell ρ (xs (nI i + 1).toNatClampNeg) (xs (nI i + 2).toNatClampNeg) (xs (nI i + 3).toNatClampNeg) = some (r, ρ1)) (hk : GoL X l D cA iC iR σ1 ρ1 1247 [some (.ref b), some (.ref (iC 0)), some (.ref (iR 0)), some (.int (nI i))] []) : GoL X l D cA iC iR σ ρ 1012 [some (.ref b), some (.ref (iC 0)), some (.ref (iR 0)), some (.int (nI i))] [] := by
  refine l_al1 h 1013 dL_law_1012 rfl ?_
  refine l_al0 h 1014 dL_law_1013 rfl ?_
  refine l_il3 h 1015 dL_law_1014 rfl ?_
  refine l_iconst h 1016 ic_1 dL_law_1015 rfl ?_
  refine l_iadd h 1017 dL_law_1016 rfl ?_
  refine l_sld h 1018 (my_pin nj_1 (by omega) hL) dL_law_1017 rfl ?_
  refine l_al0 h 1019 dL_law_1018 rfl ?_
  refine l_il3 h 1020 dL_law_1019 rfl ?_
  refine l_iconst h 1021 ic_2 dL_law_1020 rfl ?_
  refine l_iadd h 1022 dL_law_1021 rfl ?_
  refine l_sld h 1023 (my_pin nj_2 (by omega) hL) dL_law_1022 rfl ?_
  refine l_al0 h 1024 dL_law_1023 rfl ?_
  refine l_il3 h 1025 dL_law_1024 rfl ?_
  refine l_iconst h 1026 ic_3 dL_law_1025 rfl ?_
  refine l_iadd h 1027 dL_law_1026 rfl ?_
  refine l_sld h 1028 (my_pin nj_3 (by omega) hL) dL_law_1027 rfl ?_
  refine l_callCl h 1031 cs_L_112 (ct_X8_cell _ h1) rfl rfl (Nat.le_of_ble_eq_true rfl) ⟨Nat.le_of_ble_eq_true rfl, Nat.le_of_ble_eq_true rfl⟩ dL_law_1028 rfl ?_
  refine l_al2 h 1032 dL_law_1031 rfl ?_
  refine l_al0 h 1033 dL_law_1032 rfl ?_
  refine l_il3 h 1034 dL_law_1033 rfl ?_
  refine l_iconst h 1035 ic_1 dL_law_1034 rfl ?_
  refine l_iadd h 1036 dL_law_1035 rfl ?_
  refine l_sld h 1037 (my_pin nj_1 (by omega) hL) dL_law_1036 rfl ?_
  refine l_al0 h 1038 dL_law_1037 rfl ?_
  refine l_il3 h 1039 dL_law_1038 rfl ?_
  refine l_iconst h 1040 ic_2 dL_law_1039 rfl ?_
  refine l_iadd h 1041 dL_law_1040 rfl ?_
  refine l_sld h 1042 (my_pin nj_2 (by omega) hL) dL_law_1041 rfl ?_
  refine l_al0 h 1043 dL_law_1042 rfl ?_
  refine l_il3 h 1044 dL_law_1043 rfl ?_
  refine l_iconst h 1045 ic_3 dL_law_1044 rfl ?_
  refine l_iadd h 1046 dL_law_1045 rfl ?_
  refine l_sld h 1047 (my_pin nj_3 (by omega) hL) dL_law_1046 rfl ?_
  refine l_callRl h 1050 cs_L_115 (ct_X9_cell _ h2) rfl rfl (Nat.le_of_ble_eq_true rfl) ⟨Nat.le_of_ble_eq_true rfl, Nat.le_of_ble_eq_true rfl⟩ dL_law_1047 rfl ?_
  exact l_sameL h 1247 dL_law_1050 dL_law_1051 (by decide) hk
set_option maxHeartbeats 1000000 in
theorem lc_case_24 (h : my_OL X l D cA iC iR b L xs) (hL : L ≤ 3072) {i : Nat} (hi : i + 6 ≤ L) {σ ρ σ1 ρ1 : my_M} {r : Int32} (h1 : f_X8_copy σ (xs (nI i + 1).toNatClampNeg) (xs (nI i + 2).toNatClampNeg) (xs (nI i + 3).toNatClampNeg) (xs (nI i + 4).toNatClampNeg) (xs (nI i + 5).toNatClampNeg) = some (r, σ1)) (h2 : f_X9_copy ρ (xs (nI i + 1).toNatClampNeg) (xs (nI i + 2).toNatClampNeg) (xs (nI i + 3).toNatClampNeg) (xs (nI i + 4).toNatClampNeg) (xs (nI i + 5).toNatClampNeg) = some (r, ρ1)) (hk : GoL X l D cA iC iR σ1 ρ1 1247 [some (.ref b), some (.ref (iC 0)), some (.ref (iR 0)), some (.int (nI i))] []) : GoL X l D cA iC iR σ ρ 1056 [some (.ref b), some (.ref (iC 0)), some (.ref (iR 0)), some (.int (nI i))] [] := by
  refine l_al1 h 1057 dL_law_1056 rfl ?_
  refine l_al0 h 1058 dL_law_1057 rfl ?_
  refine l_il3 h 1059 dL_law_1058 rfl ?_
  refine l_iconst h 1060 ic_1 dL_law_1059 rfl ?_
  refine l_iadd h 1061 dL_law_1060 rfl ?_
  refine l_sld h 1062 (my_pin nj_1 (by omega) hL) dL_law_1061 rfl ?_
  refine l_al0 h 1063 dL_law_1062 rfl ?_
  refine l_il3 h 1064 dL_law_1063 rfl ?_
  refine l_iconst h 1065 ic_2 dL_law_1064 rfl ?_
  refine l_iadd h 1066 dL_law_1065 rfl ?_
  refine l_sld h 1067 (my_pin nj_2 (by omega) hL) dL_law_1066 rfl ?_
  refine l_al0 h 1068 dL_law_1067 rfl ?_
  refine l_il3 h 1069 dL_law_1068 rfl ?_
  refine l_iconst h 1070 ic_3 dL_law_1069 rfl ?_
  refine l_iadd h 1071 dL_law_1070 rfl ?_
  refine l_sld h 1072 (my_pin nj_3 (by omega) hL) dL_law_1071 rfl ?_
  refine l_al0 h 1073 dL_law_1072 rfl ?_
  refine l_il3 h 1074 dL_law_1073 rfl ?_
  refine l_iconst h 1075 ic_4 dL_law_1074 rfl ?_
  refine l_iadd h 1076 dL_law_1075 rfl ?_
  refine l_sld h 1077 (my_pin nj_4 (by omega) hL) dL_law_1076 rfl ?_
  refine l_al0 h 1078 dL_law_1077 rfl ?_
  refine l_il3 h 1079 dL_law_1078 rfl ?_
  refine l_iconst h 1080 ic_5 dL_law_1079 rfl ?_
  refine l_iadd h 1081 dL_law_1080 rfl ?_
  refine l_sld h 1082 (my_pin nj_5 (by omega) hL) dL_law_1081 rfl ?_
  refine l_callCi h 1085 cs_L_116 (ct_X8_copy _ h1) rfl rfl (Nat.le_of_ble_eq_true rfl) ⟨Nat.le_of_ble_eq_true rfl, Nat.le_of_ble_eq_true rfl⟩ dL_law_1082 rfl ?_
  refine l_al2 h 1086 dL_law_1085 rfl ?_
  refine l_al0 h 1087 dL_law_1086 rfl ?_
  refine l_il3 h 1088 dL_law_1087 rfl ?_
  refine l_iconst h 1089 ic_1 dL_law_1088 rfl ?_
  refine l_iadd h 1090 dL_law_1089 rfl ?_
  refine l_sld h 1091 (my_pin nj_1 (by omega) hL) dL_law_1090 rfl ?_
  refine l_al0 h 1092 dL_law_1091 rfl ?_
  refine l_il3 h 1093 dL_law_1092 rfl ?_
  refine l_iconst h 1094 ic_2 dL_law_1093 rfl ?_
  refine l_iadd h 1095 dL_law_1094 rfl ?_
  refine l_sld h 1096 (my_pin nj_2 (by omega) hL) dL_law_1095 rfl ?_
  refine l_al0 h 1097 dL_law_1096 rfl ?_
  refine l_il3 h 1098 dL_law_1097 rfl ?_
  refine l_iconst h 1099 ic_3 dL_law_1098 rfl ?_
  refine l_iadd h 1100 dL_law_1099 rfl ?_
  refine l_sld h 1101 (my_pin nj_3 (by omega) hL) dL_law_1100 rfl ?_
  refine l_al0 h 1102 dL_law_1101 rfl ?_
  refine l_il3 h 1103 dL_law_1102 rfl ?_
  refine l_iconst h 1104 ic_4 dL_law_1103 rfl ?_
  refine l_iadd h 1105 dL_law_1104 rfl ?_
  refine l_sld h 1106 (my_pin nj_4 (by omega) hL) dL_law_1105 rfl ?_
  refine l_al0 h 1107 dL_law_1106 rfl ?_
  refine l_il3 h 1108 dL_law_1107 rfl ?_
  refine l_iconst h 1109 ic_5 dL_law_1108 rfl ?_
  refine l_iadd h 1110 dL_law_1109 rfl ?_
  refine l_sld h 1111 (my_pin nj_5 (by omega) hL) dL_law_1110 rfl ?_
  refine l_callRi h 1114 cs_L_119 (ct_X9_copy _ h2) rfl rfl (Nat.le_of_ble_eq_true rfl) ⟨Nat.le_of_ble_eq_true rfl, Nat.le_of_ble_eq_true rfl⟩ dL_law_1111 rfl ?_
  exact l_same h 1247 dL_law_1114 (by decide) hk
set_option maxHeartbeats 1000000 in
theorem lc_case_25 (h : my_OL X l D cA iC iR b L xs) (hL : L ≤ 3072) {i : Nat} (hi : i + 6 ≤ L) {σ ρ σ1 ρ1 : my_M} {r : Int32} (h1 : f_X8_tell σ (xs (nI i + 1).toNatClampNeg) = some (r, σ1)) (h2 : f_X9_tell ρ (xs (nI i + 1).toNatClampNeg) = some (r, ρ1)) (hk : GoL X l D cA iC iR σ1 ρ1 1247 [some (.ref b), some (.ref (iC 0)), some (.ref (iR 0)), some (.int (nI i))] []) : GoL X l D cA iC iR σ ρ 1119 [some (.ref b), some (.ref (iC 0)), some (.ref (iR 0)), some (.int (nI i))] [] := by
  refine l_al1 h 1120 dL_law_1119 rfl ?_
  refine l_al0 h 1121 dL_law_1120 rfl ?_
  refine l_il3 h 1122 dL_law_1121 rfl ?_
  refine l_iconst h 1123 ic_1 dL_law_1122 rfl ?_
  refine l_iadd h 1124 dL_law_1123 rfl ?_
  refine l_sld h 1125 (my_pin nj_1 (by omega) hL) dL_law_1124 rfl ?_
  refine l_callCi h 1128 cs_L_120 (ct_X8_tell _ h1) rfl rfl (Nat.le_of_ble_eq_true rfl) ⟨Nat.le_of_ble_eq_true rfl, Nat.le_of_ble_eq_true rfl⟩ dL_law_1125 rfl ?_
  refine l_al2 h 1129 dL_law_1128 rfl ?_
  refine l_al0 h 1130 dL_law_1129 rfl ?_
  refine l_il3 h 1131 dL_law_1130 rfl ?_
  refine l_iconst h 1132 ic_1 dL_law_1131 rfl ?_
  refine l_iadd h 1133 dL_law_1132 rfl ?_
  refine l_sld h 1134 (my_pin nj_1 (by omega) hL) dL_law_1133 rfl ?_
  refine l_callRi h 1137 cs_L_123 (ct_X9_tell _ h2) rfl rfl (Nat.le_of_ble_eq_true rfl) ⟨Nat.le_of_ble_eq_true rfl, Nat.le_of_ble_eq_true rfl⟩ dL_law_1134 rfl ?_
  exact l_same h 1247 dL_law_1137 (by decide) hk
set_option maxHeartbeats 1000000 in
theorem lc_case_26 (h : my_OL X l D cA iC iR b L xs) (hL : L ≤ 3072) {i : Nat} (hi : i + 6 ≤ L) {σ ρ σ1 ρ1 : my_M} {r : Int32} (h1 : f_X8_hail σ (xs (nI i + 1).toNatClampNeg) = some (r, σ1)) (h2 : f_X9_hail ρ (xs (nI i + 1).toNatClampNeg) = some (r, ρ1)) (hk : GoL X l D cA iC iR σ1 ρ1 1247 [some (.ref b), some (.ref (iC 0)), some (.ref (iR 0)), some (.int (nI i))] []) : GoL X l D cA iC iR σ ρ 1142 [some (.ref b), some (.ref (iC 0)), some (.ref (iR 0)), some (.int (nI i))] [] := by
  refine l_al1 h 1143 dL_law_1142 rfl ?_
  refine l_al0 h 1144 dL_law_1143 rfl ?_
  refine l_il3 h 1145 dL_law_1144 rfl ?_
  refine l_iconst h 1146 ic_1 dL_law_1145 rfl ?_
  refine l_iadd h 1147 dL_law_1146 rfl ?_
  refine l_sld h 1148 (my_pin nj_1 (by omega) hL) dL_law_1147 rfl ?_
  refine l_callCi h 1151 cs_L_124 (ct_X8_hail _ h1) rfl rfl (Nat.le_of_ble_eq_true rfl) ⟨Nat.le_of_ble_eq_true rfl, Nat.le_of_ble_eq_true rfl⟩ dL_law_1148 rfl ?_
  refine l_al2 h 1152 dL_law_1151 rfl ?_
  refine l_al0 h 1153 dL_law_1152 rfl ?_
  refine l_il3 h 1154 dL_law_1153 rfl ?_
  refine l_iconst h 1155 ic_1 dL_law_1154 rfl ?_
  refine l_iadd h 1156 dL_law_1155 rfl ?_
  refine l_sld h 1157 (my_pin nj_1 (by omega) hL) dL_law_1156 rfl ?_
  refine l_callRi h 1160 cs_L_127 (ct_X9_hail _ h2) rfl rfl (Nat.le_of_ble_eq_true rfl) ⟨Nat.le_of_ble_eq_true rfl, Nat.le_of_ble_eq_true rfl⟩ dL_law_1157 rfl ?_
  exact l_same h 1247 dL_law_1160 (by decide) hk
set_option maxHeartbeats 1000000 in
theorem lc_case_27 (h : my_OL X l D cA iC iR b L xs) (hL : L ≤ 3072) {i : Nat} (hi : i + 6 ≤ L) {σ ρ σ1 ρ1 : my_M} {r : Int32} (h1 : f_X8_as σ (xs (nI i + 1).toNatClampNeg) (xs (nI i + 2).toNatClampNeg) = some (r, σ1)) (h2 : f_X9_as ρ (xs (nI i + 1).toNatClampNeg) (xs (nI i + 2).toNatClampNeg) = some (r, ρ1)) (hk : GoL X l D cA iC iR σ1 ρ1 1247 [some (.ref b), some (.ref (iC 0)), some (.ref (iR 0)), some (.int (nI i))] []) : GoL X l D cA iC iR σ ρ 1165 [some (.ref b), some (.ref (iC 0)), some (.ref (iR 0)), some (.int (nI i))] [] := by
  refine l_al1 h 1166 dL_law_1165 rfl ?_
  refine l_al0 h 1167 dL_law_1166 rfl ?_
  refine l_il3 h 1168 dL_law_1167 rfl ?_
  refine l_iconst h 1169 ic_1 dL_law_1168 rfl ?_
  refine l_iadd h 1170 dL_law_1169 rfl ?_
  refine l_sld h 1171 (my_pin nj_1 (by omega) hL) dL_law_1170 rfl ?_
  refine l_al0 h 1172 dL_law_1171 rfl ?_
  refine l_il3 h 1173 dL_law_1172 rfl ?_
  refine l_iconst h 1174 ic_2 dL_law_1173 rfl ?_
  refine l_iadd h 1175 dL_law_1174 rfl ?_
  refine l_sld h 1176 (my_pin nj_2 (by omega) hL) dL_law_1175 rfl ?_
  refine l_callCi h 1179 cs_L_128 (ct_X8_as _ h1) rfl rfl (Nat.le_of_ble_eq_true rfl) ⟨Nat.le_of_ble_eq_true rfl, Nat.le_of_ble_eq_true rfl⟩ dL_law_1176 rfl ?_
  refine l_al2 h 1180 dL_law_1179 rfl ?_
  refine l_al0 h 1181 dL_law_1180 rfl ?_
  refine l_il3 h 1182 dL_law_1181 rfl ?_
  refine l_iconst h 1183 ic_1 dL_law_1182 rfl ?_
  refine l_iadd h 1184 dL_law_1183 rfl ?_
  refine l_sld h 1185 (my_pin nj_1 (by omega) hL) dL_law_1184 rfl ?_
  refine l_al0 h 1186 dL_law_1185 rfl ?_
  refine l_il3 h 1187 dL_law_1186 rfl ?_
  refine l_iconst h 1188 ic_2 dL_law_1187 rfl ?_
  refine l_iadd h 1189 dL_law_1188 rfl ?_
  refine l_sld h 1190 (my_pin nj_2 (by omega) hL) dL_law_1189 rfl ?_
  refine l_callRi h 1193 cs_L_131 (ct_X9_as _ h2) rfl rfl (Nat.le_of_ble_eq_true rfl) ⟨Nat.le_of_ble_eq_true rfl, Nat.le_of_ble_eq_true rfl⟩ dL_law_1190 rfl ?_
  exact l_same h 1247 dL_law_1193 (by decide) hk
set_option maxHeartbeats 1000000 in
theorem lc_case_28 (h : my_OL X l D cA iC iR b L xs) (hL : L ≤ 3072) {i : Nat} (hi : i + 6 ≤ L) {σ ρ σ1 ρ1 : my_M} {r : Int32} (h1 : f_X8_trace σ  = some (r, σ1)) (h2 : f_X9_trace ρ  = some (r, ρ1)) (hk : GoL X l D cA iC iR σ1 ρ1 1247 [some (.ref b), some (.ref (iC 0)), some (.ref (iR 0)), some (.int (nI i))] []) : GoL X l D cA iC iR σ ρ 1198 [some (.ref b), some (.ref (iC 0)), some (.ref (iR 0)), some (.int (nI i))] [] := by
  refine l_al1 h 1199 dL_law_1198 rfl ?_
  refine l_callCi h 1202 cs_L_132 (ct_X8_trace _ h1) rfl rfl (Nat.le_of_ble_eq_true rfl) ⟨Nat.le_of_ble_eq_true rfl, Nat.le_of_ble_eq_true rfl⟩ dL_law_1199 rfl ?_
  refine l_al2 h 1203 dL_law_1202 rfl ?_
  refine l_callRi h 1206 cs_L_135 (ct_X9_trace _ h2) rfl rfl (Nat.le_of_ble_eq_true rfl) ⟨Nat.le_of_ble_eq_true rfl, Nat.le_of_ble_eq_true rfl⟩ dL_law_1203 rfl ?_
  exact l_same h 1247 dL_law_1206 (by decide) hk
set_option maxHeartbeats 1000000 in
theorem lc_case_29 (h : my_OL X l D cA iC iR b L xs) (hL : L ≤ 3072) {i : Nat} (hi : i + 6 ≤ L) {σ ρ σ1 ρ1 : my_M} {r : Int32} (h1 : f_X8_fault σ  = some (r, σ1)) (h2 : f_X9_fault ρ  = some (r, ρ1)) (hk : GoL X l D cA iC iR σ1 ρ1 1247 [some (.ref b), some (.ref (iC 0)), some (.ref (iR 0)), some (.int (nI i))] []) : GoL X l D cA iC iR σ ρ 1211 [some (.ref b), some (.ref (iC 0)), some (.ref (iR 0)), some (.int (nI i))] [] := by
  refine l_al1 h 1212 dL_law_1211 rfl ?_
  refine l_callCi h 1215 cs_L_136 (ct_X8_fault _ h1) rfl rfl (Nat.le_of_ble_eq_true rfl) ⟨Nat.le_of_ble_eq_true rfl, Nat.le_of_ble_eq_true rfl⟩ dL_law_1212 rfl ?_
  refine l_al2 h 1216 dL_law_1215 rfl ?_
  refine l_callRi h 1219 cs_L_139 (ct_X9_fault _ h2) rfl rfl (Nat.le_of_ble_eq_true rfl) ⟨Nat.le_of_ble_eq_true rfl, Nat.le_of_ble_eq_true rfl⟩ dL_law_1216 rfl ?_
  exact l_same h 1247 dL_law_1219 (by decide) hk
set_option maxHeartbeats 1000000 in
theorem lc_case_30 (h : my_OL X l D cA iC iR b L xs) (hL : L ≤ 3072) {i : Nat} (hi : i + 6 ≤ L) {σ ρ σ1 ρ1 : my_M} {r : Int32} (h1 : f_X8_many σ (xs (nI i + 1).toNatClampNeg) = some (r, σ1)) (h2 : f_X9_many ρ (xs (nI i + 1).toNatClampNeg) = some (r, ρ1)) (hk : GoL X l D cA iC iR σ1 ρ1 1247 [some (.ref b), some (.ref (iC 0)), some (.ref (iR 0)), some (.int (nI i))] []) : GoL X l D cA iC iR σ ρ 1224 [some (.ref b), some (.ref (iC 0)), some (.ref (iR 0)), some (.int (nI i))] [] := by
  refine l_al1 h 1225 dL_law_1224 rfl ?_
  refine l_al0 h 1226 dL_law_1225 rfl ?_
  refine l_il3 h 1227 dL_law_1226 rfl ?_
  refine l_iconst h 1228 ic_1 dL_law_1227 rfl ?_
  refine l_iadd h 1229 dL_law_1228 rfl ?_
  refine l_sld h 1230 (my_pin nj_1 (by omega) hL) dL_law_1229 rfl ?_
  refine l_callCi h 1233 cs_L_140 (ct_X8_many _ h1) rfl rfl (Nat.le_of_ble_eq_true rfl) ⟨Nat.le_of_ble_eq_true rfl, Nat.le_of_ble_eq_true rfl⟩ dL_law_1230 rfl ?_
  refine l_al2 h 1234 dL_law_1233 rfl ?_
  refine l_al0 h 1235 dL_law_1234 rfl ?_
  refine l_il3 h 1236 dL_law_1235 rfl ?_
  refine l_iconst h 1237 ic_1 dL_law_1236 rfl ?_
  refine l_iadd h 1238 dL_law_1237 rfl ?_
  refine l_sld h 1239 (my_pin nj_1 (by omega) hL) dL_law_1238 rfl ?_
  refine l_callRi h 1242 cs_L_143 (ct_X9_many _ h2) rfl rfl (Nat.le_of_ble_eq_true rfl) ⟨Nat.le_of_ble_eq_true rfl, Nat.le_of_ble_eq_true rfl⟩ dL_law_1239 rfl ?_
  exact l_same h 1247 dL_law_1242 (by decide) hk
/-- one turn: whatever the call is, both answer alike, and the relation stands -/
theorem lc_turn (h : my_OL X l D cA iC iR b L xs) (hL : L ≤ 3072) {i : Nat} (hi : i + 6 ≤ L) {σ ρ : my_M} (hR : Rel σ ρ) (hk : ∀ σ1 ρ1, Rel σ1 ρ1 → GoL X l D cA iC iR σ1 ρ1 1247 [some (.ref b), some (.ref (iC 0)), some (.ref (iR 0)), some (.int (nI i))] []) : GoL X l D cA iC iR σ ρ 27 [some (.ref b), some (.ref (iC 0)), some (.ref (iR 0)), some (.int (nI i))] [] := by
  refine l_al0 h 28 dL_law_27 rfl ?_
  refine l_il3 h 29 dL_law_28 rfl ?_
  refine l_sld h 30 (vp_in_nI (by omega) (by omega)) dL_law_29 rfl ?_
  refine l_bipush h 32 bpL_31 dL_law_30 rfl ?_
  refine l_iand h 33 dL_law_32 rfl ?_
  obtain ⟨j, hj, ej⟩ := pk_andE (xs (nI i).toNatClampNeg) (m := 31) 5 (by decide)
  rw [ej]
  match j, hj with
  | 0, _ =>
    obtain ⟨r, σ1, ρ1, h1, h2, h3⟩ := pr_callers hR (xs (nI i + 1).toNatClampNeg) (xs (nI i + 2).toNatClampNeg) (xs (nI i + 3).toNatClampNeg) (xs (nI i + 4).toNatClampNeg)
    refine l_sw (off := 139) h 172 dL_law_33 0 nk_0 (by decide) (by decide) rfl (by decide) ?_
    exact lc_case_0 h hL hi h1 h2 (hk σ1 ρ1 h3)
  | 1, _ =>
    obtain ⟨r, σ1, ρ1, h1, h2, h3⟩ := pr_ofCaller hR (xs (nI i + 1).toNatClampNeg) (xs (nI i + 2).toNatClampNeg)
    refine l_sw (off := 192) h 225 dL_law_33 1 nk_1 (by decide) (by decide) rfl (by decide) ?_
    exact lc_case_1 h hL hi h1 h2 (hk σ1 ρ1 h3)
  | 2, _ =>
    obtain ⟨r, σ1, ρ1, h1, h2, h3⟩ := pr_tune hR (xs (nI i + 1).toNatClampNeg) (xs (nI i + 2).toNatClampNeg) (xs (nI i + 3).toNatClampNeg)
    refine l_sw (off := 225) h 258 dL_law_33 2 nk_2 (by decide) (by decide) rfl (by decide) ?_
    exact lc_case_2 h hL hi h1 h2 (hk σ1 ρ1 h3)
  | 3, _ =>
    obtain ⟨r, σ1, ρ1, h1, h2, h3⟩ := pr_hears hR (xs (nI i + 1).toNatClampNeg) (xs (nI i + 2).toNatClampNeg) (xs (nI i + 3).toNatClampNeg) (xs (nI i + 4).toNatClampNeg)
    refine l_sw (off := 268) h 301 dL_law_33 3 nk_3 (by decide) (by decide) rfl (by decide) ?_
    exact lc_case_3 h hL hi h1 h2 (hk σ1 ρ1 h3)
  | 4, _ =>
    obtain ⟨r, σ1, ρ1, h1, h2, h3⟩ := pr_send hR (xs (nI i + 1).toNatClampNeg) (xs (nI i + 2).toNatClampNeg) (xs (nI i + 3).toNatClampNeg)
    refine l_sw (off := 321) h 354 dL_law_33 4 nk_4 (by decide) (by decide) rfl (by decide) ?_
    exact lc_case_4 h hL hi h1 h2 (hk σ1 ρ1 h3)
  | 5, _ =>
    obtain ⟨r, σ1, ρ1, h1, h2, h3⟩ := pr_unsend hR (xs (nI i + 1).toNatClampNeg)
    refine l_sw (off := 364) h 397 dL_law_33 5 nk_5 (by decide) (by decide) rfl (by decide) ?_
    exact lc_case_5 h hL hi h1 h2 (hk σ1 ρ1 h3)
  | 6, _ =>
    obtain ⟨r, σ1, ρ1, h1, h2, h3⟩ := pr_air hR (xs (nI i + 1).toNatClampNeg)
    refine l_sw (off := 387) h 420 dL_law_33 6 nk_6 (by decide) (by decide) rfl (by decide) ?_
    exact lc_case_6 h hL hi h1 h2 (hk σ1 ρ1 h3)
  | 7, _ =>
    obtain ⟨r, σ1, ρ1, h1, h2, h3⟩ := pr_listen hR (xs (nI i + 1).toNatClampNeg) (xs (nI i + 2).toNatClampNeg)
    refine l_sw (off := 410) h 443 dL_law_33 7 nk_7 (by decide) (by decide) rfl (by decide) ?_
    exact lc_case_7 h hL hi h1 h2 (hk σ1 ρ1 h3)
  | 8, _ =>
    obtain ⟨r, σ1, ρ1, h1, h2, h3⟩ := pr_loudest hR (xs (nI i + 1).toNatClampNeg) (xs (nI i + 2).toNatClampNeg)
    refine l_sw (off := 443) h 476 dL_law_33 8 nk_8 (by decide) (by decide) rfl (by decide) ?_
    exact lc_case_8 h hL hi h1 h2 (hk σ1 ρ1 h3)
  | 9, _ =>
    obtain ⟨r, σ1, ρ1, h1, h2, h3⟩ := pr_day hR (xs (nI i + 1).toNatClampNeg) (xs (nI i + 2).toNatClampNeg) (xs (nI i + 3).toNatClampNeg) (xs (nI i + 4).toNatClampNeg) (xs (nI i + 5).toNatClampNeg)
    refine l_sw (off := 476) h 509 dL_law_33 9 nk_9 (by decide) (by decide) rfl (by decide) ?_
    exact lc_case_9 h hL hi h1 h2 (hk σ1 ρ1 h3)
  | 10, _ =>
    obtain ⟨r, σ1, ρ1, h1, h2, h3⟩ := pr_peak hR (xs (nI i + 1).toNatClampNeg) (xs (nI i + 2).toNatClampNeg)
    refine l_sw (off := 539) h 572 dL_law_33 10 nk_10 (by decide) (by decide) rfl (by decide) ?_
    exact lc_case_10 h hL hi h1 h2 (hk σ1 ρ1 h3)
  | 11, _ =>
    obtain ⟨r, σ1, ρ1, h1, h2, h3⟩ := pr_clash hR (xs (nI i + 1).toNatClampNeg) (xs (nI i + 2).toNatClampNeg)
    refine l_sw (off := 572) h 605 dL_law_33 11 nk_11 (by decide) (by decide) rfl (by decide) ?_
    exact lc_case_11 h hL hi h1 h2 (hk σ1 ρ1 h3)
  | 12, _ =>
    obtain ⟨r, σ1, ρ1, h1, h2, h3⟩ := pr_rows hR
    refine l_sw (off := 605) h 638 dL_law_33 12 nk_12 (by decide) (by decide) rfl (by decide) ?_
    exact lc_case_12 h hL hi h1 h2 (hk σ1 ρ1 h3)
  | 13, _ =>
    obtain ⟨r, σ1, ρ1, h1, h2, h3⟩ := pr_ways hR (xs (nI i + 1).toNatClampNeg) (xs (nI i + 2).toNatClampNeg)
    refine l_sw (off := 618) h 651 dL_law_33 13 nk_13 (by decide) (by decide) rfl (by decide) ?_
    exact lc_case_13 h hL hi h1 h2 (hk σ1 ρ1 h3)
  | 14, _ =>
    obtain ⟨r, σ1, ρ1, h1, h2, h3⟩ := pr_next hR (xs (nI i + 1).toNatClampNeg) (xs (nI i + 2).toNatClampNeg)
    refine l_sw (off := 651) h 684 dL_law_33 14 nk_14 (by decide) (by decide) rfl (by decide) ?_
    exact lc_case_14 h hL hi h1 h2 (hk σ1 ρ1 h3)
  | 15, _ =>
    obtain ⟨r, σ1, ρ1, h1, h2, h3⟩ := pr_reading hR (xs (nI i + 1).toNatClampNeg) (xs (nI i + 2).toNatClampNeg) (xs (nI i + 3).toNatClampNeg) (xs (nI i + 4).toNatClampNeg) (xs (nI i + 5).toNatClampNeg)
    refine l_sw (off := 684) h 717 dL_law_33 15 nk_15 (by decide) (by decide) rfl (by decide) ?_
    exact lc_case_15 h hL hi h1 h2 (hk σ1 ρ1 h3)
  | 16, _ =>
    obtain ⟨r, σ1, ρ1, h1, h2, h3⟩ := pr_back hR (xs (nI i + 1).toNatClampNeg)
    refine l_sw (off := 747) h 780 dL_law_33 16 nk_16 (by decide) (by decide) rfl (by decide) ?_
    exact lc_case_16 h hL hi h1 h2 (hk σ1 ρ1 h3)
  | 17, _ =>
    obtain ⟨r, σ1, ρ1, h1, h2, h3⟩ := pr_kinds hR (xs (nI i + 1).toNatClampNeg)
    refine l_sw (off := 770) h 803 dL_law_33 17 nk_17 (by decide) (by decide) rfl (by decide) ?_
    exact lc_case_17 h hL hi h1 h2 (hk σ1 ρ1 h3)
  | 18, _ =>
    obtain ⟨r, σ1, ρ1, h1, h2, h3⟩ := pr_pitches hR (xs (nI i + 1).toNatClampNeg) (xs (nI i + 2).toNatClampNeg)
    refine l_sw (off := 793) h 826 dL_law_33 18 nk_18 (by decide) (by decide) rfl (by decide) ?_
    exact lc_case_18 h hL hi h1 h2 (hk σ1 ρ1 h3)
  | 19, _ =>
    obtain ⟨r, σ1, ρ1, h1, h2, h3⟩ := pr_odds hR (xs (nI i + 1).toNatClampNeg) (xs (nI i + 2).toNatClampNeg) (xs (nI i + 3).toNatClampNeg)
    refine l_sw (off := 826) h 859 dL_law_33 19 nk_19 (by decide) (by decide) rfl (by decide) ?_
    exact lc_case_19 h hL hi h1 h2 (hk σ1 ρ1 h3)
  | 20, _ =>
    obtain ⟨r, σ1, ρ1, h1, h2, h3⟩ := pr_sheet hR (xs (nI i + 1).toNatClampNeg) (xs (nI i + 2).toNatClampNeg) (xs (nI i + 3).toNatClampNeg)
    refine l_sw (off := 870) h 903 dL_law_33 20 nk_20 (by decide) (by decide) rfl (by decide) ?_
    exact lc_case_20 h hL hi h1 h2 (hk σ1 ρ1 h3)
  | 21, _ =>
    obtain ⟨r, σ1, ρ1, h1, h2, h3⟩ := pr_lose hR (xs (nI i + 1).toNatClampNeg)
    refine l_sw (off := 913) h 946 dL_law_33 21 nk_21 (by decide) (by decide) rfl (by decide) ?_
    exact lc_case_21 h hL hi h1 h2 (hk σ1 ρ1 h3)
  | 22, _ =>
    obtain ⟨r, σ1, ρ1, h1, h2, h3⟩ := pr_put hR (xs (nI i + 1).toNatClampNeg) (xs (nI i + 2).toNatClampNeg) (xs (nI i + 3).toNatClampNeg)
    refine l_sw (off := 936) h 969 dL_law_33 22 nk_22 (by decide) (by decide) rfl (by decide) ?_
    exact lc_case_22 h hL hi h1 h2 (hk σ1 ρ1 h3)
  | 23, _ =>
    obtain ⟨r, σ1, ρ1, h1, h2, h3⟩ := pr_cell hR (xs (nI i + 1).toNatClampNeg) (xs (nI i + 2).toNatClampNeg) (xs (nI i + 3).toNatClampNeg)
    refine l_sw (off := 979) h 1012 dL_law_33 23 nk_23 (by decide) (by decide) rfl (by decide) ?_
    exact lc_case_23 h hL hi h1 h2 (hk σ1 ρ1 h3)
  | 24, _ =>
    obtain ⟨r, σ1, ρ1, h1, h2, h3⟩ := pr_copy hR (xs (nI i + 1).toNatClampNeg) (xs (nI i + 2).toNatClampNeg) (xs (nI i + 3).toNatClampNeg) (xs (nI i + 4).toNatClampNeg) (xs (nI i + 5).toNatClampNeg)
    refine l_sw (off := 1023) h 1056 dL_law_33 24 nk_24 (by decide) (by decide) rfl (by decide) ?_
    exact lc_case_24 h hL hi h1 h2 (hk σ1 ρ1 h3)
  | 25, _ =>
    obtain ⟨r, σ1, ρ1, h1, h2, h3⟩ := pr_tell hR (xs (nI i + 1).toNatClampNeg)
    refine l_sw (off := 1086) h 1119 dL_law_33 25 nk_25 (by decide) (by decide) rfl (by decide) ?_
    exact lc_case_25 h hL hi h1 h2 (hk σ1 ρ1 h3)
  | 26, _ =>
    obtain ⟨r, σ1, ρ1, h1, h2, h3⟩ := pr_hail hR (xs (nI i + 1).toNatClampNeg)
    refine l_sw (off := 1109) h 1142 dL_law_33 26 nk_26 (by decide) (by decide) rfl (by decide) ?_
    exact lc_case_26 h hL hi h1 h2 (hk σ1 ρ1 h3)
  | 27, _ =>
    obtain ⟨r, σ1, ρ1, h1, h2, h3⟩ := pr_as hR (xs (nI i + 1).toNatClampNeg) (xs (nI i + 2).toNatClampNeg)
    refine l_sw (off := 1132) h 1165 dL_law_33 27 nk_27 (by decide) (by decide) rfl (by decide) ?_
    exact lc_case_27 h hL hi h1 h2 (hk σ1 ρ1 h3)
  | 28, _ =>
    obtain ⟨r, σ1, ρ1, h1, h2, h3⟩ := pr_trace hR
    refine l_sw (off := 1165) h 1198 dL_law_33 28 nk_28 (by decide) (by decide) rfl (by decide) ?_
    exact lc_case_28 h hL hi h1 h2 (hk σ1 ρ1 h3)
  | 29, _ =>
    obtain ⟨r, σ1, ρ1, h1, h2, h3⟩ := pr_fault hR
    refine l_sw (off := 1178) h 1211 dL_law_33 29 nk_29 (by decide) (by decide) rfl (by decide) ?_
    exact lc_case_29 h hL hi h1 h2 (hk σ1 ρ1 h3)
  | 30, _ =>
    obtain ⟨r, σ1, ρ1, h1, h2, h3⟩ := pr_many hR (xs (nI i + 1).toNatClampNeg)
    refine l_sw (off := 1191) h 1224 dL_law_33 30 nk_30 (by decide) (by decide) rfl (by decide) ?_
    exact lc_case_30 h hL hi h1 h2 (hk σ1 ρ1 h3)
  | 31, _ =>
    refine l_swO h 1247 dL_law_33 (Or.inr (by decide)) (by decide) ?_
    exact hk σ ρ hR
  | n + 32, hn => exact absurd hn (by omega)
theorem lc_loop (h : my_OL X l D cA iC iR b L xs) (hL : L ≤ 3072) : ∀ (n i : Nat) (σ ρ : my_M), i ≤ L → L + 1 ≤ i + n → Rel σ ρ → GoL X l D cA iC iR σ ρ 18 [some (.ref b), some (.ref (iC 0)), some (.ref (iR 0)), some (.int (nI i))] [] := by
  intro n
  induction n with
  | zero => intro i σ ρ h1 h2 _; exact absurd h2 (by omega)
  | succ n ih =>
    intro i σ ρ hi hin hR
    refine l_il3 h 19 dL_law_18 rfl ?_
    refine l_al0 h 20 dL_law_19 rfl ?_
    refine l_slen h 21 dL_law_20 rfl ?_
    refine l_bipush h 23 bpL_6 dL_law_21 rfl ?_
    refine l_isub h 24 dL_law_23 rfl ?_
    refine l_icgt h 1253 27 dL_law_24 (by decide) rfl (fun _ => ?_) (fun hc => ?_)
    · exact l_end h dL_law_1253 dL_law_1254
    · have h6 : i + 6 ≤ L := my_six hL (by omega) hc
      refine lc_turn h hL h6 hR (fun σ1 ρ1 hR1 => ?_)
      refine l_inc3 h 1250 (my_inc ic_6 _) rfl dL_law_1247 rfl ?_
      refine l_goto h 18 dL_law_1250 (by decide) ?_
      rw [show nI i + 6 = nI (i + 6) from nI_add i 6]
      exact ih (i + 6) σ1 ρ1 h6 (by omega) hR1
end LAW
