theorem gs_J7_fill_53178 (n : Nat) : g_J7_fill_53178 (n + 1) = b_J7_fill_53178_0 (g_J7_fill_53178 n) := rfl
theorem gs_X0_firstOfTwo (n : Nat) : g_X0_firstOfTwo (n + 1) = b_X0_firstOfTwo_0 (g_X0_firstOfTwo n) := rfl
theorem gs_X0_lastSounding (n : Nat) : g_X0_lastSounding (n + 1) = b_X0_lastSounding_0 (g_X0_lastSounding n) := rfl
theorem gs_X0_sound_0 (n : Nat) : (g_X0_sound (n + 1)).1 = b_X0_sound_0 (g_X0_sound n).1 (g_X0_sound n).2 := rfl
theorem gs_X0_sound_1 (n : Nat) : (g_X0_sound (n + 1)).2 = b_X0_sound_1 (g_X0_sound n).1 (g_X0_sound n).2 := rfl
theorem gs_X0_soundingMoments (n : Nat) : g_X0_soundingMoments (n + 1) = b_X0_soundingMoments_0 (g_X0_soundingMoments n) := rfl
theorem gs_X1_freeBeats (n : Nat) : g_X1_freeBeats (n + 1) = b_X1_freeBeats_0 (g_X1_freeBeats n) := rfl
theorem gs_X2_freeBeatsOfAll (n : Nat) : g_X2_freeBeatsOfAll (n + 1) = b_X2_freeBeatsOfAll_0 (g_X2_freeBeatsOfAll n) := rfl
theorem gs_X2_heard (n : Nat) : g_X2_heard (n + 1) = b_X2_heard_0 (g_X2_heard n) := rfl
theorem gs_X2_listened (n : Nat) : g_X2_listened (n + 1) = b_X2_listened_0 (g_X2_listened n) := rfl
theorem gs_X2_loudestMoment (n : Nat) : g_X2_loudestMoment (n + 1) = b_X2_loudestMoment_0 (g_X2_loudestMoment n) := rfl
theorem gs_X2_take_0 (n : Nat) : (g_X2_take (n + 1)).1 = b_X2_take_0 (g_X2_take n).1 (g_X2_take n).2 := rfl
theorem gs_X2_take_1 (n : Nat) : (g_X2_take (n + 1)).2 = b_X2_take_1 (g_X2_take n).1 (g_X2_take n).2 := rfl
theorem gs_X3_codeOf (n : Nat) : g_X3_codeOf (n + 1) = b_X3_codeOf_0 (g_X3_codeOf n) := rfl
theorem gs_X3_isLike (n : Nat) : g_X3_isLike (n + 1) = b_X3_isLike_0 (g_X3_isLike n) := rfl
theorem gs_X3_countLike (n : Nat) : g_X3_countLike (n + 1) = b_X3_countLike_0 (g_X3_countLike n) := rfl
theorem gs_X3_firstBehind (n : Nat) : g_X3_firstBehind (n + 1) = b_X3_firstBehind_0 (g_X3_firstBehind n) := rfl
theorem gs_X3_firstLike (n : Nat) : g_X3_firstLike (n + 1) = b_X3_firstLike_0 (g_X3_firstLike n) := rfl
theorem gs_X3_staysGood_0 (n : Nat) : (g_X3_staysGood (n + 1)).1 = b_X3_staysGood_0 (g_X3_staysGood n).1 (g_X3_staysGood n).2 := rfl
theorem gs_X3_staysGood_1 (n : Nat) : (g_X3_staysGood (n + 1)).2 = b_X3_staysGood_1 (g_X3_staysGood n).1 (g_X3_staysGood n).2 := rfl
theorem gs_X3_isGood (n : Nat) : g_X3_isGood (n + 1) = b_X3_isGood_0 (g_X3_isGood n) := rfl
theorem gs_X5_areSo (n : Nat) : g_X5_areSo (n + 1) = b_X5_areSo_0 (g_X5_areSo n) := rfl
theorem gs_X7_readUpTo (n : Nat) : g_X7_readUpTo (n + 1) = b_X7_readUpTo_0 (g_X7_readUpTo n) := rfl
theorem gs_X8_areActs (n : Nat) : g_X8_areActs (n + 1) = b_X8_areActs_0 (g_X8_areActs n) := rfl
theorem gs_X3_grow (fr : my_M → Int32 → Option (Unit × my_M)) (n : Nat) : g_X3_grow fr (n + 1) = b_X3_grow_0 fr (g_X3_grow fr n) := rfl
theorem gs_X8_clash_0 (n : Nat) : (g_X8_clash (n + 1)).1 = b_X8_clash_0 (g_X8_clash n).1 (g_X8_clash n).2 := rfl
theorem gs_X8_clash_1 (n : Nat) : (g_X8_clash (n + 1)).2 = b_X8_clash_1 (g_X8_clash n).1 (g_X8_clash n).2 := rfl
theorem gs_X8_firstWrong (n : Nat) : g_X8_firstWrong (n + 1) = b_X8_firstWrong_0 (g_X8_firstWrong n) := rfl
theorem gs_X8_inLeastTerms (n : Nat) : g_X8_inLeastTerms (n + 1) = b_X8_inLeastTerms_0 (g_X8_inLeastTerms n) := rfl
theorem gs_X8_kinds (n : Nat) : g_X8_kinds (n + 1) = b_X8_kinds_0 (g_X8_kinds n) := rfl
theorem gs_X8_odds_0 (n : Nat) : (g_X8_odds (n + 1)).1 = b_X8_odds_0 (g_X8_odds n).1 (g_X8_odds n).2 := rfl
theorem gs_X8_odds_1 (n : Nat) : (g_X8_odds (n + 1)).2 = b_X8_odds_1 (g_X8_odds n).1 (g_X8_odds n).2 := rfl
theorem gs_X8_peak_0 (n : Nat) : (g_X8_peak (n + 1)).1 = b_X8_peak_0 (g_X8_peak n).1 (g_X8_peak n).2 := rfl
theorem gs_X8_peak_1 (n : Nat) : (g_X8_peak (n + 1)).2 = b_X8_peak_1 (g_X8_peak n).1 (g_X8_peak n).2 := rfl
theorem gs_X8_pitches (n : Nat) : g_X8_pitches (n + 1) = b_X8_pitches_0 (g_X8_pitches n) := rfl
theorem gs_X9_airOf (n : Nat) : g_X9_airOf (n + 1) = b_X9_airOf_0 (g_X9_airOf n) := rfl
theorem gs_X9_heardBy (n : Nat) : g_X9_heardBy (n + 1) = b_X9_heardBy_0 (g_X9_heardBy n) := rfl
theorem gs_X9_areSo (n : Nat) : g_X9_areSo (n + 1) = b_X9_areSo_0 (g_X9_areSo n) := rfl
theorem gs_X9_bits (n : Nat) : g_X9_bits (n + 1) = b_X9_bits_0 (g_X9_bits n) := rfl
theorem gs_X9_areUnlike (n : Nat) : g_X9_areUnlike (n + 1) = b_X9_areUnlike_0 (g_X9_areUnlike n) := rfl
theorem gs_X9_readsCaller (n : Nat) : g_X9_readsCaller (n + 1) = b_X9_readsCaller_0 (g_X9_readsCaller n) := rfl
theorem gs_X9_readsCallers (n : Nat) : g_X9_readsCallers (n + 1) = b_X9_readsCallers_0 (g_X9_readsCallers n) := rfl
theorem gs_X9_callers_0 (n : Nat) : (g_X9_callers (n + 1)).1 = b_X9_callers_0 (g_X9_callers n).1 (g_X9_callers n).2 := rfl
theorem gs_X9_callers_1 (n : Nat) : (g_X9_callers (n + 1)).2 = b_X9_callers_1 (g_X9_callers n).1 (g_X9_callers n).2 := rfl
theorem gs_X9_clash_0 (n : Nat) : (g_X9_clash (n + 1)).1 = b_X9_clash_0 (g_X9_clash n).1 (g_X9_clash n).2 := rfl
theorem gs_X9_clash_1 (n : Nat) : (g_X9_clash (n + 1)).2 = b_X9_clash_1 (g_X9_clash n).1 (g_X9_clash n).2 := rfl
theorem gs_X9_copy_0 (n : Nat) : (g_X9_copy (n + 1)).1 = b_X9_copy_0 (g_X9_copy n).1 (g_X9_copy n).2 := rfl
theorem gs_X9_copy_1 (n : Nat) : (g_X9_copy (n + 1)).2 = b_X9_copy_1 (g_X9_copy n).1 (g_X9_copy n).2 := rfl
theorem gs_X9_countsOfAll (n : Nat) : g_X9_countsOfAll (n + 1) = b_X9_countsOfAll_0 (g_X9_countsOfAll n) := rfl
theorem gs_X9_firstOfTwo (n : Nat) : g_X9_firstOfTwo (n + 1) = b_X9_firstOfTwo_0 (g_X9_firstOfTwo n) := rfl
theorem gs_X9_lastThatSounds (n : Nat) : g_X9_lastThatSounds (n + 1) = b_X9_lastThatSounds_0 (g_X9_lastThatSounds n) := rfl
theorem gs_X9_listensTo (n : Nat) : g_X9_listensTo (n + 1) = b_X9_listensTo_0 (g_X9_listensTo n) := rfl
theorem gs_X9_loudestOf (n : Nat) : g_X9_loudestOf (n + 1) = b_X9_loudestOf_0 (g_X9_loudestOf n) := rfl
theorem gs_X9_manyThatSound (n : Nat) : g_X9_manyThatSound (n + 1) = b_X9_manyThatSound_0 (g_X9_manyThatSound n) := rfl
theorem gs_X9_dayOf (n : Nat) : g_X9_dayOf (n + 1) = b_X9_dayOf_0 (g_X9_dayOf n) := rfl
theorem gs_X9_day_0 (n : Nat) : (g_X9_day (n + 1)).1 = b_X9_day_0 (g_X9_day n).1 (g_X9_day n).2.1 (g_X9_day n).2.2 := rfl
theorem gs_X9_day_1 (n : Nat) : (g_X9_day (n + 1)).2.1 = b_X9_day_1 (g_X9_day n).1 (g_X9_day n).2.1 (g_X9_day n).2.2 := rfl
theorem gs_X9_day_2 (n : Nat) : (g_X9_day (n + 1)).2.2 = b_X9_day_2 (g_X9_day n).1 (g_X9_day n).2.1 (g_X9_day n).2.2 := rfl
theorem gs_X9_freeOf (n : Nat) : g_X9_freeOf (n + 1) = b_X9_freeOf_0 (g_X9_freeOf n) := rfl
theorem gs_X9_isGood_0 (n : Nat) : (g_X9_isGood (n + 1)).1 = b_X9_isGood_0 (g_X9_isGood n).1 (g_X9_isGood n).2 := rfl
theorem gs_X9_isGood_1 (n : Nat) : (g_X9_isGood (n + 1)).2 = b_X9_isGood_1 (g_X9_isGood n).1 (g_X9_isGood n).2 := rfl
theorem gs_X9_triesThoseOf (n : Nat) : g_X9_triesThoseOf (n + 1) = b_X9_triesThoseOf_0 (g_X9_triesThoseOf n) := rfl
theorem gs_X9_hasThoseOf (n : Nat) : g_X9_hasThoseOf (n + 1) = b_X9_hasThoseOf_0 (g_X9_hasThoseOf n) := rfl
theorem gs_X9_kinds (n : Nat) : g_X9_kinds (n + 1) = b_X9_kinds_0 (g_X9_kinds n) := rfl
theorem gs_X9_many (n : Nat) : g_X9_many (n + 1) = b_X9_many_0 (g_X9_many n) := rfl
theorem gs_X9_triesNext (n : Nat) : g_X9_triesNext (n + 1) = b_X9_triesNext_0 (g_X9_triesNext n) := rfl
theorem gs_X9_next (n : Nat) : g_X9_next (n + 1) = b_X9_next_0 (g_X9_next n) := rfl
theorem gs_X9_share (n : Nat) : g_X9_share (n + 1) = b_X9_share_0 (g_X9_share n) := rfl
theorem gs_X9_odds_0 (n : Nat) : (g_X9_odds (n + 1)).1 = b_X9_odds_0 (g_X9_odds n).1 (g_X9_odds n).2 := rfl
theorem gs_X9_odds_1 (n : Nat) : (g_X9_odds (n + 1)).2 = b_X9_odds_1 (g_X9_odds n).1 (g_X9_odds n).2 := rfl
theorem gs_X9_peaks_0 (n : Nat) : (g_X9_peaks (n + 1)).1 = b_X9_peaks_0 (g_X9_peaks n).1 (g_X9_peaks n).2 := rfl
theorem gs_X9_peaks_1 (n : Nat) : (g_X9_peaks (n + 1)).2 = b_X9_peaks_1 (g_X9_peaks n).1 (g_X9_peaks n).2 := rfl
theorem gs_X9_pitches (n : Nat) : g_X9_pitches (n + 1) = b_X9_pitches_0 (g_X9_pitches n) := rfl
theorem gs_X9_triesFirst (n : Nat) : g_X9_triesFirst (n + 1) = b_X9_triesFirst_0 (g_X9_triesFirst n) := rfl
theorem gs_X9_rows (n : Nat) : g_X9_rows (n + 1) = b_X9_rows_0 (g_X9_rows n) := rfl
theorem gs_X9_sheet (n : Nat) : g_X9_sheet (n + 1) = b_X9_sheet_0 (g_X9_sheet n) := rfl
theorem gs_X9_ways (n : Nat) : g_X9_ways (n + 1) = b_X9_ways_0 (g_X9_ways n) := rfl
