def layC : List my_L := [.inr (7, [some 1, some 11, some 16, some 21, some 27, some 30, some 31, none, none]), .inr (2, [some 2, none, none]), .inl (.inr (1, 4, 3)), .inr (1, [none, some 7]), .inr (1, [none, some 8]), .inr (1, [none, some 9]), .inr (1, [none, some 10]), .inl (.inl 6), .inl (.inl 6), .inl (.inl 6), .inl (.inl 6), .inr (0, [none, some 12, some 13, some 14, some 15]), .inl (.inl 8), .inl (.inl 8), .inl (.inl 8), .inl (.inl 26), .inr (0, [none, some 17, some 18, some 19, some 20]), .inl (.inl 8), .inl (.inl 8), .inl (.inl 8), .inl (.inl 26), .inr (4, [none, some 22, some 23, some 24, some 25, some 26]), .inl (.inl 8), .inl (.inl 8), .inl (.inl 8), .inl (.inl 8), .inl (.inl 8), .inr (3, [none, none, some 28, some 29]), .inl (.inl 116), .inl (.inl 6), .inr (6, [none, none, none, none]), .inl (.inr (2, 4, 32)), .inr (5, [none, none, none, some 36]), .inr (5, [none, none, none, some 37]), .inr (5, [none, none, none, some 38]), .inr (5, [none, none, none, some 39]), .inl (.inl 60), .inl (.inl 60), .inl (.inl 60), .inl (.inl 60)]
def layR : List my_L := [.inr (8, [none, none, none, some 1, some 2, none, none, none, some 3, some 4, some 5, none, some 6, some 7, some 8, none, some 9, some 10, some 11, none, none, none, none, some 12, some 13, some 14, some 15, some 16, some 17, some 18, some 19, some 20, none]), .inl (.inl 4), .inl (.inl 24), .inl (.inl 4), .inl (.inl 24), .inl (.inl 6), .inl (.inl 8), .inl (.inl 8), .inl (.inl 8), .inl (.inl 8), .inl (.inl 8), .inl (.inl 8), .inl (.inl 8), .inl (.inl 8), .inl (.inl 8), .inl (.inl 8), .inl (.inl 8), .inl (.inl 4), .inl (.inl 4), .inl (.inl 240), .inl (.inl 60)]
theorem lyC_0 : layC[0]? = some (.inr (7, [some 1, some 11, some 16, some 21, some 27, some 30, some 31, none, none])) := rfl
theorem lyC_1 : layC[1]? = some (.inr (2, [some 2, none, none])) := rfl
theorem lyC_2 : layC[2]? = some (.inl (.inr (1, 4, 3))) := rfl
theorem lyC_3 : layC[3]? = some (.inr (1, [none, some 7])) := rfl
theorem lyC_4 : layC[4]? = some (.inr (1, [none, some 8])) := rfl
theorem lyC_5 : layC[5]? = some (.inr (1, [none, some 9])) := rfl
theorem lyC_6 : layC[6]? = some (.inr (1, [none, some 10])) := rfl
theorem lyC_11 : layC[11]? = some (.inr (0, [none, some 12, some 13, some 14, some 15])) := rfl
theorem lyC_16 : layC[16]? = some (.inr (0, [none, some 17, some 18, some 19, some 20])) := rfl
theorem lyC_21 : layC[21]? = some (.inr (4, [none, some 22, some 23, some 24, some 25, some 26])) := rfl
theorem lyC_27 : layC[27]? = some (.inr (3, [none, none, some 28, some 29])) := rfl
theorem lyC_30 : layC[30]? = some (.inr (6, [none, none, none, none])) := rfl
theorem lyC_31 : layC[31]? = some (.inl (.inr (2, 4, 32))) := rfl
theorem lyC_32 : layC[32]? = some (.inr (5, [none, none, none, some 36])) := rfl
theorem lyC_33 : layC[33]? = some (.inr (5, [none, none, none, some 37])) := rfl
theorem lyC_34 : layC[34]? = some (.inr (5, [none, none, none, some 38])) := rfl
theorem lyC_35 : layC[35]? = some (.inr (5, [none, none, none, some 39])) := rfl
theorem lyR_0 : layR[0]? = some (.inr (8, [none, none, none, some 1, some 2, none, none, none, some 3, some 4, some 5, none, some 6, some 7, some 8, none, some 9, some 10, some 11, none, none, none, none, some 12, some 13, some 14, some 15, some 16, some 17, some 18, some 19, some 20, none])) := rfl
theorem lyC_X1 {e : Nat} (h : e < 4) : layC[3 + e]? = some (.inr (1, [none, some (7 + e)])) := by
  match e, h with
  | 0, _ => rfl
  | 1, _ => rfl
  | 2, _ => rfl
  | 3, _ => rfl
theorem lyC_X6 {e : Nat} (h : e < 4) : layC[32 + e]? = some (.inr (5, [none, none, none, some (36 + e)])) := by
  match e, h with
  | 0, _ => rfl
  | 1, _ => rfl
  | 2, _ => rfl
  | 3, _ => rfl
theorem lyC_X0 {e : Nat} (h : e < 2) : layC[11 + 5 * e]? = some (.inr (0, [none, some (12 + 5 * e), some (13 + 5 * e), some (14 + 5 * e), some (15 + 5 * e)])) := by
  match e, h with
  | 0, _ => rfl
  | 1, _ => rfl
theorem cl_X0 : my_Cl 0 RX0 TX0 5 := ⟨rfl, inU_X0, tyX0, tyX0_ok, nmX0⟩
theorem cl_X1 : my_Cl 1 RX1 TX1 2 := ⟨rfl, inU_X1, tyX1, tyX1_ok, nmX1⟩
theorem cl_X2 : my_Cl 2 RX2 TX2 3 := ⟨rfl, inU_X2, tyX2, tyX2_ok, nmX2⟩
theorem cl_X3 : my_Cl 3 RX3 TX3 4 := ⟨rfl, inU_X3, tyX3, tyX3_ok, nmX3⟩
theorem cl_X5 : my_Cl 4 RX5 TX5 6 := ⟨rfl, inU_X5, tyX5, tyX5_ok, nmX5⟩
theorem cl_X6 : my_Cl 5 RX6 TX6 4 := ⟨rfl, inU_X6, tyX6, tyX6_ok, nmX6⟩
theorem cl_X7 : my_Cl 6 RX7 TX7 4 := ⟨rfl, inU_X7, tyX7, tyX7_ok, nmX7⟩
theorem cl_X8 : my_Cl 7 RX8 TX8 9 := ⟨rfl, inU_X8, tyX8, tyX8_ok, nmX8⟩
theorem cl_X9 : my_Cl 8 RX9 TX9 33 := ⟨rfl, inU_X9, tyX9, tyX9_ok, nmX9⟩
abbrev mX0_add : my_T := (yX0_add, cX0_add, 4, some .boolean)
theorem cd_X0_add : my_Cd mX0_add 3 := ⟨tw_cd_X0_add, tw_in_X0, ⟨by decide, by decide⟩, by decide +kernel⟩
abbrev mX0_becomeLike : my_T := (yX0_becomeLike, cX0_becomeLike, 2, none)
theorem cd_X0_becomeLike : my_Cd mX0_becomeLike 1 := ⟨tw_cd_X0_becomeLike, tw_in_X0, ⟨by decide, by decide⟩, by decide +kernel⟩
abbrev mX0_sound : my_T := (yX0_sound, cX0_sound, 5, none)
theorem cd_X0_sound : my_Cd mX0_sound 1 := ⟨tw_cd_X0_sound, tw_in_X0, ⟨by decide, by decide⟩, by decide +kernel⟩
abbrev mX0_soundingMoments : my_T := (yX0_soundingMoments, cX0_soundingMoments, 6, some .int)
theorem cd_X0_soundingMoments : my_Cd mX0_soundingMoments 0 := ⟨tw_cd_X0_soundingMoments, tw_in_X0, ⟨by decide, by decide⟩, by decide +kernel⟩
abbrev mX0_lastSounding : my_T := (yX0_lastSounding, cX0_lastSounding, 2, some .int)
theorem cd_X0_lastSounding : my_Cd mX0_lastSounding 0 := ⟨tw_cd_X0_lastSounding, tw_in_X0, ⟨by decide, by decide⟩, by decide +kernel⟩
abbrev mX0_firstOfTwo : my_T := (yX0_firstOfTwo, cX0_firstOfTwo, 2, some .int)
theorem cd_X0_firstOfTwo : my_Cd mX0_firstOfTwo 0 := ⟨tw_cd_X0_firstOfTwo, tw_in_X0, ⟨by decide, by decide⟩, by decide +kernel⟩
abbrev mX1_freeBeats : my_T := (yX1_freeBeats, cX1_freeBeats, 4, some .int)
theorem cd_X1_freeBeats : my_Cd mX1_freeBeats 1 := ⟨tw_cd_X1_freeBeats, tw_in_X1, ⟨by decide, by decide⟩, by decide +kernel⟩
abbrev mX1_counted : my_T := (yX1_counted, cX1_counted, 5, some .int)
theorem cd_X1_counted : my_Cd mX1_counted 2 := ⟨tw_cd_X1_counted, tw_in_X1, ⟨by decide, by decide⟩, by decide +kernel⟩
abbrev mX2_has : my_T := (yX2_has, cX2_has, 2, some .boolean)
theorem cd_X2_has : my_Cd mX2_has 1 := ⟨tw_cd_X2_has, tw_in_X2, ⟨by decide, by decide⟩, by decide +kernel⟩
abbrev mX2_hasBeat : my_T := (yX2_hasBeat, cX2_hasBeat, 2, some .boolean)
theorem cd_X2_hasBeat : my_Cd mX2_hasBeat 1 := ⟨tw_cd_X2_hasBeat, tw_in_X2, ⟨by decide, by decide⟩, by decide +kernel⟩
abbrev mX2_freeBeatsOfAll : my_T := (yX2_freeBeatsOfAll, cX2_freeBeatsOfAll, 3, some .int)
theorem cd_X2_freeBeatsOfAll : my_Cd mX2_freeBeatsOfAll 0 := ⟨tw_cd_X2_freeBeatsOfAll, tw_in_X2, ⟨by decide, by decide⟩, by decide +kernel⟩
abbrev mX2_take : my_T := (yX2_take, cX2_take, 8, none)
theorem cd_X2_take : my_Cd mX2_take 3 := ⟨tw_cd_X2_take, tw_in_X2, ⟨by decide, by decide⟩, by decide +kernel⟩
abbrev mX2_heard : my_T := (yX2_heard, cX2_heard, 11, some .int)
theorem cd_X2_heard : my_Cd mX2_heard 4 := ⟨tw_cd_X2_heard, tw_in_X2, ⟨by decide, by decide⟩, by decide +kernel⟩
abbrev mX2_listened : my_T := (yX2_listened, cX2_listened, 10, some .int)
theorem cd_X2_listened : my_Cd mX2_listened 3 := ⟨tw_cd_X2_listened, tw_in_X2, ⟨by decide, by decide⟩, by decide +kernel⟩
abbrev mX2_loudestMoment : my_T := (yX2_loudestMoment, cX2_loudestMoment, 7, some .int)
theorem cd_X2_loudestMoment : my_Cd mX2_loudestMoment 2 := ⟨tw_cd_X2_loudestMoment, tw_in_X2, ⟨by decide, by decide⟩, by decide +kernel⟩
abbrev mX3_makeFor : my_T := (yX3_makeFor, cX3_makeFor, 2, none)
theorem cd_X3_makeFor : my_Cd mX3_makeFor 1 := ⟨tw_cd_X3_makeFor, tw_in_X3, ⟨by decide, by decide⟩, by decide +kernel⟩
abbrev mX3_grow : my_T := (yX3_grow, cX3_grow, 3, none)
theorem cd_X3_grow : my_Cd mX3_grow 2 := ⟨tw_cd_X3_grow, tw_in_X3, ⟨by decide, by decide⟩, by decide +kernel⟩
abbrev mX3_keep : my_T := (yX3_keep, cX3_keep, 1, none)
theorem cd_X3_keep : my_Cd mX3_keep 0 := ⟨tw_cd_X3_keep, tw_in_X3, ⟨by decide, by decide⟩, by decide +kernel⟩
abbrev mX3_isGood : my_T := (yX3_isGood, cX3_isGood, 3, some .boolean)
theorem cd_X3_isGood : my_Cd mX3_isGood 2 := ⟨tw_cd_X3_isGood, tw_in_X3, ⟨by decide, by decide⟩, by decide +kernel⟩
abbrev mX3_staysGood : my_T := (yX3_staysGood, cX3_staysGood, 5, some .boolean)
theorem cd_X3_staysGood : my_Cd mX3_staysGood 2 := ⟨tw_cd_X3_staysGood, tw_in_X3, ⟨by decide, by decide⟩, by decide +kernel⟩
abbrev mX3_codeOf : my_T := (yX3_codeOf, cX3_codeOf, 4, some .int)
theorem cd_X3_codeOf : my_Cd mX3_codeOf 1 := ⟨tw_cd_X3_codeOf, tw_in_X3, ⟨by decide, by decide⟩, by decide +kernel⟩
abbrev mX3_pitchOf : my_T := (yX3_pitchOf, cX3_pitchOf, 3, some .int)
theorem cd_X3_pitchOf : my_Cd mX3_pitchOf 2 := ⟨tw_cd_X3_pitchOf, tw_in_X3, ⟨by decide, by decide⟩, by decide +kernel⟩
abbrev mX3_isLike : my_T := (yX3_isLike, cX3_isLike, 4, some .boolean)
theorem cd_X3_isLike : my_Cd mX3_isLike 2 := ⟨tw_cd_X3_isLike, tw_in_X3, ⟨by decide, by decide⟩, by decide +kernel⟩
abbrev mX3_countLike : my_T := (yX3_countLike, cX3_countLike, 4, some .int)
theorem cd_X3_countLike : my_Cd mX3_countLike 1 := ⟨tw_cd_X3_countLike, tw_in_X3, ⟨by decide, by decide⟩, by decide +kernel⟩
abbrev mX3_firstLike : my_T := (yX3_firstLike, cX3_firstLike, 3, some .int)
theorem cd_X3_firstLike : my_Cd mX3_firstLike 1 := ⟨tw_cd_X3_firstLike, tw_in_X3, ⟨by decide, by decide⟩, by decide +kernel⟩
abbrev mX3_firstBehind : my_T := (yX3_firstBehind, cX3_firstBehind, 4, some .int)
theorem cd_X3_firstBehind : my_Cd mX3_firstBehind 1 := ⟨tw_cd_X3_firstBehind, tw_in_X3, ⟨by decide, by decide⟩, by decide +kernel⟩
abbrev mX4_takeBack : my_T := (yX4_takeBack, cX4_takeBack, 2, some .boolean)
theorem cd_X4_takeBack : my_Cd mX4_takeBack 1 := ⟨tw_cd_X4_takeBack, tw_in_X4, ⟨by decide, by decide⟩, by decide +kernel⟩
abbrev mX5_add : my_T := (yX5_add, cX5_add, 6, some .boolean)
theorem cd_X5_add : my_Cd mX5_add 5 := ⟨tw_cd_X5_add, tw_in_X5, ⟨by decide, by decide⟩, by decide +kernel⟩
abbrev mX5_areSo : my_T := (yX5_areSo, cX5_areSo, 3, some .boolean)
theorem cd_X5_areSo : my_Cd mX5_areSo 1 := ⟨tw_cd_X5_areSo, tw_in_X5, ⟨by decide, by decide⟩, by decide +kernel⟩
abbrev mX6_begin : my_T := (yX6_begin, cX6_begin, 3, none)
theorem cd_X6_begin : my_Cd mX6_begin 2 := ⟨tw_cd_X6_begin, tw_in_X6, ⟨by decide, by decide⟩, by decide +kernel⟩
abbrev mX6_holds : my_T := (yX6_holds, cX6_holds, 3, some .boolean)
theorem cd_X6_holds : my_Cd mX6_holds 2 := ⟨tw_cd_X6_holds, tw_in_X6, ⟨by decide, by decide⟩, by decide +kernel⟩
abbrev mX6_faultAs : my_T := (yX6_faultAs, cX6_faultAs, 4, some .int)
theorem cd_X6_faultAs : my_Cd mX6_faultAs 3 := ⟨tw_cd_X6_faultAs, tw_in_X6, ⟨by decide, by decide⟩, by decide +kernel⟩
abbrev mX6_write : my_T := (yX6_write, cX6_write, 3, none)
theorem cd_X6_write : my_Cd mX6_write 2 := ⟨tw_cd_X6_write, tw_in_X6, ⟨by decide, by decide⟩, by decide +kernel⟩
abbrev mX7_readUpTo : my_T := (yX7_readUpTo, cX7_readUpTo, 5, some .int)
theorem cd_X7_readUpTo : my_Cd mX7_readUpTo 3 := ⟨tw_cd_X7_readUpTo, tw_in_X7, ⟨by decide, by decide⟩, by decide +kernel⟩
abbrev mX7_goesOn : my_T := (yX7_goesOn, cX7_goesOn, 3, some .boolean)
theorem cd_X7_goesOn : my_Cd mX7_goesOn 2 := ⟨tw_cd_X7_goesOn, tw_in_X7, ⟨by decide, by decide⟩, by decide +kernel⟩
abbrev mX7_fitsPart : my_T := (yX7_fitsPart, cX7_fitsPart, 2, some .boolean)
theorem cd_X7_fitsPart : my_Cd mX7_fitsPart 1 := ⟨tw_cd_X7_fitsPart, tw_in_X7, ⟨by decide, by decide⟩, by decide +kernel⟩
abbrev mX7_kindOf : my_T := (yX7_kindOf, cX7_kindOf, 1, some .int)
theorem cd_X7_kindOf : my_Cd mX7_kindOf 1 := ⟨tw_cd_X7_kindOf, tw_in_X7, ⟨by decide, by decide⟩, by decide +kernel⟩
abbrev mX8_callers : my_T := (yX8_callers, cX8_callers, 7, some .int)
theorem cd_X8_callers : my_Cd mX8_callers 4 := ⟨tw_cd_X8_callers, tw_in_X8, ⟨by decide, by decide⟩, by decide +kernel⟩
abbrev mX8_ofCaller : my_T := (yX8_ofCaller, cX8_ofCaller, 4, some .int)
theorem cd_X8_ofCaller : my_Cd mX8_ofCaller 2 := ⟨tw_cd_X8_ofCaller, tw_in_X8, ⟨by decide, by decide⟩, by decide +kernel⟩
abbrev mX8_tune : my_T := (yX8_tune, cX8_tune, 5, some .int)
theorem cd_X8_tune : my_Cd mX8_tune 3 := ⟨tw_cd_X8_tune, tw_in_X8, ⟨by decide, by decide⟩, by decide +kernel⟩
abbrev mX8_hears : my_T := (yX8_hears, cX8_hears, 5, some .int)
theorem cd_X8_hears : my_Cd mX8_hears 4 := ⟨tw_cd_X8_hears, tw_in_X8, ⟨by decide, by decide⟩, by decide +kernel⟩
abbrev mX8_send : my_T := (yX8_send, cX8_send, 4, some .int)
theorem cd_X8_send : my_Cd mX8_send 3 := ⟨tw_cd_X8_send, tw_in_X8, ⟨by decide, by decide⟩, by decide +kernel⟩
abbrev mX8_unsend : my_T := (yX8_unsend, cX8_unsend, 2, some .int)
theorem cd_X8_unsend : my_Cd mX8_unsend 1 := ⟨tw_cd_X8_unsend, tw_in_X8, ⟨by decide, by decide⟩, by decide +kernel⟩
abbrev mX8_air : my_T := (yX8_air, cX8_air, 2, some .int)
theorem cd_X8_air : my_Cd mX8_air 1 := ⟨tw_cd_X8_air, tw_in_X8, ⟨by decide, by decide⟩, by decide +kernel⟩
abbrev mX8_listen : my_T := (yX8_listen, cX8_listen, 3, some .int)
theorem cd_X8_listen : my_Cd mX8_listen 2 := ⟨tw_cd_X8_listen, tw_in_X8, ⟨by decide, by decide⟩, by decide +kernel⟩
abbrev mX8_loudest : my_T := (yX8_loudest, cX8_loudest, 4, some .int)
theorem cd_X8_loudest : my_Cd mX8_loudest 2 := ⟨tw_cd_X8_loudest, tw_in_X8, ⟨by decide, by decide⟩, by decide +kernel⟩
abbrev mX8_day : my_T := (yX8_day, cX8_day, 8, some .int)
theorem cd_X8_day : my_Cd mX8_day 5 := ⟨tw_cd_X8_day, tw_in_X8, ⟨by decide, by decide⟩, by decide +kernel⟩
abbrev mX8_peak : my_T := (yX8_peak, cX8_peak, 9, some .int)
theorem cd_X8_peak : my_Cd mX8_peak 2 := ⟨tw_cd_X8_peak, tw_in_X8, ⟨by decide, by decide⟩, by decide +kernel⟩
abbrev mX8_clash : my_T := (yX8_clash, cX8_clash, 6, some .int)
theorem cd_X8_clash : my_Cd mX8_clash 2 := ⟨tw_cd_X8_clash, tw_in_X8, ⟨by decide, by decide⟩, by decide +kernel⟩
abbrev mX8_rows : my_T := (yX8_rows, cX8_rows, 1, some .int)
theorem cd_X8_rows : my_Cd mX8_rows 0 := ⟨tw_cd_X8_rows, tw_in_X8, ⟨by decide, by decide⟩, by decide +kernel⟩
abbrev mX8_ways : my_T := (yX8_ways, cX8_ways, 4, some .int)
theorem cd_X8_ways : my_Cd mX8_ways 2 := ⟨tw_cd_X8_ways, tw_in_X8, ⟨by decide, by decide⟩, by decide +kernel⟩
abbrev mX8_next : my_T := (yX8_next, cX8_next, 3, some .int)
theorem cd_X8_next : my_Cd mX8_next 2 := ⟨tw_cd_X8_next, tw_in_X8, ⟨by decide, by decide⟩, by decide +kernel⟩
abbrev mX8_reading : my_T := (yX8_reading, cX8_reading, 6, some .int)
theorem cd_X8_reading : my_Cd mX8_reading 5 := ⟨tw_cd_X8_reading, tw_in_X8, ⟨by decide, by decide⟩, by decide +kernel⟩
abbrev mX8_back : my_T := (yX8_back, cX8_back, 2, some .int)
theorem cd_X8_back : my_Cd mX8_back 1 := ⟨tw_cd_X8_back, tw_in_X8, ⟨by decide, by decide⟩, by decide +kernel⟩
abbrev mX8_kinds : my_T := (yX8_kinds, cX8_kinds, 6, some .int)
theorem cd_X8_kinds : my_Cd mX8_kinds 1 := ⟨tw_cd_X8_kinds, tw_in_X8, ⟨by decide, by decide⟩, by decide +kernel⟩
abbrev mX8_pitches : my_T := (yX8_pitches, cX8_pitches, 7, some .int)
theorem cd_X8_pitches : my_Cd mX8_pitches 2 := ⟨tw_cd_X8_pitches, tw_in_X8, ⟨by decide, by decide⟩, by decide +kernel⟩
abbrev mX8_odds : my_T := (yX8_odds, cX8_odds, 8, some .long)
theorem cd_X8_odds : my_Cd mX8_odds 3 := ⟨tw_cd_X8_odds, tw_in_X8, ⟨by decide, by decide⟩, by decide +kernel⟩
abbrev mX8_sheet : my_T := (yX8_sheet, cX8_sheet, 4, some .int)
theorem cd_X8_sheet : my_Cd mX8_sheet 3 := ⟨tw_cd_X8_sheet, tw_in_X8, ⟨by decide, by decide⟩, by decide +kernel⟩
abbrev mX8_lose : my_T := (yX8_lose, cX8_lose, 3, some .int)
theorem cd_X8_lose : my_Cd mX8_lose 1 := ⟨tw_cd_X8_lose, tw_in_X8, ⟨by decide, by decide⟩, by decide +kernel⟩
abbrev mX8_put : my_T := (yX8_put, cX8_put, 4, some .int)
theorem cd_X8_put : my_Cd mX8_put 3 := ⟨tw_cd_X8_put, tw_in_X8, ⟨by decide, by decide⟩, by decide +kernel⟩
abbrev mX8_cell : my_T := (yX8_cell, cX8_cell, 4, some .long)
theorem cd_X8_cell : my_Cd mX8_cell 3 := ⟨tw_cd_X8_cell, tw_in_X8, ⟨by decide, by decide⟩, by decide +kernel⟩
abbrev mX8_copy : my_T := (yX8_copy, cX8_copy, 8, some .int)
theorem cd_X8_copy : my_Cd mX8_copy 5 := ⟨tw_cd_X8_copy, tw_in_X8, ⟨by decide, by decide⟩, by decide +kernel⟩
abbrev mX8_tell : my_T := (yX8_tell, cX8_tell, 3, some .int)
theorem cd_X8_tell : my_Cd mX8_tell 1 := ⟨tw_cd_X8_tell, tw_in_X8, ⟨by decide, by decide⟩, by decide +kernel⟩
abbrev mX8_hail : my_T := (yX8_hail, cX8_hail, 2, some .int)
theorem cd_X8_hail : my_Cd mX8_hail 1 := ⟨tw_cd_X8_hail, tw_in_X8, ⟨by decide, by decide⟩, by decide +kernel⟩
abbrev mX8_as : my_T := (yX8_as, cX8_as, 3, some .int)
theorem cd_X8_as : my_Cd mX8_as 2 := ⟨tw_cd_X8_as, tw_in_X8, ⟨by decide, by decide⟩, by decide +kernel⟩
abbrev mX8_trace : my_T := (yX8_trace, cX8_trace, 1, some .int)
theorem cd_X8_trace : my_Cd mX8_trace 0 := ⟨tw_cd_X8_trace, tw_in_X8, ⟨by decide, by decide⟩, by decide +kernel⟩
abbrev mX8_fault : my_T := (yX8_fault, cX8_fault, 1, some .int)
theorem cd_X8_fault : my_Cd mX8_fault 0 := ⟨tw_cd_X8_fault, tw_in_X8, ⟨by decide, by decide⟩, by decide +kernel⟩
abbrev mX8_many : my_T := (yX8_many, cX8_many, 2, some .int)
theorem cd_X8_many : my_Cd mX8_many 1 := ⟨tw_cd_X8_many, tw_in_X8, ⟨by decide, by decide⟩, by decide +kernel⟩
abbrev mX8_isWithin : my_T := (yX8_isWithin, cX8_isWithin, 3, some .boolean)
theorem cd_X8_isWithin : my_Cd mX8_isWithin 3 := ⟨tw_cd_X8_isWithin, tw_in_X8, ⟨by decide, by decide⟩, by decide +kernel⟩
abbrev mX8_isShift : my_T := (yX8_isShift, cX8_isShift, 1, some .boolean)
theorem cd_X8_isShift : my_Cd mX8_isShift 1 := ⟨tw_cd_X8_isShift, tw_in_X8, ⟨by decide, by decide⟩, by decide +kernel⟩
abbrev mX8_isSheet : my_T := (yX8_isSheet, cX8_isSheet, 1, some .boolean)
theorem cd_X8_isSheet : my_Cd mX8_isSheet 1 := ⟨tw_cd_X8_isSheet, tw_in_X8, ⟨by decide, by decide⟩, by decide +kernel⟩
abbrev mX8_isLane : my_T := (yX8_isLane, cX8_isLane, 1, some .boolean)
theorem cd_X8_isLane : my_Cd mX8_isLane 1 := ⟨tw_cd_X8_isLane, tw_in_X8, ⟨by decide, by decide⟩, by decide +kernel⟩
abbrev mX8_isDayQuestion : my_T := (yX8_isDayQuestion, cX8_isDayQuestion, 1, some .boolean)
theorem cd_X8_isDayQuestion : my_Cd mX8_isDayQuestion 1 := ⟨tw_cd_X8_isDayQuestion, tw_in_X8, ⟨by decide, by decide⟩, by decide +kernel⟩
abbrev mX8_faulted : my_T := (yX8_faulted, cX8_faulted, 2, some .int)
theorem cd_X8_faulted : my_Cd mX8_faulted 1 := ⟨tw_cd_X8_faulted, tw_in_X8, ⟨by decide, by decide⟩, by decide +kernel⟩
abbrev mX8_toldPitch : my_T := (yX8_toldPitch, cX8_toldPitch, 3, some .int)
theorem cd_X8_toldPitch : my_Cd mX8_toldPitch 2 := ⟨tw_cd_X8_toldPitch, tw_in_X8, ⟨by decide, by decide⟩, by decide +kernel⟩
abbrev mX8_inLeastTerms : my_T := (yX8_inLeastTerms, cX8_inLeastTerms, 3, some .int)
theorem cd_X8_inLeastTerms : my_Cd mX8_inLeastTerms 2 := ⟨tw_cd_X8_inLeastTerms, tw_in_X8, ⟨by decide, by decide⟩, by decide +kernel⟩
abbrev mX8_areActs : my_T := (yX8_areActs, cX8_areActs, 8, some .boolean)
theorem cd_X8_areActs : my_Cd mX8_areActs 3 := ⟨tw_cd_X8_areActs, tw_in_X8, ⟨by decide, by decide⟩, by decide +kernel⟩
abbrev mX8_firstWrong : my_T := (yX8_firstWrong, cX8_firstWrong, 8, some .int)
theorem cd_X8_firstWrong : my_Cd mX8_firstWrong 3 := ⟨tw_cd_X8_firstWrong, tw_in_X8, ⟨by decide, by decide⟩, by decide +kernel⟩
abbrev mX8_afterDay : my_T := (yX8_afterDay, cX8_afterDay, 2, some .int)
theorem cd_X8_afterDay : my_Cd mX8_afterDay 1 := ⟨tw_cd_X8_afterDay, tw_in_X8, ⟨by decide, by decide⟩, by decide +kernel⟩
abbrev mX8_mostListened : my_T := (yX8_mostListened, cX8_mostListened, 3, some .int)
theorem cd_X8_mostListened : my_Cd mX8_mostListened 2 := ⟨tw_cd_X8_mostListened, tw_in_X8, ⟨by decide, by decide⟩, by decide +kernel⟩
abbrev mX8_leave : my_T := (yX8_leave, cX8_leave, 2, none)
theorem cd_X8_leave : my_Cd mX8_leave 1 := ⟨tw_cd_X8_leave, tw_in_X8, ⟨by decide, by decide⟩, by decide +kernel⟩
abbrev mX8_plainTelling : my_T := (yX8_plainTelling, cX8_plainTelling, 2, some .int)
theorem cd_X8_plainTelling : my_Cd mX8_plainTelling 1 := ⟨tw_cd_X8_plainTelling, tw_in_X8, ⟨by decide, by decide⟩, by decide +kernel⟩
abbrev mX8_broadTelling : my_T := (yX8_broadTelling, cX8_broadTelling, 2, some .int)
theorem cd_X8_broadTelling : my_Cd mX8_broadTelling 1 := ⟨tw_cd_X8_broadTelling, tw_in_X8, ⟨by decide, by decide⟩, by decide +kernel⟩
abbrev mX8_keenTelling : my_T := (yX8_keenTelling, cX8_keenTelling, 3, some .int)
theorem cd_X8_keenTelling : my_Cd mX8_keenTelling 1 := ⟨tw_cd_X8_keenTelling, tw_in_X8, ⟨by decide, by decide⟩, by decide +kernel⟩
abbrev mX8_lentHail : my_T := (yX8_lentHail, cX8_lentHail, 2, some .int)
theorem cd_X8_lentHail : my_Cd mX8_lentHail 1 := ⟨tw_cd_X8_lentHail, tw_in_X8, ⟨by decide, by decide⟩, by decide +kernel⟩
abbrev mX8_keenHail : my_T := (yX8_keenHail, cX8_keenHail, 1, some .int)
theorem cd_X8_keenHail : my_Cd mX8_keenHail 0 := ⟨tw_cd_X8_keenHail, tw_in_X8, ⟨by decide, by decide⟩, by decide +kernel⟩
abbrev mX9_in : my_T := (yX9_in, cX9_in, 6, some .boolean)
theorem cd_X9_in : my_Cd mX9_in 3 := ⟨tw_cd_X9_in, tw_in_X9, ⟨by decide, by decide⟩, by decide +kernel⟩
abbrev mX9_lost : my_T := (yX9_lost, cX9_lost, 0, some .long)
theorem cd_X9_lost : my_Cd mX9_lost 0 := ⟨tw_cd_X9_lost, tw_in_X9, ⟨by decide, by decide⟩, by decide +kernel⟩
abbrev mX9_bits : my_T := (yX9_bits, cX9_bits, 3, some .int)
theorem cd_X9_bits : my_Cd mX9_bits 1 := ⟨tw_cd_X9_bits, tw_in_X9, ⟨by decide, by decide⟩, by decide +kernel⟩
abbrev mX9_share : my_T := (yX9_share, cX9_share, 11, some .long)
theorem cd_X9_share : my_Cd mX9_share 3 := ⟨tw_cd_X9_share, tw_in_X9, ⟨by decide, by decide⟩, by decide +kernel⟩
abbrev mX9_refused : my_T := (yX9_refused, cX9_refused, 2, some .int)
theorem cd_X9_refused : my_Cd mX9_refused 1 := ⟨tw_cd_X9_refused, tw_in_X9, ⟨by decide, by decide⟩, by decide +kernel⟩
abbrev mX9_failed : my_T := (yX9_failed, cX9_failed, 2, some .int)
theorem cd_X9_failed : my_Cd mX9_failed 1 := ⟨tw_cd_X9_failed, tw_in_X9, ⟨by decide, by decide⟩, by decide +kernel⟩
abbrev mX9_failedLong : my_T := (yX9_failedLong, cX9_failedLong, 2, some .long)
theorem cd_X9_failedLong : my_Cd mX9_failedLong 1 := ⟨tw_cd_X9_failedLong, tw_in_X9, ⟨by decide, by decide⟩, by decide +kernel⟩
abbrev mX9_noCaller : my_T := (yX9_noCaller, cX9_noCaller, 2, some .boolean)
theorem cd_X9_noCaller : my_Cd mX9_noCaller 1 := ⟨tw_cd_X9_noCaller, tw_in_X9, ⟨by decide, by decide⟩, by decide +kernel⟩
abbrev mX9_noBeat : my_T := (yX9_noBeat, cX9_noBeat, 2, some .boolean)
theorem cd_X9_noBeat : my_Cd mX9_noBeat 1 := ⟨tw_cd_X9_noBeat, tw_in_X9, ⟨by decide, by decide⟩, by decide +kernel⟩
abbrev mX9_codeAt : my_T := (yX9_codeAt, cX9_codeAt, 3, some .int)
theorem cd_X9_codeAt : my_Cd mX9_codeAt 2 := ⟨tw_cd_X9_codeAt, tw_in_X9, ⟨by decide, by decide⟩, by decide +kernel⟩
abbrev mX9_readsSign : my_T := (yX9_readsSign, cX9_readsSign, 5, some .boolean)
theorem cd_X9_readsSign : my_Cd mX9_readsSign 3 := ⟨tw_cd_X9_readsSign, tw_in_X9, ⟨by decide, by decide⟩, by decide +kernel⟩
abbrev mX9_readsCaller : my_T := (yX9_readsCaller, cX9_readsCaller, 6, some .boolean)
theorem cd_X9_readsCaller : my_Cd mX9_readsCaller 2 := ⟨tw_cd_X9_readsCaller, tw_in_X9, ⟨by decide, by decide⟩, by decide +kernel⟩
abbrev mX9_readsCallers : my_T := (yX9_readsCallers, cX9_readsCallers, 4, some .boolean)
theorem cd_X9_readsCallers : my_Cd mX9_readsCallers 2 := ⟨tw_cd_X9_readsCallers, tw_in_X9, ⟨by decide, by decide⟩, by decide +kernel⟩
abbrev mX9_cellsBarred : my_T := (yX9_cellsBarred, cX9_cellsBarred, 6, some .int)
theorem cd_X9_cellsBarred : my_Cd mX9_cellsBarred 4 := ⟨tw_cd_X9_cellsBarred, tw_in_X9, ⟨by decide, by decide⟩, by decide +kernel⟩
abbrev mX9_callers : my_T := (yX9_callers, cX9_callers, 8, some .int)
theorem cd_X9_callers : my_Cd mX9_callers 4 := ⟨tw_cd_X9_callers, tw_in_X9, ⟨by decide, by decide⟩, by decide +kernel⟩
abbrev mX9_pitch : my_T := (yX9_pitch, cX9_pitch, 3, some .int)
theorem cd_X9_pitch : my_Cd mX9_pitch 2 := ⟨tw_cd_X9_pitch, tw_in_X9, ⟨by decide, by decide⟩, by decide +kernel⟩
abbrev mX9_freeOf : my_T := (yX9_freeOf, cX9_freeOf, 4, some .int)
theorem cd_X9_freeOf : my_Cd mX9_freeOf 1 := ⟨tw_cd_X9_freeOf, tw_in_X9, ⟨by decide, by decide⟩, by decide +kernel⟩
abbrev mX9_areUnlike : my_T := (yX9_areUnlike, cX9_areUnlike, 3, some .boolean)
theorem cd_X9_areUnlike : my_Cd mX9_areUnlike 0 := ⟨tw_cd_X9_areUnlike, tw_in_X9, ⟨by decide, by decide⟩, by decide +kernel⟩
abbrev mX9_isGood : my_T := (yX9_isGood, cX9_isGood, 6, some .boolean)
theorem cd_X9_isGood : my_Cd mX9_isGood 0 := ⟨tw_cd_X9_isGood, tw_in_X9, ⟨by decide, by decide⟩, by decide +kernel⟩
abbrev mX9_triesFirst : my_T := (yX9_triesFirst, cX9_triesFirst, 2, none)
theorem cd_X9_triesFirst : my_Cd mX9_triesFirst 0 := ⟨tw_cd_X9_triesFirst, tw_in_X9, ⟨by decide, by decide⟩, by decide +kernel⟩
abbrev mX9_triesNext : my_T := (yX9_triesNext, cX9_triesNext, 2, some .boolean)
theorem cd_X9_triesNext : my_Cd mX9_triesNext 0 := ⟨tw_cd_X9_triesNext, tw_in_X9, ⟨by decide, by decide⟩, by decide +kernel⟩
abbrev mX9_hasThoseOf : my_T := (yX9_hasThoseOf, cX9_hasThoseOf, 4, some .boolean)
theorem cd_X9_hasThoseOf : my_Cd mX9_hasThoseOf 1 := ⟨tw_cd_X9_hasThoseOf, tw_in_X9, ⟨by decide, by decide⟩, by decide +kernel⟩
abbrev mX9_triesThoseOf : my_T := (yX9_triesThoseOf, cX9_triesThoseOf, 3, none)
theorem cd_X9_triesThoseOf : my_Cd mX9_triesThoseOf 1 := ⟨tw_cd_X9_triesThoseOf, tw_in_X9, ⟨by decide, by decide⟩, by decide +kernel⟩
abbrev mX9_goodNow : my_T := (yX9_goodNow, cX9_goodNow, 2, some .int)
theorem cd_X9_goodNow : my_Cd mX9_goodNow 1 := ⟨tw_cd_X9_goodNow, tw_in_X9, ⟨by decide, by decide⟩, by decide +kernel⟩
abbrev mX9_ofCaller : my_T := (yX9_ofCaller, cX9_ofCaller, 3, some .int)
theorem cd_X9_ofCaller : my_Cd mX9_ofCaller 2 := ⟨tw_cd_X9_ofCaller, tw_in_X9, ⟨by decide, by decide⟩, by decide +kernel⟩
abbrev mX9_tune : my_T := (yX9_tune, cX9_tune, 5, some .int)
theorem cd_X9_tune : my_Cd mX9_tune 3 := ⟨tw_cd_X9_tune, tw_in_X9, ⟨by decide, by decide⟩, by decide +kernel⟩
abbrev mX9_counts : my_T := (yX9_counts, cX9_counts, 5, some .int)
theorem cd_X9_counts : my_Cd mX9_counts 3 := ⟨tw_cd_X9_counts, tw_in_X9, ⟨by decide, by decide⟩, by decide +kernel⟩
abbrev mX9_heardBy : my_T := (yX9_heardBy, cX9_heardBy, 8, some .int)
theorem cd_X9_heardBy : my_Cd mX9_heardBy 4 := ⟨tw_cd_X9_heardBy, tw_in_X9, ⟨by decide, by decide⟩, by decide +kernel⟩
abbrev mX9_isShift : my_T := (yX9_isShift, cX9_isShift, 1, some .boolean)
theorem cd_X9_isShift : my_Cd mX9_isShift 1 := ⟨tw_cd_X9_isShift, tw_in_X9, ⟨by decide, by decide⟩, by decide +kernel⟩
abbrev mX9_hears : my_T := (yX9_hears, cX9_hears, 5, some .int)
theorem cd_X9_hears : my_Cd mX9_hears 4 := ⟨tw_cd_X9_hears, tw_in_X9, ⟨by decide, by decide⟩, by decide +kernel⟩
abbrev mX9_sends : my_T := (yX9_sends, cX9_sends, 4, some .boolean)
theorem cd_X9_sends : my_Cd mX9_sends 3 := ⟨tw_cd_X9_sends, tw_in_X9, ⟨by decide, by decide⟩, by decide +kernel⟩
abbrev mX9_send : my_T := (yX9_send, cX9_send, 4, some .int)
theorem cd_X9_send : my_Cd mX9_send 3 := ⟨tw_cd_X9_send, tw_in_X9, ⟨by decide, by decide⟩, by decide +kernel⟩
abbrev mX9_unsend : my_T := (yX9_unsend, cX9_unsend, 2, some .int)
theorem cd_X9_unsend : my_Cd mX9_unsend 1 := ⟨tw_cd_X9_unsend, tw_in_X9, ⟨by decide, by decide⟩, by decide +kernel⟩
abbrev mX9_isMoment : my_T := (yX9_isMoment, cX9_isMoment, 1, some .boolean)
theorem cd_X9_isMoment : my_Cd mX9_isMoment 1 := ⟨tw_cd_X9_isMoment, tw_in_X9, ⟨by decide, by decide⟩, by decide +kernel⟩
abbrev mX9_airOf : my_T := (yX9_airOf, cX9_airOf, 5, some .int)
theorem cd_X9_airOf : my_Cd mX9_airOf 1 := ⟨tw_cd_X9_airOf, tw_in_X9, ⟨by decide, by decide⟩, by decide +kernel⟩
abbrev mX9_air : my_T := (yX9_air, cX9_air, 2, some .int)
theorem cd_X9_air : my_Cd mX9_air 1 := ⟨tw_cd_X9_air, tw_in_X9, ⟨by decide, by decide⟩, by decide +kernel⟩
abbrev mX9_countsOfAll : my_T := (yX9_countsOfAll, cX9_countsOfAll, 7, some .int)
theorem cd_X9_countsOfAll : my_Cd mX9_countsOfAll 3 := ⟨tw_cd_X9_countsOfAll, tw_in_X9, ⟨by decide, by decide⟩, by decide +kernel⟩
abbrev mX9_listensTo : my_T := (yX9_listensTo, cX9_listensTo, 5, some .int)
theorem cd_X9_listensTo : my_Cd mX9_listensTo 2 := ⟨tw_cd_X9_listensTo, tw_in_X9, ⟨by decide, by decide⟩, by decide +kernel⟩
abbrev mX9_listen : my_T := (yX9_listen, cX9_listen, 3, some .int)
theorem cd_X9_listen : my_Cd mX9_listen 2 := ⟨tw_cd_X9_listen, tw_in_X9, ⟨by decide, by decide⟩, by decide +kernel⟩
abbrev mX9_loudestOf : my_T := (yX9_loudestOf, cX9_loudestOf, 4, some .int)
theorem cd_X9_loudestOf : my_Cd mX9_loudestOf 1 := ⟨tw_cd_X9_loudestOf, tw_in_X9, ⟨by decide, by decide⟩, by decide +kernel⟩
abbrev mX9_loudest : my_T := (yX9_loudest, cX9_loudest, 4, some .int)
theorem cd_X9_loudest : my_Cd mX9_loudest 2 := ⟨tw_cd_X9_loudest, tw_in_X9, ⟨by decide, by decide⟩, by decide +kernel⟩
abbrev mX9_isAsTold : my_T := (yX9_isAsTold, cX9_isAsTold, 2, some .boolean)
theorem cd_X9_isAsTold : my_Cd mX9_isAsTold 2 := ⟨tw_cd_X9_isAsTold, tw_in_X9, ⟨by decide, by decide⟩, by decide +kernel⟩
abbrev mX9_doesPair : my_T := (yX9_doesPair, cX9_doesPair, 4, some .boolean)
theorem cd_X9_doesPair : my_Cd mX9_doesPair 2 := ⟨tw_cd_X9_doesPair, tw_in_X9, ⟨by decide, by decide⟩, by decide +kernel⟩
abbrev mX9_firstOfTwo : my_T := (yX9_firstOfTwo, cX9_firstOfTwo, 3, some .int)
theorem cd_X9_firstOfTwo : my_Cd mX9_firstOfTwo 0 := ⟨tw_cd_X9_firstOfTwo, tw_in_X9, ⟨by decide, by decide⟩, by decide +kernel⟩
abbrev mX9_lastThatSounds : my_T := (yX9_lastThatSounds, cX9_lastThatSounds, 3, some .int)
theorem cd_X9_lastThatSounds : my_Cd mX9_lastThatSounds 0 := ⟨tw_cd_X9_lastThatSounds, tw_in_X9, ⟨by decide, by decide⟩, by decide +kernel⟩
abbrev mX9_manyThatSound : my_T := (yX9_manyThatSound, cX9_manyThatSound, 3, some .int)
theorem cd_X9_manyThatSound : my_Cd mX9_manyThatSound 0 := ⟨tw_cd_X9_manyThatSound, tw_in_X9, ⟨by decide, by decide⟩, by decide +kernel⟩
abbrev mX9_dayOf : my_T := (yX9_dayOf, cX9_dayOf, 6, some .int)
theorem cd_X9_dayOf : my_Cd mX9_dayOf 3 := ⟨tw_cd_X9_dayOf, tw_in_X9, ⟨by decide, by decide⟩, by decide +kernel⟩
abbrev mX9_day : my_T := (yX9_day, cX9_day, 10, some .int)
theorem cd_X9_day : my_Cd mX9_day 5 := ⟨tw_cd_X9_day, tw_in_X9, ⟨by decide, by decide⟩, by decide +kernel⟩
abbrev mX9_peaks : my_T := (yX9_peaks, cX9_peaks, 5, none)
theorem cd_X9_peaks : my_Cd mX9_peaks 1 := ⟨tw_cd_X9_peaks, tw_in_X9, ⟨by decide, by decide⟩, by decide +kernel⟩
abbrev mX9_peak : my_T := (yX9_peak, cX9_peak, 3, some .int)
theorem cd_X9_peak : my_Cd mX9_peak 2 := ⟨tw_cd_X9_peak, tw_in_X9, ⟨by decide, by decide⟩, by decide +kernel⟩
abbrev mX9_clash : my_T := (yX9_clash, cX9_clash, 7, some .int)
theorem cd_X9_clash : my_Cd mX9_clash 2 := ⟨tw_cd_X9_clash, tw_in_X9, ⟨by decide, by decide⟩, by decide +kernel⟩
abbrev mX9_rows : my_T := (yX9_rows, cX9_rows, 3, some .int)
theorem cd_X9_rows : my_Cd mX9_rows 0 := ⟨tw_cd_X9_rows, tw_in_X9, ⟨by decide, by decide⟩, by decide +kernel⟩
abbrev mX9_ways : my_T := (yX9_ways, cX9_ways, 7, some .int)
theorem cd_X9_ways : my_Cd mX9_ways 2 := ⟨tw_cd_X9_ways, tw_in_X9, ⟨by decide, by decide⟩, by decide +kernel⟩
abbrev mX9_next : my_T := (yX9_next, cX9_next, 4, some .int)
theorem cd_X9_next : my_Cd mX9_next 2 := ⟨tw_cd_X9_next, tw_in_X9, ⟨by decide, by decide⟩, by decide +kernel⟩
abbrev mX9_reading : my_T := (yX9_reading, cX9_reading, 6, some .int)
theorem cd_X9_reading : my_Cd mX9_reading 5 := ⟨tw_cd_X9_reading, tw_in_X9, ⟨by decide, by decide⟩, by decide +kernel⟩
abbrev mX9_back : my_T := (yX9_back, cX9_back, 2, some .int)
theorem cd_X9_back : my_Cd mX9_back 1 := ⟨tw_cd_X9_back, tw_in_X9, ⟨by decide, by decide⟩, by decide +kernel⟩
abbrev mX9_areSo : my_T := (yX9_areSo, cX9_areSo, 3, some .boolean)
theorem cd_X9_areSo : my_Cd mX9_areSo 0 := ⟨tw_cd_X9_areSo, tw_in_X9, ⟨by decide, by decide⟩, by decide +kernel⟩
abbrev mX9_kinds : my_T := (yX9_kinds, cX9_kinds, 5, some .int)
theorem cd_X9_kinds : my_Cd mX9_kinds 1 := ⟨tw_cd_X9_kinds, tw_in_X9, ⟨by decide, by decide⟩, by decide +kernel⟩
abbrev mX9_pitches : my_T := (yX9_pitches, cX9_pitches, 7, some .int)
theorem cd_X9_pitches : my_Cd mX9_pitches 2 := ⟨tw_cd_X9_pitches, tw_in_X9, ⟨by decide, by decide⟩, by decide +kernel⟩
abbrev mX9_odds : my_T := (yX9_odds, cX9_odds, 7, some .long)
theorem cd_X9_odds : my_Cd mX9_odds 3 := ⟨tw_cd_X9_odds, tw_in_X9, ⟨by decide, by decide⟩, by decide +kernel⟩
abbrev mX9_noSheet : my_T := (yX9_noSheet, cX9_noSheet, 1, some .boolean)
theorem cd_X9_noSheet : my_Cd mX9_noSheet 1 := ⟨tw_cd_X9_noSheet, tw_in_X9, ⟨by decide, by decide⟩, by decide +kernel⟩
abbrev mX9_sheet : my_T := (yX9_sheet, cX9_sheet, 5, some .int)
theorem cd_X9_sheet : my_Cd mX9_sheet 3 := ⟨tw_cd_X9_sheet, tw_in_X9, ⟨by decide, by decide⟩, by decide +kernel⟩
abbrev mX9_lose : my_T := (yX9_lose, cX9_lose, 3, some .int)
theorem cd_X9_lose : my_Cd mX9_lose 1 := ⟨tw_cd_X9_lose, tw_in_X9, ⟨by decide, by decide⟩, by decide +kernel⟩
abbrev mX9_noCell : my_T := (yX9_noCell, cX9_noCell, 3, some .int)
theorem cd_X9_noCell : my_Cd mX9_noCell 2 := ⟨tw_cd_X9_noCell, tw_in_X9, ⟨by decide, by decide⟩, by decide +kernel⟩
abbrev mX9_put : my_T := (yX9_put, cX9_put, 4, some .int)
theorem cd_X9_put : my_Cd mX9_put 3 := ⟨tw_cd_X9_put, tw_in_X9, ⟨by decide, by decide⟩, by decide +kernel⟩
abbrev mX9_cell : my_T := (yX9_cell, cX9_cell, 4, some .long)
theorem cd_X9_cell : my_Cd mX9_cell 3 := ⟨tw_cd_X9_cell, tw_in_X9, ⟨by decide, by decide⟩, by decide +kernel⟩
abbrev mX9_isBeyond : my_T := (yX9_isBeyond, cX9_isBeyond, 4, some .boolean)
theorem cd_X9_isBeyond : my_Cd mX9_isBeyond 3 := ⟨tw_cd_X9_isBeyond, tw_in_X9, ⟨by decide, by decide⟩, by decide +kernel⟩
abbrev mX9_copy : my_T := (yX9_copy, cX9_copy, 7, some .int)
theorem cd_X9_copy : my_Cd mX9_copy 5 := ⟨tw_cd_X9_copy, tw_in_X9, ⟨by decide, by decide⟩, by decide +kernel⟩
abbrev mX9_traced : my_T := (yX9_traced, cX9_traced, 2, none)
theorem cd_X9_traced : my_Cd mX9_traced 1 := ⟨tw_cd_X9_traced, tw_in_X9, ⟨by decide, by decide⟩, by decide +kernel⟩
abbrev mX9_tell : my_T := (yX9_tell, cX9_tell, 4, some .int)
theorem cd_X9_tell : my_Cd mX9_tell 1 := ⟨tw_cd_X9_tell, tw_in_X9, ⟨by decide, by decide⟩, by decide +kernel⟩
abbrev mX9_hail : my_T := (yX9_hail, cX9_hail, 2, some .int)
theorem cd_X9_hail : my_Cd mX9_hail 1 := ⟨tw_cd_X9_hail, tw_in_X9, ⟨by decide, by decide⟩, by decide +kernel⟩
abbrev mX9_as : my_T := (yX9_as, cX9_as, 3, some .int)
theorem cd_X9_as : my_Cd mX9_as 2 := ⟨tw_cd_X9_as, tw_in_X9, ⟨by decide, by decide⟩, by decide +kernel⟩
abbrev mX9_trace : my_T := (yX9_trace, cX9_trace, 1, some .int)
theorem cd_X9_trace : my_Cd mX9_trace 0 := ⟨tw_cd_X9_trace, tw_in_X9, ⟨by decide, by decide⟩, by decide +kernel⟩
abbrev mX9_fault : my_T := (yX9_fault, cX9_fault, 1, some .int)
theorem cd_X9_fault : my_Cd mX9_fault 0 := ⟨tw_cd_X9_fault, tw_in_X9, ⟨by decide, by decide⟩, by decide +kernel⟩
abbrev mX9_many : my_T := (yX9_many, cX9_many, 4, some .int)
theorem cd_X9_many : my_Cd mX9_many 1 := ⟨tw_cd_X9_many, tw_in_X9, ⟨by decide, by decide⟩, by decide +kernel⟩
abbrev mJ6_bitCount_0f7a4 : my_T := (yJ6_bitCount_0f7a4, cJ6_bitCount_0f7a4, 1, some .int)
theorem cd_J6_bitCount_0f7a4 : my_Cd mJ6_bitCount_0f7a4 1 := ⟨tw_cd_J6_bitCount_0f7a4, tw_in_J6, ⟨by decide, by decide⟩, by decide +kernel⟩
abbrev mJ9_max_7cf53 : my_T := (yJ9_max_7cf53, cJ9_max_7cf53, 2, some .int)
theorem cd_J9_max_7cf53 : my_Cd mJ9_max_7cf53 2 := ⟨tw_cd_J9_max_7cf53, tw_in_J9, ⟨by decide, by decide⟩, by decide +kernel⟩
abbrev mJ7_fill_53178 : my_T := (yJ7_fill_53178, cJ7_fill_53178, 4, none)
theorem cd_J7_fill_53178 : my_Cd mJ7_fill_53178 2 := ⟨tw_cd_J7_fill_53178, tw_in_J7, ⟨by decide, by decide⟩, by decide +kernel⟩
theorem fF_X0_9_X0 : my_F RX0 9 0 1 (tyX0 1) := ⟨RX0, TX0, 5, "PitchRows$Air", cl_X0, by decide, tw_fl_X0_9, Or.inl rfl, tyX0_ok 1 (by decide)⟩
theorem fF_X0_15_X0 : my_F RX0 15 0 2 (tyX0 2) := ⟨RX0, TX0, 5, "PitchRows$Air", cl_X0, by decide, tw_fl_X0_15, Or.inl rfl, tyX0_ok 2 (by decide)⟩
theorem fF_X0_18_X0 : my_F RX0 18 0 3 (tyX0 3) := ⟨RX0, TX0, 5, "PitchRows$Air", cl_X0, by decide, tw_fl_X0_18, Or.inl rfl, tyX0_ok 3 (by decide)⟩
theorem fF_X0_21_X0 : my_F RX0 21 0 4 (tyX0 4) := ⟨RX0, TX0, 5, "PitchRows$Air", cl_X0, by decide, tw_fl_X0_21, Or.inl rfl, tyX0_ok 4 (by decide)⟩
theorem fF_X0_24_X0 : my_F RX0 24 0 0 (tyX0 0) := ⟨RX0, TX0, 5, "PitchRows$Air", cl_X0, by decide, tw_fl_X0_24, Or.inr tw_sf_79, tyX0_ok 0 (by decide)⟩
theorem fF_X0_40_X2 : my_F RX0 40 2 0 (tyX2 0) := ⟨RX2, TX2, 3, "PitchRows$Choir", cl_X2, by decide, tw_fl_X0_40, Or.inl rfl, tyX2_ok 0 (by decide)⟩
theorem fF_X0_46_X1 : my_F RX0 46 1 1 (tyX1 1) := ⟨RX1, TX1, 2, "PitchRows$Caller", cl_X1, by decide, tw_fl_X0_46, Or.inl rfl, tyX1_ok 1 (by decide)⟩
theorem fF_X0_51_X2 : my_F RX0 51 2 2 (tyX2 2) := ⟨RX2, TX2, 3, "PitchRows$Choir", cl_X2, by decide, tw_fl_X0_51, Or.inl rfl, tyX2_ok 2 (by decide)⟩
theorem fF_X1_9_X1 : my_F RX1 9 1 1 (tyX1 1) := ⟨RX1, TX1, 2, "PitchRows$Caller", cl_X1, by decide, tw_fl_X1_9, Or.inl rfl, tyX1_ok 1 (by decide)⟩
theorem fF_X1_15_X1 : my_F RX1 15 1 0 (tyX1 0) := ⟨RX1, TX1, 2, "PitchRows$Caller", cl_X1, by decide, tw_fl_X1_15, Or.inl rfl, tyX1_ok 0 (by decide)⟩
theorem fF_X2_11_X2 : my_F RX2 11 2 0 (tyX2 0) := ⟨RX2, TX2, 3, "PitchRows$Choir", cl_X2, by decide, tw_fl_X2_11, Or.inl rfl, tyX2_ok 0 (by decide)⟩
theorem fF_X2_18_X2 : my_F RX2 18 2 1 (tyX2 1) := ⟨RX2, TX2, 3, "PitchRows$Choir", cl_X2, by decide, tw_fl_X2_18, Or.inl rfl, tyX2_ok 1 (by decide)⟩
theorem fF_X2_26_X2 : my_F RX2 26 2 2 (tyX2 2) := ⟨RX2, TX2, 3, "PitchRows$Choir", cl_X2, by decide, tw_fl_X2_26, Or.inl rfl, tyX2_ok 2 (by decide)⟩
theorem fF_X2_33_X6 : my_F RX2 33 5 3 (tyX6 3) := ⟨RX6, TX6, 4, "PitchRows$Sheet", cl_X6, by decide, tw_fl_X2_33, Or.inl rfl, tyX6_ok 3 (by decide)⟩
theorem fF_X2_47_X1 : my_F RX2 47 1 1 (tyX1 1) := ⟨RX1, TX1, 2, "PitchRows$Caller", cl_X1, by decide, tw_fl_X2_47, Or.inl rfl, tyX1_ok 1 (by decide)⟩
theorem fF_X3_9_X3 : my_F RX3 9 3 2 (tyX3 2) := ⟨RX3, TX3, 4, "PitchRows$GoodRows", cl_X3, by decide, tw_fl_X3_9, Or.inl rfl, tyX3_ok 2 (by decide)⟩
theorem fF_X3_15_X3 : my_F RX3 15 3 3 (tyX3 3) := ⟨RX3, TX3, 4, "PitchRows$GoodRows", cl_X3, by decide, tw_fl_X3_15, Or.inl rfl, tyX3_ok 3 (by decide)⟩
theorem fF_X3_18_X3 : my_F RX3 18 3 0 (tyX3 0) := ⟨RX3, TX3, 4, "PitchRows$GoodRows", cl_X3, by decide, tw_fl_X3_18, Or.inl rfl, tyX3_ok 0 (by decide)⟩
theorem fF_X3_22_X3 : my_F RX3 22 3 1 (tyX3 1) := ⟨RX3, TX3, 4, "PitchRows$GoodRows", cl_X3, by decide, tw_fl_X3_22, Or.inl rfl, tyX3_ok 1 (by decide)⟩
theorem fF_X4_7_X0 : my_F RX4 7 0 0 (tyX0 0) := ⟨RX0, TX0, 5, "PitchRows$Numbered", cl_X0, by decide, tw_fl_X4_7, Or.inl rfl, tyX0_ok 0 (by decide)⟩
theorem fF_X4_7_X5 : my_F RX4 7 4 0 (tyX5 0) := ⟨RX5, TX5, 6, "PitchRows$Numbered", cl_X5, by decide, tw_fl_X4_7, Or.inl rfl, tyX5_ok 0 (by decide)⟩
theorem fF_X5_9_X5 : my_F RX5 9 4 1 (tyX5 1) := ⟨RX5, TX5, 6, "PitchRows$Readings", cl_X5, by decide, tw_fl_X5_9, Or.inl rfl, tyX5_ok 1 (by decide)⟩
theorem fF_X5_15_X5 : my_F RX5 15 4 2 (tyX5 2) := ⟨RX5, TX5, 6, "PitchRows$Readings", cl_X5, by decide, tw_fl_X5_15, Or.inl rfl, tyX5_ok 2 (by decide)⟩
theorem fF_X5_18_X5 : my_F RX5 18 4 3 (tyX5 3) := ⟨RX5, TX5, 6, "PitchRows$Readings", cl_X5, by decide, tw_fl_X5_18, Or.inl rfl, tyX5_ok 3 (by decide)⟩
theorem fF_X5_21_X5 : my_F RX5 21 4 4 (tyX5 4) := ⟨RX5, TX5, 6, "PitchRows$Readings", cl_X5, by decide, tw_fl_X5_21, Or.inl rfl, tyX5_ok 4 (by decide)⟩
theorem fF_X5_24_X5 : my_F RX5 24 4 5 (tyX5 5) := ⟨RX5, TX5, 6, "PitchRows$Readings", cl_X5, by decide, tw_fl_X5_24, Or.inl rfl, tyX5_ok 5 (by decide)⟩
theorem fF_X5_27_X5 : my_F RX5 27 4 0 (tyX5 0) := ⟨RX5, TX5, 6, "PitchRows$Readings", cl_X5, by decide, tw_fl_X5_27, Or.inr tw_sf_81, tyX5_ok 0 (by decide)⟩
theorem fF_X6_9_X6 : my_F RX6 9 5 3 (tyX6 3) := ⟨RX6, TX6, 4, "PitchRows$Sheet", cl_X6, by decide, tw_fl_X6_9, Or.inl rfl, tyX6_ok 3 (by decide)⟩
theorem fF_X6_15_X6 : my_F RX6 15 5 0 (tyX6 0) := ⟨RX6, TX6, 4, "PitchRows$Sheet", cl_X6, by decide, tw_fl_X6_15, Or.inl rfl, tyX6_ok 0 (by decide)⟩
theorem fF_X6_19_X6 : my_F RX6 19 5 1 (tyX6 1) := ⟨RX6, TX6, 4, "PitchRows$Sheet", cl_X6, by decide, tw_fl_X6_19, Or.inl rfl, tyX6_ok 1 (by decide)⟩
theorem fF_X6_23_X6 : my_F RX6 23 5 2 (tyX6 2) := ⟨RX6, TX6, 4, "PitchRows$Sheet", cl_X6, by decide, tw_fl_X6_23, Or.inl rfl, tyX6_ok 2 (by decide)⟩
theorem fF_X7_9_X7 : my_F RX7 9 6 0 (tyX7 0) := ⟨RX7, TX7, 4, "PitchRows$TextReader", cl_X7, by decide, tw_fl_X7_9, Or.inl rfl, tyX7_ok 0 (by decide)⟩
theorem fF_X7_15_X7 : my_F RX7 15 6 1 (tyX7 1) := ⟨RX7, TX7, 4, "PitchRows$TextReader", cl_X7, by decide, tw_fl_X7_15, Or.inl rfl, tyX7_ok 1 (by decide)⟩
theorem fF_X7_18_X7 : my_F RX7 18 6 2 (tyX7 2) := ⟨RX7, TX7, 4, "PitchRows$TextReader", cl_X7, by decide, tw_fl_X7_18, Or.inl rfl, tyX7_ok 2 (by decide)⟩
theorem fF_X7_25_X6 : my_F RX7 25 5 3 (tyX6 3) := ⟨RX6, TX6, 4, "PitchRows$Sheet", cl_X6, by decide, tw_fl_X7_25, Or.inl rfl, tyX6_ok 3 (by decide)⟩
theorem fF_X8_12_X8 : my_F RX8 12 7 0 (tyX8 0) := ⟨RX8, TX8, 9, "PitchRows", cl_X8, by decide, tw_fl_X8_12, Or.inl rfl, tyX8_ok 0 (by decide)⟩
theorem fF_X8_21_X8 : my_F RX8 21 7 1 (tyX8 1) := ⟨RX8, TX8, 9, "PitchRows", cl_X8, by decide, tw_fl_X8_21, Or.inl rfl, tyX8_ok 1 (by decide)⟩
theorem fF_X8_25_X8 : my_F RX8 25 7 2 (tyX8 2) := ⟨RX8, TX8, 9, "PitchRows", cl_X8, by decide, tw_fl_X8_25, Or.inl rfl, tyX8_ok 2 (by decide)⟩
theorem fF_X8_31_X8 : my_F RX8 31 7 3 (tyX8 3) := ⟨RX8, TX8, 9, "PitchRows", cl_X8, by decide, tw_fl_X8_31, Or.inl rfl, tyX8_ok 3 (by decide)⟩
theorem fF_X8_38_X8 : my_F RX8 38 7 4 (tyX8 4) := ⟨RX8, TX8, 9, "PitchRows", cl_X8, by decide, tw_fl_X8_38, Or.inl rfl, tyX8_ok 4 (by decide)⟩
theorem fF_X8_45_X8 : my_F RX8 45 7 5 (tyX8 5) := ⟨RX8, TX8, 9, "PitchRows", cl_X8, by decide, tw_fl_X8_45, Or.inl rfl, tyX8_ok 5 (by decide)⟩
theorem fF_X8_51_X8 : my_F RX8 51 7 6 (tyX8 6) := ⟨RX8, TX8, 9, "PitchRows", cl_X8, by decide, tw_fl_X8_51, Or.inl rfl, tyX8_ok 6 (by decide)⟩
theorem fF_X8_56_X8 : my_F RX8 56 7 8 (tyX8 8) := ⟨RX8, TX8, 9, "PitchRows", cl_X8, by decide, tw_fl_X8_56, Or.inl rfl, tyX8_ok 8 (by decide)⟩
theorem fF_X8_79_X7 : my_F RX8 79 6 3 (tyX7 3) := ⟨RX7, TX7, 4, "PitchRows$TextReader", cl_X7, by decide, tw_fl_X8_79, Or.inl rfl, tyX7_ok 3 (by decide)⟩
theorem fF_X8_83_X7 : my_F RX8 83 6 1 (tyX7 1) := ⟨RX7, TX7, 4, "PitchRows$TextReader", cl_X7, by decide, tw_fl_X8_83, Or.inl rfl, tyX7_ok 1 (by decide)⟩
theorem fF_X8_90_X0 : my_F RX8 90 0 0 (tyX0 0) := ⟨RX0, TX0, 5, "PitchRows$Air", cl_X0, by decide, tw_fl_X8_90, Or.inr tw_sf_79, tyX0_ok 0 (by decide)⟩
theorem fF_X8_93_X5 : my_F RX8 93 4 0 (tyX5 0) := ⟨RX5, TX5, 6, "PitchRows$Readings", cl_X5, by decide, tw_fl_X8_93, Or.inr tw_sf_81, tyX5_ok 0 (by decide)⟩
theorem fF_X8_94_X2 : my_F RX8 94 2 1 (tyX2 1) := ⟨RX2, TX2, 3, "PitchRows$Choir", cl_X2, by decide, tw_fl_X8_94, Or.inl rfl, tyX2_ok 1 (by decide)⟩
theorem fF_X8_98_X2 : my_F RX8 98 2 0 (tyX2 0) := ⟨RX2, TX2, 3, "PitchRows$Choir", cl_X2, by decide, tw_fl_X8_98, Or.inl rfl, tyX2_ok 0 (by decide)⟩
theorem fF_X8_101_X1 : my_F RX8 101 1 0 (tyX1 0) := ⟨RX1, TX1, 2, "PitchRows$Caller", cl_X1, by decide, tw_fl_X8_101, Or.inl rfl, tyX1_ok 0 (by decide)⟩
theorem fF_X8_106_X2 : my_F RX8 106 2 2 (tyX2 2) := ⟨RX2, TX2, 3, "PitchRows$Choir", cl_X2, by decide, tw_fl_X8_106, Or.inl rfl, tyX2_ok 2 (by decide)⟩
theorem fF_X8_112_X1 : my_F RX8 112 1 1 (tyX1 1) := ⟨RX1, TX1, 2, "PitchRows$Caller", cl_X1, by decide, tw_fl_X8_112, Or.inl rfl, tyX1_ok 1 (by decide)⟩
theorem fF_X8_148_X0 : my_F RX8 148 0 4 (tyX0 4) := ⟨RX0, TX0, 5, "PitchRows$Air", cl_X0, by decide, tw_fl_X8_148, Or.inl rfl, tyX0_ok 4 (by decide)⟩
theorem fF_X8_186_X3 : my_F RX8 186 3 1 (tyX3 1) := ⟨RX3, TX3, 4, "PitchRows$GoodRows", cl_X3, by decide, tw_fl_X8_186, Or.inl rfl, tyX3_ok 1 (by decide)⟩
theorem fF_X8_217_X6 : my_F RX8 217 5 0 (tyX6 0) := ⟨RX6, TX6, 4, "PitchRows$Sheet", cl_X6, by decide, tw_fl_X8_217, Or.inl rfl, tyX6_ok 0 (by decide)⟩
theorem fF_X8_227_X6 : my_F RX8 227 5 3 (tyX6 3) := ⟨RX6, TX6, 4, "PitchRows$Sheet", cl_X6, by decide, tw_fl_X8_227, Or.inl rfl, tyX6_ok 3 (by decide)⟩
theorem fF_X8_230_X6 : my_F RX8 230 5 1 (tyX6 1) := ⟨RX6, TX6, 4, "PitchRows$Sheet", cl_X6, by decide, tw_fl_X8_230, Or.inl rfl, tyX6_ok 1 (by decide)⟩
theorem fF_X8_256_X8 : my_F RX8 256 7 7 (tyX8 7) := ⟨RX8, TX8, 9, "PitchRows", cl_X8, by decide, tw_fl_X8_256, Or.inl rfl, tyX8_ok 7 (by decide)⟩
theorem fF_X9_7_X9 : my_F RX9 7 8 3 (tyX9 3) := ⟨RX9, TX9, 33, "PitchRowsModel", cl_X9, by decide, tw_fl_X9_7, Or.inl rfl, tyX9_ok 3 (by decide)⟩
theorem fF_X9_13_X9 : my_F RX9 13 8 4 (tyX9 4) := ⟨RX9, TX9, 33, "PitchRowsModel", cl_X9, by decide, tw_fl_X9_13, Or.inl rfl, tyX9_ok 4 (by decide)⟩
theorem fF_X9_16_X9 : my_F RX9 16 8 8 (tyX9 8) := ⟨RX9, TX9, 33, "PitchRowsModel", cl_X9, by decide, tw_fl_X9_16, Or.inl rfl, tyX9_ok 8 (by decide)⟩
theorem fF_X9_19_X9 : my_F RX9 19 8 9 (tyX9 9) := ⟨RX9, TX9, 33, "PitchRowsModel", cl_X9, by decide, tw_fl_X9_19, Or.inl rfl, tyX9_ok 9 (by decide)⟩
theorem fF_X9_22_X9 : my_F RX9 22 8 10 (tyX9 10) := ⟨RX9, TX9, 33, "PitchRowsModel", cl_X9, by decide, tw_fl_X9_22, Or.inl rfl, tyX9_ok 10 (by decide)⟩
theorem fF_X9_25_X9 : my_F RX9 25 8 12 (tyX9 12) := ⟨RX9, TX9, 33, "PitchRowsModel", cl_X9, by decide, tw_fl_X9_25, Or.inl rfl, tyX9_ok 12 (by decide)⟩
theorem fF_X9_28_X9 : my_F RX9 28 8 13 (tyX9 13) := ⟨RX9, TX9, 33, "PitchRowsModel", cl_X9, by decide, tw_fl_X9_28, Or.inl rfl, tyX9_ok 13 (by decide)⟩
theorem fF_X9_31_X9 : my_F RX9 31 8 14 (tyX9 14) := ⟨RX9, TX9, 33, "PitchRowsModel", cl_X9, by decide, tw_fl_X9_31, Or.inl rfl, tyX9_ok 14 (by decide)⟩
theorem fF_X9_34_X9 : my_F RX9 34 8 16 (tyX9 16) := ⟨RX9, TX9, 33, "PitchRowsModel", cl_X9, by decide, tw_fl_X9_34, Or.inl rfl, tyX9_ok 16 (by decide)⟩
theorem fF_X9_37_X9 : my_F RX9 37 8 17 (tyX9 17) := ⟨RX9, TX9, 33, "PitchRowsModel", cl_X9, by decide, tw_fl_X9_37, Or.inl rfl, tyX9_ok 17 (by decide)⟩
theorem fF_X9_40_X9 : my_F RX9 40 8 18 (tyX9 18) := ⟨RX9, TX9, 33, "PitchRowsModel", cl_X9, by decide, tw_fl_X9_40, Or.inl rfl, tyX9_ok 18 (by decide)⟩
theorem fF_X9_43_X9 : my_F RX9 43 8 23 (tyX9 23) := ⟨RX9, TX9, 33, "PitchRowsModel", cl_X9, by decide, tw_fl_X9_43, Or.inl rfl, tyX9_ok 23 (by decide)⟩
theorem fF_X9_46_X9 : my_F RX9 46 8 24 (tyX9 24) := ⟨RX9, TX9, 33, "PitchRowsModel", cl_X9, by decide, tw_fl_X9_46, Or.inl rfl, tyX9_ok 24 (by decide)⟩
theorem fF_X9_49_X9 : my_F RX9 49 8 25 (tyX9 25) := ⟨RX9, TX9, 33, "PitchRowsModel", cl_X9, by decide, tw_fl_X9_49, Or.inl rfl, tyX9_ok 25 (by decide)⟩
theorem fF_X9_52_X9 : my_F RX9 52 8 26 (tyX9 26) := ⟨RX9, TX9, 33, "PitchRowsModel", cl_X9, by decide, tw_fl_X9_52, Or.inl rfl, tyX9_ok 26 (by decide)⟩
theorem fF_X9_55_X9 : my_F RX9 55 8 27 (tyX9 27) := ⟨RX9, TX9, 33, "PitchRowsModel", cl_X9, by decide, tw_fl_X9_55, Or.inl rfl, tyX9_ok 27 (by decide)⟩
theorem fF_X9_58_X9 : my_F RX9 58 8 28 (tyX9 28) := ⟨RX9, TX9, 33, "PitchRowsModel", cl_X9, by decide, tw_fl_X9_58, Or.inl rfl, tyX9_ok 28 (by decide)⟩
theorem fF_X9_61_X9 : my_F RX9 61 8 29 (tyX9 29) := ⟨RX9, TX9, 33, "PitchRowsModel", cl_X9, by decide, tw_fl_X9_61, Or.inl rfl, tyX9_ok 29 (by decide)⟩
theorem fF_X9_64_X9 : my_F RX9 64 8 30 (tyX9 30) := ⟨RX9, TX9, 33, "PitchRowsModel", cl_X9, by decide, tw_fl_X9_64, Or.inl rfl, tyX9_ok 30 (by decide)⟩
theorem fF_X9_67_X9 : my_F RX9 67 8 31 (tyX9 31) := ⟨RX9, TX9, 33, "PitchRowsModel", cl_X9, by decide, tw_fl_X9_67, Or.inl rfl, tyX9_ok 31 (by decide)⟩
theorem fF_X9_72_X9 : my_F RX9 72 8 0 (tyX9 0) := ⟨RX9, TX9, 33, "PitchRowsModel", cl_X9, by decide, tw_fl_X9_72, Or.inl rfl, tyX9_ok 0 (by decide)⟩
theorem fF_X9_80_X9 : my_F RX9 80 8 1 (tyX9 1) := ⟨RX9, TX9, 33, "PitchRowsModel", cl_X9, by decide, tw_fl_X9_80, Or.inl rfl, tyX9_ok 1 (by decide)⟩
theorem fF_X9_87_X9 : my_F RX9 87 8 2 (tyX9 2) := ⟨RX9, TX9, 33, "PitchRowsModel", cl_X9, by decide, tw_fl_X9_87, Or.inl rfl, tyX9_ok 2 (by decide)⟩
theorem fF_X9_90_X9 : my_F RX9 90 8 5 (tyX9 5) := ⟨RX9, TX9, 33, "PitchRowsModel", cl_X9, by decide, tw_fl_X9_90, Or.inl rfl, tyX9_ok 5 (by decide)⟩
theorem fF_X9_99_X9 : my_F RX9 99 8 7 (tyX9 7) := ⟨RX9, TX9, 33, "PitchRowsModel", cl_X9, by decide, tw_fl_X9_99, Or.inl rfl, tyX9_ok 7 (by decide)⟩
theorem fF_X9_102_X9 : my_F RX9 102 8 6 (tyX9 6) := ⟨RX9, TX9, 33, "PitchRowsModel", cl_X9, by decide, tw_fl_X9_102, Or.inl rfl, tyX9_ok 6 (by decide)⟩
theorem fF_X9_139_X9 : my_F RX9 139 8 11 (tyX9 11) := ⟨RX9, TX9, 33, "PitchRowsModel", cl_X9, by decide, tw_fl_X9_139, Or.inl rfl, tyX9_ok 11 (by decide)⟩
theorem fF_X9_142_X9 : my_F RX9 142 8 22 (tyX9 22) := ⟨RX9, TX9, 33, "PitchRowsModel", cl_X9, by decide, tw_fl_X9_142, Or.inl rfl, tyX9_ok 22 (by decide)⟩
theorem fF_X9_241_X9 : my_F RX9 241 8 15 (tyX9 15) := ⟨RX9, TX9, 33, "PitchRowsModel", cl_X9, by decide, tw_fl_X9_241, Or.inl rfl, tyX9_ok 15 (by decide)⟩
theorem fF_X9_247_X9 : my_F RX9 247 8 19 (tyX9 19) := ⟨RX9, TX9, 33, "PitchRowsModel", cl_X9, by decide, tw_fl_X9_247, Or.inl rfl, tyX9_ok 19 (by decide)⟩
theorem fF_X9_250_X9 : my_F RX9 250 8 20 (tyX9 20) := ⟨RX9, TX9, 33, "PitchRowsModel", cl_X9, by decide, tw_fl_X9_250, Or.inl rfl, tyX9_ok 20 (by decide)⟩
theorem fF_X9_253_X9 : my_F RX9 253 8 21 (tyX9 21) := ⟨RX9, TX9, 33, "PitchRowsModel", cl_X9, by decide, tw_fl_X9_253, Or.inl rfl, tyX9_ok 21 (by decide)⟩
theorem fF_X9_284_X9 : my_F RX9 284 8 32 (tyX9 32) := ⟨RX9, TX9, 33, "PitchRowsModel", cl_X9, by decide, tw_fl_X9_284, Or.inl rfl, tyX9_ok 32 (by decide)⟩
theorem fP_X0_24_X0 : my_FP RX0 24 0 0 .int := ⟨RX0, TX0, 5, "PitchRows$Air", cl_X0, by decide, tw_fl_X0_24, Or.inr tw_sf_79, tyX0_ok 0 (by decide), rfl⟩
theorem fP_X2_18_X2 : my_FP RX2 18 2 1 .int := ⟨RX2, TX2, 3, "PitchRows$Choir", cl_X2, by decide, tw_fl_X2_18, Or.inl rfl, tyX2_ok 1 (by decide), rfl⟩
theorem fP_X2_26_X2 : my_FP RX2 26 2 2 .int := ⟨RX2, TX2, 3, "PitchRows$Choir", cl_X2, by decide, tw_fl_X2_26, Or.inl rfl, tyX2_ok 2 (by decide), rfl⟩
theorem fP_X2_44_X1 : my_FP RX2 44 1 0 .int := ⟨RX1, TX1, 2, "PitchRows$Caller", cl_X1, by decide, tw_fl_X2_44, Or.inl rfl, tyX1_ok 0 (by decide), rfl⟩
theorem fP_X3_18_X3 : my_FP RX3 18 3 0 .int := ⟨RX3, TX3, 4, "PitchRows$GoodRows", cl_X3, by decide, tw_fl_X3_18, Or.inl rfl, tyX3_ok 0 (by decide), rfl⟩
theorem fP_X3_22_X3 : my_FP RX3 22 3 1 .int := ⟨RX3, TX3, 4, "PitchRows$GoodRows", cl_X3, by decide, tw_fl_X3_22, Or.inl rfl, tyX3_ok 1 (by decide), rfl⟩
theorem fP_X4_7_X0 : my_FP RX4 7 0 0 .int := ⟨RX0, TX0, 5, "PitchRows$Numbered", cl_X0, by decide, tw_fl_X4_7, Or.inl rfl, tyX0_ok 0 (by decide), rfl⟩
theorem fP_X4_7_X5 : my_FP RX4 7 4 0 .int := ⟨RX5, TX5, 6, "PitchRows$Numbered", cl_X5, by decide, tw_fl_X4_7, Or.inl rfl, tyX5_ok 0 (by decide), rfl⟩
theorem fP_X5_27_X5 : my_FP RX5 27 4 0 .int := ⟨RX5, TX5, 6, "PitchRows$Readings", cl_X5, by decide, tw_fl_X5_27, Or.inr tw_sf_81, tyX5_ok 0 (by decide), rfl⟩
theorem fP_X6_15_X6 : my_FP RX6 15 5 0 .boolean := ⟨RX6, TX6, 4, "PitchRows$Sheet", cl_X6, by decide, tw_fl_X6_15, Or.inl rfl, tyX6_ok 0 (by decide), rfl⟩
theorem fP_X6_19_X6 : my_FP RX6 19 5 1 .int := ⟨RX6, TX6, 4, "PitchRows$Sheet", cl_X6, by decide, tw_fl_X6_19, Or.inl rfl, tyX6_ok 1 (by decide), rfl⟩
theorem fP_X6_23_X6 : my_FP RX6 23 5 2 .int := ⟨RX6, TX6, 4, "PitchRows$Sheet", cl_X6, by decide, tw_fl_X6_23, Or.inl rfl, tyX6_ok 2 (by decide), rfl⟩
theorem fP_X7_9_X7 : my_FP RX7 9 6 0 .int := ⟨RX7, TX7, 4, "PitchRows$TextReader", cl_X7, by decide, tw_fl_X7_9, Or.inl rfl, tyX7_ok 0 (by decide), rfl⟩
theorem fP_X7_15_X7 : my_FP RX7 15 6 1 .int := ⟨RX7, TX7, 4, "PitchRows$TextReader", cl_X7, by decide, tw_fl_X7_15, Or.inl rfl, tyX7_ok 1 (by decide), rfl⟩
theorem fP_X7_18_X7 : my_FP RX7 18 6 2 .int := ⟨RX7, TX7, 4, "PitchRows$TextReader", cl_X7, by decide, tw_fl_X7_18, Or.inl rfl, tyX7_ok 2 (by decide), rfl⟩
theorem fP_X7_21_X7 : my_FP RX7 21 6 3 .boolean := ⟨RX7, TX7, 4, "PitchRows$TextReader", cl_X7, by decide, tw_fl_X7_21, Or.inl rfl, tyX7_ok 3 (by decide), rfl⟩
theorem fP_X8_56_X8 : my_FP RX8 56 7 8 .int := ⟨RX8, TX8, 9, "PitchRows", cl_X8, by decide, tw_fl_X8_56, Or.inl rfl, tyX8_ok 8 (by decide), rfl⟩
theorem fP_X8_90_X0 : my_FP RX8 90 0 0 .int := ⟨RX0, TX0, 5, "PitchRows$Air", cl_X0, by decide, tw_fl_X8_90, Or.inr tw_sf_79, tyX0_ok 0 (by decide), rfl⟩
theorem fP_X8_93_X5 : my_FP RX8 93 4 0 .int := ⟨RX5, TX5, 6, "PitchRows$Readings", cl_X5, by decide, tw_fl_X8_93, Or.inr tw_sf_81, tyX5_ok 0 (by decide), rfl⟩
theorem fP_X8_101_X1 : my_FP RX8 101 1 0 .int := ⟨RX1, TX1, 2, "PitchRows$Caller", cl_X1, by decide, tw_fl_X8_101, Or.inl rfl, tyX1_ok 0 (by decide), rfl⟩
theorem fP_X8_217_X6 : my_FP RX8 217 5 0 .boolean := ⟨RX6, TX6, 4, "PitchRows$Sheet", cl_X6, by decide, tw_fl_X8_217, Or.inl rfl, tyX6_ok 0 (by decide), rfl⟩
theorem fP_X8_256_X8 : my_FP RX8 256 7 7 .int := ⟨RX8, TX8, 9, "PitchRows", cl_X8, by decide, tw_fl_X8_256, Or.inl rfl, tyX8_ok 7 (by decide), rfl⟩
theorem fP_X9_72_X9 : my_FP RX9 72 8 0 .int := ⟨RX9, TX9, 33, "PitchRowsModel", cl_X9, by decide, tw_fl_X9_72, Or.inl rfl, tyX9_ok 0 (by decide), rfl⟩
theorem fP_X9_80_X9 : my_FP RX9 80 8 1 .int := ⟨RX9, TX9, 33, "PitchRowsModel", cl_X9, by decide, tw_fl_X9_80, Or.inl rfl, tyX9_ok 1 (by decide), rfl⟩
theorem fP_X9_87_X9 : my_FP RX9 87 8 2 .int := ⟨RX9, TX9, 33, "PitchRowsModel", cl_X9, by decide, tw_fl_X9_87, Or.inl rfl, tyX9_ok 2 (by decide), rfl⟩
theorem fP_X9_90_X9 : my_FP RX9 90 8 5 .int := ⟨RX9, TX9, 33, "PitchRowsModel", cl_X9, by decide, tw_fl_X9_90, Or.inl rfl, tyX9_ok 5 (by decide), rfl⟩
theorem fP_X9_99_X9 : my_FP RX9 99 8 7 .int := ⟨RX9, TX9, 33, "PitchRowsModel", cl_X9, by decide, tw_fl_X9_99, Or.inl rfl, tyX9_ok 7 (by decide), rfl⟩
theorem fP_X9_102_X9 : my_FP RX9 102 8 6 .int := ⟨RX9, TX9, 33, "PitchRowsModel", cl_X9, by decide, tw_fl_X9_102, Or.inl rfl, tyX9_ok 6 (by decide), rfl⟩
theorem fP_X9_139_X9 : my_FP RX9 139 8 11 .int := ⟨RX9, TX9, 33, "PitchRowsModel", cl_X9, by decide, tw_fl_X9_139, Or.inl rfl, tyX9_ok 11 (by decide), rfl⟩
theorem fP_X9_142_X9 : my_FP RX9 142 8 22 .int := ⟨RX9, TX9, 33, "PitchRowsModel", cl_X9, by decide, tw_fl_X9_142, Or.inl rfl, tyX9_ok 22 (by decide), rfl⟩
theorem fP_X9_241_X9 : my_FP RX9 241 8 15 .int := ⟨RX9, TX9, 33, "PitchRowsModel", cl_X9, by decide, tw_fl_X9_241, Or.inl rfl, tyX9_ok 15 (by decide), rfl⟩
theorem fP_X9_247_X9 : my_FP RX9 247 8 19 .int := ⟨RX9, TX9, 33, "PitchRowsModel", cl_X9, by decide, tw_fl_X9_247, Or.inl rfl, tyX9_ok 19 (by decide), rfl⟩
theorem fP_X9_250_X9 : my_FP RX9 250 8 20 .int := ⟨RX9, TX9, 33, "PitchRowsModel", cl_X9, by decide, tw_fl_X9_250, Or.inl rfl, tyX9_ok 20 (by decide), rfl⟩
theorem fP_X9_253_X9 : my_FP RX9 253 8 21 .int := ⟨RX9, TX9, 33, "PitchRowsModel", cl_X9, by decide, tw_fl_X9_253, Or.inl rfl, tyX9_ok 21 (by decide), rfl⟩
theorem fP_X9_284_X9 : my_FP RX9 284 8 32 .int := ⟨RX9, TX9, 33, "PitchRowsModel", cl_X9, by decide, tw_fl_X9_284, Or.inl rfl, tyX9_ok 32 (by decide), rfl⟩
theorem cs_X0_34 : my_CS RX0 34 mJ7_fill_53178 2 := ⟨cd_J7_fill_53178, tw_ml_X0_34, tw_st_J7_fill_53178⟩
theorem cs_X0_54 : my_CS RX0 54 mJ6_bitCount_0f7a4 1 := ⟨cd_J6_bitCount_0f7a4, tw_ml_X0_54, tw_st_J6_bitCount_0f7a4⟩
theorem cs_X2_22 : my_CN RX2 22 "PitchRows" mX8_isWithin 3 := ⟨cd_X8_isWithin, tn_X2_22, tw_st_X8_isWithin⟩
theorem cs_X2_29 : my_CV RX2 29 RX1 mX1_freeBeats 1 := ⟨cd_X1_freeBeats, tw_ml_X2_29, tw_im_X1_freeBeats, tw_se_X1_X1_freeBeats⟩
theorem cs_X2_39 : my_CS RX2 39 mX7_kindOf 1 := ⟨cd_X7_kindOf, tw_ml_X2_39, tw_st_X7_kindOf⟩
theorem cs_X2_50 : my_CV RX2 50 RX2 mX2_hasBeat 1 := ⟨cd_X2_hasBeat, tw_ml_X2_50, tw_im_X2_hasBeat, tw_se_X2_X2_hasBeat⟩
theorem cs_X2_54 : my_CV RX2 54 RX1 mX1_counted 2 := ⟨cd_X1_counted, tw_ml_X2_54, tw_im_X1_counted, tw_se_X1_X1_counted⟩
theorem cs_X2_58 : my_CV RX2 58 RX2 mX2_listened 3 := ⟨cd_X2_listened, tw_ml_X2_58, tw_im_X2_listened, tw_se_X2_X2_listened⟩
theorem cs_X3_25 : my_CS RX3 25 mX3_grow 2 := ⟨cd_X3_grow, tw_ml_X3_25, tw_st_X3_grow⟩
theorem cs_X3_29 : my_CV RX3 29 RX3 mX3_keep 0 := ⟨cd_X3_keep, tw_ml_X3_29, tw_im_X3_keep, tw_se_X3_X3_keep⟩
theorem cs_X3_32 : my_CS RX3 32 mX3_staysGood 2 := ⟨cd_X3_staysGood, tw_ml_X3_32, tw_st_X3_staysGood⟩
theorem cs_X3_36 : my_CV RX3 36 RX3 mX3_codeOf 1 := ⟨cd_X3_codeOf, tw_ml_X3_36, tw_im_X3_codeOf, tw_se_X3_X3_codeOf⟩
theorem cs_X3_40 : my_CV RX3 40 RX3 mX3_pitchOf 2 := ⟨cd_X3_pitchOf, tw_ml_X3_40, tw_im_X3_pitchOf, tw_se_X3_X3_pitchOf⟩
theorem cs_X3_44 : my_CV RX3 44 RX3 mX3_isLike 2 := ⟨cd_X3_isLike, tw_ml_X3_44, tw_im_X3_isLike, tw_se_X3_X3_isLike⟩
theorem cs_X4_13 : my_CN RX4 13 "PitchRows" mX8_isWithin 3 := ⟨cd_X8_isWithin, tn_X4_13, tw_st_X8_isWithin⟩
theorem cs_X5_31 : my_CV RX5 31 RX2 mX2_heard 4 := ⟨cd_X2_heard, tw_ml_X5_31, tw_im_X2_heard, tw_se_X2_X2_heard⟩
theorem cs_X6_26 : my_CS RX6 26 mJ7_fill_53178 2 := ⟨cd_J7_fill_53178, tw_ml_X6_26, tw_st_J7_fill_53178⟩
theorem cs_X6_32 : my_CV RX6 32 RX6 mX6_holds 2 := ⟨cd_X6_holds, tw_ml_X6_32, tw_im_X6_holds, tw_se_X6_X6_holds⟩
theorem cs_X7_31 : my_CV RX7 31 RX7 mX7_goesOn 2 := ⟨cd_X7_goesOn, tw_ml_X7_31, tw_im_X7_goesOn, tw_se_X7_X7_goesOn⟩
theorem cs_X7_35 : my_CN RX7 35 "PitchRows" mX8_isWithin 3 := ⟨cd_X8_isWithin, tn_X7_35, tw_st_X8_isWithin⟩
theorem cs_X7_39 : my_CV RX7 39 RX7 mX7_fitsPart 1 := ⟨cd_X7_fitsPart, tw_ml_X7_39, tw_im_X7_fitsPart, tw_se_X7_X7_fitsPart⟩
theorem cs_X7_43 : my_CS RX7 43 mX7_kindOf 1 := ⟨cd_X7_kindOf, tw_ml_X7_43, tw_st_X7_kindOf⟩
theorem cs_X8_60 : my_CS RX8 60 mX8_isSheet 1 := ⟨cd_X8_isSheet, tw_ml_X8_60, tw_st_X8_isSheet⟩
theorem cs_X8_64 : my_CS RX8 64 mX8_isLane 1 := ⟨cd_X8_isLane, tw_ml_X8_64, tw_st_X8_isLane⟩
theorem cs_X8_67 : my_CV RX8 67 RX6 mX6_faultAs 3 := ⟨cd_X6_faultAs, tw_ml_X8_67, tw_im_X6_faultAs, tw_se_X6_X6_faultAs⟩
theorem cs_X8_71 : my_CV RX8 71 RX8 mX8_faulted 1 := ⟨cd_X8_faulted, tw_ml_X8_71, tw_im_X8_faulted, tw_se_X8_X8_faulted⟩
theorem cs_X8_75 : my_CV RX8 75 RX7 mX7_readUpTo 3 := ⟨cd_X7_readUpTo, tw_ml_X8_75, tw_im_X7_readUpTo, tw_se_X7_X7_readUpTo⟩
theorem cs_X8_86 : my_CV RX8 86 RX2 mX2_take 3 := ⟨cd_X2_take, tw_ml_X8_86, tw_im_X2_take, tw_se_X2_X2_take⟩
theorem cs_X8_95 : my_CV RX8 95 RX2 mX2_has 1 := ⟨cd_X2_has, tw_ml_X8_95, tw_im_X2_has, tw_se_X2_X2_has⟩
theorem cs_X8_109 : my_CV RX8 109 RX1 mX1_freeBeats 1 := ⟨cd_X1_freeBeats, tw_ml_X8_109, tw_im_X1_freeBeats, tw_se_X1_X1_freeBeats⟩
theorem cs_X8_116 : my_CS RX8 116 mX3_isGood 2 := ⟨cd_X3_isGood, tw_ml_X8_116, tw_st_X3_isGood⟩
theorem cs_X8_120 : my_CS RX8 120 mX8_isWithin 3 := ⟨cd_X8_isWithin, tw_ml_X8_120, tw_st_X8_isWithin⟩
theorem cs_X8_124 : my_CV RX8 124 RX8 mX8_toldPitch 2 := ⟨cd_X8_toldPitch, tw_ml_X8_124, tw_im_X8_toldPitch, tw_se_X8_X8_toldPitch⟩
theorem cs_X8_128 : my_CV RX8 128 RX2 mX2_hasBeat 1 := ⟨cd_X2_hasBeat, tw_ml_X8_128, tw_im_X2_hasBeat, tw_se_X2_X2_hasBeat⟩
theorem cs_X8_131 : my_CS RX8 131 mX8_isShift 1 := ⟨cd_X8_isShift, tw_ml_X8_131, tw_st_X8_isShift⟩
theorem cs_X8_134 : my_CV RX8 134 RX2 mX2_heard 4 := ⟨cd_X2_heard, tw_ml_X8_134, tw_im_X2_heard, tw_se_X2_X2_heard⟩
theorem cs_X8_138 : my_CV RX8 138 RX0 mX0_add 3 := ⟨cd_X0_add, tw_ml_X8_138, tw_im_X0_add, tw_se_X0_X0_add⟩
theorem cs_X8_141A : my_CU RX8 141 RX0 ⟨"PitchRows$Air", "takeBack", "(I)Z"⟩ mX4_takeBack 1 := ⟨cd_X4_takeBack, rfl, tw_ml_X8_141, tw_sm_319, tw_se_X0_X4_takeBack, tw_im_X4_takeBack⟩
theorem cs_X8_144 : my_CV RX8 144 RX0 mX0_sound 1 := ⟨cd_X0_sound, tw_ml_X8_144, tw_im_X0_sound, tw_se_X0_X0_sound⟩
theorem cs_X8_151 : my_CV RX8 151 RX2 mX2_listened 3 := ⟨cd_X2_listened, tw_ml_X8_151, tw_im_X2_listened, tw_se_X2_X2_listened⟩
theorem cs_X8_155 : my_CV RX8 155 RX2 mX2_loudestMoment 2 := ⟨cd_X2_loudestMoment, tw_ml_X8_155, tw_im_X2_loudestMoment, tw_se_X2_X2_loudestMoment⟩
theorem cs_X8_159 : my_CS RX8 159 mX8_isDayQuestion 1 := ⟨cd_X8_isDayQuestion, tw_ml_X8_159, tw_st_X8_isDayQuestion⟩
theorem cs_X8_162 : my_CS RX8 162 mX8_areActs 3 := ⟨cd_X8_areActs, tw_ml_X8_162, tw_st_X8_areActs⟩
theorem cs_X8_166 : my_CV RX8 166 RX0 mX0_becomeLike 1 := ⟨cd_X0_becomeLike, tw_ml_X8_166, tw_im_X0_becomeLike, tw_se_X0_X0_becomeLike⟩
theorem cs_X8_170 : my_CV RX8 170 RX8 mX8_firstWrong 3 := ⟨cd_X8_firstWrong, tw_ml_X8_170, tw_im_X8_firstWrong, tw_se_X8_X8_firstWrong⟩
theorem cs_X8_173 : my_CV RX8 173 RX8 mX8_afterDay 1 := ⟨cd_X8_afterDay, tw_ml_X8_173, tw_im_X8_afterDay, tw_se_X8_X8_afterDay⟩
theorem cs_X8_182 : my_CV RX8 182 RX3 mX3_makeFor 1 := ⟨cd_X3_makeFor, tw_ml_X8_182, tw_im_X3_makeFor, tw_se_X3_X3_makeFor⟩
theorem cs_X8_187 : my_CV RX8 187 RX3 mX3_countLike 1 := ⟨cd_X3_countLike, tw_ml_X8_187, tw_im_X3_countLike, tw_se_X3_X3_countLike⟩
theorem cs_X8_191 : my_CV RX8 191 RX3 mX3_firstLike 1 := ⟨cd_X3_firstLike, tw_ml_X8_191, tw_im_X3_firstLike, tw_se_X3_X3_firstLike⟩
theorem cs_X8_194 : my_CV RX8 194 RX3 mX3_pitchOf 2 := ⟨cd_X3_pitchOf, tw_ml_X8_194, tw_im_X3_pitchOf, tw_se_X3_X3_pitchOf⟩
theorem cs_X8_197 : my_CV RX8 197 RX3 mX3_firstBehind 1 := ⟨cd_X3_firstBehind, tw_ml_X8_197, tw_im_X3_firstBehind, tw_se_X3_X3_firstBehind⟩
theorem cs_X8_200 : my_CV RX8 200 RX5 mX5_add 5 := ⟨cd_X5_add, tw_ml_X8_200, tw_im_X5_add, tw_se_X5_X5_add⟩
theorem cs_X8_203R : my_CU RX8 203 RX5 ⟨"PitchRows$Readings", "takeBack", "(I)Z"⟩ mX4_takeBack 1 := ⟨cd_X4_takeBack, rfl, tw_ml_X8_203, tw_sm_472, tw_se_X5_X4_takeBack, tw_im_X4_takeBack⟩
theorem cs_X8_204 : my_CV RX8 204 RX5 mX5_areSo 1 := ⟨cd_X5_areSo, tw_ml_X8_204, tw_im_X5_areSo, tw_se_X5_X5_areSo⟩
theorem cs_X8_210 : my_CS RX8 210 mX8_inLeastTerms 2 := ⟨cd_X8_inLeastTerms, tw_ml_X8_210, tw_st_X8_inLeastTerms⟩
theorem cs_X8_213 : my_CV RX8 213 RX6 mX6_begin 2 := ⟨cd_X6_begin, tw_ml_X8_213, tw_im_X6_begin, tw_se_X6_X6_begin⟩
theorem cs_X8_220 : my_CV RX8 220 RX6 mX6_holds 2 := ⟨cd_X6_holds, tw_ml_X8_220, tw_im_X6_holds, tw_se_X6_X6_holds⟩
theorem cs_X8_224 : my_CV RX8 224 RX6 mX6_write 2 := ⟨cd_X6_write, tw_ml_X8_224, tw_im_X6_write, tw_se_X6_X6_write⟩
theorem cs_X8_239 : my_CV RX8 239 RX8 mX8_keenTelling 1 := ⟨cd_X8_keenTelling, tw_ml_X8_239, tw_im_X8_keenTelling, tw_se_X8_X8_keenTelling⟩
theorem cs_X8_243 : my_CV RX8 243 RX8 mX8_broadTelling 1 := ⟨cd_X8_broadTelling, tw_ml_X8_243, tw_im_X8_broadTelling, tw_se_X8_X8_broadTelling⟩
theorem cs_X8_246 : my_CV RX8 246 RX8 mX8_plainTelling 1 := ⟨cd_X8_plainTelling, tw_ml_X8_246, tw_im_X8_plainTelling, tw_se_X8_X8_plainTelling⟩
theorem cs_X8_249 : my_CV RX8 249 RX8 mX8_keenHail 0 := ⟨cd_X8_keenHail, tw_ml_X8_249, tw_im_X8_keenHail, tw_se_X8_X8_keenHail⟩
theorem cs_X8_253 : my_CV RX8 253 RX8 mX8_lentHail 1 := ⟨cd_X8_lentHail, tw_ml_X8_253, tw_im_X8_lentHail, tw_se_X8_X8_lentHail⟩
theorem cs_X8_259 : my_CV RX8 259 RX2 mX2_freeBeatsOfAll 0 := ⟨cd_X2_freeBeatsOfAll, tw_ml_X8_259, tw_im_X2_freeBeatsOfAll, tw_se_X2_X2_freeBeatsOfAll⟩
theorem cs_X8_262 : my_CV RX8 262 RX0 mX0_soundingMoments 0 := ⟨cd_X0_soundingMoments, tw_ml_X8_262, tw_im_X0_soundingMoments, tw_se_X0_X0_soundingMoments⟩
theorem cs_X8_265 : my_CV RX8 265 RX0 mX0_lastSounding 0 := ⟨cd_X0_lastSounding, tw_ml_X8_265, tw_im_X0_lastSounding, tw_se_X0_X0_lastSounding⟩
theorem cs_X8_268 : my_CV RX8 268 RX0 mX0_firstOfTwo 0 := ⟨cd_X0_firstOfTwo, tw_ml_X8_268, tw_im_X0_firstOfTwo, tw_se_X0_X0_firstOfTwo⟩
theorem cs_X8_271 : my_CV RX8 271 RX8 mX8_mostListened 2 := ⟨cd_X8_mostListened, tw_ml_X8_271, tw_im_X8_mostListened, tw_se_X8_X8_mostListened⟩
theorem cs_X8_274 : my_CV RX8 274 RX8 mX8_leave 1 := ⟨cd_X8_leave, tw_ml_X8_274, tw_im_X8_leave, tw_se_X8_X8_leave⟩
theorem cs_X9_76 : my_CS RX9 76 mX9_lost 0 := ⟨cd_X9_lost, tw_ml_X9_76, tw_st_X9_lost⟩
theorem cs_X9_83 : my_CS RX9 83 mX9_in 3 := ⟨cd_X9_in, tw_ml_X9_83, tw_st_X9_in⟩
theorem cs_X9_93 : my_CV RX9 93 RX9 mX9_codeAt 2 := ⟨cd_X9_codeAt, tw_ml_X9_93, tw_im_X9_codeAt, tw_se_X9_X9_codeAt⟩
theorem cs_X9_105 : my_CV RX9 105 RX9 mX9_readsSign 3 := ⟨cd_X9_readsSign, tw_ml_X9_105, tw_im_X9_readsSign, tw_se_X9_X9_readsSign⟩
theorem cs_X9_113 : my_CV RX9 113 RX9 mX9_readsCaller 2 := ⟨cd_X9_readsCaller, tw_ml_X9_113, tw_im_X9_readsCaller, tw_se_X9_X9_readsCaller⟩
theorem cs_X9_117 : my_CV RX9 117 RX9 mX9_failed 1 := ⟨cd_X9_failed, tw_ml_X9_117, tw_im_X9_failed, tw_se_X9_X9_failed⟩
theorem cs_X9_121 : my_CS RX9 121 mX9_isBeyond 3 := ⟨cd_X9_isBeyond, tw_ml_X9_121, tw_st_X9_isBeyond⟩
theorem cs_X9_125 : my_CS RX9 125 mX9_noSheet 1 := ⟨cd_X9_noSheet, tw_ml_X9_125, tw_st_X9_noSheet⟩
theorem cs_X9_129 : my_CV RX9 129 RX9 mX9_refused 1 := ⟨cd_X9_refused, tw_ml_X9_129, tw_im_X9_refused, tw_se_X9_X9_refused⟩
theorem cs_X9_132 : my_CV RX9 132 RX9 mX9_cellsBarred 4 := ⟨cd_X9_cellsBarred, tw_ml_X9_132, tw_im_X9_cellsBarred, tw_se_X9_X9_cellsBarred⟩
theorem cs_X9_136 : my_CV RX9 136 RX9 mX9_readsCallers 2 := ⟨cd_X9_readsCallers, tw_ml_X9_136, tw_im_X9_readsCallers, tw_se_X9_X9_readsCallers⟩
theorem cs_X9_145 : my_CV RX9 145 RX9 mX9_pitch 2 := ⟨cd_X9_pitch, tw_ml_X9_145, tw_im_X9_pitch, tw_se_X9_X9_pitch⟩
theorem cs_X9_148 : my_CS RX9 148 mX9_bits 1 := ⟨cd_X9_bits, tw_ml_X9_148, tw_st_X9_bits⟩
theorem cs_X9_151 : my_CV RX9 151 RX9 mX9_areUnlike 0 := ⟨cd_X9_areUnlike, tw_ml_X9_151, tw_im_X9_areUnlike, tw_se_X9_X9_areUnlike⟩
theorem cs_X9_155 : my_CV RX9 155 RX9 mX9_freeOf 1 := ⟨cd_X9_freeOf, tw_ml_X9_155, tw_im_X9_freeOf, tw_se_X9_X9_freeOf⟩
theorem cs_X9_158 : my_CV RX9 158 RX9 mX9_triesThoseOf 1 := ⟨cd_X9_triesThoseOf, tw_ml_X9_158, tw_im_X9_triesThoseOf, tw_se_X9_X9_triesThoseOf⟩
theorem cs_X9_162 : my_CV RX9 162 RX9 mX9_isGood 0 := ⟨cd_X9_isGood, tw_ml_X9_162, tw_im_X9_isGood, tw_se_X9_X9_isGood⟩
theorem cs_X9_165 : my_CV RX9 165 RX9 mX9_noCaller 1 := ⟨cd_X9_noCaller, tw_ml_X9_165, tw_im_X9_noCaller, tw_se_X9_X9_noCaller⟩
theorem cs_X9_172 : my_CV RX9 172 RX9 mX9_noBeat 1 := ⟨cd_X9_noBeat, tw_ml_X9_172, tw_im_X9_noBeat, tw_se_X9_X9_noBeat⟩
theorem cs_X9_175 : my_CV RX9 175 RX9 mX9_goodNow 1 := ⟨cd_X9_goodNow, tw_ml_X9_175, tw_im_X9_goodNow, tw_se_X9_X9_goodNow⟩
theorem cs_X9_180 : my_CV RX9 180 RX9 mX9_counts 3 := ⟨cd_X9_counts, tw_ml_X9_180, tw_im_X9_counts, tw_se_X9_X9_counts⟩
theorem cs_X9_188 : my_CS RX9 188 mX9_isShift 1 := ⟨cd_X9_isShift, tw_ml_X9_188, tw_st_X9_isShift⟩
theorem cs_X9_191 : my_CV RX9 191 RX9 mX9_heardBy 4 := ⟨cd_X9_heardBy, tw_ml_X9_191, tw_im_X9_heardBy, tw_se_X9_X9_heardBy⟩
theorem cs_X9_197 : my_CV RX9 197 RX9 mX9_sends 3 := ⟨cd_X9_sends, tw_ml_X9_197, tw_im_X9_sends, tw_se_X9_X9_sends⟩
theorem cs_X9_202 : my_CS RX9 202 mX9_isMoment 1 := ⟨cd_X9_isMoment, tw_ml_X9_202, tw_st_X9_isMoment⟩
theorem cs_X9_205 : my_CV RX9 205 RX9 mX9_airOf 1 := ⟨cd_X9_airOf, tw_ml_X9_205, tw_im_X9_airOf, tw_se_X9_X9_airOf⟩
theorem cs_X9_208 : my_CV RX9 208 RX9 mX9_countsOfAll 3 := ⟨cd_X9_countsOfAll, tw_ml_X9_208, tw_im_X9_countsOfAll, tw_se_X9_X9_countsOfAll⟩
theorem cs_X9_211 : my_CV RX9 211 RX9 mX9_listensTo 2 := ⟨cd_X9_listensTo, tw_ml_X9_211, tw_im_X9_listensTo, tw_se_X9_X9_listensTo⟩
theorem cs_X9_214 : my_CV RX9 214 RX9 mX9_loudestOf 1 := ⟨cd_X9_loudestOf, tw_ml_X9_214, tw_im_X9_loudestOf, tw_se_X9_X9_loudestOf⟩
theorem cs_X9_221 : my_CV RX9 221 RX9 mX9_doesPair 2 := ⟨cd_X9_doesPair, tw_ml_X9_221, tw_im_X9_doesPair, tw_se_X9_X9_doesPair⟩
theorem cs_X9_224 : my_CV RX9 224 RX9 mX9_manyThatSound 0 := ⟨cd_X9_manyThatSound, tw_ml_X9_224, tw_im_X9_manyThatSound, tw_se_X9_X9_manyThatSound⟩
theorem cs_X9_228 : my_CV RX9 228 RX9 mX9_lastThatSounds 0 := ⟨cd_X9_lastThatSounds, tw_ml_X9_228, tw_im_X9_lastThatSounds, tw_se_X9_X9_lastThatSounds⟩
theorem cs_X9_231 : my_CV RX9 231 RX9 mX9_firstOfTwo 0 := ⟨cd_X9_firstOfTwo, tw_ml_X9_231, tw_im_X9_firstOfTwo, tw_se_X9_X9_firstOfTwo⟩
theorem cs_X9_238 : my_CS RX9 238 mX9_isAsTold 2 := ⟨cd_X9_isAsTold, tw_ml_X9_238, tw_st_X9_isAsTold⟩
theorem cs_X9_244 : my_CV RX9 244 RX9 mX9_dayOf 3 := ⟨cd_X9_dayOf, tw_ml_X9_244, tw_im_X9_dayOf, tw_se_X9_X9_dayOf⟩
theorem cs_X9_256 : my_CV RX9 256 RX9 mX9_peaks 1 := ⟨cd_X9_peaks, tw_ml_X9_256, tw_im_X9_peaks, tw_se_X9_X9_peaks⟩
theorem cs_X9_259 : my_CV RX9 259 RX9 mX9_triesFirst 0 := ⟨cd_X9_triesFirst, tw_ml_X9_259, tw_im_X9_triesFirst, tw_se_X9_X9_triesFirst⟩
theorem cs_X9_262 : my_CV RX9 262 RX9 mX9_triesNext 0 := ⟨cd_X9_triesNext, tw_ml_X9_262, tw_im_X9_triesNext, tw_se_X9_X9_triesNext⟩
theorem cs_X9_265 : my_CV RX9 265 RX9 mX9_hasThoseOf 1 := ⟨cd_X9_hasThoseOf, tw_ml_X9_265, tw_im_X9_hasThoseOf, tw_se_X9_X9_hasThoseOf⟩
theorem cs_X9_268 : my_CV RX9 268 RX9 mX9_areSo 0 := ⟨cd_X9_areSo, tw_ml_X9_268, tw_im_X9_areSo, tw_se_X9_X9_areSo⟩
theorem cs_X9_273 : my_CS RX9 273 mX9_share 3 := ⟨cd_X9_share, tw_ml_X9_273, tw_st_X9_share⟩
theorem cs_X9_277 : my_CV RX9 277 RX9 mX9_noCell 2 := ⟨cd_X9_noCell, tw_ml_X9_277, tw_im_X9_noCell, tw_se_X9_X9_noCell⟩
theorem cs_X9_280 : my_CV RX9 280 RX9 mX9_failedLong 1 := ⟨cd_X9_failedLong, tw_ml_X9_280, tw_im_X9_failedLong, tw_se_X9_X9_failedLong⟩
theorem cs_X9_287 : my_CV RX9 287 RX9 mX9_traced 1 := ⟨cd_X9_traced, tw_ml_X9_287, tw_im_X9_traced, tw_se_X9_X9_traced⟩
theorem tw_mmax : Cond.code Lib.Math.max.name Lib.Math.max.code 2 (some .int) ∈ tblG := my_in 410 (by decide +kernel) (by decide +kernel)
theorem my_r1 {a r : Int32} {b τ : my_M} (h : some (a, b) = some (r, τ)) : (some (.int a) : Option Value) = some (.int r) := by cases h; rfl
theorem my_r1l {a r : Int64} {b τ : my_M} (h : some (a, b) = some (r, τ)) : (some (.long a) : Option Value) = some (.long r) := by cases h; rfl
theorem my_r2 {α : Type} {a r : α} {b τ : my_M} (h : some (a, b) = some (r, τ)) : b = τ := by cases h; rfl
theorem my_nn {α : Type} {r : α} (h : (none : Option α) = some r) : False := by cases h
theorem my_inc {n : Int} {c : Int32} (hc : Int32.ofInt n = c) (x : Int32) : x + Int32.ofInt n = x + c := by rw [hc]
theorem my_ixlt {i : Int32} {n : Nat} (h : my_ix i n) : i.toNatClampNeg < n := Nat.not_le.mp fun q => h (Or.inr q)
section CALLS
variable {X : my_X} {w : my_V} {lay : List my_L} {cc : ByteArray} {own : String} {nL : Nat} {ret : Option FieldType} {k : Nat} {v : Option Value} {τ σ : my_M} {pc : Nat} {lv : List (Option Value)} {st : List Value}
theorem g_callVi (h : my_OK X w lay cc own nL ret) (pc' : Nat) {t : my_T} {k' n idx : Nat} {As rest st0 : List Value} {σ1 : my_M} {r : Int32} {j ci N : Nat} {C : String} {T : u_T} {fs : List (Option Nat)} (hc : my_CV own idx C t n) (hcl : vwCl[ci]? = some (C, T, N)) (hl0 : lay[j]? = some (.inr (ci, fs))) (hM : Ct w lay t k' (.ref (w.2.2.2 j) :: As) σ (some (.int r)) σ1) (hn : As.length = n) (hst : st0 = As.reverse ++ .ref (w.2.2.2 j) :: rest) (hs : (rest.map fun v => v.category).sum ≤ 8) (hk : my_fit t k' k) (d : decode cc pc = .ok (.invokevirtual idx, 3)) (e : pc + 3 = pc') (kk : Go X w lay k nL v τ σ1 pc' lv (.int r :: rest)) : Go X w lay k nL v τ σ pc lv st0 := by
  subst e
  exact g_callV h hc hcl hl0 hM hn hst hs hk d kk
theorem g_callVl (h : my_OK X w lay cc own nL ret) (pc' : Nat) {t : my_T} {k' n idx : Nat} {As rest st0 : List Value} {σ1 : my_M} {r : Int64} {j ci N : Nat} {C : String} {T : u_T} {fs : List (Option Nat)} (hc : my_CV own idx C t n) (hcl : vwCl[ci]? = some (C, T, N)) (hl0 : lay[j]? = some (.inr (ci, fs))) (hM : Ct w lay t k' (.ref (w.2.2.2 j) :: As) σ (some (.long r)) σ1) (hn : As.length = n) (hst : st0 = As.reverse ++ .ref (w.2.2.2 j) :: rest) (hs : (rest.map fun v => v.category).sum ≤ 8) (hk : my_fit t k' k) (d : decode cc pc = .ok (.invokevirtual idx, 3)) (e : pc + 3 = pc') (kk : Go X w lay k nL v τ σ1 pc' lv (.long r :: rest)) : Go X w lay k nL v τ σ pc lv st0 := by
  subst e
  exact g_callV h hc hcl hl0 hM hn hst hs hk d kk
theorem g_callVv (h : my_OK X w lay cc own nL ret) (pc' : Nat) {t : my_T} {k' n idx : Nat} {As rest st0 : List Value} {σ1 : my_M} {j ci N : Nat} {C : String} {T : u_T} {fs : List (Option Nat)} (hc : my_CV own idx C t n) (hcl : vwCl[ci]? = some (C, T, N)) (hl0 : lay[j]? = some (.inr (ci, fs))) (hM : Ct w lay t k' (.ref (w.2.2.2 j) :: As) σ none σ1) (hn : As.length = n) (hst : st0 = As.reverse ++ .ref (w.2.2.2 j) :: rest) (hs : (rest.map fun v => v.category).sum ≤ 8) (hk : my_fit t k' k) (d : decode cc pc = .ok (.invokevirtual idx, 3)) (e : pc + 3 = pc') (kk : Go X w lay k nL v τ σ1 pc' lv rest) : Go X w lay k nL v τ σ pc lv st0 := by
  subst e
  exact g_callV h hc hcl hl0 hM hn hst hs hk d kk
theorem g_callUi (h : my_OK X w lay cc own nL ret) (pc' : Nat) {t : my_T} {k' n idx : Nat} {As rest st0 : List Value} {σ1 : my_M} {r : Int32} {j ci N : Nat} {C : String} {T : u_T} {fs : List (Option Nat)} {x : MethodName} (hc : my_CU own idx C x t n) (hcl : vwCl[ci]? = some (C, T, N)) (hl0 : lay[j]? = some (.inr (ci, fs))) (hM : Ct w lay t k' (.ref (w.2.2.2 j) :: As) σ (some (.int r)) σ1) (hn : As.length = n) (hst : st0 = As.reverse ++ .ref (w.2.2.2 j) :: rest) (hs : (rest.map fun v => v.category).sum ≤ 8) (hk : my_fit t k' k) (d : decode cc pc = .ok (.invokevirtual idx, 3)) (e : pc + 3 = pc') (kk : Go X w lay k nL v τ σ1 pc' lv (.int r :: rest)) : Go X w lay k nL v τ σ pc lv st0 := by
  subst e
  exact g_callU h hc hcl hl0 hM hn hst hs hk d kk
theorem g_callUl (h : my_OK X w lay cc own nL ret) (pc' : Nat) {t : my_T} {k' n idx : Nat} {As rest st0 : List Value} {σ1 : my_M} {r : Int64} {j ci N : Nat} {C : String} {T : u_T} {fs : List (Option Nat)} {x : MethodName} (hc : my_CU own idx C x t n) (hcl : vwCl[ci]? = some (C, T, N)) (hl0 : lay[j]? = some (.inr (ci, fs))) (hM : Ct w lay t k' (.ref (w.2.2.2 j) :: As) σ (some (.long r)) σ1) (hn : As.length = n) (hst : st0 = As.reverse ++ .ref (w.2.2.2 j) :: rest) (hs : (rest.map fun v => v.category).sum ≤ 8) (hk : my_fit t k' k) (d : decode cc pc = .ok (.invokevirtual idx, 3)) (e : pc + 3 = pc') (kk : Go X w lay k nL v τ σ1 pc' lv (.long r :: rest)) : Go X w lay k nL v τ σ pc lv st0 := by
  subst e
  exact g_callU h hc hcl hl0 hM hn hst hs hk d kk
theorem g_callUv (h : my_OK X w lay cc own nL ret) (pc' : Nat) {t : my_T} {k' n idx : Nat} {As rest st0 : List Value} {σ1 : my_M} {j ci N : Nat} {C : String} {T : u_T} {fs : List (Option Nat)} {x : MethodName} (hc : my_CU own idx C x t n) (hcl : vwCl[ci]? = some (C, T, N)) (hl0 : lay[j]? = some (.inr (ci, fs))) (hM : Ct w lay t k' (.ref (w.2.2.2 j) :: As) σ none σ1) (hn : As.length = n) (hst : st0 = As.reverse ++ .ref (w.2.2.2 j) :: rest) (hs : (rest.map fun v => v.category).sum ≤ 8) (hk : my_fit t k' k) (d : decode cc pc = .ok (.invokevirtual idx, 3)) (e : pc + 3 = pc') (kk : Go X w lay k nL v τ σ1 pc' lv rest) : Go X w lay k nL v τ σ pc lv st0 := by
  subst e
  exact g_callU h hc hcl hl0 hM hn hst hs hk d kk
theorem g_callSi (h : my_OK X w lay cc own nL ret) (pc' : Nat) {t : my_T} {k' n idx : Nat} {As rest st0 : List Value} {σ1 : my_M} {r : Int32} (hc : my_CS own idx t n) (hM : Ct w lay t k' As σ (some (.int r)) σ1) (hn : As.length = n) (hst : st0 = As.reverse ++ rest) (hs : (rest.map fun v => v.category).sum ≤ 8) (hk : my_fit t k' k) (d : decode cc pc = .ok (.invokestatic idx, 3)) (e : pc + 3 = pc') (kk : Go X w lay k nL v τ σ1 pc' lv (.int r :: rest)) : Go X w lay k nL v τ σ pc lv st0 := by
  subst e
  exact g_callS h hc hM hn hst hs hk d kk
theorem g_callSl (h : my_OK X w lay cc own nL ret) (pc' : Nat) {t : my_T} {k' n idx : Nat} {As rest st0 : List Value} {σ1 : my_M} {r : Int64} (hc : my_CS own idx t n) (hM : Ct w lay t k' As σ (some (.long r)) σ1) (hn : As.length = n) (hst : st0 = As.reverse ++ rest) (hs : (rest.map fun v => v.category).sum ≤ 8) (hk : my_fit t k' k) (d : decode cc pc = .ok (.invokestatic idx, 3)) (e : pc + 3 = pc') (kk : Go X w lay k nL v τ σ1 pc' lv (.long r :: rest)) : Go X w lay k nL v τ σ pc lv st0 := by
  subst e
  exact g_callS h hc hM hn hst hs hk d kk
theorem g_callSv (h : my_OK X w lay cc own nL ret) (pc' : Nat) {t : my_T} {k' n idx : Nat} {As rest st0 : List Value} {σ1 : my_M} (hc : my_CS own idx t n) (hM : Ct w lay t k' As σ none σ1) (hn : As.length = n) (hst : st0 = As.reverse ++ rest) (hs : (rest.map fun v => v.category).sum ≤ 8) (hk : my_fit t k' k) (d : decode cc pc = .ok (.invokestatic idx, 3)) (e : pc + 3 = pc') (kk : Go X w lay k nL v τ σ1 pc' lv rest) : Go X w lay k nL v τ σ pc lv st0 := by
  subst e
  exact g_callS h hc hM hn hst hs hk d kk
theorem g_callNi (h : my_OK X w lay cc own nL ret) (pc' : Nat) {t : my_T} {k' n idx : Nat} {As rest st0 : List Value} {σ1 : my_M} {r : Int32} {host : String} (hc : my_CN own idx host t n) (hM : Ct w lay t k' As σ (some (.int r)) σ1) (hn : As.length = n) (hst : st0 = As.reverse ++ rest) (hs : (rest.map fun v => v.category).sum ≤ 8) (hk : my_fit t k' k) (d : decode cc pc = .ok (.invokestatic idx, 3)) (e : pc + 3 = pc') (kk : Go X w lay k nL v τ σ1 pc' lv (.int r :: rest)) : Go X w lay k nL v τ σ pc lv st0 := by
  subst e
  exact g_callN h hc hM hn hst hs hk d kk
theorem g_callNl (h : my_OK X w lay cc own nL ret) (pc' : Nat) {t : my_T} {k' n idx : Nat} {As rest st0 : List Value} {σ1 : my_M} {r : Int64} {host : String} (hc : my_CN own idx host t n) (hM : Ct w lay t k' As σ (some (.long r)) σ1) (hn : As.length = n) (hst : st0 = As.reverse ++ rest) (hs : (rest.map fun v => v.category).sum ≤ 8) (hk : my_fit t k' k) (d : decode cc pc = .ok (.invokestatic idx, 3)) (e : pc + 3 = pc') (kk : Go X w lay k nL v τ σ1 pc' lv (.long r :: rest)) : Go X w lay k nL v τ σ pc lv st0 := by
  subst e
  exact g_callN h hc hM hn hst hs hk d kk
theorem g_callNv (h : my_OK X w lay cc own nL ret) (pc' : Nat) {t : my_T} {k' n idx : Nat} {As rest st0 : List Value} {σ1 : my_M} {host : String} (hc : my_CN own idx host t n) (hM : Ct w lay t k' As σ none σ1) (hn : As.length = n) (hst : st0 = As.reverse ++ rest) (hs : (rest.map fun v => v.category).sum ≤ 8) (hk : my_fit t k' k) (d : decode cc pc = .ok (.invokestatic idx, 3)) (e : pc + 3 = pc') (kk : Go X w lay k nL v τ σ1 pc' lv rest) : Go X w lay k nL v τ σ pc lv st0 := by
  subst e
  exact g_callN h hc hM hn hst hs hk d kk
theorem g_mmax (h : my_OK X w lay cc own nL ret) (pc' : Nat) {idx : Nat} {x y : Int32} (hlk : Cond.methodLink own idx Lib.Math.max.name ∈ tblG) (hk : 1 ≤ k) (d : decode cc pc = .ok (.invokestatic idx, 3)) (e : pc + 3 = pc') (hs : (st.map fun v => v.category).sum ≤ 8)
    (kk : Go X w lay k nL v τ σ pc' lv (.int (if x < y then y else x) :: st)) : Go X w lay k nL v τ σ pc lv (.int y :: .int x :: st) := by
  subst e
  exact fun H locs ls hP hS hl => va_mmax h.1 h.2.1 (h.2.2.1.trans hl.1.symm) h.2.2.2.1 (h.2.2.2.2.1 _ hlk) (h.2.2.2.2.1 _ tw_st_J9_max_7cf53) (h.2.2.2.2.1 _ tw_in_J9) (h.2.2.2.2.1 _ tw_mmax) hk (by show (st.map fun v => v.category).sum + 13 ≤ 60 * k; omega) (Nat.zero_le _) (Nat.zero_le _) d (kk H locs ls hP hS hl)
end CALLS
section SEL
variable {X : my_X} {w : my_V} {lay : List my_L} {cc : ByteArray} {own : String} {nL : Nat} {ret : Option FieldType} {k : Nat} {v : Option Value} {τ σ : my_M} {pc : Nat} {lv : List (Option Value)} {st : List Value}
theorem g_iceq_sel (h : my_OK X w lay cc own nL ret) (tgt J : Nat) {x y : Int32} {off off2 n1 n2 : Int} {a b : Int32} (d : decode cc pc = .ok (.if_icmp .eq off, 3)) (ht : (pc : Int) + off = (tgt : Int)) (d1 : decode cc (pc + 3) = .ok (.iconst n1, 1)) (h1 : Int32.ofInt n1 = b) (d2 : decode cc (pc + 4) = .ok (.goto off2, 3)) (ht2 : ((pc + 4 : Nat) : Int) + off2 = (J : Int)) (d3 : decode cc tgt = .ok (.iconst n2, 1)) (h3 : Int32.ofInt n2 = a) (e : tgt + 1 = J) (kk : Go X w lay k nL v τ σ J lv (.int (if x = y then a else b) :: st)) : Go X w lay k nL v τ σ pc lv (.int y :: .int x :: st) := by
  refine g_iceq h tgt (pc + 3) d ht rfl (fun q => ?_) (fun q => ?_)
  · rw [if_pos q] at kk; exact g_iconst h J h3 d3 e kk
  · rw [if_neg q] at kk; exact g_iconst h (pc + 4) h1 d1 rfl (g_goto h J d2 ht2 kk)
theorem g_ifeq_sel (h : my_OK X w lay cc own nL ret) (tgt J : Nat) {x : Int32} {off off2 n1 n2 : Int} {a b : Int32} (d : decode cc pc = .ok (.ifCond .eq off, 3)) (ht : (pc : Int) + off = (tgt : Int)) (d1 : decode cc (pc + 3) = .ok (.iconst n1, 1)) (h1 : Int32.ofInt n1 = b) (d2 : decode cc (pc + 4) = .ok (.goto off2, 3)) (ht2 : ((pc + 4 : Nat) : Int) + off2 = (J : Int)) (d3 : decode cc tgt = .ok (.iconst n2, 1)) (h3 : Int32.ofInt n2 = a) (e : tgt + 1 = J) (kk : Go X w lay k nL v τ σ J lv (.int (if x = 0 then a else b) :: st)) : Go X w lay k nL v τ σ pc lv (.int x :: st) := by
  refine g_ifeq h tgt (pc + 3) d ht rfl (fun q => ?_) (fun q => ?_)
  · rw [if_pos q] at kk; exact g_iconst h J h3 d3 e kk
  · rw [if_neg q] at kk; exact g_iconst h (pc + 4) h1 d1 rfl (g_goto h J d2 ht2 kk)
theorem g_icne_sel (h : my_OK X w lay cc own nL ret) (tgt J : Nat) {x y : Int32} {off off2 n1 n2 : Int} {a b : Int32} (d : decode cc pc = .ok (.if_icmp .ne off, 3)) (ht : (pc : Int) + off = (tgt : Int)) (d1 : decode cc (pc + 3) = .ok (.iconst n1, 1)) (h1 : Int32.ofInt n1 = b) (d2 : decode cc (pc + 4) = .ok (.goto off2, 3)) (ht2 : ((pc + 4 : Nat) : Int) + off2 = (J : Int)) (d3 : decode cc tgt = .ok (.iconst n2, 1)) (h3 : Int32.ofInt n2 = a) (e : tgt + 1 = J) (kk : Go X w lay k nL v τ σ J lv (.int (if x = y then b else a) :: st)) : Go X w lay k nL v τ σ pc lv (.int y :: .int x :: st) := by
  refine g_icne h tgt (pc + 3) d ht rfl (fun q => ?_) (fun q => ?_)
  · rw [if_neg q] at kk; exact g_iconst h J h3 d3 e kk
  · rw [if_pos q] at kk; exact g_iconst h (pc + 4) h1 d1 rfl (g_goto h J d2 ht2 kk)
theorem g_ifne_sel (h : my_OK X w lay cc own nL ret) (tgt J : Nat) {x : Int32} {off off2 n1 n2 : Int} {a b : Int32} (d : decode cc pc = .ok (.ifCond .ne off, 3)) (ht : (pc : Int) + off = (tgt : Int)) (d1 : decode cc (pc + 3) = .ok (.iconst n1, 1)) (h1 : Int32.ofInt n1 = b) (d2 : decode cc (pc + 4) = .ok (.goto off2, 3)) (ht2 : ((pc + 4 : Nat) : Int) + off2 = (J : Int)) (d3 : decode cc tgt = .ok (.iconst n2, 1)) (h3 : Int32.ofInt n2 = a) (e : tgt + 1 = J) (kk : Go X w lay k nL v τ σ J lv (.int (if x = 0 then b else a) :: st)) : Go X w lay k nL v τ σ pc lv (.int x :: st) := by
  refine g_ifne h tgt (pc + 3) d ht rfl (fun q => ?_) (fun q => ?_)
  · rw [if_neg q] at kk; exact g_iconst h J h3 d3 e kk
  · rw [if_pos q] at kk; exact g_iconst h (pc + 4) h1 d1 rfl (g_goto h J d2 ht2 kk)
theorem g_iclt_sel (h : my_OK X w lay cc own nL ret) (tgt J : Nat) {x y : Int32} {off off2 n1 n2 : Int} {a b : Int32} (d : decode cc pc = .ok (.if_icmp .lt off, 3)) (ht : (pc : Int) + off = (tgt : Int)) (d1 : decode cc (pc + 3) = .ok (.iconst n1, 1)) (h1 : Int32.ofInt n1 = b) (d2 : decode cc (pc + 4) = .ok (.goto off2, 3)) (ht2 : ((pc + 4 : Nat) : Int) + off2 = (J : Int)) (d3 : decode cc tgt = .ok (.iconst n2, 1)) (h3 : Int32.ofInt n2 = a) (e : tgt + 1 = J) (kk : Go X w lay k nL v τ σ J lv (.int (if x < y then a else b) :: st)) : Go X w lay k nL v τ σ pc lv (.int y :: .int x :: st) := by
  refine g_iclt h tgt (pc + 3) d ht rfl (fun q => ?_) (fun q => ?_)
  · rw [if_pos q] at kk; exact g_iconst h J h3 d3 e kk
  · rw [if_neg q] at kk; exact g_iconst h (pc + 4) h1 d1 rfl (g_goto h J d2 ht2 kk)
theorem g_iflt_sel (h : my_OK X w lay cc own nL ret) (tgt J : Nat) {x : Int32} {off off2 n1 n2 : Int} {a b : Int32} (d : decode cc pc = .ok (.ifCond .lt off, 3)) (ht : (pc : Int) + off = (tgt : Int)) (d1 : decode cc (pc + 3) = .ok (.iconst n1, 1)) (h1 : Int32.ofInt n1 = b) (d2 : decode cc (pc + 4) = .ok (.goto off2, 3)) (ht2 : ((pc + 4 : Nat) : Int) + off2 = (J : Int)) (d3 : decode cc tgt = .ok (.iconst n2, 1)) (h3 : Int32.ofInt n2 = a) (e : tgt + 1 = J) (kk : Go X w lay k nL v τ σ J lv (.int (if x < 0 then a else b) :: st)) : Go X w lay k nL v τ σ pc lv (.int x :: st) := by
  refine g_iflt h tgt (pc + 3) d ht rfl (fun q => ?_) (fun q => ?_)
  · rw [if_pos q] at kk; exact g_iconst h J h3 d3 e kk
  · rw [if_neg q] at kk; exact g_iconst h (pc + 4) h1 d1 rfl (g_goto h J d2 ht2 kk)
theorem g_icge_sel (h : my_OK X w lay cc own nL ret) (tgt J : Nat) {x y : Int32} {off off2 n1 n2 : Int} {a b : Int32} (d : decode cc pc = .ok (.if_icmp .ge off, 3)) (ht : (pc : Int) + off = (tgt : Int)) (d1 : decode cc (pc + 3) = .ok (.iconst n1, 1)) (h1 : Int32.ofInt n1 = b) (d2 : decode cc (pc + 4) = .ok (.goto off2, 3)) (ht2 : ((pc + 4 : Nat) : Int) + off2 = (J : Int)) (d3 : decode cc tgt = .ok (.iconst n2, 1)) (h3 : Int32.ofInt n2 = a) (e : tgt + 1 = J) (kk : Go X w lay k nL v τ σ J lv (.int (if y ≤ x then a else b) :: st)) : Go X w lay k nL v τ σ pc lv (.int y :: .int x :: st) := by
  refine g_icge h tgt (pc + 3) d ht rfl (fun q => ?_) (fun q => ?_)
  · rw [if_pos q] at kk; exact g_iconst h J h3 d3 e kk
  · rw [if_neg q] at kk; exact g_iconst h (pc + 4) h1 d1 rfl (g_goto h J d2 ht2 kk)
theorem g_ifge_sel (h : my_OK X w lay cc own nL ret) (tgt J : Nat) {x : Int32} {off off2 n1 n2 : Int} {a b : Int32} (d : decode cc pc = .ok (.ifCond .ge off, 3)) (ht : (pc : Int) + off = (tgt : Int)) (d1 : decode cc (pc + 3) = .ok (.iconst n1, 1)) (h1 : Int32.ofInt n1 = b) (d2 : decode cc (pc + 4) = .ok (.goto off2, 3)) (ht2 : ((pc + 4 : Nat) : Int) + off2 = (J : Int)) (d3 : decode cc tgt = .ok (.iconst n2, 1)) (h3 : Int32.ofInt n2 = a) (e : tgt + 1 = J) (kk : Go X w lay k nL v τ σ J lv (.int (if 0 ≤ x then a else b) :: st)) : Go X w lay k nL v τ σ pc lv (.int x :: st) := by
  refine g_ifge h tgt (pc + 3) d ht rfl (fun q => ?_) (fun q => ?_)
  · rw [if_pos q] at kk; exact g_iconst h J h3 d3 e kk
  · rw [if_neg q] at kk; exact g_iconst h (pc + 4) h1 d1 rfl (g_goto h J d2 ht2 kk)
theorem g_icgt_sel (h : my_OK X w lay cc own nL ret) (tgt J : Nat) {x y : Int32} {off off2 n1 n2 : Int} {a b : Int32} (d : decode cc pc = .ok (.if_icmp .gt off, 3)) (ht : (pc : Int) + off = (tgt : Int)) (d1 : decode cc (pc + 3) = .ok (.iconst n1, 1)) (h1 : Int32.ofInt n1 = b) (d2 : decode cc (pc + 4) = .ok (.goto off2, 3)) (ht2 : ((pc + 4 : Nat) : Int) + off2 = (J : Int)) (d3 : decode cc tgt = .ok (.iconst n2, 1)) (h3 : Int32.ofInt n2 = a) (e : tgt + 1 = J) (kk : Go X w lay k nL v τ σ J lv (.int (if y < x then a else b) :: st)) : Go X w lay k nL v τ σ pc lv (.int y :: .int x :: st) := by
  refine g_icgt h tgt (pc + 3) d ht rfl (fun q => ?_) (fun q => ?_)
  · rw [if_pos q] at kk; exact g_iconst h J h3 d3 e kk
  · rw [if_neg q] at kk; exact g_iconst h (pc + 4) h1 d1 rfl (g_goto h J d2 ht2 kk)
theorem g_ifgt_sel (h : my_OK X w lay cc own nL ret) (tgt J : Nat) {x : Int32} {off off2 n1 n2 : Int} {a b : Int32} (d : decode cc pc = .ok (.ifCond .gt off, 3)) (ht : (pc : Int) + off = (tgt : Int)) (d1 : decode cc (pc + 3) = .ok (.iconst n1, 1)) (h1 : Int32.ofInt n1 = b) (d2 : decode cc (pc + 4) = .ok (.goto off2, 3)) (ht2 : ((pc + 4 : Nat) : Int) + off2 = (J : Int)) (d3 : decode cc tgt = .ok (.iconst n2, 1)) (h3 : Int32.ofInt n2 = a) (e : tgt + 1 = J) (kk : Go X w lay k nL v τ σ J lv (.int (if 0 < x then a else b) :: st)) : Go X w lay k nL v τ σ pc lv (.int x :: st) := by
  refine g_ifgt h tgt (pc + 3) d ht rfl (fun q => ?_) (fun q => ?_)
  · rw [if_pos q] at kk; exact g_iconst h J h3 d3 e kk
  · rw [if_neg q] at kk; exact g_iconst h (pc + 4) h1 d1 rfl (g_goto h J d2 ht2 kk)
theorem g_icle_sel (h : my_OK X w lay cc own nL ret) (tgt J : Nat) {x y : Int32} {off off2 n1 n2 : Int} {a b : Int32} (d : decode cc pc = .ok (.if_icmp .le off, 3)) (ht : (pc : Int) + off = (tgt : Int)) (d1 : decode cc (pc + 3) = .ok (.iconst n1, 1)) (h1 : Int32.ofInt n1 = b) (d2 : decode cc (pc + 4) = .ok (.goto off2, 3)) (ht2 : ((pc + 4 : Nat) : Int) + off2 = (J : Int)) (d3 : decode cc tgt = .ok (.iconst n2, 1)) (h3 : Int32.ofInt n2 = a) (e : tgt + 1 = J) (kk : Go X w lay k nL v τ σ J lv (.int (if x ≤ y then a else b) :: st)) : Go X w lay k nL v τ σ pc lv (.int y :: .int x :: st) := by
  refine g_icle h tgt (pc + 3) d ht rfl (fun q => ?_) (fun q => ?_)
  · rw [if_pos q] at kk; exact g_iconst h J h3 d3 e kk
  · rw [if_neg q] at kk; exact g_iconst h (pc + 4) h1 d1 rfl (g_goto h J d2 ht2 kk)
theorem g_ifle_sel (h : my_OK X w lay cc own nL ret) (tgt J : Nat) {x : Int32} {off off2 n1 n2 : Int} {a b : Int32} (d : decode cc pc = .ok (.ifCond .le off, 3)) (ht : (pc : Int) + off = (tgt : Int)) (d1 : decode cc (pc + 3) = .ok (.iconst n1, 1)) (h1 : Int32.ofInt n1 = b) (d2 : decode cc (pc + 4) = .ok (.goto off2, 3)) (ht2 : ((pc + 4 : Nat) : Int) + off2 = (J : Int)) (d3 : decode cc tgt = .ok (.iconst n2, 1)) (h3 : Int32.ofInt n2 = a) (e : tgt + 1 = J) (kk : Go X w lay k nL v τ σ J lv (.int (if x ≤ 0 then a else b) :: st)) : Go X w lay k nL v τ σ pc lv (.int x :: st) := by
  refine g_ifle h tgt (pc + 3) d ht rfl (fun q => ?_) (fun q => ?_)
  · rw [if_pos q] at kk; exact g_iconst h J h3 d3 e kk
  · rw [if_neg q] at kk; exact g_iconst h (pc + 4) h1 d1 rfl (g_goto h J d2 ht2 kk)
end SEL
