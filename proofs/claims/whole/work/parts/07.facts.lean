/-! facts that a program reads off: methods, words of fields, shape, links, places of calls -/
theorem tb_ps {ws : List Cond} (ps : List Nat) (hp : ws = ps.filterMap (fun i => tables_1[i]?)) (hg : ws.all goodWord = true) : ∀ w ∈ ws, w ∈ TB := by
  intro w hw
  have h1 := List.all_eq_true.mp hg w hw
  rw [hp] at hw
  obtain ⟨i, -, hi⟩ := List.mem_filterMap.mp hw
  exact tb_in (List.mem_of_getElem? hi) h1
theorem vp_lit {i : Int32} {n : Nat} (h : (decide (i < 0) || decide (n ≤ i.toNatClampNeg)) = false) : vp_in i n := by
  intro q
  rcases q with q | q
  · simp [q] at h
  · simp [q] at h
theorem h_pick {E : HEn} {F : HFx} {me : HMe} {pc : Nat} {L : List (Nat × Value)} {st : List Value} {I : HIh} (ks : List Nat) (L' : List (Nat × Value)) (hl : lv_pick L ks = L') (h : HGo E F me pc L' st I) : HGo E F me pc L st I :=
  h_sub L' (fun q hq => by
    rw [← hl] at hq
    obtain ⟨k, -, hk⟩ := List.mem_filterMap.mp hq
    exact List.mem_of_getElem? hk) h
abbrev me_X0_init : HMe := (yX0_init, cX0_init, 1, none)
abbrev me_X0_habit : HMe := (yX0_habit, cX0_habit, 1, some .int)
abbrev me_X0_comparesAll : HMe := (yX0_comparesAll, cX0_comparesAll, 1, some .boolean)
abbrev me_X1_init : HMe := (yX1_init, cX1_init, 1, none)
abbrev me_X1_waitsFor : HMe := (yX1_waitsFor, cX1_waitsFor, 3, some .int)
abbrev me_X2_init : HMe := (yX2_init, cX2_init, 3, none)
abbrev me_X2_becomeStale : HMe := (yX2_becomeStale, cX2_becomeStale, 1, none)
abbrev me_X2_foresee : HMe := (yX2_foresee, cX2_foresee, 4, none)
abbrev me_X2_endOf : HMe := (yX2_endOf, cX2_endOf, 2, some .int)
abbrev me_X2_step : HMe := (yX2_step, cX2_step, 2, some .int)
abbrev me_X2_goalOf : HMe := (yX2_goalOf, cX2_goalOf, 2, some .int)
abbrev me_X2_isFree : HMe := (yX2_isFree, cX2_isFree, 2, some .boolean)
abbrev me_X2_playOn : HMe := (yX2_playOn, cX2_playOn, 9, none)
abbrev me_X2_comesAgain : HMe := (yX2_comesAgain, cX2_comesAgain, 4, some .boolean)
abbrev me_X2_settle : HMe := (yX2_settle, cX2_settle, 3, none)
abbrev me_X2_reached : HMe := (yX2_reached, cX2_reached, 5, some .int)
abbrev me_X2_takeOver : HMe := (yX2_takeOver, cX2_takeOver, 3, none)
abbrev me_X2_expected : HMe := (yX2_expected, cX2_expected, 11, some .long)
abbrev me_X2_weigh : HMe := (yX2_weigh, cX2_weigh, 12, some .long)
abbrev me_X2_weighNext : HMe := (yX2_weighNext, cX2_weighNext, 3, some .long)
abbrev me_X2_tillDry : HMe := (yX2_tillDry, cX2_tillDry, 6, some .int)
abbrev me_X2_leastBait : HMe := (yX2_leastBait, cX2_leastBait, 8, some .int)
abbrev me_X2_tempts : HMe := (yX2_tempts, cX2_tempts, 6, some .boolean)
abbrev me_X2_putIn : HMe := (yX2_putIn, cX2_putIn, 5, none)
abbrev me_X3_init : HMe := (yX3_init, cX3_init, 1, none)
abbrev me_X3_habit : HMe := (yX3_habit, cX3_habit, 1, some .int)
abbrev me_X3_comparesAll : HMe := (yX3_comparesAll, cX3_comparesAll, 1, some .boolean)
abbrev me_X4_init : HMe := (yX4_init, cX4_init, 1, none)
abbrev me_X4_of : HMe := (yX4_of, cX4_of, 4, some .int)
abbrev me_X4_add : HMe := (yX4_add, cX4_add, 4, none)
abbrev me_X4_empty : HMe := (yX4_empty, cX4_empty, 2, none)
abbrev me_X4_copyFrom : HMe := (yX4_copyFrom, cX4_copyFrom, 2, none)
abbrev me_X5_init : HMe := (yX5_init, cX5_init, 1, none)
abbrev me_X5_habit : HMe := (yX5_habit, cX5_habit, 1, some .int)
abbrev me_X5_wouldThrow : HMe := (yX5_wouldThrow, cX5_wouldThrow, 4, some .int)
abbrev me_X6_init : HMe := (yX6_init, cX6_init, 2, none)
abbrev me_X6_add : HMe := (yX6_add, cX6_add, 3, some .boolean)
abbrev me_X6_leastOf : HMe := (yX6_leastOf, cX6_leastOf, 2, some .int)
abbrev me_X6_mostOf : HMe := (yX6_mostOf, cX6_mostOf, 2, some .int)
abbrev me_X6_searchLayings : HMe := (yX6_searchLayings, cX6_searchLayings, 3, none)
abbrev me_X6_figureOf : HMe := (yX6_figureOf, cX6_figureOf, 3, some .int)
abbrev me_X6_fits : HMe := (yX6_fits, cX6_fits, 3, some .boolean)
abbrev me_X6_tally : HMe := (yX6_tally, cX6_tally, 4, none)
abbrev me_X7_init : HMe := (yX7_init, cX7_init, 1, none)
abbrev me_X7_append : HMe := (yX7_append, cX7_append, 2, none)
abbrev me_X7_readOver : HMe := (yX7_readOver, cX7_readOver, 2, some .int)
abbrev me_X7_nextToken : HMe := (yX7_nextToken, cX7_nextToken, 2, none)
abbrev me_X7_byteAt : HMe := (yX7_byteAt, cX7_byteAt, 2, some .int)
abbrev me_X7_tokenOf : HMe := (yX7_tokenOf, cX7_tokenOf, 1, some .int)
abbrev me_X7_isSemicolon : HMe := (yX7_isSemicolon, cX7_isSemicolon, 1, some .boolean)
abbrev me_X7_readLine : HMe := (yX7_readLine, cX7_readLine, 1, some .boolean)
abbrev me_X7_readWord : HMe := (yX7_readWord, cX7_readWord, 3, some .boolean)
abbrev me_X7_readNumber : HMe := (yX7_readNumber, cX7_readNumber, 4, some .boolean)
abbrev me_X7_readCoins : HMe := (yX7_readCoins, cX7_readCoins, 3, some .boolean)
abbrev me_X7_readAmount : HMe := (yX7_readAmount, cX7_readAmount, 3, some .boolean)
abbrev me_X7_readHabit : HMe := (yX7_readHabit, cX7_readHabit, 2, some .boolean)
abbrev me_X7_readWaiting : HMe := (yX7_readWaiting, cX7_readWaiting, 2, some .boolean)
abbrev me_X7_readVisits : HMe := (yX7_readVisits, cX7_readVisits, 2, some .boolean)
abbrev me_X7_readLaw : HMe := (yX7_readLaw, cX7_readLaw, 1, some .boolean)
abbrev me_X7_leaveAlone : HMe := (yX7_leaveAlone, cX7_leaveAlone, 1, some .boolean)
abbrev me_X8_init : HMe := (yX8_init, cX8_init, 1, none)
abbrev me_X8_leastGain : HMe := (yX8_leastGain, cX8_leastGain, 3, some .int)
abbrev me_X8_wouldThrow : HMe := (yX8_wouldThrow, cX8_wouldThrow, 8, some .int)
abbrev me_X9_init : HMe := (yX9_init, cX9_init, 1, none)
abbrev me_X9_copyFrom : HMe := (yX9_copyFrom, cX9_copyFrom, 2, none)
abbrev me_X9_hasKind : HMe := (yX9_hasKind, cX9_hasKind, 2, some .boolean)
abbrev me_X9_worthOf : HMe := (yX9_worthOf, cX9_worthOf, 2, some .int)
abbrev me_X9_addKind : HMe := (yX9_addKind, cX9_addKind, 2, none)
abbrev me_X9_setHabit : HMe := (yX9_setHabit, cX9_setHabit, 4, none)
abbrev me_X9_boundOf : HMe := (yX9_boundOf, cX9_boundOf, 2, some .int)
abbrev me_X9_folkOf : HMe := (yX9_folkOf, cX9_folkOf, 2, some (.object "ThrownCoins$Folk"))
abbrev me_X9_addVisit : HMe := (yX9_addVisit, cX9_addVisit, 2, none)
abbrev me_X9_visitor : HMe := (yX9_visitor, cX9_visitor, 2, some .int)
abbrev me_X9_visitsLeft : HMe := (yX9_visitsLeft, cX9_visitsLeft, 5, some .int)
abbrev me_X9_wealth : HMe := (yX9_wealth, cX9_wealth, 5, some .int)
abbrev me_X9_gainOf : HMe := (yX9_gainOf, cX9_gainOf, 6, some .int)
abbrev me_X9_throwCoin : HMe := (yX9_throwCoin, cX9_throwCoin, 6, none)
abbrev me_X9_greatestTaken : HMe := (yX9_greatestTaken, cX9_greatestTaken, 2, some .int)
abbrev me_X9_mostTakenOfKind : HMe := (yX9_mostTakenOfKind, cX9_mostTakenOfKind, 1, some .int)
abbrev me_X9_takesOneKind : HMe := (yX9_takesOneKind, cX9_takesOneKind, 1, some .boolean)
abbrev me_X9_habitual : HMe := (yX9_habitual, cX9_habitual, 3, some .int)
abbrev me_X9_letVisit : HMe := (yX9_letVisit, cX9_letVisit, 3, none)
abbrev me_X10_init : HMe := (yX10_init, cX10_init, 1, none)
abbrev me_X10_habit : HMe := (yX10_habit, cX10_habit, 1, some .int)
abbrev me_X10_leastGain : HMe := (yX10_leastGain, cX10_leastGain, 3, some .int)
abbrev me_X10_waitsFor : HMe := (yX10_waitsFor, cX10_waitsFor, 3, some .int)
abbrev me_X11_init : HMe := (yX11_init, cX11_init, 1, none)
abbrev me_X11_write : HMe := (yX11_write, cX11_write, 5, some .int)
abbrev me_X11_erase : HMe := (yX11_erase, cX11_erase, 2, some .int)
abbrev me_X11_fault : HMe := (yX11_fault, cX11_fault, 1, some .int)
abbrev me_X11_sunday : HMe := (yX11_sunday, cX11_sunday, 1, some .int)
abbrev me_X11_coin : HMe := (yX11_coin, cX11_coin, 3, some .int)
abbrev me_X11_purse : HMe := (yX11_purse, cX11_purse, 3, some .int)
abbrev me_X11_person : HMe := (yX11_person, cX11_person, 3, some .int)
abbrev me_X11_as : HMe := (yX11_as, cX11_as, 4, some .int)
abbrev me_X11_come : HMe := (yX11_come, cX11_come, 2, some .int)
abbrev me_X11_gain : HMe := (yX11_gain, cX11_gain, 3, some .int)
abbrev me_X11_visit : HMe := (yX11_visit, cX11_visit, 4, some .int)
abbrev me_X11_go : HMe := (yX11_go, cX11_go, 3, some .int)
abbrev me_X11_plan : HMe := (yX11_plan, cX11_plan, 4, some .int)
abbrev me_X11_game : HMe := (yX11_game, cX11_game, 2, some .int)
abbrev me_X11_choice : HMe := (yX11_choice, cX11_choice, 2, some .int)
abbrev me_X11_league : HMe := (yX11_league, cX11_league, 4, some .int)
abbrev me_X11_mean : HMe := (yX11_mean, cX11_mean, 4, some .long)
abbrev me_X11_dry : HMe := (yX11_dry, cX11_dry, 1, some .int)
abbrev me_X11_bait : HMe := (yX11_bait, cX11_bait, 2, some .int)
abbrev me_X11_note : HMe := (yX11_note, cX11_note, 3, some .int)
abbrev me_X11_forget : HMe := (yX11_forget, cX11_forget, 2, some .int)
abbrev me_X11_lay : HMe := (yX11_lay, cX11_lay, 4, some .int)
abbrev me_X11_keep : HMe := (yX11_keep, cX11_keep, 2, some .int)
abbrev me_X11_back : HMe := (yX11_back, cX11_back, 2, some .int)
abbrev me_X11_count : HMe := (yX11_count, cX11_count, 2, some .int)
abbrev me_X11_wealthOfAll : HMe := (yX11_wealthOfAll, cX11_wealthOfAll, 3, some .int)
abbrev me_X11_tooLongForGame : HMe := (yX11_tooLongForGame, cX11_tooLongForGame, 1, some .boolean)
abbrev me_X11_isPerson : HMe := (yX11_isPerson, cX11_isPerson, 1, some .boolean)
abbrev me_X11_goalFor : HMe := (yX11_goalFor, cX11_goalFor, 2, some .int)
abbrev me_X11_isA : HMe := (yX11_isA, cX11_isA, 2, some .boolean)
abbrev me_X12_init : HMe := (yX12_init, cX12_init, 1, none)
abbrev me_X12_in : HMe := (yX12_in, cX12_in, 6, some .boolean)
abbrev me_X12_has : HMe := (yX12_has, cX12_has, 2, some .boolean)
abbrev me_X12_begin : HMe := (yX12_begin, cX12_begin, 2, none)
abbrev me_X12_write : HMe := (yX12_write, cX12_write, 5, some .int)
abbrev me_X12_erase : HMe := (yX12_erase, cX12_erase, 2, some .int)
abbrev me_X12_sort : HMe := (yX12_sort, cX12_sort, 1, some .int)
abbrev me_X12_token : HMe := (yX12_token, cX12_token, 1, none)
abbrev me_X12_isWord : HMe := (yX12_isWord, cX12_isWord, 6, some .boolean)
abbrev me_X12_habitWord : HMe := (yX12_habitWord, cX12_habitWord, 1, some .int)
abbrev me_X12_wordOf : HMe := (yX12_wordOf, cX12_wordOf, 2, some .int)
abbrev me_X12_isNumber : HMe := (yX12_isNumber, cX12_isNumber, 1, some .boolean)
abbrev me_X12_reads : HMe := (yX12_reads, cX12_reads, 5, some .boolean)
abbrev me_X12_readsCoins : HMe := (yX12_readsCoins, cX12_readsCoins, 3, some .boolean)
abbrev me_X12_readsCome : HMe := (yX12_readsCome, cX12_readsCome, 2, some .boolean)
abbrev me_X12_readsRest : HMe := (yX12_readsRest, cX12_readsRest, 2, some .boolean)
abbrev me_X12_readsLine : HMe := (yX12_readsLine, cX12_readsLine, 3, some .boolean)
abbrev me_X12_fault : HMe := (yX12_fault, cX12_fault, 2, some .int)
abbrev me_X12_tellCoins : HMe := (yX12_tellCoins, cX12_tellCoins, 3, none)
abbrev me_X12_tellCome : HMe := (yX12_tellCome, cX12_tellCome, 3, none)
abbrev me_X12_tell : HMe := (yX12_tell, cX12_tell, 3, none)
abbrev me_X12_sunday : HMe := (yX12_sunday, cX12_sunday, 2, some .int)
abbrev me_X12_isKind : HMe := (yX12_isKind, cX12_isKind, 2, some .boolean)
abbrev me_X12_isPerson : HMe := (yX12_isPerson, cX12_isPerson, 1, some .boolean)
abbrev me_X12_coin : HMe := (yX12_coin, cX12_coin, 3, some .int)
abbrev me_X12_purse : HMe := (yX12_purse, cX12_purse, 3, some .int)
abbrev me_X12_worthOf : HMe := (yX12_worthOf, cX12_worthOf, 5, some .int)
abbrev me_X12_visitsLeft : HMe := (yX12_visitsLeft, cX12_visitsLeft, 1, some .int)
abbrev me_X12_leftOf : HMe := (yX12_leftOf, cX12_leftOf, 4, some .int)
abbrev me_X12_person : HMe := (yX12_person, cX12_person, 3, some .int)
abbrev me_X12_layTakes : HMe := (yX12_layTakes, cX12_layTakes, 7, some .int)
abbrev me_X12_gainOf : HMe := (yX12_gainOf, cX12_gainOf, 3, some .int)
abbrev me_X12_isHad : HMe := (yX12_isHad, cX12_isHad, 4, some .boolean)
abbrev me_X12_throwsOne : HMe := (yX12_throwsOne, cX12_throwsOne, 5, none)
abbrev me_X12_byHabit : HMe := (yX12_byHabit, cX12_byHabit, 8, some .int)
abbrev me_X12_visitsBy : HMe := (yX12_visitsBy, cX12_visitsBy, 4, some .boolean)
abbrev me_X12_as : HMe := (yX12_as, cX12_as, 5, some .int)
abbrev me_X12_come : HMe := (yX12_come, cX12_come, 2, some .int)
abbrev me_X12_gain : HMe := (yX12_gain, cX12_gain, 3, some .int)
abbrev me_X12_visit : HMe := (yX12_visit, cX12_visit, 4, some .int)
abbrev me_X12_go : HMe := (yX12_go, cX12_go, 3, some .int)
abbrev me_X12_copy : HMe := (yX12_copy, cX12_copy, 4, none)
abbrev me_X12_powerOf : HMe := (yX12_powerOf, cX12_powerOf, 3, some .int)
abbrev me_X12_goRow : HMe := (yX12_goRow, cX12_goRow, 9, some .int)
abbrev me_X12_layPlan : HMe := (yX12_layPlan, cX12_layPlan, 5, none)
abbrev me_X12_plan : HMe := (yX12_plan, cX12_plan, 4, some .int)
abbrev me_X12_league : HMe := (yX12_league, cX12_league, 5, some .int)
abbrev me_X12_takeUp : HMe := (yX12_takeUp, cX12_takeUp, 4, none)
abbrev me_X12_opens : HMe := (yX12_opens, cX12_opens, 5, some .boolean)
abbrev me_X12_layGame : HMe := (yX12_layGame, cX12_layGame, 5, none)
abbrev me_X12_game : HMe := (yX12_game, cX12_game, 2, some .int)
abbrev me_X12_choice : HMe := (yX12_choice, cX12_choice, 2, some .int)
abbrev me_X12_divisor : HMe := (yX12_divisor, cX12_divisor, 10, some .long)
abbrev me_X12_worthBy : HMe := (yX12_worthBy, cX12_worthBy, 6, some .int)
abbrev me_X12_mean : HMe := (yX12_mean, cX12_mean, 13, some .long)
abbrev me_X12_dry : HMe := (yX12_dry, cX12_dry, 3, some .int)
abbrev me_X12_bait : HMe := (yX12_bait, cX12_bait, 9, some .int)
abbrev me_X12_note : HMe := (yX12_note, cX12_note, 3, some .int)
abbrev me_X12_forget : HMe := (yX12_forget, cX12_forget, 2, some .int)
abbrev me_X12_layOf : HMe := (yX12_layOf, cX12_layOf, 3, some .int)
abbrev me_X12_isSo : HMe := (yX12_isSo, cX12_isSo, 6, some .boolean)
abbrev me_X12_lay : HMe := (yX12_lay, cX12_lay, 8, some .int)
abbrev me_X12_keep : HMe := (yX12_keep, cX12_keep, 2, some .int)
abbrev me_X12_back : HMe := (yX12_back, cX12_back, 2, some .int)
abbrev me_X12_worthThere : HMe := (yX12_worthThere, cX12_worthThere, 3, some .int)
abbrev me_X12_count : HMe := (yX12_count, cX12_count, 2, some .int)
abbrev me_J9_max_7cf53 : HMe := (yJ9_max_7cf53, cJ9_max_7cf53, 2, some .int)
abbrev me_J9_min_7cf53 : HMe := (yJ9_min_7cf53, cJ9_min_7cf53, 2, some .int)
abbrev me_J0_length_8abf5 : HMe := (yJ0_length_8abf5, cJ0_length_8abf5, 1, some .int)
abbrev me_J0_charAt_5068e : HMe := (yJ0_charAt_5068e, cJ0_charAt_5068e, 2, some .char)
abbrev me_J0_coder_7d493 : HMe := (yJ0_coder_7d493, cJ0_coder_7d493, 1, some .byte)
abbrev me_J0_isLatin1_aae02 : HMe := (yJ0_isLatin1_aae02, cJ0_isLatin1_aae02, 1, some .boolean)
abbrev me_J0_checkIndex_df160 : HMe := (yJ0_checkIndex_df160, cJ0_checkIndex_df160, 2, none)
abbrev me_J1_charAt_3b067 : HMe := (yJ1_charAt_3b067, cJ1_charAt_3b067, 2, some .char)
abbrev me_J2_getChar_3b067 : HMe := (yJ2_getChar_3b067, cJ2_getChar_3b067, 2, some .char)
abbrev me_J2_length_9d52b : HMe := (yJ2_length_9d52b, cJ2_length_9d52b, 1, some .int)
abbrev me_J2_charAt_3b067 : HMe := (yJ2_charAt_3b067, cJ2_charAt_3b067, 2, some .char)
abbrev me_J2_checkIndex_2214a : HMe := (yJ2_checkIndex_2214a, cJ2_checkIndex_2214a, 2, none)
abbrev me_J3_checkIndex_8e157 : HMe := (yJ3_checkIndex_8e157, cJ3_checkIndex_8e157, 3, some .int)
abbrev me_L_law : HMe := (yL_law, cL_law, 4, some .boolean)
theorem hu_0 : ∀ w ∈ u_ws RX0 TX0 0, w ∈ TB := tb_ps [] (by decide +kernel) (by decide +kernel)
theorem hu_1 : ∀ w ∈ u_ws RX2 TX2 8, w ∈ TB := tb_ps [192, 194, 196, 198, 200, 202, 204, 206] (by decide +kernel) (by decide +kernel)
theorem hu_2 : ∀ w ∈ u_ws RX3 TX3 0, w ∈ TB := tb_ps [] (by decide +kernel) (by decide +kernel)
theorem hu_3 : ∀ w ∈ u_ws RX4 TX4 2, w ∈ TB := tb_ps [79, 81] (by decide +kernel) (by decide +kernel)
theorem hu_4 : ∀ w ∈ u_ws RX5 TX5 0, w ∈ TB := tb_ps [] (by decide +kernel) (by decide +kernel)
theorem hu_5 : ∀ w ∈ u_ws RX6 TX6 9, w ∈ TB := tb_ps [229, 231, 233, 235, 237, 239, 241, 243, 245] (by decide +kernel) (by decide +kernel)
theorem hu_6 : ∀ w ∈ u_ws RX7 TX7 8, w ∈ TB := tb_ps [157, 159, 161, 163, 165, 167, 169, 171] (by decide +kernel) (by decide +kernel)
theorem hu_7 : ∀ w ∈ u_ws RX9 TX9 12, w ∈ TB := tb_ps [110, 112, 114, 116, 118, 120, 122, 124, 126, 128, 130, 132] (by decide +kernel) (by decide +kernel)
theorem hu_8 : ∀ w ∈ u_ws RX10 TX10 0, w ∈ TB := tb_ps [] (by decide +kernel) (by decide +kernel)
theorem hu_9 : ∀ w ∈ u_ws RX11 TX11 7, w ∈ TB := tb_ps [255, 257, 259, 261, 263, 265, 267] (by decide +kernel) (by decide +kernel)
theorem hu_10 : ∀ w ∈ u_ws RX12 TX12 28, w ∈ TB := tb_ps [841, 843, 845, 847, 849, 851, 853, 855, 857, 859, 861, 863, 865, 867, 869, 871, 873, 875, 877, 879, 881, 883, 885, 887, 889, 891, 893, 895] (by decide +kernel) (by decide +kernel)
theorem nl_0 : 0 < NL := by decide
theorem zk_0 : Zk 0 = 9 := by decide +kernel
theorem zp_0_0 : Zp 0 0 = 1 := by decide +kernel
theorem zp_0_1 : Zp 0 1 = 12 := by decide +kernel
theorem zp_0_2 : Zp 0 2 = 14 := by decide +kernel
theorem zp_0_3 : Zp 0 3 = 19 := by decide +kernel
theorem zp_0_4 : Zp 0 4 = 32 := by decide +kernel
theorem zp_0_5 : Zp 0 5 = 80 := by decide +kernel
theorem nl_1 : 1 < NL := by decide
theorem zk_1 : Zk 1 = 7 := by decide +kernel
theorem zp_1_0 : Zp 1 0 = 2 := by decide +kernel
theorem zp_1_1 : Zp 1 1 = 3 := by decide +kernel
theorem zp_1_2 : Zp 1 2 = 4 := by decide +kernel
theorem zp_1_3 : Zp 1 3 = 5 := by decide +kernel
theorem zp_1_4 : Zp 1 4 = 6 := by decide +kernel
theorem zp_1_5 : Zp 1 5 = 7 := by decide +kernel
theorem zp_1_6 : Zp 1 6 = 8 := by decide +kernel
theorem zp_1_7 : Zp 1 7 = 9 := by decide +kernel
theorem zp_1_8 : Zp 1 8 = 10 := by decide +kernel
theorem nl_2 : 2 < NL := by decide
theorem zk_2 : Zk 2 = 4 := by decide +kernel
theorem nl_3 : 3 < NL := by decide
theorem zk_3 : Zk 3 = 2 := by decide +kernel
theorem nl_4 : 4 < NL := by decide
theorem zk_4 : Zk 4 = 8 := by decide +kernel
theorem nl_5 : 5 < NL := by decide
theorem zk_5 : Zk 5 = 0 := by decide +kernel
theorem nl_6 : 6 < NL := by decide
theorem zk_6 : Zk 6 = 11 := by decide +kernel
theorem zn_6 : Zn 6 = 6 := by decide +kernel
theorem nl_7 : 7 < NL := by decide
theorem zk_7 : Zk 7 = 11 := by decide +kernel
theorem zn_7 : Zn 7 = 4 := by decide +kernel
theorem nl_8 : 8 < NL := by decide
theorem zk_8 : Zk 8 = 11 := by decide +kernel
theorem zn_8 : Zn 8 = 4 := by decide +kernel
theorem nl_9 : 9 < NL := by decide
theorem zk_9 : Zk 9 = 11 := by decide +kernel
theorem zn_9 : Zn 9 = 24 := by decide +kernel
theorem nl_10 : 10 < NL := by decide
theorem zk_10 : Zk 10 = 3 := by decide +kernel
theorem zp_10_0 : Zp 10 0 = 11 := by decide +kernel
theorem nl_11 : 11 < NL := by decide
theorem zk_11 : Zk 11 = 11 := by decide +kernel
theorem zn_11 : Zn 11 = 30 := by decide +kernel
theorem nl_12 : 12 < NL := by decide
theorem zk_12 : Zk 12 = 3 := by decide +kernel
theorem zp_12_0 : Zp 12 0 = 13 := by decide +kernel
theorem nl_13 : 13 < NL := by decide
theorem zk_13 : Zk 13 = 11 := by decide +kernel
theorem zn_13 : Zn 13 = 30 := by decide +kernel
theorem nl_14 : 14 < NL := by decide
theorem zk_14 : Zk 14 = 13 := by decide +kernel
theorem zn_14 : Zn 14 = 2 := by decide +kernel
theorem zp_14_0 : Zp 14 0 = 15 := by decide +kernel
theorem zp_14_1 : Zp 14 1 = 17 := by decide +kernel
theorem nl_15 : 15 < NL := by decide
theorem zk_15 : Zk 15 = 3 := by decide +kernel
theorem zp_15_0 : Zp 15 0 = 16 := by decide +kernel
theorem nl_16 : 16 < NL := by decide
theorem zk_16 : Zk 16 = 11 := by decide +kernel
theorem zn_16 : Zn 16 = 30 := by decide +kernel
theorem nl_17 : 17 < NL := by decide
theorem zk_17 : Zk 17 = 3 := by decide +kernel
theorem zp_17_0 : Zp 17 0 = 18 := by decide +kernel
theorem nl_18 : 18 < NL := by decide
theorem zk_18 : Zk 18 = 11 := by decide +kernel
theorem zn_18 : Zn 18 = 30 := by decide +kernel
theorem nl_19 : 19 < NL := by decide
theorem zk_19 : Zk 19 = 6 := by decide +kernel
theorem zp_19_0 : Zp 19 0 = 20 := by decide +kernel
theorem zp_19_1 : Zp 19 1 = 21 := by decide +kernel
theorem nl_20 : 20 < NL := by decide
theorem zk_20 : Zk 20 = 11 := by decide +kernel
theorem zn_20 : Zn 20 = 200 := by decide +kernel
theorem nl_21 : 21 < NL := by decide
theorem zk_21 : Zk 21 = 7 := by decide +kernel
theorem zp_21_0 : Zp 21 0 = 22 := by decide +kernel
theorem zp_21_1 : Zp 21 1 = 23 := by decide +kernel
theorem zp_21_2 : Zp 21 2 = 24 := by decide +kernel
theorem zp_21_3 : Zp 21 3 = 25 := by decide +kernel
theorem zp_21_4 : Zp 21 4 = 26 := by decide +kernel
theorem zp_21_5 : Zp 21 5 = 27 := by decide +kernel
theorem zp_21_6 : Zp 21 6 = 28 := by decide +kernel
theorem zp_21_7 : Zp 21 7 = 29 := by decide +kernel
theorem zp_21_8 : Zp 21 8 = 30 := by decide +kernel
theorem nl_22 : 22 < NL := by decide
theorem zk_22 : Zk 22 = 4 := by decide +kernel
theorem nl_23 : 23 < NL := by decide
theorem zk_23 : Zk 23 = 2 := by decide +kernel
theorem nl_24 : 24 < NL := by decide
theorem zk_24 : Zk 24 = 8 := by decide +kernel
theorem nl_25 : 25 < NL := by decide
theorem zk_25 : Zk 25 = 0 := by decide +kernel
theorem nl_26 : 26 < NL := by decide
theorem zk_26 : Zk 26 = 11 := by decide +kernel
theorem zn_26 : Zn 26 = 6 := by decide +kernel
theorem nl_27 : 27 < NL := by decide
theorem zk_27 : Zk 27 = 11 := by decide +kernel
theorem zn_27 : Zn 27 = 4 := by decide +kernel
theorem nl_28 : 28 < NL := by decide
theorem zk_28 : Zk 28 = 11 := by decide +kernel
theorem zn_28 : Zn 28 = 4 := by decide +kernel
theorem nl_29 : 29 < NL := by decide
theorem zk_29 : Zk 29 = 11 := by decide +kernel
theorem zn_29 : Zn 29 = 24 := by decide +kernel
theorem nl_30 : 30 < NL := by decide
theorem zk_30 : Zk 30 = 3 := by decide +kernel
theorem zp_30_0 : Zp 30 0 = 31 := by decide +kernel
theorem nl_31 : 31 < NL := by decide
theorem zk_31 : Zk 31 = 11 := by decide +kernel
theorem zn_31 : Zn 31 = 30 := by decide +kernel
theorem nl_32 : 32 < NL := by decide
theorem zk_32 : Zk 32 = 1 := by decide +kernel
theorem zp_32_0 : Zp 32 0 = 1 := by decide +kernel
theorem zp_32_1 : Zp 32 1 = 33 := by decide +kernel
theorem zp_32_2 : Zp 32 2 = 56 := by decide +kernel
theorem zp_32_3 : Zp 32 3 = 68 := by decide +kernel
theorem nl_33 : 33 < NL := by decide
theorem zk_33 : Zk 33 = 13 := by decide +kernel
theorem zn_33 : Zn 33 = 11 := by decide +kernel
theorem zp_33_0 : Zp 33 0 = 34 := by decide +kernel
theorem zp_33_1 : Zp 33 1 = 36 := by decide +kernel
theorem zp_33_2 : Zp 33 2 = 38 := by decide +kernel
theorem zp_33_3 : Zp 33 3 = 40 := by decide +kernel
theorem zp_33_4 : Zp 33 4 = 42 := by decide +kernel
theorem zp_33_5 : Zp 33 5 = 44 := by decide +kernel
theorem zp_33_6 : Zp 33 6 = 46 := by decide +kernel
theorem zp_33_7 : Zp 33 7 = 48 := by decide +kernel
theorem zp_33_8 : Zp 33 8 = 50 := by decide +kernel
theorem zp_33_9 : Zp 33 9 = 52 := by decide +kernel
theorem zp_33_10 : Zp 33 10 = 54 := by decide +kernel
theorem nl_34 : 34 < NL := by decide
theorem zk_34 : Zk 34 = 3 := by decide +kernel
theorem zp_34_0 : Zp 34 0 = 35 := by decide +kernel
theorem nl_35 : 35 < NL := by decide
theorem zk_35 : Zk 35 = 11 := by decide +kernel
theorem zn_35 : Zn 35 = 30 := by decide +kernel
theorem nl_36 : 36 < NL := by decide
theorem zk_36 : Zk 36 = 3 := by decide +kernel
theorem zp_36_0 : Zp 36 0 = 37 := by decide +kernel
theorem nl_37 : 37 < NL := by decide
theorem zk_37 : Zk 37 = 11 := by decide +kernel
theorem zn_37 : Zn 37 = 30 := by decide +kernel
theorem nl_38 : 38 < NL := by decide
theorem zk_38 : Zk 38 = 3 := by decide +kernel
theorem zp_38_0 : Zp 38 0 = 39 := by decide +kernel
theorem nl_39 : 39 < NL := by decide
theorem zk_39 : Zk 39 = 11 := by decide +kernel
theorem zn_39 : Zn 39 = 30 := by decide +kernel
theorem nl_40 : 40 < NL := by decide
theorem zk_40 : Zk 40 = 3 := by decide +kernel
theorem zp_40_0 : Zp 40 0 = 41 := by decide +kernel
theorem nl_41 : 41 < NL := by decide
theorem zk_41 : Zk 41 = 11 := by decide +kernel
theorem zn_41 : Zn 41 = 30 := by decide +kernel
theorem nl_42 : 42 < NL := by decide
theorem zk_42 : Zk 42 = 3 := by decide +kernel
theorem zp_42_0 : Zp 42 0 = 43 := by decide +kernel
theorem nl_43 : 43 < NL := by decide
theorem zk_43 : Zk 43 = 11 := by decide +kernel
theorem zn_43 : Zn 43 = 30 := by decide +kernel
theorem nl_44 : 44 < NL := by decide
theorem zk_44 : Zk 44 = 3 := by decide +kernel
theorem zp_44_0 : Zp 44 0 = 45 := by decide +kernel
theorem nl_45 : 45 < NL := by decide
theorem zk_45 : Zk 45 = 11 := by decide +kernel
theorem zn_45 : Zn 45 = 30 := by decide +kernel
theorem nl_46 : 46 < NL := by decide
theorem zk_46 : Zk 46 = 3 := by decide +kernel
theorem zp_46_0 : Zp 46 0 = 47 := by decide +kernel
theorem nl_47 : 47 < NL := by decide
theorem zk_47 : Zk 47 = 11 := by decide +kernel
theorem zn_47 : Zn 47 = 30 := by decide +kernel
theorem nl_48 : 48 < NL := by decide
theorem zk_48 : Zk 48 = 3 := by decide +kernel
theorem zp_48_0 : Zp 48 0 = 49 := by decide +kernel
theorem nl_49 : 49 < NL := by decide
theorem zk_49 : Zk 49 = 11 := by decide +kernel
theorem zn_49 : Zn 49 = 30 := by decide +kernel
theorem nl_50 : 50 < NL := by decide
theorem zk_50 : Zk 50 = 3 := by decide +kernel
theorem zp_50_0 : Zp 50 0 = 51 := by decide +kernel
theorem nl_51 : 51 < NL := by decide
theorem zk_51 : Zk 51 = 11 := by decide +kernel
theorem zn_51 : Zn 51 = 30 := by decide +kernel
theorem nl_52 : 52 < NL := by decide
theorem zk_52 : Zk 52 = 3 := by decide +kernel
theorem zp_52_0 : Zp 52 0 = 53 := by decide +kernel
theorem nl_53 : 53 < NL := by decide
theorem zk_53 : Zk 53 = 11 := by decide +kernel
theorem zn_53 : Zn 53 = 30 := by decide +kernel
theorem nl_54 : 54 < NL := by decide
theorem zk_54 : Zk 54 = 3 := by decide +kernel
theorem zp_54_0 : Zp 54 0 = 55 := by decide +kernel
theorem nl_55 : 55 < NL := by decide
theorem zk_55 : Zk 55 = 11 := by decide +kernel
theorem zn_55 : Zn 55 = 30 := by decide +kernel
theorem nl_56 : 56 < NL := by decide
theorem zk_56 : Zk 56 = 14 := by decide +kernel
theorem zn_56 : Zn 56 = 11 := by decide +kernel
theorem zp_56_0 : Zp 56 0 = 57 := by decide +kernel
theorem zp_56_1 : Zp 56 1 = 58 := by decide +kernel
theorem zp_56_2 : Zp 56 2 = 59 := by decide +kernel
theorem zp_56_3 : Zp 56 3 = 60 := by decide +kernel
theorem zp_56_4 : Zp 56 4 = 61 := by decide +kernel
theorem zp_56_5 : Zp 56 5 = 62 := by decide +kernel
theorem zp_56_6 : Zp 56 6 = 63 := by decide +kernel
theorem zp_56_7 : Zp 56 7 = 64 := by decide +kernel
theorem zp_56_8 : Zp 56 8 = 65 := by decide +kernel
theorem zp_56_9 : Zp 56 9 = 66 := by decide +kernel
theorem zp_56_10 : Zp 56 10 = 67 := by decide +kernel
theorem nl_57 : 57 < NL := by decide
theorem zk_57 : Zk 57 = 11 := by decide +kernel
theorem zn_57 : Zn 57 = 4 := by decide +kernel
theorem nl_58 : 58 < NL := by decide
theorem zk_58 : Zk 58 = 11 := by decide +kernel
theorem zn_58 : Zn 58 = 4 := by decide +kernel
theorem nl_59 : 59 < NL := by decide
theorem zk_59 : Zk 59 = 11 := by decide +kernel
theorem zn_59 : Zn 59 = 4 := by decide +kernel
theorem nl_60 : 60 < NL := by decide
theorem zk_60 : Zk 60 = 11 := by decide +kernel
theorem zn_60 : Zn 60 = 4 := by decide +kernel
theorem nl_61 : 61 < NL := by decide
theorem zk_61 : Zk 61 = 11 := by decide +kernel
theorem zn_61 : Zn 61 = 4 := by decide +kernel
theorem nl_62 : 62 < NL := by decide
theorem zk_62 : Zk 62 = 11 := by decide +kernel
theorem zn_62 : Zn 62 = 4 := by decide +kernel
theorem nl_63 : 63 < NL := by decide
theorem zk_63 : Zk 63 = 11 := by decide +kernel
theorem zn_63 : Zn 63 = 4 := by decide +kernel
theorem nl_64 : 64 < NL := by decide
theorem zk_64 : Zk 64 = 11 := by decide +kernel
theorem zn_64 : Zn 64 = 4 := by decide +kernel
theorem nl_65 : 65 < NL := by decide
theorem zk_65 : Zk 65 = 11 := by decide +kernel
theorem zn_65 : Zn 65 = 4 := by decide +kernel
theorem nl_66 : 66 < NL := by decide
theorem zk_66 : Zk 66 = 11 := by decide +kernel
theorem zn_66 : Zn 66 = 4 := by decide +kernel
theorem nl_67 : 67 < NL := by decide
theorem zk_67 : Zk 67 = 11 := by decide +kernel
theorem zn_67 : Zn 67 = 4 := by decide +kernel
theorem nl_68 : 68 < NL := by decide
theorem zk_68 : Zk 68 = 14 := by decide +kernel
theorem zn_68 : Zn 68 = 11 := by decide +kernel
theorem zp_68_0 : Zp 68 0 = 69 := by decide +kernel
theorem zp_68_1 : Zp 68 1 = 70 := by decide +kernel
theorem zp_68_2 : Zp 68 2 = 71 := by decide +kernel
theorem zp_68_3 : Zp 68 3 = 72 := by decide +kernel
theorem zp_68_4 : Zp 68 4 = 73 := by decide +kernel
theorem zp_68_5 : Zp 68 5 = 74 := by decide +kernel
theorem zp_68_6 : Zp 68 6 = 75 := by decide +kernel
theorem zp_68_7 : Zp 68 7 = 76 := by decide +kernel
theorem zp_68_8 : Zp 68 8 = 77 := by decide +kernel
theorem zp_68_9 : Zp 68 9 = 78 := by decide +kernel
theorem zp_68_10 : Zp 68 10 = 79 := by decide +kernel
theorem nl_69 : 69 < NL := by decide
theorem zk_69 : Zk 69 = 11 := by decide +kernel
theorem zn_69 : Zn 69 = 11 := by decide +kernel
theorem nl_70 : 70 < NL := by decide
theorem zk_70 : Zk 70 = 11 := by decide +kernel
theorem zn_70 : Zn 70 = 11 := by decide +kernel
theorem nl_71 : 71 < NL := by decide
theorem zk_71 : Zk 71 = 11 := by decide +kernel
theorem zn_71 : Zn 71 = 11 := by decide +kernel
theorem nl_72 : 72 < NL := by decide
theorem zk_72 : Zk 72 = 11 := by decide +kernel
theorem zn_72 : Zn 72 = 11 := by decide +kernel
theorem nl_73 : 73 < NL := by decide
theorem zk_73 : Zk 73 = 11 := by decide +kernel
theorem zn_73 : Zn 73 = 11 := by decide +kernel
theorem nl_74 : 74 < NL := by decide
theorem zk_74 : Zk 74 = 11 := by decide +kernel
theorem zn_74 : Zn 74 = 11 := by decide +kernel
theorem nl_75 : 75 < NL := by decide
theorem zk_75 : Zk 75 = 11 := by decide +kernel
theorem zn_75 : Zn 75 = 11 := by decide +kernel
theorem nl_76 : 76 < NL := by decide
theorem zk_76 : Zk 76 = 11 := by decide +kernel
theorem zn_76 : Zn 76 = 11 := by decide +kernel
theorem nl_77 : 77 < NL := by decide
theorem zk_77 : Zk 77 = 11 := by decide +kernel
theorem zn_77 : Zn 77 = 11 := by decide +kernel
theorem nl_78 : 78 < NL := by decide
theorem zk_78 : Zk 78 = 11 := by decide +kernel
theorem zn_78 : Zn 78 = 11 := by decide +kernel
theorem nl_79 : 79 < NL := by decide
theorem zk_79 : Zk 79 = 11 := by decide +kernel
theorem zn_79 : Zn 79 = 11 := by decide +kernel
theorem nl_80 : 80 < NL := by decide
theorem zk_80 : Zk 80 = 5 := by decide +kernel
theorem zp_80_0 : Zp 80 0 = 1 := by decide +kernel
theorem zp_80_1 : Zp 80 1 = 81 := by decide +kernel
theorem zp_80_2 : Zp 80 2 = 83 := by decide +kernel
theorem zp_80_3 : Zp 80 3 = 84 := by decide +kernel
theorem zp_80_4 : Zp 80 4 = 85 := by decide +kernel
theorem zp_80_5 : Zp 80 5 = 86 := by decide +kernel
theorem nl_81 : 81 < NL := by decide
theorem zk_81 : Zk 81 = 3 := by decide +kernel
theorem zp_81_0 : Zp 81 0 = 82 := by decide +kernel
theorem nl_82 : 82 < NL := by decide
theorem zk_82 : Zk 82 = 11 := by decide +kernel
theorem zn_82 : Zn 82 = 30 := by decide +kernel
theorem nl_83 : 83 < NL := by decide
theorem zk_83 : Zk 83 = 11 := by decide +kernel
theorem zn_83 : Zn 83 = 6 := by decide +kernel
theorem nl_84 : 84 < NL := by decide
theorem zk_84 : Zk 84 = 11 := by decide +kernel
theorem zn_84 : Zn 84 = 6 := by decide +kernel
theorem nl_85 : 85 < NL := by decide
theorem zk_85 : Zk 85 = 11 := by decide +kernel
theorem zn_85 : Zn 85 = 6 := by decide +kernel
theorem nl_86 : 86 < NL := by decide
theorem zk_86 : Zk 86 = 11 := by decide +kernel
theorem zn_86 : Zn 86 = 6 := by decide +kernel
theorem nl_87 : 87 < NL := by decide
theorem zk_87 : Zk 87 = 10 := by decide +kernel
theorem zp_87_0 : Zp 87 0 = 88 := by decide +kernel
theorem zp_87_1 : Zp 87 1 = 89 := by decide +kernel
theorem zp_87_2 : Zp 87 2 = 90 := by decide +kernel
theorem zp_87_4 : Zp 87 4 = 91 := by decide +kernel
theorem zp_87_7 : Zp 87 7 = 92 := by decide +kernel
theorem zp_87_8 : Zp 87 8 = 93 := by decide +kernel
theorem zp_87_9 : Zp 87 9 = 94 := by decide +kernel
theorem zp_87_10 : Zp 87 10 = 95 := by decide +kernel
theorem zp_87_12 : Zp 87 12 = 96 := by decide +kernel
theorem zp_87_19 : Zp 87 19 = 97 := by decide +kernel
theorem zp_87_22 : Zp 87 22 = 98 := by decide +kernel
theorem zp_87_23 : Zp 87 23 = 99 := by decide +kernel
theorem zp_87_24 : Zp 87 24 = 100 := by decide +kernel
theorem zp_87_25 : Zp 87 25 = 101 := by decide +kernel
theorem zp_87_26 : Zp 87 26 = 102 := by decide +kernel
theorem nl_88 : 88 < NL := by decide
theorem zk_88 : Zk 88 = 11 := by decide +kernel
theorem zn_88 : Zn 88 = 341 := by decide +kernel
theorem nl_89 : 89 < NL := by decide
theorem zk_89 : Zk 89 = 12 := by decide +kernel
theorem zn_89 : Zn 89 = 2 := by decide +kernel
theorem nl_90 : 90 < NL := by decide
theorem zk_90 : Zk 90 = 11 := by decide +kernel
theorem zn_90 : Zn 90 = 200 := by decide +kernel
theorem nl_91 : 91 < NL := by decide
theorem zk_91 : Zk 91 = 11 := by decide +kernel
theorem zn_91 : Zn 91 = 120 := by decide +kernel
theorem nl_92 : 92 < NL := by decide
theorem zk_92 : Zk 92 = 11 := by decide +kernel
theorem zn_92 : Zn 92 = 6 := by decide +kernel
theorem nl_93 : 93 < NL := by decide
theorem zk_93 : Zk 93 = 11 := by decide +kernel
theorem zn_93 : Zn 93 = 30 := by decide +kernel
theorem nl_94 : 94 < NL := by decide
theorem zk_94 : Zk 94 = 11 := by decide +kernel
theorem zn_94 : Zn 94 = 4 := by decide +kernel
theorem nl_95 : 95 < NL := by decide
theorem zk_95 : Zk 95 = 11 := by decide +kernel
theorem zn_95 : Zn 95 = 4 := by decide +kernel
theorem nl_96 : 96 < NL := by decide
theorem zk_96 : Zk 96 = 11 := by decide +kernel
theorem zn_96 : Zn 96 = 24 := by decide +kernel
theorem nl_97 : 97 < NL := by decide
theorem zk_97 : Zk 97 = 11 := by decide +kernel
theorem zn_97 : Zn 97 = 6 := by decide +kernel
theorem nl_98 : 98 < NL := by decide
theorem zk_98 : Zk 98 = 11 := by decide +kernel
theorem zn_98 : Zn 98 = 8 := by decide +kernel
theorem nl_99 : 99 < NL := by decide
theorem zk_99 : Zk 99 = 11 := by decide +kernel
theorem zn_99 : Zn 99 = 32 := by decide +kernel
theorem nl_100 : 100 < NL := by decide
theorem zk_100 : Zk 100 = 11 := by decide +kernel
theorem zn_100 : Zn 100 = 56 := by decide +kernel
theorem nl_101 : 101 < NL := by decide
theorem zk_101 : Zk 101 = 11 := by decide +kernel
theorem zn_101 : Zn 101 = 6 := by decide +kernel
theorem nl_102 : 102 < NL := by decide
theorem zk_102 : Zk 102 = 11 := by decide +kernel
theorem zn_102 : Zn 102 = 6 := by decide +kernel
section GF
variable {E : HEn} {F : HFx} {me : HMe} {pc idx q : Nat} {L : List (Nat × Value)} {st : List Value} {I : HIh}
theorem gf_1_0 {r : Nat} (hd : decode me.2.1 pc = .ok (.getfield idx, 3)) (hw : HLink me.1.cls idx "ThrownCoins$Foretelling" "told" "LThrownCoins$Told;") (hq : q < NL) (hk : Zk q = 1) (hz : Zp q 0 = r) (h : HGo E F me (pc + 3) L (.ref r :: st) I) : HGo E F me pc L (.ref q :: st) I := by
  subst hz
  exact h_get (ci := 1) (j := 0) (C := RX2) (T := TX2) (N := 8) hd hw rfl hu_1 (by decide) rfl (by decide) hq hk (v := .ref (Zp q 0)) rfl rfl h
theorem gf_1_1 {r : Nat} (hd : decode me.2.1 pc = .ok (.getfield idx, 3)) (hw : HLink me.1.cls idx "ThrownCoins$Foretelling" "lots" "[LThrownCoins$Lot;") (hq : q < NL) (hk : Zk q = 1) (hz : Zp q 1 = r) (h : HGo E F me (pc + 3) L (.ref r :: st) I) : HGo E F me pc L (.ref q :: st) I := by
  subst hz
  exact h_get (ci := 1) (j := 1) (C := RX2) (T := TX2) (N := 8) hd hw rfl hu_1 (by decide) rfl (by decide) hq hk (v := .ref (Zp q 1)) rfl rfl h
theorem gf_1_2 {r : Nat} (hd : decode me.2.1 pc = .ok (.getfield idx, 3)) (hw : HLink me.1.cls idx "ThrownCoins$Foretelling" "ends" "[[I") (hq : q < NL) (hk : Zk q = 1) (hz : Zp q 2 = r) (h : HGo E F me (pc + 3) L (.ref r :: st) I) : HGo E F me pc L (.ref q :: st) I := by
  subst hz
  exact h_get (ci := 1) (j := 2) (C := RX2) (T := TX2) (N := 8) hd hw rfl hu_1 (by decide) rfl (by decide) hq hk (v := .ref (Zp q 2)) rfl rfl h
theorem gf_1_3 {r : Nat} (hd : decode me.2.1 pc = .ok (.getfield idx, 3)) (hw : HLink me.1.cls idx "ThrownCoins$Foretelling" "rows" "[[I") (hq : q < NL) (hk : Zk q = 1) (hz : Zp q 3 = r) (h : HGo E F me (pc + 3) L (.ref r :: st) I) : HGo E F me pc L (.ref q :: st) I := by
  subst hz
  exact h_get (ci := 1) (j := 3) (C := RX2) (T := TX2) (N := 8) hd hw rfl hu_1 (by decide) rfl (by decide) hq hk (v := .ref (Zp q 3)) rfl rfl h
theorem gf_1_4 (hd : decode me.2.1 pc = .ok (.getfield idx, 3)) (hw : HLink me.1.cls idx "ThrownCoins$Foretelling" "goals" "I") (hq : q < NL) (hk : Zk q = 1) (h : HGo E F me (pc + 3) L (.int (I q 4) :: st) I) : HGo E F me pc L (.ref q :: st) I :=
  h_get (ci := 1) (j := 4) (C := RX2) (T := TX2) (N := 8) hd hw rfl hu_1 (by decide) rfl (by decide) hq hk (v := .int (I q 4)) rfl rfl h
theorem pf_1_4 {x : Int32} (hd : decode me.2.1 pc = .ok (.putfield idx, 3)) (hw : HLink me.1.cls idx "ThrownCoins$Foretelling" "goals" "I") (hq : q < NL) (hk : Zk q = 1) (h : HGo E F me (pc + 3) L st (setI I q (upd (I q) 4 x))) : HGo E F me pc L (.int x :: .ref q :: st) I :=
  h_put (ci := 1) (j := 4) (C := RX2) (T := TX2) (N := 8) hd hw rfl hu_1 tyX2_ok nmX2 (by decide) rfl (by decide) hq hk rfl (by decide +kernel) rfl rfl h
theorem gf_1_5 (hd : decode me.2.1 pc = .ok (.getfield idx, 3)) (hw : HLink me.1.cls idx "ThrownCoins$Foretelling" "steps" "I") (hq : q < NL) (hk : Zk q = 1) (h : HGo E F me (pc + 3) L (.int (I q 5) :: st) I) : HGo E F me pc L (.ref q :: st) I :=
  h_get (ci := 1) (j := 5) (C := RX2) (T := TX2) (N := 8) hd hw rfl hu_1 (by decide) rfl (by decide) hq hk (v := .int (I q 5)) rfl rfl h
theorem pf_1_5 {x : Int32} (hd : decode me.2.1 pc = .ok (.putfield idx, 3)) (hw : HLink me.1.cls idx "ThrownCoins$Foretelling" "steps" "I") (hq : q < NL) (hk : Zk q = 1) (h : HGo E F me (pc + 3) L st (setI I q (upd (I q) 5 x))) : HGo E F me pc L (.int x :: .ref q :: st) I :=
  h_put (ci := 1) (j := 5) (C := RX2) (T := TX2) (N := 8) hd hw rfl hu_1 tyX2_ok nmX2 (by decide) rfl (by decide) hq hk rfl (by decide +kernel) rfl rfl h
theorem gf_1_6 (hd : decode me.2.1 pc = .ok (.getfield idx, 3)) (hw : HLink me.1.cls idx "ThrownCoins$Foretelling" "hoping" "I") (hq : q < NL) (hk : Zk q = 1) (h : HGo E F me (pc + 3) L (.int (I q 6) :: st) I) : HGo E F me pc L (.ref q :: st) I :=
  h_get (ci := 1) (j := 6) (C := RX2) (T := TX2) (N := 8) hd hw rfl hu_1 (by decide) rfl (by decide) hq hk (v := .int (I q 6)) rfl rfl h
theorem pf_1_6 {x : Int32} (hd : decode me.2.1 pc = .ok (.putfield idx, 3)) (hw : HLink me.1.cls idx "ThrownCoins$Foretelling" "hoping" "I") (hq : q < NL) (hk : Zk q = 1) (h : HGo E F me (pc + 3) L st (setI I q (upd (I q) 6 x))) : HGo E F me pc L (.int x :: .ref q :: st) I :=
  h_put (ci := 1) (j := 6) (C := RX2) (T := TX2) (N := 8) hd hw rfl hu_1 tyX2_ok nmX2 (by decide) rfl (by decide) hq hk rfl (by decide +kernel) rfl rfl h
theorem gf_1_7 (hd : decode me.2.1 pc = .ok (.getfield idx, 3)) (hw : HLink me.1.cls idx "ThrownCoins$Foretelling" "tenths" "I") (hq : q < NL) (hk : Zk q = 1) (h : HGo E F me (pc + 3) L (.int (I q 7) :: st) I) : HGo E F me pc L (.ref q :: st) I :=
  h_get (ci := 1) (j := 7) (C := RX2) (T := TX2) (N := 8) hd hw rfl hu_1 (by decide) rfl (by decide) hq hk (v := .int (I q 7)) rfl rfl h
theorem pf_1_7 {x : Int32} (hd : decode me.2.1 pc = .ok (.putfield idx, 3)) (hw : HLink me.1.cls idx "ThrownCoins$Foretelling" "tenths" "I") (hq : q < NL) (hk : Zk q = 1) (h : HGo E F me (pc + 3) L st (setI I q (upd (I q) 7 x))) : HGo E F me pc L (.int x :: .ref q :: st) I :=
  h_put (ci := 1) (j := 7) (C := RX2) (T := TX2) (N := 8) hd hw rfl hu_1 tyX2_ok nmX2 (by decide) rfl (by decide) hq hk rfl (by decide +kernel) rfl rfl h
theorem gf_3_0 {r : Nat} (hd : decode me.2.1 pc = .ok (.getfield idx, 3)) (hw : HLink me.1.cls idx "ThrownCoins$Lot" "coins" "[I") (hq : q < NL) (hk : Zk q = 3) (hz : Zp q 0 = r) (h : HGo E F me (pc + 3) L (.ref r :: st) I) : HGo E F me pc L (.ref q :: st) I := by
  subst hz
  exact h_get (ci := 3) (j := 0) (C := RX4) (T := TX4) (N := 2) hd hw rfl hu_3 (by decide) rfl (by decide) hq hk (v := .ref (Zp q 0)) rfl rfl h
theorem gf_3_1 (hd : decode me.2.1 pc = .ok (.getfield idx, 3)) (hw : HLink me.1.cls idx "ThrownCoins$Lot" "gone" "I") (hq : q < NL) (hk : Zk q = 3) (h : HGo E F me (pc + 3) L (.int (I q 1) :: st) I) : HGo E F me pc L (.ref q :: st) I :=
  h_get (ci := 3) (j := 1) (C := RX4) (T := TX4) (N := 2) hd hw rfl hu_3 (by decide) rfl (by decide) hq hk (v := .int (I q 1)) rfl rfl h
theorem pf_3_1 {x : Int32} (hd : decode me.2.1 pc = .ok (.putfield idx, 3)) (hw : HLink me.1.cls idx "ThrownCoins$Lot" "gone" "I") (hq : q < NL) (hk : Zk q = 3) (h : HGo E F me (pc + 3) L st (setI I q (upd (I q) 1 x))) : HGo E F me pc L (.int x :: .ref q :: st) I :=
  h_put (ci := 3) (j := 1) (C := RX4) (T := TX4) (N := 2) hd hw rfl hu_3 tyX4_ok nmX4 (by decide) rfl (by decide) hq hk rfl (by decide +kernel) rfl rfl h
theorem gf_5_0 {r : Nat} (hd : decode me.2.1 pc = .ok (.getfield idx, 3)) (hw : HLink me.1.cls idx "ThrownCoins$Notes" "told" "LThrownCoins$Told;") (hq : q < NL) (hk : Zk q = 5) (hz : Zp q 0 = r) (h : HGo E F me (pc + 3) L (.ref r :: st) I) : HGo E F me pc L (.ref q :: st) I := by
  subst hz
  exact h_get (ci := 5) (j := 0) (C := RX6) (T := TX6) (N := 9) hd hw rfl hu_5 (by decide) rfl (by decide) hq hk (v := .ref (Zp q 0)) rfl rfl h
theorem gf_5_1 {r : Nat} (hd : decode me.2.1 pc = .ok (.getfield idx, 3)) (hw : HLink me.1.cls idx "ThrownCoins$Notes" "lot" "LThrownCoins$Lot;") (hq : q < NL) (hk : Zk q = 5) (hz : Zp q 1 = r) (h : HGo E F me (pc + 3) L (.ref r :: st) I) : HGo E F me pc L (.ref q :: st) I := by
  subst hz
  exact h_get (ci := 5) (j := 1) (C := RX6) (T := TX6) (N := 9) hd hw rfl hu_5 (by decide) rfl (by decide) hq hk (v := .ref (Zp q 1)) rfl rfl h
theorem gf_5_2 {r : Nat} (hd : decode me.2.1 pc = .ok (.getfield idx, 3)) (hw : HLink me.1.cls idx "ThrownCoins$Notes" "thrown" "[I") (hq : q < NL) (hk : Zk q = 5) (hz : Zp q 2 = r) (h : HGo E F me (pc + 3) L (.ref r :: st) I) : HGo E F me pc L (.ref q :: st) I := by
  subst hz
  exact h_get (ci := 5) (j := 2) (C := RX6) (T := TX6) (N := 9) hd hw rfl hu_5 (by decide) rfl (by decide) hq hk (v := .ref (Zp q 2)) rfl rfl h
theorem gf_5_3 {r : Nat} (hd : decode me.2.1 pc = .ok (.getfield idx, 3)) (hw : HLink me.1.cls idx "ThrownCoins$Notes" "taken" "[I") (hq : q < NL) (hk : Zk q = 5) (hz : Zp q 3 = r) (h : HGo E F me (pc + 3) L (.ref r :: st) I) : HGo E F me pc L (.ref q :: st) I := by
  subst hz
  exact h_get (ci := 5) (j := 3) (C := RX6) (T := TX6) (N := 9) hd hw rfl hu_5 (by decide) rfl (by decide) hq hk (v := .ref (Zp q 3)) rfl rfl h
theorem gf_5_4 {r : Nat} (hd : decode me.2.1 pc = .ok (.getfield idx, 3)) (hw : HLink me.1.cls idx "ThrownCoins$Notes" "least" "[I") (hq : q < NL) (hk : Zk q = 5) (hz : Zp q 4 = r) (h : HGo E F me (pc + 3) L (.ref r :: st) I) : HGo E F me pc L (.ref q :: st) I := by
  subst hz
  exact h_get (ci := 5) (j := 4) (C := RX6) (T := TX6) (N := 9) hd hw rfl hu_5 (by decide) rfl (by decide) hq hk (v := .ref (Zp q 4)) rfl rfl h
theorem gf_5_5 {r : Nat} (hd : decode me.2.1 pc = .ok (.getfield idx, 3)) (hw : HLink me.1.cls idx "ThrownCoins$Notes" "most" "[I") (hq : q < NL) (hk : Zk q = 5) (hz : Zp q 5 = r) (h : HGo E F me (pc + 3) L (.ref r :: st) I) : HGo E F me pc L (.ref q :: st) I := by
  subst hz
  exact h_get (ci := 5) (j := 5) (C := RX6) (T := TX6) (N := 9) hd hw rfl hu_5 (by decide) rfl (by decide) hq hk (v := .ref (Zp q 5)) rfl rfl h
theorem gf_5_6 (hd : decode me.2.1 pc = .ok (.getfield idx, 3)) (hw : HLink me.1.cls idx "ThrownCoins$Notes" "size" "I") (hq : q < NL) (hk : Zk q = 5) (h : HGo E F me (pc + 3) L (.int (I q 6) :: st) I) : HGo E F me pc L (.ref q :: st) I :=
  h_get (ci := 5) (j := 6) (C := RX6) (T := TX6) (N := 9) hd hw rfl hu_5 (by decide) rfl (by decide) hq hk (v := .int (I q 6)) rfl rfl h
theorem pf_5_6 {x : Int32} (hd : decode me.2.1 pc = .ok (.putfield idx, 3)) (hw : HLink me.1.cls idx "ThrownCoins$Notes" "size" "I") (hq : q < NL) (hk : Zk q = 5) (h : HGo E F me (pc + 3) L st (setI I q (upd (I q) 6 x))) : HGo E F me pc L (.int x :: .ref q :: st) I :=
  h_put (ci := 5) (j := 6) (C := RX6) (T := TX6) (N := 9) hd hw rfl hu_5 tyX6_ok nmX6 (by decide) rfl (by decide) hq hk rfl (by decide +kernel) rfl rfl h
theorem gf_5_7 (hd : decode me.2.1 pc = .ok (.getfield idx, 3)) (hw : HLink me.1.cls idx "ThrownCoins$Notes" "layings" "I") (hq : q < NL) (hk : Zk q = 5) (h : HGo E F me (pc + 3) L (.int (I q 7) :: st) I) : HGo E F me pc L (.ref q :: st) I :=
  h_get (ci := 5) (j := 7) (C := RX6) (T := TX6) (N := 9) hd hw rfl hu_5 (by decide) rfl (by decide) hq hk (v := .int (I q 7)) rfl rfl h
theorem pf_5_7 {x : Int32} (hd : decode me.2.1 pc = .ok (.putfield idx, 3)) (hw : HLink me.1.cls idx "ThrownCoins$Notes" "layings" "I") (hq : q < NL) (hk : Zk q = 5) (h : HGo E F me (pc + 3) L st (setI I q (upd (I q) 7 x))) : HGo E F me pc L (.int x :: .ref q :: st) I :=
  h_put (ci := 5) (j := 7) (C := RX6) (T := TX6) (N := 9) hd hw rfl hu_5 tyX6_ok nmX6 (by decide) rfl (by decide) hq hk rfl (by decide +kernel) rfl rfl h
theorem gf_5_8 (hd : decode me.2.1 pc = .ok (.getfield idx, 3)) (hw : HLink me.1.cls idx "ThrownCoins$Notes" "first" "I") (hq : q < NL) (hk : Zk q = 5) (h : HGo E F me (pc + 3) L (.int (I q 8) :: st) I) : HGo E F me pc L (.ref q :: st) I :=
  h_get (ci := 5) (j := 8) (C := RX6) (T := TX6) (N := 9) hd hw rfl hu_5 (by decide) rfl (by decide) hq hk (v := .int (I q 8)) rfl rfl h
theorem pf_5_8 {x : Int32} (hd : decode me.2.1 pc = .ok (.putfield idx, 3)) (hw : HLink me.1.cls idx "ThrownCoins$Notes" "first" "I") (hq : q < NL) (hk : Zk q = 5) (h : HGo E F me (pc + 3) L st (setI I q (upd (I q) 8 x))) : HGo E F me pc L (.int x :: .ref q :: st) I :=
  h_put (ci := 5) (j := 8) (C := RX6) (T := TX6) (N := 9) hd hw rfl hu_5 tyX6_ok nmX6 (by decide) rfl (by decide) hq hk rfl (by decide +kernel) rfl rfl h
theorem gf_6_0 {r : Nat} (hd : decode me.2.1 pc = .ok (.getfield idx, 3)) (hw : HLink me.1.cls idx "ThrownCoins$Text" "bytes" "[I") (hq : q < NL) (hk : Zk q = 6) (hz : Zp q 0 = r) (h : HGo E F me (pc + 3) L (.ref r :: st) I) : HGo E F me pc L (.ref q :: st) I := by
  subst hz
  exact h_get (ci := 6) (j := 0) (C := RX7) (T := TX7) (N := 8) hd hw rfl hu_6 (by decide) rfl (by decide) hq hk (v := .ref (Zp q 0)) rfl rfl h
theorem gf_6_1 {r : Nat} (hd : decode me.2.1 pc = .ok (.getfield idx, 3)) (hw : HLink me.1.cls idx "ThrownCoins$Text" "draft" "LThrownCoins$Told;") (hq : q < NL) (hk : Zk q = 6) (hz : Zp q 1 = r) (h : HGo E F me (pc + 3) L (.ref r :: st) I) : HGo E F me pc L (.ref q :: st) I := by
  subst hz
  exact h_get (ci := 6) (j := 1) (C := RX7) (T := TX7) (N := 8) hd hw rfl hu_6 (by decide) rfl (by decide) hq hk (v := .ref (Zp q 1)) rfl rfl h
theorem gf_6_2 (hd : decode me.2.1 pc = .ok (.getfield idx, 3)) (hw : HLink me.1.cls idx "ThrownCoins$Text" "length" "I") (hq : q < NL) (hk : Zk q = 6) (h : HGo E F me (pc + 3) L (.int (I q 2) :: st) I) : HGo E F me pc L (.ref q :: st) I :=
  h_get (ci := 6) (j := 2) (C := RX7) (T := TX7) (N := 8) hd hw rfl hu_6 (by decide) rfl (by decide) hq hk (v := .int (I q 2)) rfl rfl h
theorem pf_6_2 {x : Int32} (hd : decode me.2.1 pc = .ok (.putfield idx, 3)) (hw : HLink me.1.cls idx "ThrownCoins$Text" "length" "I") (hq : q < NL) (hk : Zk q = 6) (h : HGo E F me (pc + 3) L st (setI I q (upd (I q) 2 x))) : HGo E F me pc L (.int x :: .ref q :: st) I :=
  h_put (ci := 6) (j := 2) (C := RX7) (T := TX7) (N := 8) hd hw rfl hu_6 tyX7_ok nmX7 (by decide) rfl (by decide) hq hk rfl (by decide +kernel) rfl rfl h
theorem gf_6_3 (hd : decode me.2.1 pc = .ok (.getfield idx, 3)) (hw : HLink me.1.cls idx "ThrownCoins$Text" "lines" "I") (hq : q < NL) (hk : Zk q = 6) (h : HGo E F me (pc + 3) L (.int (I q 3) :: st) I) : HGo E F me pc L (.ref q :: st) I :=
  h_get (ci := 6) (j := 3) (C := RX7) (T := TX7) (N := 8) hd hw rfl hu_6 (by decide) rfl (by decide) hq hk (v := .int (I q 3)) rfl rfl h
theorem pf_6_3 {x : Int32} (hd : decode me.2.1 pc = .ok (.putfield idx, 3)) (hw : HLink me.1.cls idx "ThrownCoins$Text" "lines" "I") (hq : q < NL) (hk : Zk q = 6) (h : HGo E F me (pc + 3) L st (setI I q (upd (I q) 3 x))) : HGo E F me pc L (.int x :: .ref q :: st) I :=
  h_put (ci := 6) (j := 3) (C := RX7) (T := TX7) (N := 8) hd hw rfl hu_6 tyX7_ok nmX7 (by decide) rfl (by decide) hq hk rfl (by decide +kernel) rfl rfl h
theorem gf_6_4 (hd : decode me.2.1 pc = .ok (.getfield idx, 3)) (hw : HLink me.1.cls idx "ThrownCoins$Text" "begin" "I") (hq : q < NL) (hk : Zk q = 6) (h : HGo E F me (pc + 3) L (.int (I q 4) :: st) I) : HGo E F me pc L (.ref q :: st) I :=
  h_get (ci := 6) (j := 4) (C := RX7) (T := TX7) (N := 8) hd hw rfl hu_6 (by decide) rfl (by decide) hq hk (v := .int (I q 4)) rfl rfl h
theorem pf_6_4 {x : Int32} (hd : decode me.2.1 pc = .ok (.putfield idx, 3)) (hw : HLink me.1.cls idx "ThrownCoins$Text" "begin" "I") (hq : q < NL) (hk : Zk q = 6) (h : HGo E F me (pc + 3) L st (setI I q (upd (I q) 4 x))) : HGo E F me pc L (.int x :: .ref q :: st) I :=
  h_put (ci := 6) (j := 4) (C := RX7) (T := TX7) (N := 8) hd hw rfl hu_6 tyX7_ok nmX7 (by decide) rfl (by decide) hq hk rfl (by decide +kernel) rfl rfl h
theorem gf_6_5 (hd : decode me.2.1 pc = .ok (.getfield idx, 3)) (hw : HLink me.1.cls idx "ThrownCoins$Text" "end" "I") (hq : q < NL) (hk : Zk q = 6) (h : HGo E F me (pc + 3) L (.int (I q 5) :: st) I) : HGo E F me pc L (.ref q :: st) I :=
  h_get (ci := 6) (j := 5) (C := RX7) (T := TX7) (N := 8) hd hw rfl hu_6 (by decide) rfl (by decide) hq hk (v := .int (I q 5)) rfl rfl h
theorem pf_6_5 {x : Int32} (hd : decode me.2.1 pc = .ok (.putfield idx, 3)) (hw : HLink me.1.cls idx "ThrownCoins$Text" "end" "I") (hq : q < NL) (hk : Zk q = 6) (h : HGo E F me (pc + 3) L st (setI I q (upd (I q) 5 x))) : HGo E F me pc L (.int x :: .ref q :: st) I :=
  h_put (ci := 6) (j := 5) (C := RX7) (T := TX7) (N := 8) hd hw rfl hu_6 tyX7_ok nmX7 (by decide) rfl (by decide) hq hk rfl (by decide +kernel) rfl rfl h
theorem gf_6_6 (hd : decode me.2.1 pc = .ok (.getfield idx, 3)) (hw : HLink me.1.cls idx "ThrownCoins$Text" "token" "I") (hq : q < NL) (hk : Zk q = 6) (h : HGo E F me (pc + 3) L (.int (I q 6) :: st) I) : HGo E F me pc L (.ref q :: st) I :=
  h_get (ci := 6) (j := 6) (C := RX7) (T := TX7) (N := 8) hd hw rfl hu_6 (by decide) rfl (by decide) hq hk (v := .int (I q 6)) rfl rfl h
theorem pf_6_6 {x : Int32} (hd : decode me.2.1 pc = .ok (.putfield idx, 3)) (hw : HLink me.1.cls idx "ThrownCoins$Text" "token" "I") (hq : q < NL) (hk : Zk q = 6) (h : HGo E F me (pc + 3) L st (setI I q (upd (I q) 6 x))) : HGo E F me pc L (.int x :: .ref q :: st) I :=
  h_put (ci := 6) (j := 6) (C := RX7) (T := TX7) (N := 8) hd hw rfl hu_6 tyX7_ok nmX7 (by decide) rfl (by decide) hq hk rfl (by decide +kernel) rfl rfl h
theorem gf_6_7 (hd : decode me.2.1 pc = .ok (.getfield idx, 3)) (hw : HLink me.1.cls idx "ThrownCoins$Text" "value" "I") (hq : q < NL) (hk : Zk q = 6) (h : HGo E F me (pc + 3) L (.int (I q 7) :: st) I) : HGo E F me pc L (.ref q :: st) I :=
  h_get (ci := 6) (j := 7) (C := RX7) (T := TX7) (N := 8) hd hw rfl hu_6 (by decide) rfl (by decide) hq hk (v := .int (I q 7)) rfl rfl h
theorem pf_6_7 {x : Int32} (hd : decode me.2.1 pc = .ok (.putfield idx, 3)) (hw : HLink me.1.cls idx "ThrownCoins$Text" "value" "I") (hq : q < NL) (hk : Zk q = 6) (h : HGo E F me (pc + 3) L st (setI I q (upd (I q) 7 x))) : HGo E F me pc L (.int x :: .ref q :: st) I :=
  h_put (ci := 6) (j := 7) (C := RX7) (T := TX7) (N := 8) hd hw rfl hu_6 tyX7_ok nmX7 (by decide) rfl (by decide) hq hk rfl (by decide +kernel) rfl rfl h
theorem gf_7_0 {r : Nat} (hd : decode me.2.1 pc = .ok (.getfield idx, 3)) (hw : HLink me.1.cls idx "ThrownCoins$Told" "never" "LThrownCoins$Folk;") (hq : q < NL) (hk : Zk q = 7) (hz : Zp q 0 = r) (h : HGo E F me (pc + 3) L (.ref r :: st) I) : HGo E F me pc L (.ref q :: st) I := by
  subst hz
  exact h_get (ci := 7) (j := 0) (C := RX9) (T := TX9) (N := 12) hd hw rfl hu_7 (by decide) rfl (by decide) hq hk (v := .ref (Zp q 0)) rfl rfl h
theorem gf_7_1 {r : Nat} (hd : decode me.2.1 pc = .ok (.getfield idx, 3)) (hw : HLink me.1.cls idx "ThrownCoins$Told" "greedy" "LThrownCoins$Folk;") (hq : q < NL) (hk : Zk q = 7) (hz : Zp q 1 = r) (h : HGo E F me (pc + 3) L (.ref r :: st) I) : HGo E F me pc L (.ref q :: st) I := by
  subst hz
  exact h_get (ci := 7) (j := 1) (C := RX9) (T := TX9) (N := 12) hd hw rfl hu_7 (by decide) rfl (by decide) hq hk (v := .ref (Zp q 1)) rfl rfl h
theorem gf_7_2 {r : Nat} (hd : decode me.2.1 pc = .ok (.getfield idx, 3)) (hw : HLink me.1.cls idx "ThrownCoins$Told" "waiting" "LThrownCoins$Folk;") (hq : q < NL) (hk : Zk q = 7) (hz : Zp q 2 = r) (h : HGo E F me (pc + 3) L (.ref r :: st) I) : HGo E F me pc L (.ref q :: st) I := by
  subst hz
  exact h_get (ci := 7) (j := 2) (C := RX9) (T := TX9) (N := 12) hd hw rfl hu_7 (by decide) rfl (by decide) hq hk (v := .ref (Zp q 2)) rfl rfl h
theorem gf_7_3 {r : Nat} (hd : decode me.2.1 pc = .ok (.getfield idx, 3)) (hw : HLink me.1.cls idx "ThrownCoins$Told" "cheap" "LThrownCoins$Folk;") (hq : q < NL) (hk : Zk q = 7) (hz : Zp q 3 = r) (h : HGo E F me (pc + 3) L (.ref r :: st) I) : HGo E F me pc L (.ref q :: st) I := by
  subst hz
  exact h_get (ci := 7) (j := 3) (C := RX9) (T := TX9) (N := 12) hd hw rfl hu_7 (by decide) rfl (by decide) hq hk (v := .ref (Zp q 3)) rfl rfl h
theorem gf_7_4 {r : Nat} (hd : decode me.2.1 pc = .ok (.getfield idx, 3)) (hw : HLink me.1.cls idx "ThrownCoins$Told" "worths" "[I") (hq : q < NL) (hk : Zk q = 7) (hz : Zp q 4 = r) (h : HGo E F me (pc + 3) L (.ref r :: st) I) : HGo E F me pc L (.ref q :: st) I := by
  subst hz
  exact h_get (ci := 7) (j := 4) (C := RX9) (T := TX9) (N := 12) hd hw rfl hu_7 (by decide) rfl (by decide) hq hk (v := .ref (Zp q 4)) rfl rfl h
theorem gf_7_5 {r : Nat} (hd : decode me.2.1 pc = .ok (.getfield idx, 3)) (hw : HLink me.1.cls idx "ThrownCoins$Told" "habits" "[I") (hq : q < NL) (hk : Zk q = 7) (hz : Zp q 5 = r) (h : HGo E F me (pc + 3) L (.ref r :: st) I) : HGo E F me pc L (.ref q :: st) I := by
  subst hz
  exact h_get (ci := 7) (j := 5) (C := RX9) (T := TX9) (N := 12) hd hw rfl hu_7 (by decide) rfl (by decide) hq hk (v := .ref (Zp q 5)) rfl rfl h
theorem gf_7_6 {r : Nat} (hd : decode me.2.1 pc = .ok (.getfield idx, 3)) (hw : HLink me.1.cls idx "ThrownCoins$Told" "bounds" "[I") (hq : q < NL) (hk : Zk q = 7) (hz : Zp q 6 = r) (h : HGo E F me (pc + 3) L (.ref r :: st) I) : HGo E F me pc L (.ref q :: st) I := by
  subst hz
  exact h_get (ci := 7) (j := 6) (C := RX9) (T := TX9) (N := 12) hd hw rfl hu_7 (by decide) rfl (by decide) hq hk (v := .ref (Zp q 6)) rfl rfl h
theorem gf_7_7 {r : Nat} (hd : decode me.2.1 pc = .ok (.getfield idx, 3)) (hw : HLink me.1.cls idx "ThrownCoins$Told" "visitors" "[I") (hq : q < NL) (hk : Zk q = 7) (hz : Zp q 7 = r) (h : HGo E F me (pc + 3) L (.ref r :: st) I) : HGo E F me pc L (.ref q :: st) I := by
  subst hz
  exact h_get (ci := 7) (j := 7) (C := RX9) (T := TX9) (N := 12) hd hw rfl hu_7 (by decide) rfl (by decide) hq hk (v := .ref (Zp q 7)) rfl rfl h
theorem gf_7_8 {r : Nat} (hd : decode me.2.1 pc = .ok (.getfield idx, 3)) (hw : HLink me.1.cls idx "ThrownCoins$Told" "atFirst" "LThrownCoins$Lot;") (hq : q < NL) (hk : Zk q = 7) (hz : Zp q 8 = r) (h : HGo E F me (pc + 3) L (.ref r :: st) I) : HGo E F me pc L (.ref q :: st) I := by
  subst hz
  exact h_get (ci := 7) (j := 8) (C := RX9) (T := TX9) (N := 12) hd hw rfl hu_7 (by decide) rfl (by decide) hq hk (v := .ref (Zp q 8)) rfl rfl h
theorem gf_7_9 (hd : decode me.2.1 pc = .ok (.getfield idx, 3)) (hw : HLink me.1.cls idx "ThrownCoins$Told" "kinds" "I") (hq : q < NL) (hk : Zk q = 7) (h : HGo E F me (pc + 3) L (.int (I q 9) :: st) I) : HGo E F me pc L (.ref q :: st) I :=
  h_get (ci := 7) (j := 9) (C := RX9) (T := TX9) (N := 12) hd hw rfl hu_7 (by decide) rfl (by decide) hq hk (v := .int (I q 9)) rfl rfl h
theorem pf_7_9 {x : Int32} (hd : decode me.2.1 pc = .ok (.putfield idx, 3)) (hw : HLink me.1.cls idx "ThrownCoins$Told" "kinds" "I") (hq : q < NL) (hk : Zk q = 7) (h : HGo E F me (pc + 3) L st (setI I q (upd (I q) 9 x))) : HGo E F me pc L (.int x :: .ref q :: st) I :=
  h_put (ci := 7) (j := 9) (C := RX9) (T := TX9) (N := 12) hd hw rfl hu_7 tyX9_ok nmX9 (by decide) rfl (by decide) hq hk rfl (by decide +kernel) rfl rfl h
theorem gf_7_10 (hd : decode me.2.1 pc = .ok (.getfield idx, 3)) (hw : HLink me.1.cls idx "ThrownCoins$Told" "visitCount" "I") (hq : q < NL) (hk : Zk q = 7) (h : HGo E F me (pc + 3) L (.int (I q 10) :: st) I) : HGo E F me pc L (.ref q :: st) I :=
  h_get (ci := 7) (j := 10) (C := RX9) (T := TX9) (N := 12) hd hw rfl hu_7 (by decide) rfl (by decide) hq hk (v := .int (I q 10)) rfl rfl h
theorem pf_7_10 {x : Int32} (hd : decode me.2.1 pc = .ok (.putfield idx, 3)) (hw : HLink me.1.cls idx "ThrownCoins$Told" "visitCount" "I") (hq : q < NL) (hk : Zk q = 7) (h : HGo E F me (pc + 3) L st (setI I q (upd (I q) 10 x))) : HGo E F me pc L (.int x :: .ref q :: st) I :=
  h_put (ci := 7) (j := 10) (C := RX9) (T := TX9) (N := 12) hd hw rfl hu_7 tyX9_ok nmX9 (by decide) rfl (by decide) hq hk rfl (by decide +kernel) rfl rfl h
theorem gf_7_11 (hd : decode me.2.1 pc = .ok (.getfield idx, 3)) (hw : HLink me.1.cls idx "ThrownCoins$Told" "law" "I") (hq : q < NL) (hk : Zk q = 7) (h : HGo E F me (pc + 3) L (.int (I q 11) :: st) I) : HGo E F me pc L (.ref q :: st) I :=
  h_get (ci := 7) (j := 11) (C := RX9) (T := TX9) (N := 12) hd hw rfl hu_7 (by decide) rfl (by decide) hq hk (v := .int (I q 11)) rfl rfl h
theorem pf_7_11 {x : Int32} (hd : decode me.2.1 pc = .ok (.putfield idx, 3)) (hw : HLink me.1.cls idx "ThrownCoins$Told" "law" "I") (hq : q < NL) (hk : Zk q = 7) (h : HGo E F me (pc + 3) L st (setI I q (upd (I q) 11 x))) : HGo E F me pc L (.int x :: .ref q :: st) I :=
  h_put (ci := 7) (j := 11) (C := RX9) (T := TX9) (N := 12) hd hw rfl hu_7 tyX9_ok nmX9 (by decide) rfl (by decide) hq hk rfl (by decide +kernel) rfl rfl h
theorem gf_9_0 {r : Nat} (hd : decode me.2.1 pc = .ok (.getfield idx, 3)) (hw : HLink me.1.cls idx "ThrownCoins" "told" "LThrownCoins$Told;") (hq : q < NL) (hk : Zk q = 9) (hz : Zp q 0 = r) (h : HGo E F me (pc + 3) L (.ref r :: st) I) : HGo E F me pc L (.ref q :: st) I := by
  subst hz
  exact h_get (ci := 9) (j := 0) (C := RX11) (T := TX11) (N := 7) hd hw rfl hu_9 (by decide) rfl (by decide) hq hk (v := .ref (Zp q 0)) rfl rfl h
theorem gf_9_1 {r : Nat} (hd : decode me.2.1 pc = .ok (.getfield idx, 3)) (hw : HLink me.1.cls idx "ThrownCoins" "now" "LThrownCoins$Lot;") (hq : q < NL) (hk : Zk q = 9) (hz : Zp q 1 = r) (h : HGo E F me (pc + 3) L (.ref r :: st) I) : HGo E F me pc L (.ref q :: st) I := by
  subst hz
  exact h_get (ci := 9) (j := 1) (C := RX11) (T := TX11) (N := 7) hd hw rfl hu_9 (by decide) rfl (by decide) hq hk (v := .ref (Zp q 1)) rfl rfl h
theorem gf_9_2 {r : Nat} (hd : decode me.2.1 pc = .ok (.getfield idx, 3)) (hw : HLink me.1.cls idx "ThrownCoins" "kept" "[LThrownCoins$Lot;") (hq : q < NL) (hk : Zk q = 9) (hz : Zp q 2 = r) (h : HGo E F me (pc + 3) L (.ref r :: st) I) : HGo E F me pc L (.ref q :: st) I := by
  subst hz
  exact h_get (ci := 9) (j := 2) (C := RX11) (T := TX11) (N := 7) hd hw rfl hu_9 (by decide) rfl (by decide) hq hk (v := .ref (Zp q 2)) rfl rfl h
theorem gf_9_3 {r : Nat} (hd : decode me.2.1 pc = .ok (.getfield idx, 3)) (hw : HLink me.1.cls idx "ThrownCoins" "text" "LThrownCoins$Text;") (hq : q < NL) (hk : Zk q = 9) (hz : Zp q 3 = r) (h : HGo E F me (pc + 3) L (.ref r :: st) I) : HGo E F me pc L (.ref q :: st) I := by
  subst hz
  exact h_get (ci := 9) (j := 3) (C := RX11) (T := TX11) (N := 7) hd hw rfl hu_9 (by decide) rfl (by decide) hq hk (v := .ref (Zp q 3)) rfl rfl h
theorem gf_9_4 {r : Nat} (hd : decode me.2.1 pc = .ok (.getfield idx, 3)) (hw : HLink me.1.cls idx "ThrownCoins" "foretelling" "LThrownCoins$Foretelling;") (hq : q < NL) (hk : Zk q = 9) (hz : Zp q 4 = r) (h : HGo E F me (pc + 3) L (.ref r :: st) I) : HGo E F me pc L (.ref q :: st) I := by
  subst hz
  exact h_get (ci := 9) (j := 4) (C := RX11) (T := TX11) (N := 7) hd hw rfl hu_9 (by decide) rfl (by decide) hq hk (v := .ref (Zp q 4)) rfl rfl h
theorem gf_9_5 {r : Nat} (hd : decode me.2.1 pc = .ok (.getfield idx, 3)) (hw : HLink me.1.cls idx "ThrownCoins" "notes" "LThrownCoins$Notes;") (hq : q < NL) (hk : Zk q = 9) (hz : Zp q 5 = r) (h : HGo E F me (pc + 3) L (.ref r :: st) I) : HGo E F me pc L (.ref q :: st) I := by
  subst hz
  exact h_get (ci := 9) (j := 5) (C := RX11) (T := TX11) (N := 7) hd hw rfl hu_9 (by decide) rfl (by decide) hq hk (v := .ref (Zp q 5)) rfl rfl h
theorem gf_9_6 (hd : decode me.2.1 pc = .ok (.getfield idx, 3)) (hw : HLink me.1.cls idx "ThrownCoins" "keptBits" "I") (hq : q < NL) (hk : Zk q = 9) (h : HGo E F me (pc + 3) L (.int (I q 6) :: st) I) : HGo E F me pc L (.ref q :: st) I :=
  h_get (ci := 9) (j := 6) (C := RX11) (T := TX11) (N := 7) hd hw rfl hu_9 (by decide) rfl (by decide) hq hk (v := .int (I q 6)) rfl rfl h
theorem pf_9_6 {x : Int32} (hd : decode me.2.1 pc = .ok (.putfield idx, 3)) (hw : HLink me.1.cls idx "ThrownCoins" "keptBits" "I") (hq : q < NL) (hk : Zk q = 9) (h : HGo E F me (pc + 3) L st (setI I q (upd (I q) 6 x))) : HGo E F me pc L (.int x :: .ref q :: st) I :=
  h_put (ci := 9) (j := 6) (C := RX11) (T := TX11) (N := 7) hd hw rfl hu_9 tyX11_ok nmX11 (by decide) rfl (by decide) hq hk rfl (by decide +kernel) rfl rfl h
theorem gf_10_0 {r : Nat} (hd : decode me.2.1 pc = .ok (.getfield idx, 3)) (hw : HLink me.1.cls idx "ThrownCoinsModel" "row" "[I") (hq : q < NL) (hk : Zk q = 10) (hz : Zp q 0 = r) (h : HGo E F me (pc + 3) L (.ref r :: st) I) : HGo E F me pc L (.ref q :: st) I := by
  subst hz
  exact h_get (ci := 10) (j := 0) (C := RX12) (T := TX12) (N := 28) hd hw rfl hu_10 (by decide) rfl (by decide) hq hk (v := .ref (Zp q 0)) rfl rfl h
theorem gf_10_1 {r : Nat} (hd : decode me.2.1 pc = .ok (.getfield idx, 3)) (hw : HLink me.1.cls idx "ThrownCoinsModel" "isKept" "[Z") (hq : q < NL) (hk : Zk q = 10) (hz : Zp q 1 = r) (h : HGo E F me (pc + 3) L (.ref r :: st) I) : HGo E F me pc L (.ref q :: st) I := by
  subst hz
  exact h_get (ci := 10) (j := 1) (C := RX12) (T := TX12) (N := 28) hd hw rfl hu_10 (by decide) rfl (by decide) hq hk (v := .ref (Zp q 1)) rfl rfl h
theorem gf_10_2 {r : Nat} (hd : decode me.2.1 pc = .ok (.getfield idx, 3)) (hw : HLink me.1.cls idx "ThrownCoinsModel" "text" "[I") (hq : q < NL) (hk : Zk q = 10) (hz : Zp q 2 = r) (h : HGo E F me (pc + 3) L (.ref r :: st) I) : HGo E F me pc L (.ref q :: st) I := by
  subst hz
  exact h_get (ci := 10) (j := 2) (C := RX12) (T := TX12) (N := 28) hd hw rfl hu_10 (by decide) rfl (by decide) hq hk (v := .ref (Zp q 2)) rfl rfl h
theorem gf_10_3 (hd : decode me.2.1 pc = .ok (.getfield idx, 3)) (hw : HLink me.1.cls idx "ThrownCoinsModel" "length" "I") (hq : q < NL) (hk : Zk q = 10) (h : HGo E F me (pc + 3) L (.int (I q 3) :: st) I) : HGo E F me pc L (.ref q :: st) I :=
  h_get (ci := 10) (j := 3) (C := RX12) (T := TX12) (N := 28) hd hw rfl hu_10 (by decide) rfl (by decide) hq hk (v := .int (I q 3)) rfl rfl h
theorem pf_10_3 {x : Int32} (hd : decode me.2.1 pc = .ok (.putfield idx, 3)) (hw : HLink me.1.cls idx "ThrownCoinsModel" "length" "I") (hq : q < NL) (hk : Zk q = 10) (h : HGo E F me (pc + 3) L st (setI I q (upd (I q) 3 x))) : HGo E F me pc L (.int x :: .ref q :: st) I :=
  h_put (ci := 10) (j := 3) (C := RX12) (T := TX12) (N := 28) hd hw rfl hu_10 tyX12_ok nmX12 (by decide) rfl (by decide) hq hk rfl (by decide +kernel) rfl rfl h
theorem gf_10_4 {r : Nat} (hd : decode me.2.1 pc = .ok (.getfield idx, 3)) (hw : HLink me.1.cls idx "ThrownCoinsModel" "read" "[I") (hq : q < NL) (hk : Zk q = 10) (hz : Zp q 4 = r) (h : HGo E F me (pc + 3) L (.ref r :: st) I) : HGo E F me pc L (.ref q :: st) I := by
  subst hz
  exact h_get (ci := 10) (j := 4) (C := RX12) (T := TX12) (N := 28) hd hw rfl hu_10 (by decide) rfl (by decide) hq hk (v := .ref (Zp q 4)) rfl rfl h
theorem gf_10_5 (hd : decode me.2.1 pc = .ok (.getfield idx, 3)) (hw : HLink me.1.cls idx "ThrownCoinsModel" "readMany" "I") (hq : q < NL) (hk : Zk q = 10) (h : HGo E F me (pc + 3) L (.int (I q 5) :: st) I) : HGo E F me pc L (.ref q :: st) I :=
  h_get (ci := 10) (j := 5) (C := RX12) (T := TX12) (N := 28) hd hw rfl hu_10 (by decide) rfl (by decide) hq hk (v := .int (I q 5)) rfl rfl h
theorem pf_10_5 {x : Int32} (hd : decode me.2.1 pc = .ok (.putfield idx, 3)) (hw : HLink me.1.cls idx "ThrownCoinsModel" "readMany" "I") (hq : q < NL) (hk : Zk q = 10) (h : HGo E F me (pc + 3) L st (setI I q (upd (I q) 5 x))) : HGo E F me pc L (.int x :: .ref q :: st) I :=
  h_put (ci := 10) (j := 5) (C := RX12) (T := TX12) (N := 28) hd hw rfl hu_10 tyX12_ok nmX12 (by decide) rfl (by decide) hq hk rfl (by decide +kernel) rfl rfl h
theorem gf_10_6 (hd : decode me.2.1 pc = .ok (.getfield idx, 3)) (hw : HLink me.1.cls idx "ThrownCoinsModel" "kinds" "I") (hq : q < NL) (hk : Zk q = 10) (h : HGo E F me (pc + 3) L (.int (I q 6) :: st) I) : HGo E F me pc L (.ref q :: st) I :=
  h_get (ci := 10) (j := 6) (C := RX12) (T := TX12) (N := 28) hd hw rfl hu_10 (by decide) rfl (by decide) hq hk (v := .int (I q 6)) rfl rfl h
theorem pf_10_6 {x : Int32} (hd : decode me.2.1 pc = .ok (.putfield idx, 3)) (hw : HLink me.1.cls idx "ThrownCoinsModel" "kinds" "I") (hq : q < NL) (hk : Zk q = 10) (h : HGo E F me (pc + 3) L st (setI I q (upd (I q) 6 x))) : HGo E F me pc L (.int x :: .ref q :: st) I :=
  h_put (ci := 10) (j := 6) (C := RX12) (T := TX12) (N := 28) hd hw rfl hu_10 tyX12_ok nmX12 (by decide) rfl (by decide) hq hk rfl (by decide +kernel) rfl rfl h
theorem gf_10_7 {r : Nat} (hd : decode me.2.1 pc = .ok (.getfield idx, 3)) (hw : HLink me.1.cls idx "ThrownCoinsModel" "worths" "[I") (hq : q < NL) (hk : Zk q = 10) (hz : Zp q 7 = r) (h : HGo E F me (pc + 3) L (.ref r :: st) I) : HGo E F me pc L (.ref q :: st) I := by
  subst hz
  exact h_get (ci := 10) (j := 7) (C := RX12) (T := TX12) (N := 28) hd hw rfl hu_10 (by decide) rfl (by decide) hq hk (v := .ref (Zp q 7)) rfl rfl h
theorem gf_10_8 {r : Nat} (hd : decode me.2.1 pc = .ok (.getfield idx, 3)) (hw : HLink me.1.cls idx "ThrownCoinsModel" "told" "[I") (hq : q < NL) (hk : Zk q = 10) (hz : Zp q 8 = r) (h : HGo E F me (pc + 3) L (.ref r :: st) I) : HGo E F me pc L (.ref q :: st) I := by
  subst hz
  exact h_get (ci := 10) (j := 8) (C := RX12) (T := TX12) (N := 28) hd hw rfl hu_10 (by decide) rfl (by decide) hq hk (v := .ref (Zp q 8)) rfl rfl h
theorem gf_10_9 {r : Nat} (hd : decode me.2.1 pc = .ok (.getfield idx, 3)) (hw : HLink me.1.cls idx "ThrownCoinsModel" "habits" "[I") (hq : q < NL) (hk : Zk q = 10) (hz : Zp q 9 = r) (h : HGo E F me (pc + 3) L (.ref r :: st) I) : HGo E F me pc L (.ref q :: st) I := by
  subst hz
  exact h_get (ci := 10) (j := 9) (C := RX12) (T := TX12) (N := 28) hd hw rfl hu_10 (by decide) rfl (by decide) hq hk (v := .ref (Zp q 9)) rfl rfl h
theorem gf_10_10 {r : Nat} (hd : decode me.2.1 pc = .ok (.getfield idx, 3)) (hw : HLink me.1.cls idx "ThrownCoinsModel" "bounds" "[I") (hq : q < NL) (hk : Zk q = 10) (hz : Zp q 10 = r) (h : HGo E F me (pc + 3) L (.ref r :: st) I) : HGo E F me pc L (.ref q :: st) I := by
  subst hz
  exact h_get (ci := 10) (j := 10) (C := RX12) (T := TX12) (N := 28) hd hw rfl hu_10 (by decide) rfl (by decide) hq hk (v := .ref (Zp q 10)) rfl rfl h
theorem gf_10_11 (hd : decode me.2.1 pc = .ok (.getfield idx, 3)) (hw : HLink me.1.cls idx "ThrownCoinsModel" "law" "I") (hq : q < NL) (hk : Zk q = 10) (h : HGo E F me (pc + 3) L (.int (I q 11) :: st) I) : HGo E F me pc L (.ref q :: st) I :=
  h_get (ci := 10) (j := 11) (C := RX12) (T := TX12) (N := 28) hd hw rfl hu_10 (by decide) rfl (by decide) hq hk (v := .int (I q 11)) rfl rfl h
theorem pf_10_11 {x : Int32} (hd : decode me.2.1 pc = .ok (.putfield idx, 3)) (hw : HLink me.1.cls idx "ThrownCoinsModel" "law" "I") (hq : q < NL) (hk : Zk q = 10) (h : HGo E F me (pc + 3) L st (setI I q (upd (I q) 11 x))) : HGo E F me pc L (.int x :: .ref q :: st) I :=
  h_put (ci := 10) (j := 11) (C := RX12) (T := TX12) (N := 28) hd hw rfl hu_10 tyX12_ok nmX12 (by decide) rfl (by decide) hq hk rfl (by decide +kernel) rfl rfl h
theorem gf_10_12 {r : Nat} (hd : decode me.2.1 pc = .ok (.getfield idx, 3)) (hw : HLink me.1.cls idx "ThrownCoinsModel" "visits" "[I") (hq : q < NL) (hk : Zk q = 10) (hz : Zp q 12 = r) (h : HGo E F me (pc + 3) L (.ref r :: st) I) : HGo E F me pc L (.ref q :: st) I := by
  subst hz
  exact h_get (ci := 10) (j := 12) (C := RX12) (T := TX12) (N := 28) hd hw rfl hu_10 (by decide) rfl (by decide) hq hk (v := .ref (Zp q 12)) rfl rfl h
theorem gf_10_13 (hd : decode me.2.1 pc = .ok (.getfield idx, 3)) (hw : HLink me.1.cls idx "ThrownCoinsModel" "visitMany" "I") (hq : q < NL) (hk : Zk q = 10) (h : HGo E F me (pc + 3) L (.int (I q 13) :: st) I) : HGo E F me pc L (.ref q :: st) I :=
  h_get (ci := 10) (j := 13) (C := RX12) (T := TX12) (N := 28) hd hw rfl hu_10 (by decide) rfl (by decide) hq hk (v := .int (I q 13)) rfl rfl h
theorem pf_10_13 {x : Int32} (hd : decode me.2.1 pc = .ok (.putfield idx, 3)) (hw : HLink me.1.cls idx "ThrownCoinsModel" "visitMany" "I") (hq : q < NL) (hk : Zk q = 10) (h : HGo E F me (pc + 3) L st (setI I q (upd (I q) 13 x))) : HGo E F me pc L (.int x :: .ref q :: st) I :=
  h_put (ci := 10) (j := 13) (C := RX12) (T := TX12) (N := 28) hd hw rfl hu_10 tyX12_ok nmX12 (by decide) rfl (by decide) hq hk rfl (by decide +kernel) rfl rfl h
theorem gf_10_14 (hd : decode me.2.1 pc = .ok (.getfield idx, 3)) (hw : HLink me.1.cls idx "ThrownCoinsModel" "at" "I") (hq : q < NL) (hk : Zk q = 10) (h : HGo E F me (pc + 3) L (.int (I q 14) :: st) I) : HGo E F me pc L (.ref q :: st) I :=
  h_get (ci := 10) (j := 14) (C := RX12) (T := TX12) (N := 28) hd hw rfl hu_10 (by decide) rfl (by decide) hq hk (v := .int (I q 14)) rfl rfl h
theorem pf_10_14 {x : Int32} (hd : decode me.2.1 pc = .ok (.putfield idx, 3)) (hw : HLink me.1.cls idx "ThrownCoinsModel" "at" "I") (hq : q < NL) (hk : Zk q = 10) (h : HGo E F me (pc + 3) L st (setI I q (upd (I q) 14 x))) : HGo E F me pc L (.int x :: .ref q :: st) I :=
  h_put (ci := 10) (j := 14) (C := RX12) (T := TX12) (N := 28) hd hw rfl hu_10 tyX12_ok nmX12 (by decide) rfl (by decide) hq hk rfl (by decide +kernel) rfl rfl h
theorem gf_10_15 (hd : decode me.2.1 pc = .ok (.getfield idx, 3)) (hw : HLink me.1.cls idx "ThrownCoinsModel" "place" "I") (hq : q < NL) (hk : Zk q = 10) (h : HGo E F me (pc + 3) L (.int (I q 15) :: st) I) : HGo E F me pc L (.ref q :: st) I :=
  h_get (ci := 10) (j := 15) (C := RX12) (T := TX12) (N := 28) hd hw rfl hu_10 (by decide) rfl (by decide) hq hk (v := .int (I q 15)) rfl rfl h
theorem pf_10_15 {x : Int32} (hd : decode me.2.1 pc = .ok (.putfield idx, 3)) (hw : HLink me.1.cls idx "ThrownCoinsModel" "place" "I") (hq : q < NL) (hk : Zk q = 10) (h : HGo E F me (pc + 3) L st (setI I q (upd (I q) 15 x))) : HGo E F me pc L (.int x :: .ref q :: st) I :=
  h_put (ci := 10) (j := 15) (C := RX12) (T := TX12) (N := 28) hd hw rfl hu_10 tyX12_ok nmX12 (by decide) rfl (by decide) hq hk rfl (by decide +kernel) rfl rfl h
theorem gf_10_16 (hd : decode me.2.1 pc = .ok (.getfield idx, 3)) (hw : HLink me.1.cls idx "ThrownCoinsModel" "end" "I") (hq : q < NL) (hk : Zk q = 10) (h : HGo E F me (pc + 3) L (.int (I q 16) :: st) I) : HGo E F me pc L (.ref q :: st) I :=
  h_get (ci := 10) (j := 16) (C := RX12) (T := TX12) (N := 28) hd hw rfl hu_10 (by decide) rfl (by decide) hq hk (v := .int (I q 16)) rfl rfl h
theorem pf_10_16 {x : Int32} (hd : decode me.2.1 pc = .ok (.putfield idx, 3)) (hw : HLink me.1.cls idx "ThrownCoinsModel" "end" "I") (hq : q < NL) (hk : Zk q = 10) (h : HGo E F me (pc + 3) L st (setI I q (upd (I q) 16 x))) : HGo E F me pc L (.int x :: .ref q :: st) I :=
  h_put (ci := 10) (j := 16) (C := RX12) (T := TX12) (N := 28) hd hw rfl hu_10 tyX12_ok nmX12 (by decide) rfl (by decide) hq hk rfl (by decide +kernel) rfl rfl h
theorem gf_10_17 (hd : decode me.2.1 pc = .ok (.getfield idx, 3)) (hw : HLink me.1.cls idx "ThrownCoinsModel" "readKinds" "I") (hq : q < NL) (hk : Zk q = 10) (h : HGo E F me (pc + 3) L (.int (I q 17) :: st) I) : HGo E F me pc L (.ref q :: st) I :=
  h_get (ci := 10) (j := 17) (C := RX12) (T := TX12) (N := 28) hd hw rfl hu_10 (by decide) rfl (by decide) hq hk (v := .int (I q 17)) rfl rfl h
theorem pf_10_17 {x : Int32} (hd : decode me.2.1 pc = .ok (.putfield idx, 3)) (hw : HLink me.1.cls idx "ThrownCoinsModel" "readKinds" "I") (hq : q < NL) (hk : Zk q = 10) (h : HGo E F me (pc + 3) L st (setI I q (upd (I q) 17 x))) : HGo E F me pc L (.int x :: .ref q :: st) I :=
  h_put (ci := 10) (j := 17) (C := RX12) (T := TX12) (N := 28) hd hw rfl hu_10 tyX12_ok nmX12 (by decide) rfl (by decide) hq hk rfl (by decide +kernel) rfl rfl h
theorem gf_10_18 (hd : decode me.2.1 pc = .ok (.getfield idx, 3)) (hw : HLink me.1.cls idx "ThrownCoinsModel" "readVisits" "I") (hq : q < NL) (hk : Zk q = 10) (h : HGo E F me (pc + 3) L (.int (I q 18) :: st) I) : HGo E F me pc L (.ref q :: st) I :=
  h_get (ci := 10) (j := 18) (C := RX12) (T := TX12) (N := 28) hd hw rfl hu_10 (by decide) rfl (by decide) hq hk (v := .int (I q 18)) rfl rfl h
theorem pf_10_18 {x : Int32} (hd : decode me.2.1 pc = .ok (.putfield idx, 3)) (hw : HLink me.1.cls idx "ThrownCoinsModel" "readVisits" "I") (hq : q < NL) (hk : Zk q = 10) (h : HGo E F me (pc + 3) L st (setI I q (upd (I q) 18 x))) : HGo E F me pc L (.int x :: .ref q :: st) I :=
  h_put (ci := 10) (j := 18) (C := RX12) (T := TX12) (N := 28) hd hw rfl hu_10 tyX12_ok nmX12 (by decide) rfl (by decide) hq hk rfl (by decide +kernel) rfl rfl h
theorem gf_10_19 {r : Nat} (hd : decode me.2.1 pc = .ok (.getfield idx, 3)) (hw : HLink me.1.cls idx "ThrownCoinsModel" "takes" "[I") (hq : q < NL) (hk : Zk q = 10) (hz : Zp q 19 = r) (h : HGo E F me (pc + 3) L (.ref r :: st) I) : HGo E F me pc L (.ref q :: st) I := by
  subst hz
  exact h_get (ci := 10) (j := 19) (C := RX12) (T := TX12) (N := 28) hd hw rfl hu_10 (by decide) rfl (by decide) hq hk (v := .ref (Zp q 19)) rfl rfl h
theorem gf_10_20 (hd : decode me.2.1 pc = .ok (.getfield idx, 3)) (hw : HLink me.1.cls idx "ThrownCoinsModel" "most" "I") (hq : q < NL) (hk : Zk q = 10) (h : HGo E F me (pc + 3) L (.int (I q 20) :: st) I) : HGo E F me pc L (.ref q :: st) I :=
  h_get (ci := 10) (j := 20) (C := RX12) (T := TX12) (N := 28) hd hw rfl hu_10 (by decide) rfl (by decide) hq hk (v := .int (I q 20)) rfl rfl h
theorem pf_10_20 {x : Int32} (hd : decode me.2.1 pc = .ok (.putfield idx, 3)) (hw : HLink me.1.cls idx "ThrownCoinsModel" "most" "I") (hq : q < NL) (hk : Zk q = 10) (h : HGo E F me (pc + 3) L st (setI I q (upd (I q) 20 x))) : HGo E F me pc L (.int x :: .ref q :: st) I :=
  h_put (ci := 10) (j := 20) (C := RX12) (T := TX12) (N := 28) hd hw rfl hu_10 tyX12_ok nmX12 (by decide) rfl (by decide) hq hk rfl (by decide +kernel) rfl rfl h
theorem gf_10_21 (hd : decode me.2.1 pc = .ok (.getfield idx, 3)) (hw : HLink me.1.cls idx "ThrownCoinsModel" "bestRow" "I") (hq : q < NL) (hk : Zk q = 10) (h : HGo E F me (pc + 3) L (.int (I q 21) :: st) I) : HGo E F me pc L (.ref q :: st) I :=
  h_get (ci := 10) (j := 21) (C := RX12) (T := TX12) (N := 28) hd hw rfl hu_10 (by decide) rfl (by decide) hq hk (v := .int (I q 21)) rfl rfl h
theorem pf_10_21 {x : Int32} (hd : decode me.2.1 pc = .ok (.putfield idx, 3)) (hw : HLink me.1.cls idx "ThrownCoinsModel" "bestRow" "I") (hq : q < NL) (hk : Zk q = 10) (h : HGo E F me (pc + 3) L st (setI I q (upd (I q) 21 x))) : HGo E F me pc L (.int x :: .ref q :: st) I :=
  h_put (ci := 10) (j := 21) (C := RX12) (T := TX12) (N := 28) hd hw rfl hu_10 tyX12_ok nmX12 (by decide) rfl (by decide) hq hk rfl (by decide +kernel) rfl rfl h
theorem gf_10_22 {r : Nat} (hd : decode me.2.1 pc = .ok (.getfield idx, 3)) (hw : HLink me.1.cls idx "ThrownCoinsModel" "tries" "[I") (hq : q < NL) (hk : Zk q = 10) (hz : Zp q 22 = r) (h : HGo E F me (pc + 3) L (.ref r :: st) I) : HGo E F me pc L (.ref q :: st) I := by
  subst hz
  exact h_get (ci := 10) (j := 22) (C := RX12) (T := TX12) (N := 28) hd hw rfl hu_10 (by decide) rfl (by decide) hq hk (v := .ref (Zp q 22)) rfl rfl h
theorem gf_10_23 {r : Nat} (hd : decode me.2.1 pc = .ok (.getfield idx, 3)) (hw : HLink me.1.cls idx "ThrownCoinsModel" "ends" "[I") (hq : q < NL) (hk : Zk q = 10) (hz : Zp q 23 = r) (h : HGo E F me (pc + 3) L (.ref r :: st) I) : HGo E F me pc L (.ref q :: st) I := by
  subst hz
  exact h_get (ci := 10) (j := 23) (C := RX12) (T := TX12) (N := 28) hd hw rfl hu_10 (by decide) rfl (by decide) hq hk (v := .ref (Zp q 23)) rfl rfl h
theorem gf_10_24 {r : Nat} (hd : decode me.2.1 pc = .ok (.getfield idx, 3)) (hw : HLink me.1.cls idx "ThrownCoinsModel" "path" "[I") (hq : q < NL) (hk : Zk q = 10) (hz : Zp q 24 = r) (h : HGo E F me (pc + 3) L (.ref r :: st) I) : HGo E F me pc L (.ref q :: st) I := by
  subst hz
  exact h_get (ci := 10) (j := 24) (C := RX12) (T := TX12) (N := 28) hd hw rfl hu_10 (by decide) rfl (by decide) hq hk (v := .ref (Zp q 24)) rfl rfl h
theorem gf_10_25 {r : Nat} (hd : decode me.2.1 pc = .ok (.getfield idx, 3)) (hw : HLink me.1.cls idx "ThrownCoinsModel" "noteKinds" "[I") (hq : q < NL) (hk : Zk q = 10) (hz : Zp q 25 = r) (h : HGo E F me (pc + 3) L (.ref r :: st) I) : HGo E F me pc L (.ref q :: st) I := by
  subst hz
  exact h_get (ci := 10) (j := 25) (C := RX12) (T := TX12) (N := 28) hd hw rfl hu_10 (by decide) rfl (by decide) hq hk (v := .ref (Zp q 25)) rfl rfl h
theorem gf_10_26 {r : Nat} (hd : decode me.2.1 pc = .ok (.getfield idx, 3)) (hw : HLink me.1.cls idx "ThrownCoinsModel" "noteWorths" "[I") (hq : q < NL) (hk : Zk q = 10) (hz : Zp q 26 = r) (h : HGo E F me (pc + 3) L (.ref r :: st) I) : HGo E F me pc L (.ref q :: st) I := by
  subst hz
  exact h_get (ci := 10) (j := 26) (C := RX12) (T := TX12) (N := 28) hd hw rfl hu_10 (by decide) rfl (by decide) hq hk (v := .ref (Zp q 26)) rfl rfl h
theorem gf_10_27 (hd : decode me.2.1 pc = .ok (.getfield idx, 3)) (hw : HLink me.1.cls idx "ThrownCoinsModel" "noteMany" "I") (hq : q < NL) (hk : Zk q = 10) (h : HGo E F me (pc + 3) L (.int (I q 27) :: st) I) : HGo E F me pc L (.ref q :: st) I :=
  h_get (ci := 10) (j := 27) (C := RX12) (T := TX12) (N := 28) hd hw rfl hu_10 (by decide) rfl (by decide) hq hk (v := .int (I q 27)) rfl rfl h
theorem pf_10_27 {x : Int32} (hd : decode me.2.1 pc = .ok (.putfield idx, 3)) (hw : HLink me.1.cls idx "ThrownCoinsModel" "noteMany" "I") (hq : q < NL) (hk : Zk q = 10) (h : HGo E F me (pc + 3) L st (setI I q (upd (I q) 27 x))) : HGo E F me pc L (.int x :: .ref q :: st) I :=
  h_put (ci := 10) (j := 27) (C := RX12) (T := TX12) (N := 28) hd hw rfl hu_10 tyX12_ok nmX12 (by decide) rfl (by decide) hq hk rfl (by decide +kernel) rfl rfl h
end GF
theorem hl_X11_10 : HLink RX11 10 "ThrownCoins" "told" "LThrownCoins$Told;" := Or.inl wt_248
theorem hl_X11_19 : HLink RX11 19 "ThrownCoins" "now" "LThrownCoins$Lot;" := Or.inl wt_249
theorem hl_X11_23 : HLink RX11 23 "ThrownCoins" "kept" "[LThrownCoins$Lot;" := Or.inl wt_250
theorem hl_X11_30 : HLink RX11 30 "ThrownCoins" "text" "LThrownCoins$Text;" := Or.inl wt_251
theorem hl_X11_39 : HLink RX11 39 "ThrownCoins" "foretelling" "LThrownCoins$Foretelling;" := Or.inl wt_252
theorem hl_X11_46 : HLink RX11 46 "ThrownCoins" "notes" "LThrownCoins$Notes;" := Or.inl wt_253
theorem hl_X11_79 : HLink RX11 79 "ThrownCoins" "keptBits" "I" := Or.inl wt_254
theorem hl_X2_13 : HLink RX2 13 "ThrownCoins$Foretelling" "lots" "[LThrownCoins$Lot;" := Or.inl wt_185
theorem hl_X2_19 : HLink RX2 19 "ThrownCoins$Foretelling" "ends" "[[I" := Or.inl wt_186
theorem hl_X2_22 : HLink RX2 22 "ThrownCoins$Foretelling" "rows" "[[I" := Or.inl wt_187
theorem hl_X2_25 : HLink RX2 25 "ThrownCoins$Foretelling" "goals" "I" := Or.inl wt_188
theorem hl_X2_29 : HLink RX2 29 "ThrownCoins$Foretelling" "told" "LThrownCoins$Told;" := Or.inl wt_184
theorem hl_X2_34 : HLink RX2 34 "ThrownCoins$Foretelling" "steps" "I" := Or.inl wt_189
theorem hl_X2_117 : HLink RX2 117 "ThrownCoins$Foretelling" "hoping" "I" := Or.inl wt_190
theorem hl_X2_120 : HLink RX2 120 "ThrownCoins$Foretelling" "tenths" "I" := Or.inl wt_191
theorem hl_X4_9 : HLink RX4 9 "ThrownCoins$Lot" "coins" "[I" := Or.inl wt_74
theorem hl_X4_21 : HLink RX4 21 "ThrownCoins$Lot" "gone" "I" := Or.inl wt_76
theorem hl_X6_12 : HLink RX6 12 "ThrownCoins$Notes" "lot" "LThrownCoins$Lot;" := Or.inl wt_218
theorem hl_X6_18 : HLink RX6 18 "ThrownCoins$Notes" "thrown" "[I" := Or.inl wt_219
theorem hl_X6_22 : HLink RX6 22 "ThrownCoins$Notes" "taken" "[I" := Or.inl wt_220
theorem hl_X6_25 : HLink RX6 25 "ThrownCoins$Notes" "least" "[I" := Or.inl wt_221
theorem hl_X6_28 : HLink RX6 28 "ThrownCoins$Notes" "most" "[I" := Or.inl wt_222
theorem hl_X6_31 : HLink RX6 31 "ThrownCoins$Notes" "told" "LThrownCoins$Told;" := Or.inl wt_217
theorem hl_X6_35 : HLink RX6 35 "ThrownCoins$Notes" "size" "I" := Or.inl wt_223
theorem hl_X6_39 : HLink RX6 39 "ThrownCoins$Notes" "layings" "I" := Or.inl wt_225
theorem hl_X6_42 : HLink RX6 42 "ThrownCoins$Notes" "first" "I" := Or.inl wt_227
theorem hl_X7_9 : HLink RX7 9 "ThrownCoins$Text" "bytes" "[I" := Or.inl wt_146
theorem hl_X7_18 : HLink RX7 18 "ThrownCoins$Text" "draft" "LThrownCoins$Told;" := Or.inl wt_147
theorem hl_X7_22 : HLink RX7 22 "ThrownCoins$Text" "length" "I" := Or.inl wt_149
theorem hl_X7_30 : HLink RX7 30 "ThrownCoins$Text" "end" "I" := Or.inl wt_154
theorem hl_X7_36 : HLink RX7 36 "ThrownCoins$Text" "lines" "I" := Or.inl wt_151
theorem hl_X7_43 : HLink RX7 43 "ThrownCoins$Text" "begin" "I" := Or.inl wt_153
theorem hl_X7_46 : HLink RX7 46 "ThrownCoins$Text" "token" "I" := Or.inl wt_155
theorem hl_X7_86 : HLink RX7 86 "ThrownCoins$Text" "value" "I" := Or.inl wt_156
theorem hl_X9_12 : HLink RX9 12 "ThrownCoins$Told" "never" "LThrownCoins$Folk;" := Or.inl wt_85
theorem hl_X9_21 : HLink RX9 21 "ThrownCoins$Told" "greedy" "LThrownCoins$Folk;" := Or.inl wt_86
theorem hl_X9_27 : HLink RX9 27 "ThrownCoins$Told" "waiting" "LThrownCoins$Folk;" := Or.inl wt_88
theorem hl_X9_33 : HLink RX9 33 "ThrownCoins$Told" "cheap" "LThrownCoins$Folk;" := Or.inl wt_89
theorem hl_X9_36 : HLink RX9 36 "ThrownCoins$Told" "worths" "[I" := Or.inl wt_90
theorem hl_X9_40 : HLink RX9 40 "ThrownCoins$Told" "habits" "[I" := Or.inl wt_91
theorem hl_X9_43 : HLink RX9 43 "ThrownCoins$Told" "bounds" "[I" := Or.inl wt_92
theorem hl_X9_46 : HLink RX9 46 "ThrownCoins$Told" "visitors" "[I" := Or.inl wt_93
theorem hl_X9_52 : HLink RX9 52 "ThrownCoins$Told" "atFirst" "LThrownCoins$Lot;" := Or.inl wt_94
theorem hl_X9_56 : HLink RX9 56 "ThrownCoins$Told" "kinds" "I" := Or.inl wt_97
theorem hl_X9_60 : HLink RX9 60 "ThrownCoins$Told" "law" "I" := Or.inl wt_107
theorem hl_X9_73 : HLink RX9 73 "ThrownCoins$Told" "visitCount" "I" := Or.inl wt_103
theorem hl_X12_7 : HLink RX12 7 "ThrownCoinsModel" "row" "[I" := Or.inl wt_813
theorem hl_X12_13 : HLink RX12 13 "ThrownCoinsModel" "isKept" "[Z" := Or.inl wt_814
theorem hl_X12_17 : HLink RX12 17 "ThrownCoinsModel" "text" "[I" := Or.inl wt_815
theorem hl_X12_20 : HLink RX12 20 "ThrownCoinsModel" "read" "[I" := Or.inl wt_817
theorem hl_X12_23 : HLink RX12 23 "ThrownCoinsModel" "kinds" "I" := Or.inl wt_819
theorem hl_X12_27 : HLink RX12 27 "ThrownCoinsModel" "worths" "[I" := Or.inl wt_820
theorem hl_X12_30 : HLink RX12 30 "ThrownCoinsModel" "told" "[I" := Or.inl wt_821
theorem hl_X12_33 : HLink RX12 33 "ThrownCoinsModel" "habits" "[I" := Or.inl wt_822
theorem hl_X12_36 : HLink RX12 36 "ThrownCoinsModel" "bounds" "[I" := Or.inl wt_823
theorem hl_X12_39 : HLink RX12 39 "ThrownCoinsModel" "visits" "[I" := Or.inl wt_825
theorem hl_X12_42 : HLink RX12 42 "ThrownCoinsModel" "takes" "[I" := Or.inl wt_832
theorem hl_X12_45 : HLink RX12 45 "ThrownCoinsModel" "tries" "[I" := Or.inl wt_835
theorem hl_X12_48 : HLink RX12 48 "ThrownCoinsModel" "ends" "[I" := Or.inl wt_836
theorem hl_X12_51 : HLink RX12 51 "ThrownCoinsModel" "path" "[I" := Or.inl wt_837
theorem hl_X12_54 : HLink RX12 54 "ThrownCoinsModel" "noteKinds" "[I" := Or.inl wt_838
theorem hl_X12_57 : HLink RX12 57 "ThrownCoinsModel" "noteWorths" "[I" := Or.inl wt_839
theorem hl_X12_66 : HLink RX12 66 "ThrownCoinsModel" "length" "I" := Or.inl wt_816
theorem hl_X12_71 : HLink RX12 71 "ThrownCoinsModel" "at" "I" := Or.inl wt_827
theorem hl_X12_74 : HLink RX12 74 "ThrownCoinsModel" "place" "I" := Or.inl wt_828
theorem hl_X12_81 : HLink RX12 81 "ThrownCoinsModel" "end" "I" := Or.inl wt_829
theorem hl_X12_118 : HLink RX12 118 "ThrownCoinsModel" "readMany" "I" := Or.inl wt_818
theorem hl_X12_128 : HLink RX12 128 "ThrownCoinsModel" "readVisits" "I" := Or.inl wt_831
theorem hl_X12_134 : HLink RX12 134 "ThrownCoinsModel" "readKinds" "I" := Or.inl wt_830
theorem hl_X12_147 : HLink RX12 147 "ThrownCoinsModel" "visitMany" "I" := Or.inl wt_826
theorem hl_X12_160 : HLink RX12 160 "ThrownCoinsModel" "law" "I" := Or.inl wt_824
theorem hl_X12_172 : HLink RX12 172 "ThrownCoinsModel" "noteMany" "I" := Or.inl wt_840
theorem hl_X12_228 : HLink RX12 228 "ThrownCoinsModel" "most" "I" := Or.inl wt_833
theorem hl_X12_231 : HLink RX12 231 "ThrownCoinsModel" "bestRow" "I" := Or.inl wt_834
theorem hl_X11_50 : HLink RX11 50 "ThrownCoins$Text" "length" "I" := Or.inr ⟨"ThrownCoins", by decide +kernel⟩
theorem hl_X11_64 : HLink RX11 64 "ThrownCoins$Text" "draft" "LThrownCoins$Told;" := Or.inr ⟨"ThrownCoins", by decide +kernel⟩
theorem hl_X11_70 : HLink RX11 70 "ThrownCoins$Told" "atFirst" "LThrownCoins$Lot;" := Or.inr ⟨"ThrownCoins", by decide +kernel⟩
theorem hl_X11_76 : HLink RX11 76 "ThrownCoins$Notes" "size" "I" := Or.inr ⟨"ThrownCoins", by decide +kernel⟩
theorem hl_X11_85 : HLink RX11 85 "ThrownCoins$Text" "lines" "I" := Or.inr ⟨"ThrownCoins", by decide +kernel⟩
theorem hl_X11_139 : HLink RX11 139 "ThrownCoins$Lot" "gone" "I" := Or.inr ⟨"ThrownCoins", by decide +kernel⟩
theorem hl_X11_146 : HLink RX11 146 "ThrownCoins$Told" "visitCount" "I" := Or.inr ⟨"ThrownCoins", by decide +kernel⟩
theorem hl_X11_190 : HLink RX11 190 "ThrownCoins$Told" "kinds" "I" := Or.inr ⟨"ThrownCoins", by decide +kernel⟩
theorem hl_X11_196 : HLink RX11 196 "ThrownCoins$Notes" "layings" "I" := Or.inr ⟨"ThrownCoins", by decide +kernel⟩
theorem hl_X11_199 : HLink RX11 199 "ThrownCoins$Notes" "first" "I" := Or.inr ⟨"ThrownCoins", by decide +kernel⟩
theorem hl_X11_208 : HLink RX11 208 "ThrownCoins$Told" "law" "I" := Or.inr ⟨"ThrownCoins", by decide +kernel⟩
theorem hl_X2_37 : HLink RX2 37 "ThrownCoins$Lot" "gone" "I" := Or.inr ⟨"ThrownCoins", by decide +kernel⟩
theorem hl_X2_40 : HLink RX2 40 "ThrownCoins$Told" "visitCount" "I" := Or.inr ⟨"ThrownCoins", by decide +kernel⟩
theorem hl_X2_83 : HLink RX2 83 "ThrownCoins$Told" "greedy" "LThrownCoins$Folk;" := Or.inr ⟨"ThrownCoins", by decide +kernel⟩
theorem hl_X2_93 : HLink RX2 93 "ThrownCoins$Told" "kinds" "I" := Or.inr ⟨"ThrownCoins", by decide +kernel⟩
theorem hl_X6_45 : HLink RX6 45 "ThrownCoins$Told" "kinds" "I" := Or.inr ⟨"ThrownCoins", by decide +kernel⟩
theorem hl_X7_127 : HLink RX7 127 "ThrownCoins$Told" "atFirst" "LThrownCoins$Lot;" := Or.inr ⟨"ThrownCoins", by decide +kernel⟩
theorem hl_X7_136 : HLink RX7 136 "ThrownCoins$Told" "kinds" "I" := Or.inr ⟨"ThrownCoins", by decide +kernel⟩
theorem hl_X7_153 : HLink RX7 153 "ThrownCoins$Told" "visitCount" "I" := Or.inr ⟨"ThrownCoins", by decide +kernel⟩
theorem hl_X7_159 : HLink RX7 159 "ThrownCoins$Told" "law" "I" := Or.inr ⟨"ThrownCoins", by decide +kernel⟩
theorem hl_X8_15 : HLink RX8 15 "ThrownCoins$Told" "kinds" "I" := Or.inr ⟨"ThrownCoins", by decide +kernel⟩
theorem hl_X9_80 : HLink RX9 80 "ThrownCoins$Lot" "gone" "I" := Or.inr ⟨"ThrownCoins", by decide +kernel⟩
theorem lk_X6_56 : HLV RX6 56 me_X6_fits 1 := ⟨wt_765, wt_767, tb_s 25 (by decide +kernel) rfl, wt_12, wt_768, by decide +kernel, by decide +kernel, by decide +kernel⟩
theorem lk_X6_60 : HLV RX6 60 me_X6_tally 1 := ⟨wt_778, wt_780, tb_s 27 (by decide +kernel) rfl, wt_12, wt_781, by decide +kernel, by decide +kernel, by decide +kernel⟩
theorem lk_X6_64 : HLV RX6 64 me_X4_empty 0 := ⟨wt_769, wt_379, wt_380, wt_9, wt_381, by decide +kernel, by decide +kernel, by decide +kernel⟩
theorem lk_X6_67 : HLV RX6 67 me_X6_figureOf 2 := ⟨wt_770, wt_772, tb_s 26 (by decide +kernel) rfl, wt_12, wt_773, by decide +kernel, by decide +kernel, by decide +kernel⟩
theorem lk_X6_70 : HLV RX6 70 me_X4_add 3 := ⟨wt_774, wt_400, wt_401, wt_9, wt_402, by decide +kernel, by decide +kernel, by decide +kernel⟩
theorem lk_X6_74 : HLV RX6 74 me_X9_gainOf 2 := ⟨wt_775, wt_558, wt_559, wt_2, wt_560, by decide +kernel, by decide +kernel, by decide +kernel⟩
theorem lk_X6_78 : HLV RX6 78 me_X9_worthOf 1 := ⟨wt_776, wt_466, wt_467, wt_2, wt_468, by decide +kernel, by decide +kernel, by decide +kernel⟩
theorem lk_X6_82 : HLV RX6 82 me_X9_throwCoin 3 := ⟨wt_777, wt_610, wt_611, wt_2, wt_612, by decide +kernel, by decide +kernel, by decide +kernel⟩
theorem lk_X8_9_X0 : HLU RX8 RX0 "ThrownCoins$Thrower" 9 ⟨"ThrownCoins$Thrower", "leastGain", "(LThrownCoins$Told;I)I"⟩ me_X8_leastGain 2 := ⟨wt_544, wt_546, wt_547, wt_545, wt_5, wt_555, ⟨by decide +kernel, by decide +kernel, by decide +kernel⟩, Or.inl rfl⟩
theorem lk_X8_9_X3 : HLU RX8 RX3 "ThrownCoins$Thrower" 9 ⟨"ThrownCoins$Thrower", "leastGain", "(LThrownCoins$Told;I)I"⟩ me_X8_leastGain 2 := ⟨wt_544, wt_546, wt_548, wt_545, wt_5, wt_555, ⟨by decide +kernel, by decide +kernel, by decide +kernel⟩, Or.inl rfl⟩
theorem lk_X8_9_X10 : HLU RX8 RX10 "ThrownCoins$Thrower" 9 ⟨"ThrownCoins$Thrower", "leastGain", "(LThrownCoins$Told;I)I"⟩ me_X10_leastGain 2 := ⟨wt_544, wt_546, wt_549, wt_550, wt_7, wt_551, ⟨by decide +kernel, by decide +kernel, by decide +kernel⟩, Or.inr (Or.inl ⟨_, _, _, wt_555, wt_545⟩)⟩
theorem lk_X8_21 : HLV RX8 21 me_X4_of 2 := ⟨wt_556, wt_396, wt_397, wt_9, wt_398, by decide +kernel, by decide +kernel, by decide +kernel⟩
theorem lk_X8_27 : HLV RX8 27 me_X9_gainOf 2 := ⟨wt_557, wt_558, wt_559, wt_2, wt_560, by decide +kernel, by decide +kernel, by decide +kernel⟩
theorem lk_X8_31_X0 : HLU RX8 RX0 "ThrownCoins$Thrower" 31 ⟨"ThrownCoins$Thrower", "comparesAll", "()Z"⟩ me_X0_comparesAll 0 := ⟨wt_575, wt_577, wt_578, wt_579, wt_8, wt_580, ⟨by decide +kernel, by decide +kernel, by decide +kernel⟩, Or.inr (Or.inr (by decide +kernel))⟩
theorem lk_X8_31_X3 : HLU RX8 RX3 "ThrownCoins$Thrower" 31 ⟨"ThrownCoins$Thrower", "comparesAll", "()Z"⟩ me_X3_comparesAll 0 := ⟨wt_575, wt_577, wt_581, wt_582, wt_6, wt_583, ⟨by decide +kernel, by decide +kernel, by decide +kernel⟩, Or.inr (Or.inr (by decide +kernel))⟩
theorem lk_X8_31_X10 : HLU RX8 RX10 "ThrownCoins$Thrower" 31 ⟨"ThrownCoins$Thrower", "comparesAll", "()Z"⟩ me_X3_comparesAll 0 := ⟨wt_575, wt_577, wt_584, wt_582, wt_6, wt_583, ⟨by decide +kernel, by decide +kernel, by decide +kernel⟩, Or.inr (Or.inr (by decide +kernel))⟩
theorem lk_X9_69 : HLV RX9 69 me_X4_copyFrom 1 := ⟨wt_298, wt_299, wt_300, wt_9, wt_301, by decide +kernel, by decide +kernel, by decide +kernel⟩
theorem lk_X9_76 : HLN RX9 76 me_X11_isPerson 1 := ⟨⟨"ThrownCoins", by decide +kernel⟩, wt_414, wt_1, wt_415, by decide +kernel, by decide +kernel, by decide +kernel⟩
theorem lk_X9_83 : HLV RX9 83 me_X9_visitor 1 := ⟨wt_522, wt_523, wt_524, wt_2, wt_525, by decide +kernel, by decide +kernel, by decide +kernel⟩
theorem lk_X9_87 : HLV RX9 87 me_X9_worthOf 1 := ⟨wt_483, wt_466, wt_467, wt_2, wt_468, by decide +kernel, by decide +kernel, by decide +kernel⟩
theorem lk_X9_90 : HLV RX9 90 me_X4_of 2 := ⟨wt_484, wt_396, wt_397, wt_9, wt_398, by decide +kernel, by decide +kernel, by decide +kernel⟩
theorem lk_X9_94 : HLV RX9 94 me_X9_greatestTaken 1 := ⟨wt_561, wt_563, tb_s 13 (by decide +kernel) rfl, wt_2, wt_564, by decide +kernel, by decide +kernel, by decide +kernel⟩
theorem lk_X9_97 : HLV RX9 97 me_X9_mostTakenOfKind 0 := ⟨wt_565, wt_567, tb_s 14 (by decide +kernel) rfl, wt_2, wt_568, by decide +kernel, by decide +kernel, by decide +kernel⟩
theorem lk_X9_106 : HLV RX9 106 me_X9_takesOneKind 0 := ⟨wt_571, wt_573, tb_s 15 (by decide +kernel) rfl, wt_2, wt_574, by decide +kernel, by decide +kernel, by decide +kernel⟩
theorem lk_X9_110 : HLV RX9 110 me_X4_add 3 := ⟨wt_613, wt_400, wt_401, wt_9, wt_402, by decide +kernel, by decide +kernel, by decide +kernel⟩
theorem lk_X9_115 : HLV RX9 115 me_X9_folkOf 1 := ⟨wt_622, wt_486, wt_487, wt_2, wt_488, by decide +kernel, by decide +kernel, by decide +kernel⟩
theorem lk_X9_119_X0 : HLU RX9 RX0 "ThrownCoins$Folk" 119 ⟨"ThrownCoins$Folk", "wouldThrow", "(LThrownCoins$Told;LThrownCoins$Lot;I)I"⟩ me_X8_wouldThrow 3 := ⟨wt_623, wt_540, wt_541, wt_542, wt_5, wt_543, ⟨by decide +kernel, by decide +kernel, by decide +kernel⟩, Or.inr (Or.inr (by decide +kernel))⟩
theorem lk_X9_119_X3 : HLU RX9 RX3 "ThrownCoins$Folk" 119 ⟨"ThrownCoins$Folk", "wouldThrow", "(LThrownCoins$Told;LThrownCoins$Lot;I)I"⟩ me_X8_wouldThrow 3 := ⟨wt_623, wt_540, wt_585, wt_542, wt_5, wt_543, ⟨by decide +kernel, by decide +kernel, by decide +kernel⟩, Or.inr (Or.inr (by decide +kernel))⟩
theorem lk_X9_119_X5 : HLU RX9 RX5 "ThrownCoins$Folk" 119 ⟨"ThrownCoins$Folk", "wouldThrow", "(LThrownCoins$Told;LThrownCoins$Lot;I)I"⟩ me_X5_wouldThrow 3 := ⟨wt_623, wt_540, wt_586, wt_587, wt_4, wt_588, ⟨by decide +kernel, by decide +kernel, by decide +kernel⟩, Or.inr (Or.inr (by decide +kernel))⟩
theorem lk_X9_119_X10 : HLU RX9 RX10 "ThrownCoins$Folk" 119 ⟨"ThrownCoins$Folk", "wouldThrow", "(LThrownCoins$Told;LThrownCoins$Lot;I)I"⟩ me_X8_wouldThrow 3 := ⟨wt_623, wt_540, wt_589, wt_542, wt_5, wt_543, ⟨by decide +kernel, by decide +kernel, by decide +kernel⟩, Or.inr (Or.inr (by decide +kernel))⟩
theorem lk_X9_125 : HLV RX9 125 me_X9_throwCoin 3 := ⟨wt_609, wt_610, wt_611, wt_2, wt_612, by decide +kernel, by decide +kernel, by decide +kernel⟩
theorem lk_X10_9 : HLV RX10 9 me_X9_boundOf 1 := ⟨wt_513, wt_514, wt_515, wt_2, wt_516, by decide +kernel, by decide +kernel, by decide +kernel⟩
theorem lk_X2_45 : HLV RX2 45 me_X9_visitor 1 := ⟨wt_635, wt_523, wt_524, wt_2, wt_525, by decide +kernel, by decide +kernel, by decide +kernel⟩
theorem lk_X2_49 : HLV RX2 49 me_X2_isFree 1 := ⟨wt_636, wt_638, tb_s 16 (by decide +kernel) rfl, wt_11, wt_639, by decide +kernel, by decide +kernel, by decide +kernel⟩
theorem lk_X2_53 : HLV RX2 53 me_X4_copyFrom 1 := ⟨wt_645, wt_299, wt_300, wt_9, wt_301, by decide +kernel, by decide +kernel, by decide +kernel⟩
theorem lk_X2_57 : HLS RX2 57 me_X2_playOn 2 := ⟨wt_646, wt_647, wt_11, wt_648, by decide +kernel, by decide +kernel, by decide +kernel⟩
theorem lk_X2_61 : HLN RX2 61 me_X11_isPerson 1 := ⟨⟨"ThrownCoins", by decide +kernel⟩, wt_414, wt_1, wt_415, by decide +kernel, by decide +kernel, by decide +kernel⟩
theorem lk_X2_64 : HLV RX2 64 me_X2_goalOf 1 := ⟨wt_640, wt_642, tb_s 17 (by decide +kernel) rfl, wt_11, wt_643, by decide +kernel, by decide +kernel, by decide +kernel⟩
theorem lk_X2_67 : HLV RX2 67 me_X9_habitual 1 := ⟨wt_649, wt_619, wt_620, wt_2, wt_621, by decide +kernel, by decide +kernel, by decide +kernel⟩
theorem lk_X2_71 : HLV RX2 71 me_X9_letVisit 2 := ⟨wt_650, wt_606, wt_607, wt_2, wt_608, by decide +kernel, by decide +kernel, by decide +kernel⟩
theorem lk_X2_75 : HLV RX2 75 me_X2_settle 1 := ⟨wt_651, wt_653, tb_s 18 (by decide +kernel) rfl, wt_11, wt_654, by decide +kernel, by decide +kernel, by decide +kernel⟩
theorem lk_X2_79 : HLV RX2 79 me_X2_comesAgain 2 := ⟨wt_656, wt_658, tb_s 19 (by decide +kernel) rfl, wt_11, wt_659, by decide +kernel, by decide +kernel, by decide +kernel⟩
theorem lk_X2_87_X0 : HLU RX2 RX0 "ThrownCoins$Folk" 87 ⟨"ThrownCoins$Folk", "wouldThrow", "(LThrownCoins$Told;LThrownCoins$Lot;I)I"⟩ me_X8_wouldThrow 3 := ⟨wt_660, wt_540, wt_541, wt_542, wt_5, wt_543, ⟨by decide +kernel, by decide +kernel, by decide +kernel⟩, Or.inr (Or.inr (by decide +kernel))⟩
theorem lk_X2_87_X3 : HLU RX2 RX3 "ThrownCoins$Folk" 87 ⟨"ThrownCoins$Folk", "wouldThrow", "(LThrownCoins$Told;LThrownCoins$Lot;I)I"⟩ me_X8_wouldThrow 3 := ⟨wt_660, wt_540, wt_585, wt_542, wt_5, wt_543, ⟨by decide +kernel, by decide +kernel, by decide +kernel⟩, Or.inr (Or.inr (by decide +kernel))⟩
theorem lk_X2_87_X5 : HLU RX2 RX5 "ThrownCoins$Folk" 87 ⟨"ThrownCoins$Folk", "wouldThrow", "(LThrownCoins$Told;LThrownCoins$Lot;I)I"⟩ me_X5_wouldThrow 3 := ⟨wt_660, wt_540, wt_586, wt_587, wt_4, wt_588, ⟨by decide +kernel, by decide +kernel, by decide +kernel⟩, Or.inr (Or.inr (by decide +kernel))⟩
theorem lk_X2_87_X10 : HLU RX2 RX10 "ThrownCoins$Folk" 87 ⟨"ThrownCoins$Folk", "wouldThrow", "(LThrownCoins$Told;LThrownCoins$Lot;I)I"⟩ me_X8_wouldThrow 3 := ⟨wt_660, wt_540, wt_589, wt_542, wt_5, wt_543, ⟨by decide +kernel, by decide +kernel, by decide +kernel⟩, Or.inr (Or.inr (by decide +kernel))⟩
theorem lk_X2_96 : HLV RX2 96 me_X4_of 2 := ⟨wt_661, wt_396, wt_397, wt_9, wt_398, by decide +kernel, by decide +kernel, by decide +kernel⟩
theorem lk_X2_100 : HLV RX2 100 me_X2_reached 2 := ⟨wt_662, wt_664, tb_s 20 (by decide +kernel) rfl, wt_11, wt_665, by decide +kernel, by decide +kernel, by decide +kernel⟩
theorem lk_X2_103 : HLV RX2 103 me_X2_takeOver 2 := ⟨wt_666, wt_668, tb_s 21 (by decide +kernel) rfl, wt_11, wt_669, by decide +kernel, by decide +kernel, by decide +kernel⟩
theorem lk_X2_107 : HLV RX2 107 me_X9_wealth 2 := ⟨wt_655, wt_480, wt_481, wt_2, wt_482, by decide +kernel, by decide +kernel, by decide +kernel⟩
theorem lk_X2_123 : HLV RX2 123 me_X9_visitsLeft 2 := ⟨wt_707, wt_519, wt_520, wt_2, wt_521, by decide +kernel, by decide +kernel, by decide +kernel⟩
theorem lk_X2_126 : HLS RX2 126 me_X2_weigh 2 := ⟨wt_708, wt_709, wt_11, wt_710, by decide +kernel, by decide +kernel, by decide +kernel⟩
theorem lk_X2_136 : HLS RX2 136 me_X2_weighNext 3 := ⟨wt_711, wt_712, wt_11, wt_713, by decide +kernel, by decide +kernel, by decide +kernel⟩
theorem lk_X2_140 : HLV RX2 140 me_X9_worthOf 1 := ⟨wt_733, wt_466, wt_467, wt_2, wt_468, by decide +kernel, by decide +kernel, by decide +kernel⟩
theorem lk_X2_143 : HLV RX2 143 me_X2_tempts 4 := ⟨wt_734, wt_736, tb_s 23 (by decide +kernel) rfl, wt_11, wt_737, by decide +kernel, by decide +kernel, by decide +kernel⟩
theorem lk_X2_147 : HLV RX2 147 me_X2_putIn 4 := ⟨wt_738, wt_740, tb_s 24 (by decide +kernel) rfl, wt_11, wt_741, by decide +kernel, by decide +kernel, by decide +kernel⟩
theorem lk_X2_151 : HLV RX2 151 me_X9_folkOf 1 := ⟨wt_743, wt_486, wt_487, wt_2, wt_488, by decide +kernel, by decide +kernel, by decide +kernel⟩
theorem lk_X2_155 : HLV RX2 155 me_X4_add 3 := ⟨wt_742, wt_400, wt_401, wt_9, wt_402, by decide +kernel, by decide +kernel, by decide +kernel⟩
theorem lk_X7_26 : HLV RX7 26 me_X9_copyFrom 1 := ⟨wt_291, wt_292, wt_293, wt_2, wt_294, by decide +kernel, by decide +kernel, by decide +kernel⟩
theorem lk_X7_33 : HLV RX7 33 me_X7_nextToken 0 := ⟨wt_303, wt_305, tb_s 0 (by decide +kernel) rfl, wt_10, wt_306, by decide +kernel, by decide +kernel, by decide +kernel⟩
theorem lk_X7_39 : HLV RX7 39 me_X7_readLine 0 := ⟨wt_317, wt_319, tb_s 2 (by decide +kernel) rfl, wt_10, wt_320, by decide +kernel, by decide +kernel, by decide +kernel⟩
theorem lk_X7_49 : HLV RX7 49 me_X7_isSemicolon 0 := ⟨wt_442, wt_444, tb_s 12 (by decide +kernel) rfl, wt_10, wt_445, by decide +kernel, by decide +kernel, by decide +kernel⟩
theorem lk_X7_52 : HLV RX7 52 me_X7_byteAt 1 := ⟨wt_307, wt_309, tb_s 1 (by decide +kernel) rfl, wt_10, wt_310, by decide +kernel, by decide +kernel, by decide +kernel⟩
theorem lk_X7_56 : HLS RX7 56 me_X7_tokenOf 1 := ⟨wt_311, wt_312, wt_10, wt_313, by decide +kernel, by decide +kernel, by decide +kernel⟩
theorem lk_X7_67 : HLV RX7 67 me_X7_readWord 1 := ⟨wt_322, wt_324, tb_s 3 (by decide +kernel) rfl, wt_10, wt_325, by decide +kernel, by decide +kernel, by decide +kernel⟩
theorem lk_X7_71 : HLV RX7 71 me_X7_readCoins 0 := ⟨wt_374, wt_376, tb_s 4 (by decide +kernel) rfl, wt_10, wt_377, by decide +kernel, by decide +kernel, by decide +kernel⟩
theorem lk_X7_76 : HLV RX7 76 me_X7_readAmount 1 := ⟨wt_391, wt_393, tb_s 6 (by decide +kernel) rfl, wt_10, wt_394, by decide +kernel, by decide +kernel, by decide +kernel⟩
theorem lk_X7_82 : HLV RX7 82 me_X7_readNumber 2 := ⟨wt_382, wt_384, tb_s 5 (by decide +kernel) rfl, wt_10, wt_385, by decide +kernel, by decide +kernel, by decide +kernel⟩
theorem lk_X7_91 : HLV RX7 91 me_X7_readHabit 1 := ⟨wt_405, wt_407, tb_s 7 (by decide +kernel) rfl, wt_10, wt_408, by decide +kernel, by decide +kernel, by decide +kernel⟩
theorem lk_X7_98 : HLV RX7 98 me_X7_readWaiting 0 := ⟨wt_418, wt_420, tb_s 8 (by decide +kernel) rfl, wt_10, wt_421, by decide +kernel, by decide +kernel, by decide +kernel⟩
theorem lk_X7_105 : HLV RX7 105 me_X7_readVisits 0 := ⟨wt_424, wt_426, tb_s 9 (by decide +kernel) rfl, wt_10, wt_427, by decide +kernel, by decide +kernel, by decide +kernel⟩
theorem lk_X7_110 : HLV RX7 110 me_X7_readLaw 0 := ⟨wt_433, wt_435, tb_s 10 (by decide +kernel) rfl, wt_10, wt_436, by decide +kernel, by decide +kernel, by decide +kernel⟩
theorem lk_X7_115 : HLV RX7 115 me_X7_leaveAlone 0 := ⟨wt_438, wt_440, tb_s 11 (by decide +kernel) rfl, wt_10, wt_441, by decide +kernel, by decide +kernel, by decide +kernel⟩
theorem lk_X7_131 : HLV RX7 131 me_X4_empty 0 := ⟨wt_378, wt_379, wt_380, wt_9, wt_381, by decide +kernel, by decide +kernel, by decide +kernel⟩
theorem lk_X7_139 : HLV RX7 139 me_X9_addKind 1 := ⟨wt_386, wt_387, wt_388, wt_2, wt_389, by decide +kernel, by decide +kernel, by decide +kernel⟩
theorem lk_X7_143 : HLV RX7 143 me_X4_of 2 := ⟨wt_395, wt_396, wt_397, wt_9, wt_398, by decide +kernel, by decide +kernel, by decide +kernel⟩
theorem lk_X7_146 : HLV RX7 146 me_X4_add 3 := ⟨wt_399, wt_400, wt_401, wt_9, wt_402, by decide +kernel, by decide +kernel, by decide +kernel⟩
theorem lk_X7_150 : HLV RX7 150 me_X9_setHabit 3 := ⟨wt_409, wt_410, wt_411, wt_2, wt_412, by decide +kernel, by decide +kernel, by decide +kernel⟩
theorem lk_X7_156 : HLV RX7 156 me_X9_addVisit 1 := ⟨wt_428, wt_429, wt_430, wt_2, wt_431, by decide +kernel, by decide +kernel, by decide +kernel⟩
theorem lk_X11_56 : HLV RX11 56 me_X7_append 1 := ⟨wt_275, wt_276, wt_277, wt_10, wt_278, by decide +kernel, by decide +kernel, by decide +kernel⟩
theorem lk_X11_60 : HLV RX11 60 me_X7_readOver 1 := ⟨wt_287, wt_288, wt_289, wt_10, wt_290, by decide +kernel, by decide +kernel, by decide +kernel⟩
theorem lk_X11_67 : HLV RX11 67 me_X9_copyFrom 1 := ⟨wt_451, wt_292, wt_293, wt_2, wt_294, by decide +kernel, by decide +kernel, by decide +kernel⟩
theorem lk_X11_73 : HLV RX11 73 me_X4_copyFrom 1 := ⟨wt_452, wt_299, wt_300, wt_9, wt_301, by decide +kernel, by decide +kernel, by decide +kernel⟩
theorem lk_X11_82 : HLV RX11 82 me_X2_becomeStale 0 := ⟨wt_453, wt_454, wt_455, wt_11, wt_456, by decide +kernel, by decide +kernel, by decide +kernel⟩
theorem lk_X11_88 : HLV RX11 88 me_X9_hasKind 1 := ⟨wt_461, wt_462, wt_463, wt_2, wt_464, by decide +kernel, by decide +kernel, by decide +kernel⟩
theorem lk_X11_92 : HLV RX11 92 me_X9_worthOf 1 := ⟨wt_465, wt_466, wt_467, wt_2, wt_468, by decide +kernel, by decide +kernel, by decide +kernel⟩
theorem lk_X11_96 : HLV RX11 96 me_X4_of 2 := ⟨wt_469, wt_396, wt_397, wt_9, wt_398, by decide +kernel, by decide +kernel, by decide +kernel⟩
theorem lk_X11_100 : HLS RX11 100 me_X11_isPerson 1 := ⟨wt_474, wt_414, wt_1, wt_415, by decide +kernel, by decide +kernel, by decide +kernel⟩
theorem lk_X11_103 : HLV RX11 103 me_X9_wealth 2 := ⟨wt_479, wt_480, wt_481, wt_2, wt_482, by decide +kernel, by decide +kernel, by decide +kernel⟩
theorem lk_X11_107 : HLV RX11 107 me_X9_folkOf 1 := ⟨wt_485, wt_486, wt_487, wt_2, wt_488, by decide +kernel, by decide +kernel, by decide +kernel⟩
theorem lk_X11_111_X0 : HLU RX11 RX0 "ThrownCoins$Folk" 111 ⟨"ThrownCoins$Folk", "habit", "()I"⟩ me_X0_habit 0 := ⟨wt_489, wt_491, wt_492, wt_493, wt_8, wt_494, ⟨by decide +kernel, by decide +kernel, by decide +kernel⟩, Or.inr (Or.inr (by decide +kernel))⟩
theorem lk_X11_111_X3 : HLU RX11 RX3 "ThrownCoins$Folk" 111 ⟨"ThrownCoins$Folk", "habit", "()I"⟩ me_X3_habit 0 := ⟨wt_489, wt_491, wt_495, wt_496, wt_6, wt_497, ⟨by decide +kernel, by decide +kernel, by decide +kernel⟩, Or.inr (Or.inr (by decide +kernel))⟩
theorem lk_X11_111_X5 : HLU RX11 RX5 "ThrownCoins$Folk" 111 ⟨"ThrownCoins$Folk", "habit", "()I"⟩ me_X5_habit 0 := ⟨wt_489, wt_491, wt_498, wt_499, wt_4, wt_500, ⟨by decide +kernel, by decide +kernel, by decide +kernel⟩, Or.inr (Or.inr (by decide +kernel))⟩
theorem lk_X11_111_X10 : HLU RX11 RX10 "ThrownCoins$Folk" 111 ⟨"ThrownCoins$Folk", "habit", "()I"⟩ me_X10_habit 0 := ⟨wt_489, wt_491, wt_501, wt_502, wt_7, wt_503, ⟨by decide +kernel, by decide +kernel, by decide +kernel⟩, Or.inr (Or.inr (by decide +kernel))⟩
theorem lk_X11_117_X0 : HLU RX11 RX0 "ThrownCoins$Folk" 117 ⟨"ThrownCoins$Folk", "waitsFor", "(LThrownCoins$Told;I)I"⟩ me_X1_waitsFor 2 := ⟨wt_504, wt_506, wt_507, wt_505, wt_3, wt_517, ⟨by decide +kernel, by decide +kernel, by decide +kernel⟩, Or.inl rfl⟩
theorem lk_X11_117_X3 : HLU RX11 RX3 "ThrownCoins$Folk" 117 ⟨"ThrownCoins$Folk", "waitsFor", "(LThrownCoins$Told;I)I"⟩ me_X1_waitsFor 2 := ⟨wt_504, wt_506, wt_508, wt_505, wt_3, wt_517, ⟨by decide +kernel, by decide +kernel, by decide +kernel⟩, Or.inl rfl⟩
theorem lk_X11_117_X5 : HLU RX11 RX5 "ThrownCoins$Folk" 117 ⟨"ThrownCoins$Folk", "waitsFor", "(LThrownCoins$Told;I)I"⟩ me_X1_waitsFor 2 := ⟨wt_504, wt_506, wt_509, wt_505, wt_3, wt_517, ⟨by decide +kernel, by decide +kernel, by decide +kernel⟩, Or.inl rfl⟩
theorem lk_X11_117_X10 : HLU RX11 RX10 "ThrownCoins$Folk" 117 ⟨"ThrownCoins$Folk", "waitsFor", "(LThrownCoins$Told;I)I"⟩ me_X10_waitsFor 2 := ⟨wt_504, wt_506, wt_510, wt_511, wt_7, wt_512, ⟨by decide +kernel, by decide +kernel, by decide +kernel⟩, Or.inr (Or.inl ⟨_, _, _, wt_517, wt_505⟩)⟩
theorem lk_X11_121 : HLV RX11 121 me_X9_visitsLeft 2 := ⟨wt_518, wt_519, wt_520, wt_2, wt_521, by decide +kernel, by decide +kernel, by decide +kernel⟩
theorem lk_X11_124 : HLS RX11 124 me_X11_isA 2 := ⟨wt_530, wt_531, wt_1, wt_532, by decide +kernel, by decide +kernel, by decide +kernel⟩
theorem lk_X11_128_X0 : HLU RX11 RX0 "ThrownCoins$Folk" 128 ⟨"ThrownCoins$Folk", "wouldThrow", "(LThrownCoins$Told;LThrownCoins$Lot;I)I"⟩ me_X8_wouldThrow 3 := ⟨wt_538, wt_540, wt_541, wt_542, wt_5, wt_543, ⟨by decide +kernel, by decide +kernel, by decide +kernel⟩, Or.inr (Or.inr (by decide +kernel))⟩
theorem lk_X11_128_X3 : HLU RX11 RX3 "ThrownCoins$Folk" 128 ⟨"ThrownCoins$Folk", "wouldThrow", "(LThrownCoins$Told;LThrownCoins$Lot;I)I"⟩ me_X8_wouldThrow 3 := ⟨wt_538, wt_540, wt_585, wt_542, wt_5, wt_543, ⟨by decide +kernel, by decide +kernel, by decide +kernel⟩, Or.inr (Or.inr (by decide +kernel))⟩
theorem lk_X11_128_X5 : HLU RX11 RX5 "ThrownCoins$Folk" 128 ⟨"ThrownCoins$Folk", "wouldThrow", "(LThrownCoins$Told;LThrownCoins$Lot;I)I"⟩ me_X5_wouldThrow 3 := ⟨wt_538, wt_540, wt_586, wt_587, wt_4, wt_588, ⟨by decide +kernel, by decide +kernel, by decide +kernel⟩, Or.inr (Or.inr (by decide +kernel))⟩
theorem lk_X11_128_X10 : HLU RX11 RX10 "ThrownCoins$Folk" 128 ⟨"ThrownCoins$Folk", "wouldThrow", "(LThrownCoins$Told;LThrownCoins$Lot;I)I"⟩ me_X8_wouldThrow 3 := ⟨wt_538, wt_540, wt_589, wt_542, wt_5, wt_543, ⟨by decide +kernel, by decide +kernel, by decide +kernel⟩, Or.inr (Or.inr (by decide +kernel))⟩
theorem lk_X11_132 : HLV RX11 132 me_X9_visitor 1 := ⟨wt_594, wt_523, wt_524, wt_2, wt_525, by decide +kernel, by decide +kernel, by decide +kernel⟩
theorem lk_X11_135 : HLV RX11 135 me_X9_gainOf 2 := ⟨wt_599, wt_558, wt_559, wt_2, wt_560, by decide +kernel, by decide +kernel, by decide +kernel⟩
theorem lk_X11_142 : HLV RX11 142 me_X9_letVisit 2 := ⟨wt_605, wt_606, wt_607, wt_2, wt_608, by decide +kernel, by decide +kernel, by decide +kernel⟩
theorem lk_X11_149 : HLV RX11 149 me_X9_habitual 1 := ⟨wt_618, wt_619, wt_620, wt_2, wt_621, by decide +kernel, by decide +kernel, by decide +kernel⟩
theorem lk_X11_153 : HLS RX11 153 me_X11_goalFor 2 := ⟨wt_628, wt_629, wt_1, wt_630, by decide +kernel, by decide +kernel, by decide +kernel⟩
theorem lk_X11_156 : HLV RX11 156 me_X2_foresee 2 := ⟨wt_631, wt_632, wt_633, wt_11, wt_634, by decide +kernel, by decide +kernel, by decide +kernel⟩
theorem lk_X11_159 : HLV RX11 159 me_X2_endOf 1 := ⟨wt_671, wt_672, wt_673, wt_11, wt_674, by decide +kernel, by decide +kernel, by decide +kernel⟩
theorem lk_X11_162 : HLV RX11 162 me_X2_step 1 := ⟨wt_675, wt_676, wt_677, wt_11, wt_678, by decide +kernel, by decide +kernel, by decide +kernel⟩
theorem lk_X11_165 : HLV RX11 165 me_X11_tooLongForGame 0 := ⟨wt_683, wt_685, tb_s 22 (by decide +kernel) rfl, wt_1, wt_686, by decide +kernel, by decide +kernel, by decide +kernel⟩
theorem lk_X11_176 : HLV RX11 176 me_X2_expected 4 := ⟨wt_703, wt_704, wt_705, wt_11, wt_706, by decide +kernel, by decide +kernel, by decide +kernel⟩
theorem lk_X11_180 : HLV RX11 180 me_X2_tillDry 1 := ⟨wt_721, wt_722, wt_723, wt_11, wt_724, by decide +kernel, by decide +kernel, by decide +kernel⟩
theorem lk_X11_183 : HLV RX11 183 me_X2_leastBait 2 := ⟨wt_729, wt_730, wt_731, wt_11, wt_732, by decide +kernel, by decide +kernel, by decide +kernel⟩
theorem lk_X11_186 : HLV RX11 186 me_X6_add 2 := ⟨wt_748, wt_749, wt_750, wt_12, wt_751, by decide +kernel, by decide +kernel, by decide +kernel⟩
theorem lk_X11_193 : HLV RX11 193 me_X6_searchLayings 0 := ⟨wt_760, wt_761, wt_762, wt_12, wt_763, by decide +kernel, by decide +kernel, by decide +kernel⟩
theorem lk_X11_202 : HLV RX11 202 me_X6_leastOf 1 := ⟨wt_783, wt_784, wt_785, wt_12, wt_786, by decide +kernel, by decide +kernel, by decide +kernel⟩
theorem lk_X11_205 : HLV RX11 205 me_X6_mostOf 1 := ⟨wt_787, wt_788, wt_789, wt_12, wt_790, by decide +kernel, by decide +kernel, by decide +kernel⟩
theorem lk_X11_211 : HLV RX11 211 me_X11_wealthOfAll 0 := ⟨wt_803, wt_805, tb_s 28 (by decide +kernel) rfl, wt_1, wt_806, by decide +kernel, by decide +kernel, by decide +kernel⟩
theorem lk_X12_62 : HLS RX12 62 me_X12_in 3 := ⟨wt_904, wt_905, wt_13, wt_906, by decide +kernel, by decide +kernel, by decide +kernel⟩
theorem lk_X12_77 : HLS RX12 77 me_X12_sort 1 := ⟨wt_920, wt_921, wt_13, wt_922, by decide +kernel, by decide +kernel, by decide +kernel⟩
theorem lk_X12_88 : HLV RX12 88 me_X12_isWord 2 := ⟨wt_936, wt_938, tb_s 33 (by decide +kernel) rfl, wt_13, wt_939, by decide +kernel, by decide +kernel, by decide +kernel⟩
theorem lk_X12_98 : HLV RX12 98 me_X12_habitWord 0 := ⟨wt_931, wt_933, tb_s 32 (by decide +kernel) rfl, wt_13, wt_934, by decide +kernel, by decide +kernel, by decide +kernel⟩
theorem lk_X12_114 : HLV RX12 114 me_X12_isNumber 0 := ⟨wt_958, wt_960, tb_s 36 (by decide +kernel) rfl, wt_13, wt_961, by decide +kernel, by decide +kernel, by decide +kernel⟩
theorem lk_X12_121 : HLV RX12 121 me_X12_token 0 := ⟨wt_916, wt_918, tb_s 29 (by decide +kernel) rfl, wt_13, wt_919, by decide +kernel, by decide +kernel, by decide +kernel⟩
theorem lk_X12_124 : HLV RX12 124 me_X12_reads 2 := ⟨wt_962, wt_964, tb_s 37 (by decide +kernel) rfl, wt_13, wt_965, by decide +kernel, by decide +kernel, by decide +kernel⟩
theorem lk_X12_131 : HLV RX12 131 me_X12_readsCoins 0 := ⟨wt_954, wt_956, tb_s 35 (by decide +kernel) rfl, wt_13, wt_957, by decide +kernel, by decide +kernel, by decide +kernel⟩
theorem lk_X12_137 : HLV RX12 137 me_X12_readsCome 0 := ⟨wt_966, wt_968, tb_s 38 (by decide +kernel) rfl, wt_13, wt_969, by decide +kernel, by decide +kernel, by decide +kernel⟩
theorem lk_X12_140 : HLV RX12 140 me_X12_wordOf 0 := ⟨wt_927, wt_929, tb_s 31 (by decide +kernel) rfl, wt_13, wt_930, by decide +kernel, by decide +kernel, by decide +kernel⟩
theorem lk_X12_143 : HLV RX12 143 me_X12_readsRest 1 := ⟨wt_950, wt_952, tb_s 34 (by decide +kernel) rfl, wt_13, wt_953, by decide +kernel, by decide +kernel, by decide +kernel⟩
theorem lk_X12_150 : HLV RX12 150 me_X12_readsLine 0 := ⟨wt_923, wt_925, tb_s 30 (by decide +kernel) rfl, wt_13, wt_926, by decide +kernel, by decide +kernel, by decide +kernel⟩
theorem lk_X12_153 : HLV RX12 153 me_X12_tellCoins 1 := ⟨wt_979, wt_981, tb_s 40 (by decide +kernel) rfl, wt_13, wt_982, by decide +kernel, by decide +kernel, by decide +kernel⟩
theorem lk_X12_157 : HLV RX12 157 me_X12_tellCome 1 := ⟨wt_983, wt_985, tb_s 41 (by decide +kernel) rfl, wt_13, wt_986, by decide +kernel, by decide +kernel, by decide +kernel⟩
theorem lk_X12_163 : HLV RX12 163 me_X12_fault 0 := ⟨wt_974, wt_913, wt_914, wt_13, wt_915, by decide +kernel, by decide +kernel, by decide +kernel⟩
theorem lk_X12_166 : HLV RX12 166 me_X12_tell 1 := ⟨wt_975, wt_977, tb_s 39 (by decide +kernel) rfl, wt_13, wt_978, by decide +kernel, by decide +kernel, by decide +kernel⟩
theorem lk_X12_169 : HLV RX12 169 me_X12_begin 0 := ⟨wt_987, wt_989, tb_s 42 (by decide +kernel) rfl, wt_13, wt_990, by decide +kernel, by decide +kernel, by decide +kernel⟩
theorem lk_X12_177 : HLV RX12 177 me_X12_isKind 1 := ⟨wt_995, wt_997, tb_s 43 (by decide +kernel) rfl, wt_13, wt_998, by decide +kernel, by decide +kernel, by decide +kernel⟩
theorem lk_X12_180 : HLS RX12 180 me_X12_isPerson 1 := ⟨wt_1003, wt_1004, wt_13, wt_1005, by decide +kernel, by decide +kernel, by decide +kernel⟩
theorem lk_X12_183 : HLS RX12 183 me_X12_has 2 := ⟨wt_1019, wt_1020, wt_13, wt_1021, by decide +kernel, by decide +kernel, by decide +kernel⟩
theorem lk_X12_186 : HLV RX12 186 me_X12_worthOf 2 := ⟨wt_1011, wt_1013, tb_s 44 (by decide +kernel) rfl, wt_13, wt_1014, by decide +kernel, by decide +kernel, by decide +kernel⟩
theorem lk_X12_190 : HLV RX12 190 me_X12_leftOf 1 := ⟨wt_1015, wt_1017, tb_s 45 (by decide +kernel) rfl, wt_13, wt_1018, by decide +kernel, by decide +kernel, by decide +kernel⟩
theorem lk_X12_193 : HLV RX12 193 me_X12_layTakes 2 := ⟨wt_1039, wt_1041, tb_s 49 (by decide +kernel) rfl, wt_13, wt_1042, by decide +kernel, by decide +kernel, by decide +kernel⟩
theorem lk_X12_196 : HLV RX12 196 me_X12_isHad 3 := ⟨wt_1031, wt_1033, tb_s 47 (by decide +kernel) rfl, wt_13, wt_1034, by decide +kernel, by decide +kernel, by decide +kernel⟩
theorem lk_X12_200 : HLV RX12 200 me_X12_gainOf 2 := ⟨wt_1035, wt_1037, tb_s 48 (by decide +kernel) rfl, wt_13, wt_1038, by decide +kernel, by decide +kernel, by decide +kernel⟩
theorem lk_X12_203 : HLV RX12 203 me_X12_byHabit 2 := ⟨wt_1027, wt_1029, tb_s 46 (by decide +kernel) rfl, wt_13, wt_1030, by decide +kernel, by decide +kernel, by decide +kernel⟩
theorem lk_X12_206 : HLV RX12 206 me_X12_throwsOne 3 := ⟨wt_1060, wt_1062, tb_s 51 (by decide +kernel) rfl, wt_13, wt_1063, by decide +kernel, by decide +kernel, by decide +kernel⟩
theorem lk_X12_213 : HLV RX12 213 me_X12_visitsLeft 0 := ⟨wt_1056, wt_1058, tb_s 50 (by decide +kernel) rfl, wt_13, wt_1059, by decide +kernel, by decide +kernel, by decide +kernel⟩
theorem lk_X12_218 : HLV RX12 218 me_X12_visitsBy 2 := ⟨wt_1069, wt_1071, tb_s 52 (by decide +kernel) rfl, wt_13, wt_1072, by decide +kernel, by decide +kernel, by decide +kernel⟩
theorem lk_X12_221 : HLV RX12 221 me_X12_copy 2 := ⟨wt_1088, wt_1090, tb_s 55 (by decide +kernel) rfl, wt_13, wt_1091, by decide +kernel, by decide +kernel, by decide +kernel⟩
theorem lk_X12_225 : HLS RX12 225 me_X12_powerOf 1 := ⟨wt_1081, wt_1082, wt_13, wt_1083, by decide +kernel, by decide +kernel, by decide +kernel⟩
theorem lk_X12_234 : HLV RX12 234 me_X12_goRow 3 := ⟨wt_1084, wt_1086, tb_s 54 (by decide +kernel) rfl, wt_13, wt_1087, by decide +kernel, by decide +kernel, by decide +kernel⟩
theorem lk_X12_238 : HLV RX12 238 me_X12_layPlan 2 := ⟨wt_1077, wt_1079, tb_s 53 (by decide +kernel) rfl, wt_13, wt_1080, by decide +kernel, by decide +kernel, by decide +kernel⟩
theorem lk_X12_241 : HLV RX12 241 me_X12_opens 2 := ⟨wt_1104, wt_1106, tb_s 57 (by decide +kernel) rfl, wt_13, wt_1107, by decide +kernel, by decide +kernel, by decide +kernel⟩
theorem lk_X12_244 : HLV RX12 244 me_X12_takeUp 2 := ⟨wt_1108, wt_1110, tb_s 58 (by decide +kernel) rfl, wt_13, wt_1111, by decide +kernel, by decide +kernel, by decide +kernel⟩
theorem lk_X12_247 : HLV RX12 247 me_X12_layGame 0 := ⟨wt_1100, wt_1102, tb_s 56 (by decide +kernel) rfl, wt_13, wt_1103, by decide +kernel, by decide +kernel, by decide +kernel⟩
theorem lk_X12_258 : HLV RX12 258 me_X12_worthBy 2 := ⟨wt_1124, wt_1126, tb_s 59 (by decide +kernel) rfl, wt_13, wt_1127, by decide +kernel, by decide +kernel, by decide +kernel⟩
theorem lk_X12_261 : HLS RX12 261 me_X12_divisor 2 := ⟨wt_1128, wt_1129, wt_13, wt_1130, by decide +kernel, by decide +kernel, by decide +kernel⟩
theorem lk_X12_267 : HLV RX12 267 me_X12_layOf 2 := ⟨wt_1157, wt_1159, tb_s 61 (by decide +kernel) rfl, wt_13, wt_1160, by decide +kernel, by decide +kernel, by decide +kernel⟩
theorem lk_X12_272 : HLV RX12 272 me_X12_isSo 1 := ⟨wt_1153, wt_1155, tb_s 60 (by decide +kernel) rfl, wt_13, wt_1156, by decide +kernel, by decide +kernel, by decide +kernel⟩
theorem lk_X12_275 : HLV RX12 275 me_X12_worthThere 0 := ⟨wt_1173, wt_1175, tb_s 62 (by decide +kernel) rfl, wt_13, wt_1176, by decide +kernel, by decide +kernel, by decide +kernel⟩
theorem lk_L_15 : HLV RL 15 me_X11_write 2 := ⟨wt_270, wt_271, wt_272, wt_1, wt_273, by decide +kernel, by decide +kernel, by decide +kernel⟩
theorem lk_L_19 : HLV RL 19 me_X12_write 2 := ⟨wt_899, wt_900, wt_901, wt_13, wt_902, by decide +kernel, by decide +kernel, by decide +kernel⟩
theorem lk_L_20 : HLV RL 20 me_X11_erase 0 := ⟨wt_279, wt_280, wt_281, wt_1, wt_282, by decide +kernel, by decide +kernel, by decide +kernel⟩
theorem lk_L_24 : HLV RL 24 me_X12_erase 0 := ⟨wt_908, wt_909, wt_910, wt_13, wt_911, by decide +kernel, by decide +kernel, by decide +kernel⟩
theorem lk_L_25 : HLV RL 25 me_X11_fault 0 := ⟨wt_283, wt_284, wt_285, wt_1, wt_286, by decide +kernel, by decide +kernel, by decide +kernel⟩
theorem lk_L_28 : HLV RL 28 me_X12_fault 0 := ⟨wt_912, wt_913, wt_914, wt_13, wt_915, by decide +kernel, by decide +kernel, by decide +kernel⟩
theorem lk_L_29 : HLV RL 29 me_X11_sunday 0 := ⟨wt_447, wt_448, wt_449, wt_1, wt_450, by decide +kernel, by decide +kernel, by decide +kernel⟩
theorem lk_L_32 : HLV RL 32 me_X12_sunday 0 := ⟨wt_970, wt_971, wt_972, wt_13, wt_973, by decide +kernel, by decide +kernel, by decide +kernel⟩
theorem lk_L_33 : HLV RL 33 me_X11_coin 2 := ⟨wt_457, wt_458, wt_459, wt_1, wt_460, by decide +kernel, by decide +kernel, by decide +kernel⟩
theorem lk_L_37 : HLV RL 37 me_X12_coin 2 := ⟨wt_991, wt_992, wt_993, wt_13, wt_994, by decide +kernel, by decide +kernel, by decide +kernel⟩
theorem lk_L_38 : HLV RL 38 me_X11_purse 2 := ⟨wt_470, wt_471, wt_472, wt_1, wt_473, by decide +kernel, by decide +kernel, by decide +kernel⟩
theorem lk_L_41 : HLV RL 41 me_X12_purse 2 := ⟨wt_999, wt_1000, wt_1001, wt_13, wt_1002, by decide +kernel, by decide +kernel, by decide +kernel⟩
theorem lk_L_42 : HLV RL 42 me_X11_person 2 := ⟨wt_475, wt_476, wt_477, wt_1, wt_478, by decide +kernel, by decide +kernel, by decide +kernel⟩
theorem lk_L_45 : HLV RL 45 me_X12_person 2 := ⟨wt_1007, wt_1008, wt_1009, wt_13, wt_1010, by decide +kernel, by decide +kernel, by decide +kernel⟩
theorem lk_L_46 : HLV RL 46 me_X11_as 2 := ⟨wt_526, wt_527, wt_528, wt_1, wt_529, by decide +kernel, by decide +kernel, by decide +kernel⟩
theorem lk_L_49 : HLV RL 49 me_X12_as 2 := ⟨wt_1022, wt_1023, wt_1024, wt_13, wt_1025, by decide +kernel, by decide +kernel, by decide +kernel⟩
theorem lk_L_50 : HLV RL 50 me_X11_come 1 := ⟨wt_590, wt_591, wt_592, wt_1, wt_593, by decide +kernel, by decide +kernel, by decide +kernel⟩
theorem lk_L_54 : HLV RL 54 me_X12_come 1 := ⟨wt_1043, wt_1044, wt_1045, wt_13, wt_1046, by decide +kernel, by decide +kernel, by decide +kernel⟩
theorem lk_L_55 : HLV RL 55 me_X11_gain 2 := ⟨wt_595, wt_596, wt_597, wt_1, wt_598, by decide +kernel, by decide +kernel, by decide +kernel⟩
theorem lk_L_58 : HLV RL 58 me_X12_gain 2 := ⟨wt_1047, wt_1048, wt_1049, wt_13, wt_1050, by decide +kernel, by decide +kernel, by decide +kernel⟩
theorem lk_L_59 : HLV RL 59 me_X11_visit 1 := ⟨wt_601, wt_602, wt_603, wt_1, wt_604, by decide +kernel, by decide +kernel, by decide +kernel⟩
theorem lk_L_62 : HLV RL 62 me_X12_visit 1 := ⟨wt_1052, wt_1053, wt_1054, wt_13, wt_1055, by decide +kernel, by decide +kernel, by decide +kernel⟩
theorem lk_L_63 : HLV RL 63 me_X11_go 1 := ⟨wt_614, wt_615, wt_616, wt_1, wt_617, by decide +kernel, by decide +kernel, by decide +kernel⟩
theorem lk_L_66 : HLV RL 66 me_X12_go 1 := ⟨wt_1064, wt_1065, wt_1066, wt_13, wt_1067, by decide +kernel, by decide +kernel, by decide +kernel⟩
theorem lk_L_67 : HLV RL 67 me_X11_plan 2 := ⟨wt_624, wt_625, wt_626, wt_1, wt_627, by decide +kernel, by decide +kernel, by decide +kernel⟩
theorem lk_L_70 : HLV RL 70 me_X12_plan 2 := ⟨wt_1073, wt_1074, wt_1075, wt_13, wt_1076, by decide +kernel, by decide +kernel, by decide +kernel⟩
theorem lk_L_71 : HLV RL 71 me_X11_game 1 := ⟨wt_679, wt_680, wt_681, wt_1, wt_682, by decide +kernel, by decide +kernel, by decide +kernel⟩
theorem lk_L_74 : HLV RL 74 me_X12_game 1 := ⟨wt_1096, wt_1097, wt_1098, wt_13, wt_1099, by decide +kernel, by decide +kernel, by decide +kernel⟩
theorem lk_L_75 : HLV RL 75 me_X11_choice 1 := ⟨wt_688, wt_689, wt_690, wt_1, wt_691, by decide +kernel, by decide +kernel, by decide +kernel⟩
theorem lk_L_78 : HLV RL 78 me_X12_choice 1 := ⟨wt_1112, wt_1113, wt_1114, wt_13, wt_1115, by decide +kernel, by decide +kernel, by decide +kernel⟩
theorem lk_L_79 : HLV RL 79 me_X11_league 2 := ⟨wt_692, wt_693, wt_694, wt_1, wt_695, by decide +kernel, by decide +kernel, by decide +kernel⟩
theorem lk_L_82 : HLV RL 82 me_X12_league 2 := ⟨wt_1092, wt_1093, wt_1094, wt_13, wt_1095, by decide +kernel, by decide +kernel, by decide +kernel⟩
theorem lk_L_83 : HLV RL 83 me_X11_mean 3 := ⟨wt_696, wt_697, wt_698, wt_1, wt_699, by decide +kernel, by decide +kernel, by decide +kernel⟩
theorem lk_L_87 : HLV RL 87 me_X12_mean 3 := ⟨wt_1116, wt_1117, wt_1118, wt_13, wt_1119, by decide +kernel, by decide +kernel, by decide +kernel⟩
theorem lk_L_88 : HLV RL 88 me_X11_dry 0 := ⟨wt_717, wt_718, wt_719, wt_1, wt_720, by decide +kernel, by decide +kernel, by decide +kernel⟩
theorem lk_L_91 : HLV RL 91 me_X12_dry 0 := ⟨wt_1131, wt_1132, wt_1133, wt_13, wt_1134, by decide +kernel, by decide +kernel, by decide +kernel⟩
theorem lk_L_92 : HLV RL 92 me_X11_bait 1 := ⟨wt_725, wt_726, wt_727, wt_1, wt_728, by decide +kernel, by decide +kernel, by decide +kernel⟩
theorem lk_L_95 : HLV RL 95 me_X12_bait 1 := ⟨wt_1135, wt_1136, wt_1137, wt_13, wt_1138, by decide +kernel, by decide +kernel, by decide +kernel⟩
theorem lk_L_96 : HLV RL 96 me_X11_note 2 := ⟨wt_744, wt_745, wt_746, wt_1, wt_747, by decide +kernel, by decide +kernel, by decide +kernel⟩
theorem lk_L_99 : HLV RL 99 me_X12_note 2 := ⟨wt_1139, wt_1140, wt_1141, wt_13, wt_1142, by decide +kernel, by decide +kernel, by decide +kernel⟩
theorem lk_L_100 : HLV RL 100 me_X11_forget 0 := ⟨wt_752, wt_753, wt_754, wt_1, wt_755, by decide +kernel, by decide +kernel, by decide +kernel⟩
theorem lk_L_103 : HLV RL 103 me_X12_forget 0 := ⟨wt_1144, wt_1145, wt_1146, wt_13, wt_1147, by decide +kernel, by decide +kernel, by decide +kernel⟩
theorem lk_L_104 : HLV RL 104 me_X11_lay 1 := ⟨wt_756, wt_757, wt_758, wt_1, wt_759, by decide +kernel, by decide +kernel, by decide +kernel⟩
theorem lk_L_107 : HLV RL 107 me_X12_lay 1 := ⟨wt_1148, wt_1149, wt_1150, wt_13, wt_1151, by decide +kernel, by decide +kernel, by decide +kernel⟩
theorem lk_L_108 : HLV RL 108 me_X11_keep 1 := ⟨wt_791, wt_792, wt_793, wt_1, wt_794, by decide +kernel, by decide +kernel, by decide +kernel⟩
theorem lk_L_111 : HLV RL 111 me_X12_keep 1 := ⟨wt_1161, wt_1162, wt_1163, wt_13, wt_1164, by decide +kernel, by decide +kernel, by decide +kernel⟩
theorem lk_L_112 : HLV RL 112 me_X11_back 1 := ⟨wt_795, wt_796, wt_797, wt_1, wt_798, by decide +kernel, by decide +kernel, by decide +kernel⟩
theorem lk_L_115 : HLV RL 115 me_X12_back 1 := ⟨wt_1165, wt_1166, wt_1167, wt_13, wt_1168, by decide +kernel, by decide +kernel, by decide +kernel⟩
theorem lk_L_116 : HLV RL 116 me_X11_count 1 := ⟨wt_799, wt_800, wt_801, wt_1, wt_802, by decide +kernel, by decide +kernel, by decide +kernel⟩
theorem lk_L_119 : HLV RL 119 me_X12_count 1 := ⟨wt_1169, wt_1170, wt_1171, wt_13, wt_1172, by decide +kernel, by decide +kernel, by decide +kernel⟩
