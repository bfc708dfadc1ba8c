theorem q_ap {x : Cond} {l : List Cond} (hs : ∀ w ∈ l, w ∈ lw_tbl) (i : Nat) (h : l[i]? = some x) (hg : goodWord x = true) : x ∈ q_tb := List.mem_filter.mpr ⟨hs x (List.mem_of_getElem? h), hg⟩
theorem q_s1 : ∀ w ∈ tables_1_1, w ∈ lw_tbl := fun w h => List.mem_append_right _ (List.mem_append_left _ h)
theorem q_s2 : ∀ w ∈ tables_1_2, w ∈ lw_tbl := fun w h => List.mem_append_right _ (List.mem_append_right _ (List.mem_append_left _ h))
theorem q_s3 : ∀ w ∈ tables_1_3, w ∈ lw_tbl := fun w h => List.mem_append_right _ (List.mem_append_right _ (List.mem_append_right _ (List.mem_append_left _ h)))
theorem q_s4 : ∀ w ∈ tables_1_4, w ∈ lw_tbl := fun w h => List.mem_append_right _ (List.mem_append_right _ (List.mem_append_right _ (List.mem_append_right _ (List.mem_append_left _ h))))
theorem q_s5 : ∀ w ∈ tables_1_5, w ∈ lw_tbl := fun w h => List.mem_append_right _ (List.mem_append_right _ (List.mem_append_right _ (List.mem_append_right _ (List.mem_append_right _ (List.mem_append_left _ h)))))
theorem q_s6 : ∀ w ∈ tables_1_6, w ∈ lw_tbl := fun w h => List.mem_append_right _ (List.mem_append_right _ (List.mem_append_right _ (List.mem_append_right _ (List.mem_append_right _ (List.mem_append_right _ (List.mem_append_left _ h))))))
theorem q_s7 : ∀ w ∈ tables_1_7, w ∈ lw_tbl := fun w h => List.mem_append_right _ (List.mem_append_right _ (List.mem_append_right _ (List.mem_append_right _ (List.mem_append_right _ (List.mem_append_right _ (List.mem_append_right _ (List.mem_append_left _ h)))))))
theorem q_s8 : ∀ w ∈ tables_1_8, w ∈ lw_tbl := fun w h => List.mem_append_right _ (List.mem_append_right _ (List.mem_append_right _ (List.mem_append_right _ (List.mem_append_right _ (List.mem_append_right _ (List.mem_append_right _ (List.mem_append_right _ (List.mem_append_left _ h))))))))
theorem q_s9 : ∀ w ∈ tables_1_9, w ∈ lw_tbl := fun w h => List.mem_append_right _ (List.mem_append_right _ (List.mem_append_right _ (List.mem_append_right _ (List.mem_append_right _ (List.mem_append_right _ (List.mem_append_right _ (List.mem_append_right _ (List.mem_append_right _ (h)))))))))
theorem ac_nat : Cond.native arraycopyName ∈ q_tb := q_ap q_s3 164 (by decide +kernel) rfl
theorem ac_stat : Cond.static arraycopyName ∈ q_tb := q_ap q_s3 163 (by decide +kernel) rfl
theorem ac_ini : Cond.initialized "java/lang/System" ∈ q_tb := q_ap q_s1 19 (by decide +kernel) rfl
def kX0_init : q_Y := (yX0_init, cX0_init, 1, none, 1, 30)
def kX0_add : q_Y := (yX0_add, cX0_add, 4, none, 1, 30)
def kX0_take : q_Y := (yX0_take, cX0_take, 2, none, 1, 30)
def kX1_init : q_Y := (yX1_init, cX1_init, 3, none, 1, 30)
def kX1_power : q_Y := (yX1_power, cX1_power, 5, (some .long), 1, 30)
def kX1_weighed : q_Y := (yX1_weighed, cX1_weighed, 10, (some .long), 5, 130)
def kX1_backwards : q_Y := (yX1_backwards, cX1_backwards, 4, (some .int), 1, 30)
def kX1_firstChanged : q_Y := (yX1_firstChanged, cX1_firstChanged, 2, (some .int), 2, 50)
def kX1_silenceDrawn : q_Y := (yX1_silenceDrawn, cX1_silenceDrawn, 7, (some .int), 1, 30)
def kX1_litAfter : q_Y := (yX1_litAfter, cX1_litAfter, 2, (some .int), 5, 130)
def kX2_init : q_Y := (yX2_init, cX2_init, 4, none, 1, 30)
def kX2_areSound : q_Y := (yX2_areSound, cX2_areSound, 8, (some .boolean), 1, 30)
def kX2_fit : q_Y := (yX2_fit, cX2_fit, 5, (some .boolean), 2, 51)
def kX2_origins : q_Y := (yX2_origins, cX2_origins, 4, (some .int), 5, 130)
def kX2_noteSizes : q_Y := (yX2_noteSizes, cX2_noteSizes, 3, none, 2, 51)
def kX2_chooseQuestion : q_Y := (yX2_chooseQuestion, cX2_chooseQuestion, 5, none, 3, 76)
def kX2_leftAtWorst : q_Y := (yX2_leftAtWorst, cX2_leftAtWorst, 6, (some .int), 2, 51)
def kX2_fittingLaws : q_Y := (yX2_fittingLaws, cX2_fittingLaws, 4, (some .int), 5, 130)
def kX3_init : q_Y := (yX3_init, cX3_init, 3, none, 1, 30)
def kX3_asNow : q_Y := (yX3_asNow, cX3_asNow, 1, none, 1, 30)
def kX3_byLaw : q_Y := (yX3_byLaw, cX3_byLaw, 2, none, 2, 50)
def kX3_tellAlone : q_Y := (yX3_tellAlone, cX3_tellAlone, 3, none, 2, 50)
def kX3_run : q_Y := (yX3_run, cX3_run, 4, (some .int), 4, 107)
def kX3_begin : q_Y := (yX3_begin, cX3_begin, 2, none, 2, 54)
def kX3_carry : q_Y := (yX3_carry, cX3_carry, 11, none, 3, 77)
def kX3_speaker : q_Y := (yX3_speaker, cX3_speaker, 7, (some .int), 2, 51)
def kX3_lightByActs : q_Y := (yX3_lightByActs, cX3_lightByActs, 3, none, 2, 54)
def kX3_putOut : q_Y := (yX3_putOut, cX3_putOut, 3, none, 2, 51)
def kX3_kindle : q_Y := (yX3_kindle, cX3_kindle, 5, none, 1, 30)
def kX3_quench : q_Y := (yX3_quench, cX3_quench, 2, none, 1, 30)
def kX3_noteLit : q_Y := (yX3_noteLit, cX3_noteLit, 4, none, 1, 30)
def kX3_isLit : q_Y := (yX3_isLit, cX3_isLit, 3, (some .boolean), 1, 30)
def kX3_lettersSaid : q_Y := (yX3_lettersSaid, cX3_lettersSaid, 4, (some .int), 2, 51)
def kX3_otherwise : q_Y := (yX3_otherwise, cX3_otherwise, 5, (some .int), 1, 30)
def kX3_sayingSame : q_Y := (yX3_sayingSame, cX3_sayingSame, 6, (some .int), 1, 30)
def kX4_init : q_Y := (yX4_init, cX4_init, 3, none, 1, 30)
def kX4_seek : q_Y := (yX4_seek, cX4_seek, 6, none, 5, 130)
def kX4_followTrail : q_Y := (yX4_followTrail, cX4_followTrail, 3, none, 1, 30)
def kX4_tryAll : q_Y := (yX4_tryAll, cX4_tryAll, 5, none, 4, 100)
def kX4_spelled : q_Y := (yX4_spelled, cX4_spelled, 4, (some .int), 2, 52)
def kX4_carried : q_Y := (yX4_carried, cX4_carried, 4, (some .int), 3, 77)
def kX5_init : q_Y := (yX5_init, cX5_init, 1, none, 1, 30)
def kX5_clear : q_Y := (yX5_clear, cX5_clear, 1, none, 1, 30)
def kX5_take : q_Y := (yX5_take, cX5_take, 2, none, 1, 30)
def kX5_addPew : q_Y := (yX5_addPew, cX5_addPew, 4, none, 2, 54)
def kX5_setRule : q_Y := (yX5_setRule, cX5_setRule, 5, none, 1, 30)
def kX5_addAisle : q_Y := (yX5_addAisle, cX5_addAisle, 3, none, 1, 30)
def kX5_addLight : q_Y := (yX5_addLight, cX5_addLight, 3, none, 1, 30)
def kX5_addDraught : q_Y := (yX5_addDraught, cX5_addDraught, 3, none, 1, 30)
def kX5_allPews : q_Y := (yX5_allPews, cX5_allPews, 1, (some .int), 1, 30)
def kX5_nearAny : q_Y := (yX5_nearAny, cX5_nearAny, 4, (some .int), 1, 30)
def kX5_heardBy : q_Y := (yX5_heardBy, cX5_heardBy, 4, (some .int), 2, 54)
def kX6_init : q_Y := (yX6_init, cX6_init, 2, none, 2, 50)
def kX6_read : q_Y := (yX6_read, cX6_read, 3, (some (.object "TaperTalk$Night")), 9, 226)
def kX6_readLine : q_Y := (yX6_readLine, cX6_readLine, 1, none, 8, 206)
def kX6_readNight : q_Y := (yX6_readNight, cX6_readNight, 1, none, 7, 184)
def kX6_readPew : q_Y := (yX6_readPew, cX6_readPew, 4, none, 7, 183)
def kX6_ruleWord : q_Y := (yX6_ruleWord, cX6_ruleWord, 1, (some .int), 6, 163)
def kX6_readAisle : q_Y := (yX6_readAisle, cX6_readAisle, 3, none, 4, 94)
def kX6_areJoined : q_Y := (yX6_areJoined, cX6_areJoined, 2, (some .boolean), 1, 30)
def kX6_readLight : q_Y := (yX6_readLight, cX6_readLight, 4, none, 4, 94)
def kX6_readDraught : q_Y := (yX6_readDraught, cX6_readDraught, 3, none, 7, 184)
def kX6_refuseMoreThan : q_Y := (yX6_refuseMoreThan, cX6_refuseMoreThan, 3, none, 2, 51)
def kX6_needWord : q_Y := (yX6_needWord, cX6_needWord, 2, none, 6, 163)
def kX6_needNumber : q_Y := (yX6_needNumber, cX6_needNumber, 4, (some .int), 3, 71)
def kX6_fail : q_Y := (yX6_fail, cX6_fail, 2, none, 1, 30)
def kX6_advance : q_Y := (yX6_advance, cX6_advance, 1, none, 2, 51)
def kX6_isLowerCase : q_Y := (yX6_isLowerCase, cX6_isLowerCase, 1, (some .boolean), 1, 30)
def kX6_isDigit : q_Y := (yX6_isDigit, cX6_isDigit, 1, (some .boolean), 1, 30)
def kX6_isWord : q_Y := (yX6_isWord, cX6_isWord, 3, (some .boolean), 5, 141)
def kX7_letterAt : q_Y := (yX7_letterAt, cX7_letterAt, 2, (some .int), 1, 30)
def kX7_size : q_Y := (yX7_size, cX7_size, 2, (some .int), 1, 30)
def kX7_with : q_Y := (yX7_with, cX7_with, 3, (some .int), 1, 30)
def kX7_reversed : q_Y := (yX7_reversed, cX7_reversed, 4, (some .int), 1, 30)
def kX7_replaced : q_Y := (yX7_replaced, cX7_replaced, 5, (some .int), 1, 30)
def kX8_init : q_Y := (yX8_init, cX8_init, 3, none, 2, 51)
def kX8_forget : q_Y := (yX8_forget, cX8_forget, 2, none, 1, 30)
def kX8_worthOf : q_Y := (yX8_worthOf, cX8_worthOf, 2, (some .int), 5, 130)
def kX8_gainInAllOrders : q_Y := (yX8_gainInAllOrders, cX8_gainInAllOrders, 6, (some .int), 6, 151)
def kX8_factorial : q_Y := (yX8_factorial, cX8_factorial, 3, (some .int), 1, 30)
def kX8_leastLightingAll : q_Y := (yX8_leastLightingAll, cX8_leastLightingAll, 4, (some .int), 6, 151)
def kX9_init : q_Y := (yX9_init, cX9_init, 2, none, 1, 30)
def kX9_noSlot : q_Y := (yX9_noSlot, cX9_noSlot, 1, (some .boolean), 1, 30)
def kX9_hasRow : q_Y := (yX9_hasRow, cX9_hasRow, 2, (some .boolean), 1, 30)
def kX9_rowsHeld : q_Y := (yX9_rowsHeld, cX9_rowsHeld, 3, (some .int), 2, 51)
def kX9_begin : q_Y := (yX9_begin, cX9_begin, 5, none, 1, 30)
def kX9_areBeyond : q_Y := (yX9_areBeyond, cX9_areBeyond, 4, (some .boolean), 1, 30)
def kX9_put : q_Y := (yX9_put, cX9_put, 6, none, 1, 30)
def kX9_saying : q_Y := (yX9_saying, cX9_saying, 7, (some .int), 2, 52)
def kX10_init : q_Y := (yX10_init, cX10_init, 3, none, 1, 30)
def kX10_strongestGust : q_Y := (yX10_strongestGust, cX10_strongestGust, 7, (some .int), 5, 130)
def kX10_heaviestDraught : q_Y := (yX10_heaviestDraught, cX10_heaviestDraught, 6, (some .int), 5, 130)
def kX10_chooseOpening : q_Y := (yX10_chooseOpening, cX10_chooseOpening, 3, none, 6, 153)
def kX10_chooseReply : q_Y := (yX10_chooseReply, cX10_chooseReply, 4, none, 5, 130)
def kX10_gain : q_Y := (yX10_gain, cX10_gain, 6, (some .int), 5, 130)
def kX11_init : q_Y := (yX11_init, cX11_init, 2, none, 3, 73)
def kX11_feed : q_Y := (yX11_feed, cX11_feed, 6, (some .int), 2, 52)
def kX11_putBytes : q_Y := (yX11_putBytes, cX11_putBytes, 3, none, 1, 30)
def kX11_end : q_Y := (yX11_end, cX11_end, 2, (some .int), 1, 30)
def kX11_night : q_Y := (yX11_night, cX11_night, 2, (some .int), 10, 248)
def kX11_fault : q_Y := (yX11_fault, cX11_fault, 2, (some .int), 1, 30)
def kX11_pew : q_Y := (yX11_pew, cX11_pew, 3, (some .int), 2, 51)
def kX11_near : q_Y := (yX11_near, cX11_near, 2, (some .int), 2, 51)
def kX11_far : q_Y := (yX11_far, cX11_far, 5, (some .int), 2, 53)
def kX11_told : q_Y := (yX11_told, cX11_told, 3, (some .int), 3, 73)
def kX11_lit : q_Y := (yX11_lit, cX11_lit, 2, (some .int), 6, 150)
def kX11_letters : q_Y := (yX11_letters, cX11_letters, 3, (some .int), 6, 150)
def kX11_says : q_Y := (yX11_says, cX11_says, 4, (some .int), 6, 150)
def kX11_from : q_Y := (yX11_from, cX11_from, 3, (some .int), 6, 150)
def kX11_since : q_Y := (yX11_since, cX11_since, 3, (some .int), 6, 150)
def kX11_when : q_Y := (yX11_when, cX11_when, 4, (some .int), 6, 150)
def kX11_often : q_Y := (yX11_often, cX11_often, 5, (some .int), 6, 150)
def kX11_full : q_Y := (yX11_full, cX11_full, 3, (some .int), 6, 150)
def kX11_dark : q_Y := (yX11_dark, cX11_dark, 4, (some .int), 6, 150)
def kX11_still : q_Y := (yX11_still, cX11_still, 3, (some .int), 6, 150)
def kX11_sorts : q_Y := (yX11_sorts, cX11_sorts, 6, (some .int), 6, 150)
def kX11_alike : q_Y := (yX11_alike, cX11_alike, 3, (some .int), 6, 150)
def kX11_depth : q_Y := (yX11_depth, cX11_depth, 3, (some .int), 6, 150)
def kX11_longest : q_Y := (yX11_longest, cX11_longest, 7, (some .int), 6, 150)
def kX11_shortest : q_Y := (yX11_shortest, cX11_shortest, 7, (some .int), 6, 150)
def kX11_words : q_Y := (yX11_words, cX11_words, 2, (some .int), 6, 150)
def kX11_turned : q_Y := (yX11_turned, cX11_turned, 3, (some .int), 6, 150)
def kX11_spoken : q_Y := (yX11_spoken, cX11_spoken, 7, (some .int), 6, 150)
def kX11_taught : q_Y := (yX11_taught, cX11_taught, 6, (some .int), 6, 150)
def kX11_deepest : q_Y := (yX11_deepest, cX11_deepest, 5, (some .int), 6, 150)
def kX11_fresh : q_Y := (yX11_fresh, cX11_fresh, 5, (some .int), 6, 150)
def kX11_gone : q_Y := (yX11_gone, cX11_gone, 3, (some .int), 6, 150)
def kX11_hears : q_Y := (yX11_hears, cX11_hears, 5, (some .int), 4, 101)
def kX11_heard : q_Y := (yX11_heard, cX11_heard, 6, (some .int), 4, 101)
def kX11_round : q_Y := (yX11_round, cX11_round, 8, (some .int), 4, 101)
def kX11_first : q_Y := (yX11_first, cX11_first, 5, (some .int), 6, 155)
def kX11_letter : q_Y := (yX11_letter, cX11_letter, 6, (some .int), 6, 155)
def kX11_ways : q_Y := (yX11_ways, cX11_ways, 5, (some .int), 6, 155)
def kX11_hearingRefusal : q_Y := (yX11_hearingRefusal, cX11_hearingRefusal, 4, (some .int), 3, 78)
def kX11_heardTwice : q_Y := (yX11_heardTwice, cX11_heardTwice, 4, (some .int), 3, 77)
def kX11_best : q_Y := (yX11_best, cX11_best, 5, (some .int), 6, 151)
def kX11_worth : q_Y := (yX11_worth, cX11_worth, 2, (some .int), 6, 151)
def kX11_share : q_Y := (yX11_share, cX11_share, 3, (some .int), 7, 176)
def kX11_fewest : q_Y := (yX11_fewest, cX11_fewest, 2, (some .int), 7, 174)
def kX11_sets : q_Y := (yX11_sets, cX11_sets, 1, (some .int), 7, 174)
def kX11_gust : q_Y := (yX11_gust, cX11_gust, 2, (some .int), 7, 170)
def kX11_guard : q_Y := (yX11_guard, cX11_guard, 1, (some .int), 7, 170)
def kX11_whom : q_Y := (yX11_whom, cX11_whom, 3, (some .int), 6, 153)
def kX11_ask : q_Y := (yX11_ask, cX11_ask, 3, (some .int), 6, 153)
def kX11_leaves : q_Y := (yX11_leaves, cX11_leaves, 3, (some .int), 6, 153)
def kX11_laws : q_Y := (yX11_laws, cX11_laws, 3, (some .int), 6, 153)
def kX11_originRefusal : q_Y := (yX11_originRefusal, cX11_originRefusal, 2, (some .int), 3, 78)
def kX11_clueRefusal : q_Y := (yX11_clueRefusal, cX11_clueRefusal, 2, (some .int), 2, 57)
def kX11_by : q_Y := (yX11_by, cX11_by, 2, (some .int), 5, 130)
def kX11_law : q_Y := (yX11_law, cX11_law, 5, (some .int), 5, 130)
def kX11_rector : q_Y := (yX11_rector, cX11_rector, 1, (some .int), 7, 175)
def kX11_opens : q_Y := (yX11_opens, cX11_opens, 1, (some .int), 7, 175)
def kX11_replies : q_Y := (yX11_replies, cX11_replies, 2, (some .int), 6, 153)
def kX11_rests : q_Y := (yX11_rests, cX11_rests, 8, (some .int), 6, 155)
def kX11_gets : q_Y := (yX11_gets, cX11_gets, 6, (some .int), 6, 155)
def kX11_chance : q_Y := (yX11_chance, cX11_chance, 4, (some .long), 6, 159)
def kX11_mean : q_Y := (yX11_mean, cX11_mean, 3, (some .long), 6, 159)
def kX11_noChanceHour : q_Y := (yX11_noChanceHour, cX11_noChanceHour, 2, (some .boolean), 1, 30)
def kX11_light : q_Y := (yX11_light, cX11_light, 4, (some .int), 7, 173)
def kX11_draught : q_Y := (yX11_draught, cX11_draught, 3, (some .int), 7, 173)
def kX11_act : q_Y := (yX11_act, cX11_act, 4, (some .int), 6, 150)
def kX11_undo : q_Y := (yX11_undo, cX11_undo, 1, (some .int), 3, 71)
def kX11_anew : q_Y := (yX11_anew, cX11_anew, 2, (some .int), 3, 71)
def kX11_drawn : q_Y := (yX11_drawn, cX11_drawn, 4, (some .int), 6, 151)
def kX11_luck : q_Y := (yX11_luck, cX11_luck, 6, (some .int), 6, 151)
def kX11_noSeed : q_Y := (yX11_noSeed, cX11_noSeed, 1, (some .boolean), 1, 30)
def kX11_hushes : q_Y := (yX11_hushes, cX11_hushes, 3, (some .int), 3, 71)
def kX11_count : q_Y := (yX11_count, cX11_count, 2, (some .int), 3, 73)
def kX11_image : q_Y := (yX11_image, cX11_image, 2, (some .int), 2, 51)
def kX11_back : q_Y := (yX11_back, cX11_back, 2, (some .int), 3, 71)
def kX11_row : q_Y := (yX11_row, cX11_row, 4, (some .int), 2, 54)
def kX11_write : q_Y := (yX11_write, cX11_write, 5, (some .int), 2, 55)
def kX11_paste : q_Y := (yX11_paste, cX11_paste, 6, (some .int), 2, 53)
def kX11_noNight : q_Y := (yX11_noNight, cX11_noNight, 1, (some .boolean), 1, 30)
def kX11_noPew : q_Y := (yX11_noPew, cX11_noPew, 2, (some .boolean), 1, 30)
def kX11_noHour : q_Y := (yX11_noHour, cX11_noHour, 2, (some .boolean), 2, 50)
def kX11_noLetter : q_Y := (yX11_noLetter, cX11_noLetter, 1, (some .boolean), 1, 30)
def kX11_noPart : q_Y := (yX11_noPart, cX11_noPart, 1, (some .boolean), 1, 30)
def kX11_cell : q_Y := (yX11_cell, cX11_cell, 2, (some .int), 1, 30)
def kX11_letterOrNone : q_Y := (yX11_letterOrNone, cX11_letterOrNone, 3, (some .int), 2, 51)
def kX11_unsettle : q_Y := (yX11_unsettle, cX11_unsettle, 1, none, 2, 51)
def kX11_settledCourse : q_Y := (yX11_settledCourse, cX11_settledCourse, 1, (some (.object "TaperTalk$Course")), 5, 130)
def kX11_litAtLast : q_Y := (yX11_litAtLast, cX11_litAtLast, 1, (some .int), 6, 150)
def kX11_lowestPart : q_Y := (yX11_lowestPart, cX11_lowestPart, 12, (some .long), 2, 51)
def kX12_init : q_Y := (yX12_init, cX12_init, 1, none, 1, 30)
def kX12_in : q_Y := (yX12_in, cX12_in, 6, (some .boolean), 1, 30)
def kX12_bits : q_Y := (yX12_bits, cX12_bits, 3, (some .int), 1, 30)
def kX12_bit : q_Y := (yX12_bit, cX12_bit, 2, (some .int), 1, 30)
def kX12_image : q_Y := (yX12_image, cX12_image, 3, (some .int), 2, 55)
def kX12_back : q_Y := (yX12_back, cX12_back, 3, (some .int), 2, 55)
def kX12_isNight : q_Y := (yX12_isNight, cX12_isNight, 1, (some .boolean), 1, 30)
def kX12_hours : q_Y := (yX12_hours, cX12_hours, 1, (some .int), 1, 30)
def kX12_pews : q_Y := (yX12_pews, cX12_pews, 1, (some .int), 1, 30)
def kX12_allPews : q_Y := (yX12_allPews, cX12_allPews, 1, (some .int), 2, 50)
def kX12_isHour : q_Y := (yX12_isHour, cX12_isHour, 3, (some .boolean), 2, 55)
def kX12_isPew : q_Y := (yX12_isPew, cX12_isPew, 3, (some .boolean), 2, 55)
def kX12_ruleOf : q_Y := (yX12_ruleOf, cX12_ruleOf, 3, (some .int), 1, 30)
def kX12_feed : q_Y := (yX12_feed, cX12_feed, 7, (some .int), 1, 30)
def kX12_end : q_Y := (yX12_end, cX12_end, 2, (some .int), 2, 55)
def kX12_see : q_Y := (yX12_see, cX12_see, 2, (some .int), 1, 30)
def kX12_advance : q_Y := (yX12_advance, cX12_advance, 2, none, 2, 55)
def kX12_good : q_Y := (yX12_good, cX12_good, 1, (some .boolean), 1, 30)
def kX12_errs : q_Y := (yX12_errs, cX12_errs, 2, none, 2, 50)
def kX12_is : q_Y := (yX12_is, cX12_is, 4, (some .boolean), 5, 141)
def kX12_takes : q_Y := (yX12_takes, cX12_takes, 3, (some .boolean), 6, 164)
def kX12_expects : q_Y := (yX12_expects, cX12_expects, 2, none, 7, 186)
def kX12_number : q_Y := (yX12_number, cX12_number, 4, (some .int), 3, 76)
def kX12_toldBy : q_Y := (yX12_toldBy, cX12_toldBy, 4, (some .int), 8, 207)
def kX12_fault : q_Y := (yX12_fault, cX12_fault, 2, (some .int), 1, 30)
def kX12_readFirst : q_Y := (yX12_readFirst, cX12_readFirst, 1, none, 9, 230)
def kX12_readPew : q_Y := (yX12_readPew, cX12_readPew, 2, none, 8, 207)
def kX12_isJoined : q_Y := (yX12_isJoined, cX12_isJoined, 7, (some .boolean), 1, 30)
def kX12_readAisle : q_Y := (yX12_readAisle, cX12_readAisle, 4, none, 4, 99)
def kX12_readLight : q_Y := (yX12_readLight, cX12_readLight, 4, none, 4, 99)
def kX12_readDraught : q_Y := (yX12_readDraught, cX12_readDraught, 2, none, 9, 230)
def kX12_isFull : q_Y := (yX12_isFull, cX12_isFull, 1, (some .boolean), 6, 164)
def kX12_readNext : q_Y := (yX12_readNext, cX12_readNext, 2, none, 10, 251)
def kX12_readLine : q_Y := (yX12_readLine, cX12_readLine, 1, none, 11, 272)
def kX12_night : q_Y := (yX12_night, cX12_night, 2, (some .int), 12, 292)
def kX12_pew : q_Y := (yX12_pew, cX12_pew, 3, (some .int), 3, 77)
def kX12_longOf : q_Y := (yX12_longOf, cX12_longOf, 3, (some .int), 1, 30)
def kX12_letterOf : q_Y := (yX12_letterOf, cX12_letterOf, 4, (some .int), 2, 52)
def kX12_letterOrNone : q_Y := (yX12_letterOrNone, cX12_letterOrNone, 2, (some .int), 3, 75)
def kX12_changed : q_Y := (yX12_changed, cX12_changed, 8, (some .int), 3, 75)
def kX12_told : q_Y := (yX12_told, cX12_told, 3, (some .int), 4, 96)
def kX12_nearOf : q_Y := (yX12_nearOf, cX12_nearOf, 6, (some .int), 2, 51)
def kX12_near : q_Y := (yX12_near, cX12_near, 2, (some .int), 3, 77)
def kX12_far : q_Y := (yX12_far, cX12_far, 7, (some .int), 3, 77)
def kX12_asItIs : q_Y := (yX12_asItIs, cX12_asItIs, 1, none, 1, 30)
def kX12_saysOf : q_Y := (yX12_saysOf, cX12_saysOf, 3, (some .int), 1, 30)
def kX12_lights : q_Y := (yX12_lights, cX12_lights, 5, none, 1, 30)
def kX12_putsOut : q_Y := (yX12_putsOut, cX12_putsOut, 4, none, 1, 30)
def kX12_beginNight : q_Y := (yX12_beginNight, cX12_beginNight, 2, none, 2, 54)
def kX12_beginHour : q_Y := (yX12_beginHour, cX12_beginHour, 4, none, 2, 54)
def kX12_isBetter : q_Y := (yX12_isBetter, cX12_isBetter, 4, (some .boolean), 2, 52)
def kX12_heardBy : q_Y := (yX12_heardBy, cX12_heardBy, 5, (some .int), 3, 76)
def kX12_goesOn : q_Y := (yX12_goesOn, cX12_goesOn, 7, none, 4, 102)
def kX12_goAll : q_Y := (yX12_goAll, cX12_goAll, 3, none, 5, 128)
def kX12_asksNight : q_Y := (yX12_asksNight, cX12_asksNight, 1, (some .boolean), 6, 150)
def kX12_asksHour : q_Y := (yX12_asksHour, cX12_asksHour, 2, (some .boolean), 7, 170)
def kX12_asksPew : q_Y := (yX12_asksPew, cX12_asksPew, 2, (some .boolean), 7, 170)
def kX12_litAt : q_Y := (yX12_litAt, cX12_litAt, 4, (some .int), 2, 52)
def kX12_litLast : q_Y := (yX12_litLast, cX12_litLast, 1, (some .int), 3, 75)
def kX12_lastMany : q_Y := (yX12_lastMany, cX12_lastMany, 1, (some .int), 4, 95)
def kX12_wordsAt : q_Y := (yX12_wordsAt, cX12_wordsAt, 4, (some .int), 2, 52)
def kX12_lit : q_Y := (yX12_lit, cX12_lit, 2, (some .int), 8, 191)
def kX12_letters : q_Y := (yX12_letters, cX12_letters, 3, (some .int), 8, 191)
def kX12_says : q_Y := (yX12_says, cX12_says, 4, (some .int), 8, 191)
def kX12_from : q_Y := (yX12_from, cX12_from, 3, (some .int), 8, 191)
def kX12_since : q_Y := (yX12_since, cX12_since, 3, (some .int), 8, 191)
def kX12_depth : q_Y := (yX12_depth, cX12_depth, 3, (some .int), 8, 191)
def kX12_when : q_Y := (yX12_when, cX12_when, 3, (some .int), 8, 191)
def kX12_often : q_Y := (yX12_often, cX12_often, 4, (some .int), 8, 191)
def kX12_full : q_Y := (yX12_full, cX12_full, 2, (some .int), 7, 170)
def kX12_dark : q_Y := (yX12_dark, cX12_dark, 3, (some .int), 7, 170)
def kX12_turnedAt : q_Y := (yX12_turnedAt, cX12_turnedAt, 4, (some .int), 3, 75)
def kX12_turned : q_Y := (yX12_turned, cX12_turned, 2, (some .int), 8, 191)
def kX12_still : q_Y := (yX12_still, cX12_still, 2, (some .int), 7, 170)
def kX12_alikeTo : q_Y := (yX12_alikeTo, cX12_alikeTo, 5, (some .int), 2, 52)
def kX12_alike : q_Y := (yX12_alike, cX12_alike, 3, (some .int), 8, 191)
def kX12_sorts : q_Y := (yX12_sorts, cX12_sorts, 4, (some .int), 8, 191)
def kX12_longestBy : q_Y := (yX12_longestBy, cX12_longestBy, 5, (some .int), 2, 52)
def kX12_longest : q_Y := (yX12_longest, cX12_longest, 2, (some .int), 8, 191)
def kX12_shortest : q_Y := (yX12_shortest, cX12_shortest, 2, (some .int), 8, 191)
def kX12_words : q_Y := (yX12_words, cX12_words, 2, (some .int), 8, 191)
def kX12_spoken : q_Y := (yX12_spoken, cX12_spoken, 6, (some .int), 8, 191)
def kX12_taught : q_Y := (yX12_taught, cX12_taught, 5, (some .int), 8, 191)
def kX12_deepest : q_Y := (yX12_deepest, cX12_deepest, 4, (some .int), 7, 170)
def kX12_fresh : q_Y := (yX12_fresh, cX12_fresh, 4, (some .int), 8, 191)
def kX12_gone : q_Y := (yX12_gone, cX12_gone, 2, (some .int), 8, 191)
def kX12_numberAt : q_Y := (yX12_numberAt, cX12_numberAt, 3, (some .long), 1, 30)
def kX12_askRow : q_Y := (yX12_askRow, cX12_askRow, 5, (some .int), 3, 77)
def kX12_heardTwice : q_Y := (yX12_heardTwice, cX12_heardTwice, 5, (some .int), 4, 102)
def kX12_hears : q_Y := (yX12_hears, cX12_hears, 5, (some .int), 5, 126)
def kX12_heard : q_Y := (yX12_heard, cX12_heard, 6, (some .int), 5, 126)
def kX12_round : q_Y := (yX12_round, cX12_round, 7, (some .int), 5, 126)
def kX12_isSaying : q_Y := (yX12_isSaying, cX12_isSaying, 3, (some .boolean), 1, 30)
def kX12_layFirst : q_Y := (yX12_layFirst, cX12_layFirst, 6, none, 6, 150)
def kX12_askFirst : q_Y := (yX12_askFirst, cX12_askFirst, 5, (some .int), 7, 175)
def kX12_first : q_Y := (yX12_first, cX12_first, 5, (some .int), 8, 199)
def kX12_letter : q_Y := (yX12_letter, cX12_letter, 6, (some .int), 8, 199)
def kX12_ways : q_Y := (yX12_ways, cX12_ways, 5, (some .int), 8, 199)
def kX12_worthOf : q_Y := (yX12_worthOf, cX12_worthOf, 2, (some .int), 6, 150)
def kX12_worth : q_Y := (yX12_worth, cX12_worth, 2, (some .int), 7, 171)
def kX12_best : q_Y := (yX12_best, cX12_best, 5, (some .int), 7, 171)
def kX12_factorial : q_Y := (yX12_factorial, cX12_factorial, 3, (some .int), 1, 30)
def kX12_divisor : q_Y := (yX12_divisor, cX12_divisor, 10, (some .long), 2, 51)
def kX12_part : q_Y := (yX12_part, cX12_part, 5, (some .long), 3, 80)
def kX12_share : q_Y := (yX12_share, cX12_share, 7, (some .int), 7, 171)
def kX12_fewestOf : q_Y := (yX12_fewestOf, cX12_fewestOf, 3, (some .int), 7, 171)
def kX12_fewest : q_Y := (yX12_fewest, cX12_fewest, 2, (some .int), 8, 193)
def kX12_sets : q_Y := (yX12_sets, cX12_sets, 1, (some .int), 8, 193)
def kX12_gust : q_Y := (yX12_gust, cX12_gust, 4, (some .int), 8, 191)
def kX12_guard : q_Y := (yX12_guard, cX12_guard, 3, (some .int), 7, 170)
def kX12_askHeard : q_Y := (yX12_askHeard, cX12_askHeard, 3, (some .int), 3, 77)
def kX12_isHeard : q_Y := (yX12_isHeard, cX12_isHeard, 3, (some .boolean), 6, 150)
def kX12_askWhom : q_Y := (yX12_askWhom, cX12_askWhom, 2, (some .int), 4, 99)
def kX12_whomOf : q_Y := (yX12_whomOf, cX12_whomOf, 6, (some .int), 7, 172)
def kX12_whom : q_Y := (yX12_whom, cX12_whom, 3, (some .int), 8, 197)
def kX12_worstOf : q_Y := (yX12_worstOf, cX12_worstOf, 7, (some .int), 2, 51)
def kX12_askOf : q_Y := (yX12_askOf, cX12_askOf, 6, (some .int), 3, 77)
def kX12_ask : q_Y := (yX12_ask, cX12_ask, 3, (some .int), 8, 197)
def kX12_leaves : q_Y := (yX12_leaves, cX12_leaves, 3, (some .int), 8, 197)
def kX12_laws : q_Y := (yX12_laws, cX12_laws, 4, (some .int), 7, 172)
def kX12_goBy : q_Y := (yX12_goBy, cX12_goBy, 2, none, 6, 150)
def kX12_by : q_Y := (yX12_by, cX12_by, 2, (some .int), 7, 171)
def kX12_law : q_Y := (yX12_law, cX12_law, 4, (some .int), 7, 171)
def kX12_litByTurns : q_Y := (yX12_litByTurns, cX12_litByTurns, 3, (some .int), 6, 150)
def kX12_repliesTo : q_Y := (yX12_repliesTo, cX12_repliesTo, 4, (some .int), 7, 172)
def kX12_opensOf : q_Y := (yX12_opensOf, cX12_opensOf, 5, (some .int), 8, 195)
def kX12_rector : q_Y := (yX12_rector, cX12_rector, 2, (some .int), 9, 219)
def kX12_opens : q_Y := (yX12_opens, cX12_opens, 1, (some .int), 9, 219)
def kX12_replies : q_Y := (yX12_replies, cX12_replies, 2, (some .int), 8, 195)
def kX12_getsBy : q_Y := (yX12_getsBy, cX12_getsBy, 6, (some .int), 6, 150)
def kX12_areTwo : q_Y := (yX12_areTwo, cX12_areTwo, 3, (some .boolean), 3, 77)
def kX12_rests : q_Y := (yX12_rests, cX12_rests, 8, (some .int), 7, 175)
def kX12_gets : q_Y := (yX12_gets, cX12_gets, 5, (some .int), 7, 175)
def kX12_laySilence : q_Y := (yX12_laySilence, cX12_laySilence, 7, none, 6, 150)
def kX12_isSilence : q_Y := (yX12_isSilence, cX12_isSilence, 3, (some .boolean), 2, 55)
def kX12_chance : q_Y := (yX12_chance, cX12_chance, 4, (some .long), 7, 176)
def kX12_mean : q_Y := (yX12_mean, cX12_mean, 3, (some .long), 7, 176)
def kX12_keepAct : q_Y := (yX12_keepAct, cX12_keepAct, 2, (some .int), 7, 170)
def kX12_light : q_Y := (yX12_light, cX12_light, 4, (some .int), 8, 191)
def kX12_draught : q_Y := (yX12_draught, cX12_draught, 3, (some .int), 8, 191)
def kX12_undo : q_Y := (yX12_undo, cX12_undo, 1, (some .int), 2, 50)
def kX12_anew : q_Y := (yX12_anew, cX12_anew, 2, (some .int), 2, 50)
def kX12_goDrawn : q_Y := (yX12_goDrawn, cX12_goDrawn, 6, none, 6, 150)
def kX12_isSeed : q_Y := (yX12_isSeed, cX12_isSeed, 1, (some .boolean), 2, 55)
def kX12_drawn : q_Y := (yX12_drawn, cX12_drawn, 3, (some .int), 7, 175)
def kX12_luck : q_Y := (yX12_luck, cX12_luck, 6, (some .int), 7, 175)
def kX12_hushes : q_Y := (yX12_hushes, cX12_hushes, 4, (some .int), 3, 77)
def kX12_count : q_Y := (yX12_count, cX12_count, 4, (some .int), 2, 55)
def kX12_isSlot : q_Y := (yX12_isSlot, cX12_isSlot, 1, (some .boolean), 2, 55)
def kX12_clipped : q_Y := (yX12_clipped, cX12_clipped, 4, (some .long), 1, 30)
def kX12_row : q_Y := (yX12_row, cX12_row, 5, (some .int), 3, 75)
def kX12_write : q_Y := (yX12_write, cX12_write, 5, (some .int), 3, 75)
def kX12_paste : q_Y := (yX12_paste, cX12_paste, 7, (some .int), 3, 75)
def kJ6_bitCount_0f7a4 : q_Y := (yJ6_bitCount_0f7a4, cJ6_bitCount_0f7a4, 1, (some .int), 1, 30)
def kJ9_abs_067f4 : q_Y := (yJ9_abs_067f4, cJ9_abs_067f4, 2, (some .long), 1, 30)
def kJ9_max_7cf53 : q_Y := (yJ9_max_7cf53, cJ9_max_7cf53, 2, (some .int), 1, 30)
def kJ9_min_7cf53 : q_Y := (yJ9_min_7cf53, cJ9_min_7cf53, 2, (some .int), 1, 30)
def kJ0_length_8abf5 : q_Y := (yJ0_length_8abf5, cJ0_length_8abf5, 1, (some .int), 2, 60)
def kJ0_charAt_5068e : q_Y := (yJ0_charAt_5068e, cJ0_charAt_5068e, 2, (some .char), 4, 120)
def kJ0_coder_7d493 : q_Y := (yJ0_coder_7d493, cJ0_coder_7d493, 1, (some .byte), 1, 30)
def kJ0_isLatin1_aae02 : q_Y := (yJ0_isLatin1_aae02, cJ0_isLatin1_aae02, 1, (some .boolean), 1, 30)
def kJ0_checkIndex_df160 : q_Y := (yJ0_checkIndex_df160, cJ0_checkIndex_df160, 2, none, 2, 60)
def kJ1_charAt_3b067 : q_Y := (yJ1_charAt_3b067, cJ1_charAt_3b067, 2, (some .char), 3, 90)
def kJ3_checkIndex_8e157 : q_Y := (yJ3_checkIndex_8e157, cJ3_checkIndex_8e157, 3, (some .int), 1, 30)
theorem ok_X0_add : q_okV kX0_add 3 := ⟨q_ap q_s5 210 (by decide +kernel) rfl, q_ap q_s5 208 (by decide +kernel) rfl, q_ap q_s1 4 (by decide +kernel) rfl, q_ap q_s5 209 (by decide +kernel) rfl, ⟨by decide, by decide, by decide +kernel⟩⟩
theorem ok_X0_take : q_okV kX0_take 1 := ⟨q_ap q_s6 29 (by decide +kernel) rfl, q_ap q_s6 27 (by decide +kernel) rfl, q_ap q_s1 4 (by decide +kernel) rfl, q_ap q_s6 28 (by decide +kernel) rfl, ⟨by decide, by decide, by decide +kernel⟩⟩
theorem ok_X1_power : q_okS kX1_power 2 := ⟨q_ap q_s5 192 (by decide +kernel) rfl, q_ap q_s5 191 (by decide +kernel) rfl, q_ap q_s1 11 (by decide +kernel) rfl, ⟨by decide, by decide, by decide +kernel⟩⟩
theorem ok_X1_weighed : q_okV kX1_weighed 2 := ⟨q_ap q_s5 180 (by decide +kernel) rfl, q_ap q_s5 178 (by decide +kernel) rfl, q_ap q_s1 11 (by decide +kernel) rfl, q_ap q_s5 179 (by decide +kernel) rfl, ⟨by decide, by decide, by decide +kernel⟩⟩
theorem ok_X1_backwards : q_okS kX1_backwards 2 := ⟨q_ap q_s5 184 (by decide +kernel) rfl, q_ap q_s5 183 (by decide +kernel) rfl, q_ap q_s1 11 (by decide +kernel) rfl, ⟨by decide, by decide, by decide +kernel⟩⟩
theorem ok_X1_firstChanged : q_okS kX1_firstChanged 2 := ⟨q_ap q_s5 187 (by decide +kernel) rfl, q_ap q_s5 186 (by decide +kernel) rfl, q_ap q_s1 11 (by decide +kernel) rfl, ⟨by decide, by decide, by decide +kernel⟩⟩
theorem ok_X1_silenceDrawn : q_okV kX1_silenceDrawn 1 := ⟨q_ap q_s5 234 (by decide +kernel) rfl, q_ap q_s5 232 (by decide +kernel) rfl, q_ap q_s1 11 (by decide +kernel) rfl, q_ap q_s5 233 (by decide +kernel) rfl, ⟨by decide, by decide, by decide +kernel⟩⟩
theorem ok_X1_litAfter : q_okV kX1_litAfter 1 := ⟨q_ap q_s6 3 (by decide +kernel) rfl, q_ap q_s6 1 (by decide +kernel) rfl, q_ap q_s1 11 (by decide +kernel) rfl, q_ap q_s6 2 (by decide +kernel) rfl, ⟨by decide, by decide, by decide +kernel⟩⟩
theorem ok_X2_areSound : q_okV kX2_areSound 1 := ⟨q_ap q_s5 78 (by decide +kernel) rfl, q_ap q_s5 76 (by decide +kernel) rfl, q_ap q_s1 10 (by decide +kernel) rfl, q_ap q_s5 77 (by decide +kernel) rfl, ⟨by decide, by decide, by decide +kernel⟩⟩
theorem ok_X2_fit : q_okV kX2_fit 1 := ⟨q_ap q_s5 89 (by decide +kernel) rfl, q_ap q_s5 88 (by decide +kernel) rfl, q_ap q_s1 10 (by decide +kernel) rfl, q_mem 36 (by decide +kernel) rfl, ⟨by decide, by decide, by decide +kernel⟩⟩
theorem ok_X2_origins : q_okV kX2_origins 1 := ⟨q_ap q_s5 83 (by decide +kernel) rfl, q_ap q_s5 81 (by decide +kernel) rfl, q_ap q_s1 10 (by decide +kernel) rfl, q_ap q_s5 82 (by decide +kernel) rfl, ⟨by decide, by decide, by decide +kernel⟩⟩
theorem ok_X2_noteSizes : q_okV kX2_noteSizes 1 := ⟨q_ap q_s5 94 (by decide +kernel) rfl, q_ap q_s5 93 (by decide +kernel) rfl, q_ap q_s1 10 (by decide +kernel) rfl, q_mem 37 (by decide +kernel) rfl, ⟨by decide, by decide, by decide +kernel⟩⟩
theorem ok_X2_chooseQuestion : q_okV kX2_chooseQuestion 1 := ⟨q_ap q_s5 102 (by decide +kernel) rfl, q_ap q_s5 100 (by decide +kernel) rfl, q_ap q_s1 10 (by decide +kernel) rfl, q_ap q_s5 101 (by decide +kernel) rfl, ⟨by decide, by decide, by decide +kernel⟩⟩
theorem ok_X2_leftAtWorst : q_okV kX2_leftAtWorst 2 := ⟨q_ap q_s5 107 (by decide +kernel) rfl, q_ap q_s5 106 (by decide +kernel) rfl, q_ap q_s1 10 (by decide +kernel) rfl, q_mem 38 (by decide +kernel) rfl, ⟨by decide, by decide, by decide +kernel⟩⟩
theorem ok_X2_fittingLaws : q_okV kX2_fittingLaws 1 := ⟨q_ap q_s5 120 (by decide +kernel) rfl, q_ap q_s5 118 (by decide +kernel) rfl, q_ap q_s1 10 (by decide +kernel) rfl, q_ap q_s5 119 (by decide +kernel) rfl, ⟨by decide, by decide, by decide +kernel⟩⟩
theorem ok_X3_asNow : q_okV kX3_asNow 0 := ⟨q_ap q_s3 223 (by decide +kernel) rfl, q_ap q_s3 221 (by decide +kernel) rfl, q_ap q_s1 6 (by decide +kernel) rfl, q_ap q_s3 222 (by decide +kernel) rfl, ⟨by decide, by decide, by decide +kernel⟩⟩
theorem ok_X3_byLaw : q_okV kX3_byLaw 1 := ⟨q_ap q_s5 124 (by decide +kernel) rfl, q_ap q_s5 122 (by decide +kernel) rfl, q_ap q_s1 6 (by decide +kernel) rfl, q_ap q_s5 123 (by decide +kernel) rfl, ⟨by decide, by decide, by decide +kernel⟩⟩
theorem ok_X3_tellAlone : q_okV kX3_tellAlone 2 := ⟨q_ap q_s4 205 (by decide +kernel) rfl, q_ap q_s4 203 (by decide +kernel) rfl, q_ap q_s1 6 (by decide +kernel) rfl, q_ap q_s4 204 (by decide +kernel) rfl, ⟨by decide, by decide, by decide +kernel⟩⟩
theorem ok_X3_run : q_okV kX3_run 2 := ⟨q_ap q_s3 227 (by decide +kernel) rfl, q_ap q_s3 225 (by decide +kernel) rfl, q_ap q_s1 6 (by decide +kernel) rfl, q_ap q_s3 226 (by decide +kernel) rfl, ⟨by decide, by decide, by decide +kernel⟩⟩
theorem ok_X3_begin : q_okV kX3_begin 0 := ⟨q_ap q_s3 231 (by decide +kernel) rfl, q_ap q_s3 230 (by decide +kernel) rfl, q_ap q_s1 6 (by decide +kernel) rfl, q_mem 20 (by decide +kernel) rfl, ⟨by decide, by decide, by decide +kernel⟩⟩
theorem ok_X3_carry : q_okV kX3_carry 1 := ⟨q_ap q_s4 3 (by decide +kernel) rfl, q_ap q_s4 2 (by decide +kernel) rfl, q_ap q_s1 6 (by decide +kernel) rfl, q_mem 23 (by decide +kernel) rfl, ⟨by decide, by decide, by decide +kernel⟩⟩
theorem ok_X3_speaker : q_okV kX3_speaker 2 := ⟨q_ap q_s4 8 (by decide +kernel) rfl, q_ap q_s4 7 (by decide +kernel) rfl, q_ap q_s1 6 (by decide +kernel) rfl, q_mem 24 (by decide +kernel) rfl, ⟨by decide, by decide, by decide +kernel⟩⟩
theorem ok_X3_lightByActs : q_okV kX3_lightByActs 1 := ⟨q_ap q_s4 27 (by decide +kernel) rfl, q_ap q_s4 26 (by decide +kernel) rfl, q_ap q_s1 6 (by decide +kernel) rfl, q_mem 25 (by decide +kernel) rfl, ⟨by decide, by decide, by decide +kernel⟩⟩
theorem ok_X3_putOut : q_okV kX3_putOut 1 := ⟨q_ap q_s4 31 (by decide +kernel) rfl, q_ap q_s4 30 (by decide +kernel) rfl, q_ap q_s1 6 (by decide +kernel) rfl, q_mem 26 (by decide +kernel) rfl, ⟨by decide, by decide, by decide +kernel⟩⟩
theorem ok_X3_kindle : q_okV kX3_kindle 3 := ⟨q_ap q_s3 239 (by decide +kernel) rfl, q_ap q_s3 238 (by decide +kernel) rfl, q_ap q_s1 6 (by decide +kernel) rfl, q_mem 22 (by decide +kernel) rfl, ⟨by decide, by decide, by decide +kernel⟩⟩
theorem ok_X3_quench : q_okV kX3_quench 1 := ⟨q_ap q_s3 235 (by decide +kernel) rfl, q_ap q_s3 234 (by decide +kernel) rfl, q_ap q_s1 6 (by decide +kernel) rfl, q_mem 21 (by decide +kernel) rfl, ⟨by decide, by decide, by decide +kernel⟩⟩
theorem ok_X3_noteLit : q_okV kX3_noteLit 1 := ⟨q_ap q_s4 35 (by decide +kernel) rfl, q_ap q_s4 34 (by decide +kernel) rfl, q_ap q_s1 6 (by decide +kernel) rfl, q_mem 27 (by decide +kernel) rfl, ⟨by decide, by decide, by decide +kernel⟩⟩
theorem ok_X3_isLit : q_okV kX3_isLit 2 := ⟨q_ap q_s4 69 (by decide +kernel) rfl, q_ap q_s4 67 (by decide +kernel) rfl, q_ap q_s1 6 (by decide +kernel) rfl, q_ap q_s4 68 (by decide +kernel) rfl, ⟨by decide, by decide, by decide +kernel⟩⟩
theorem ok_X3_lettersSaid : q_okV kX3_lettersSaid 1 := ⟨q_ap q_s4 125 (by decide +kernel) rfl, q_ap q_s4 123 (by decide +kernel) rfl, q_ap q_s1 6 (by decide +kernel) rfl, q_ap q_s4 124 (by decide +kernel) rfl, ⟨by decide, by decide, by decide +kernel⟩⟩
theorem ok_X3_otherwise : q_okV kX3_otherwise 2 := ⟨q_ap q_s4 93 (by decide +kernel) rfl, q_ap q_s4 91 (by decide +kernel) rfl, q_ap q_s1 6 (by decide +kernel) rfl, q_ap q_s4 92 (by decide +kernel) rfl, ⟨by decide, by decide, by decide +kernel⟩⟩
theorem ok_X3_sayingSame : q_okV kX3_sayingSame 2 := ⟨q_ap q_s4 101 (by decide +kernel) rfl, q_ap q_s4 99 (by decide +kernel) rfl, q_ap q_s1 6 (by decide +kernel) rfl, q_ap q_s4 100 (by decide +kernel) rfl, ⟨by decide, by decide, by decide +kernel⟩⟩
theorem ok_X4_seek : q_okV kX4_seek 3 := ⟨q_ap q_s4 197 (by decide +kernel) rfl, q_ap q_s4 195 (by decide +kernel) rfl, q_ap q_s1 9 (by decide +kernel) rfl, q_ap q_s4 196 (by decide +kernel) rfl, ⟨by decide, by decide, by decide +kernel⟩⟩
theorem ok_X4_followTrail : q_okV kX4_followTrail 1 := ⟨q_ap q_s4 212 (by decide +kernel) rfl, q_ap q_s4 211 (by decide +kernel) rfl, q_ap q_s1 9 (by decide +kernel) rfl, q_mem 30 (by decide +kernel) rfl, ⟨by decide, by decide, by decide +kernel⟩⟩
theorem ok_X4_tryAll : q_okV kX4_tryAll 2 := ⟨q_ap q_s4 216 (by decide +kernel) rfl, q_ap q_s4 215 (by decide +kernel) rfl, q_ap q_s1 9 (by decide +kernel) rfl, q_mem 31 (by decide +kernel) rfl, ⟨by decide, by decide, by decide +kernel⟩⟩
theorem ok_X4_spelled : q_okS kX4_spelled 2 := ⟨q_ap q_s4 200 (by decide +kernel) rfl, q_ap q_s4 199 (by decide +kernel) rfl, q_ap q_s1 9 (by decide +kernel) rfl, ⟨by decide, by decide, by decide +kernel⟩⟩
theorem ok_X4_carried : q_okV kX4_carried 1 := ⟨q_ap q_s4 220 (by decide +kernel) rfl, q_ap q_s4 219 (by decide +kernel) rfl, q_ap q_s1 9 (by decide +kernel) rfl, q_mem 32 (by decide +kernel) rfl, ⟨by decide, by decide, by decide +kernel⟩⟩
theorem ok_X5_clear : q_okV kX5_clear 0 := ⟨q_ap q_s3 7 (by decide +kernel) rfl, q_ap q_s3 5 (by decide +kernel) rfl, q_ap q_s1 3 (by decide +kernel) rfl, q_ap q_s3 6 (by decide +kernel) rfl, ⟨by decide, by decide, by decide +kernel⟩⟩
theorem ok_X5_take : q_okV kX5_take 1 := ⟨q_ap q_s3 161 (by decide +kernel) rfl, q_ap q_s3 159 (by decide +kernel) rfl, q_ap q_s1 3 (by decide +kernel) rfl, q_ap q_s3 160 (by decide +kernel) rfl, ⟨by decide, by decide, by decide +kernel⟩⟩
theorem ok_X5_addPew : q_okV kX5_addPew 3 := ⟨q_ap q_s3 118 (by decide +kernel) rfl, q_ap q_s3 116 (by decide +kernel) rfl, q_ap q_s1 3 (by decide +kernel) rfl, q_ap q_s3 117 (by decide +kernel) rfl, ⟨by decide, by decide, by decide +kernel⟩⟩
theorem ok_X5_setRule : q_okV kX5_setRule 4 := ⟨q_ap q_s3 122 (by decide +kernel) rfl, q_ap q_s3 120 (by decide +kernel) rfl, q_ap q_s1 3 (by decide +kernel) rfl, q_ap q_s3 121 (by decide +kernel) rfl, ⟨by decide, by decide, by decide +kernel⟩⟩
theorem ok_X5_addAisle : q_okV kX5_addAisle 2 := ⟨q_ap q_s3 135 (by decide +kernel) rfl, q_ap q_s3 133 (by decide +kernel) rfl, q_ap q_s1 3 (by decide +kernel) rfl, q_ap q_s3 134 (by decide +kernel) rfl, ⟨by decide, by decide, by decide +kernel⟩⟩
theorem ok_X5_addLight : q_okV kX5_addLight 2 := ⟨q_ap q_s3 147 (by decide +kernel) rfl, q_ap q_s3 145 (by decide +kernel) rfl, q_ap q_s1 3 (by decide +kernel) rfl, q_ap q_s3 146 (by decide +kernel) rfl, ⟨by decide, by decide, by decide +kernel⟩⟩
theorem ok_X5_addDraught : q_okV kX5_addDraught 2 := ⟨q_ap q_s3 157 (by decide +kernel) rfl, q_ap q_s3 155 (by decide +kernel) rfl, q_ap q_s1 3 (by decide +kernel) rfl, q_ap q_s3 156 (by decide +kernel) rfl, ⟨by decide, by decide, by decide +kernel⟩⟩
theorem ok_X5_allPews : q_okV kX5_allPews 0 := ⟨q_ap q_s4 81 (by decide +kernel) rfl, q_ap q_s4 79 (by decide +kernel) rfl, q_ap q_s1 3 (by decide +kernel) rfl, q_ap q_s4 80 (by decide +kernel) rfl, ⟨by decide, by decide, by decide +kernel⟩⟩
theorem ok_X5_nearAny : q_okV kX5_nearAny 1 := ⟨q_ap q_s3 193 (by decide +kernel) rfl, q_ap q_s3 191 (by decide +kernel) rfl, q_ap q_s1 3 (by decide +kernel) rfl, q_ap q_s3 192 (by decide +kernel) rfl, ⟨by decide, by decide, by decide +kernel⟩⟩
theorem ok_X5_heardBy : q_okV kX5_heardBy 2 := ⟨q_ap q_s4 15 (by decide +kernel) rfl, q_ap q_s4 13 (by decide +kernel) rfl, q_ap q_s1 3 (by decide +kernel) rfl, q_ap q_s4 14 (by decide +kernel) rfl, ⟨by decide, by decide, by decide +kernel⟩⟩
theorem ok_X6_read : q_okV kX6_read 1 := ⟨q_ap q_s3 3 (by decide +kernel) rfl, q_ap q_s3 1 (by decide +kernel) rfl, q_ap q_s1 2 (by decide +kernel) rfl, q_ap q_s3 2 (by decide +kernel) rfl, ⟨by decide, by decide, by decide +kernel⟩⟩
theorem ok_X6_readLine : q_okV kX6_readLine 0 := ⟨q_ap q_s3 24 (by decide +kernel) rfl, q_ap q_s3 23 (by decide +kernel) rfl, q_ap q_s1 2 (by decide +kernel) rfl, q_mem 2 (by decide +kernel) rfl, ⟨by decide, by decide, by decide +kernel⟩⟩
theorem ok_X6_readNight : q_okV kX6_readNight 0 := ⟨q_ap q_s3 28 (by decide +kernel) rfl, q_ap q_s3 27 (by decide +kernel) rfl, q_ap q_s1 2 (by decide +kernel) rfl, q_mem 3 (by decide +kernel) rfl, ⟨by decide, by decide, by decide +kernel⟩⟩
theorem ok_X6_readPew : q_okV kX6_readPew 0 := ⟨q_ap q_s3 101 (by decide +kernel) rfl, q_ap q_s3 100 (by decide +kernel) rfl, q_ap q_s1 2 (by decide +kernel) rfl, q_mem 8 (by decide +kernel) rfl, ⟨by decide, by decide, by decide +kernel⟩⟩
theorem ok_X6_ruleWord : q_okV kX6_ruleWord 0 := ⟨q_ap q_s3 109 (by decide +kernel) rfl, q_ap q_s3 108 (by decide +kernel) rfl, q_ap q_s1 2 (by decide +kernel) rfl, q_mem 10 (by decide +kernel) rfl, ⟨by decide, by decide, by decide +kernel⟩⟩
theorem ok_X6_readAisle : q_okV kX6_readAisle 0 := ⟨q_ap q_s3 127 (by decide +kernel) rfl, q_ap q_s3 126 (by decide +kernel) rfl, q_ap q_s1 2 (by decide +kernel) rfl, q_mem 11 (by decide +kernel) rfl, ⟨by decide, by decide, by decide +kernel⟩⟩
theorem ok_X6_areJoined : q_okV kX6_areJoined 1 := ⟨q_ap q_s3 131 (by decide +kernel) rfl, q_ap q_s3 130 (by decide +kernel) rfl, q_ap q_s1 2 (by decide +kernel) rfl, q_mem 12 (by decide +kernel) rfl, ⟨by decide, by decide, by decide +kernel⟩⟩
theorem ok_X6_readLight : q_okV kX6_readLight 0 := ⟨q_ap q_s3 140 (by decide +kernel) rfl, q_ap q_s3 139 (by decide +kernel) rfl, q_ap q_s1 2 (by decide +kernel) rfl, q_mem 13 (by decide +kernel) rfl, ⟨by decide, by decide, by decide +kernel⟩⟩
theorem ok_X6_readDraught : q_okV kX6_readDraught 0 := ⟨q_ap q_s3 152 (by decide +kernel) rfl, q_ap q_s3 151 (by decide +kernel) rfl, q_ap q_s1 2 (by decide +kernel) rfl, q_mem 14 (by decide +kernel) rfl, ⟨by decide, by decide, by decide +kernel⟩⟩
theorem ok_X6_refuseMoreThan : q_okV kX6_refuseMoreThan 2 := ⟨q_ap q_s3 105 (by decide +kernel) rfl, q_ap q_s3 104 (by decide +kernel) rfl, q_ap q_s1 2 (by decide +kernel) rfl, q_mem 9 (by decide +kernel) rfl, ⟨by decide, by decide, by decide +kernel⟩⟩
theorem ok_X6_needWord : q_okV kX6_needWord 1 := ⟨q_ap q_s3 33 (by decide +kernel) rfl, q_ap q_s3 32 (by decide +kernel) rfl, q_ap q_s1 2 (by decide +kernel) rfl, q_mem 4 (by decide +kernel) rfl, ⟨by decide, by decide, by decide +kernel⟩⟩
theorem ok_X6_needNumber : q_okV kX6_needNumber 2 := ⟨q_ap q_s3 94 (by decide +kernel) rfl, q_ap q_s3 93 (by decide +kernel) rfl, q_ap q_s1 2 (by decide +kernel) rfl, q_mem 7 (by decide +kernel) rfl, ⟨by decide, by decide, by decide +kernel⟩⟩
theorem ok_X6_fail : q_okV kX6_fail 1 := ⟨q_ap q_s3 89 (by decide +kernel) rfl, q_ap q_s3 88 (by decide +kernel) rfl, q_ap q_s1 2 (by decide +kernel) rfl, q_mem 6 (by decide +kernel) rfl, ⟨by decide, by decide, by decide +kernel⟩⟩
theorem ok_X6_advance : q_okV kX6_advance 0 := ⟨q_ap q_s3 11 (by decide +kernel) rfl, q_ap q_s3 10 (by decide +kernel) rfl, q_ap q_s1 2 (by decide +kernel) rfl, q_mem 1 (by decide +kernel) rfl, ⟨by decide, by decide, by decide +kernel⟩⟩
theorem ok_X6_isLowerCase : q_okS kX6_isLowerCase 1 := ⟨q_ap q_s3 14 (by decide +kernel) rfl, q_ap q_s3 13 (by decide +kernel) rfl, q_ap q_s1 2 (by decide +kernel) rfl, ⟨by decide, by decide, by decide +kernel⟩⟩
theorem ok_X6_isDigit : q_okS kX6_isDigit 1 := ⟨q_ap q_s3 17 (by decide +kernel) rfl, q_ap q_s3 16 (by decide +kernel) rfl, q_ap q_s1 2 (by decide +kernel) rfl, ⟨by decide, by decide, by decide +kernel⟩⟩
theorem ok_X6_isWord : q_okV kX6_isWord 1 := ⟨q_ap q_s3 37 (by decide +kernel) rfl, q_ap q_s3 36 (by decide +kernel) rfl, q_ap q_s1 2 (by decide +kernel) rfl, q_mem 5 (by decide +kernel) rfl, ⟨by decide, by decide, by decide +kernel⟩⟩
theorem ok_X7_letterAt : q_okS kX7_letterAt 2 := ⟨q_ap q_s3 203 (by decide +kernel) rfl, q_ap q_s3 202 (by decide +kernel) rfl, q_ap q_s1 18 (by decide +kernel) rfl, ⟨by decide, by decide, by decide +kernel⟩⟩
theorem ok_X7_size : q_okS kX7_size 1 := ⟨q_ap q_s4 11 (by decide +kernel) rfl, q_ap q_s4 10 (by decide +kernel) rfl, q_ap q_s1 18 (by decide +kernel) rfl, ⟨by decide, by decide, by decide +kernel⟩⟩
theorem ok_X7_with : q_okS kX7_with 3 := ⟨q_ap q_s3 143 (by decide +kernel) rfl, q_ap q_s3 142 (by decide +kernel) rfl, q_ap q_s1 18 (by decide +kernel) rfl, ⟨by decide, by decide, by decide +kernel⟩⟩
theorem ok_X7_reversed : q_okS kX7_reversed 1 := ⟨q_ap q_s4 19 (by decide +kernel) rfl, q_ap q_s4 18 (by decide +kernel) rfl, q_ap q_s1 18 (by decide +kernel) rfl, ⟨by decide, by decide, by decide +kernel⟩⟩
theorem ok_X7_replaced : q_okS kX7_replaced 3 := ⟨q_ap q_s4 23 (by decide +kernel) rfl, q_ap q_s4 22 (by decide +kernel) rfl, q_ap q_s1 18 (by decide +kernel) rfl, ⟨by decide, by decide, by decide +kernel⟩⟩
theorem ok_X8_forget : q_okV kX8_forget 0 := ⟨q_ap q_s2 85 (by decide +kernel) rfl, q_ap q_s2 83 (by decide +kernel) rfl, q_ap q_s1 8 (by decide +kernel) rfl, q_ap q_s2 84 (by decide +kernel) rfl, ⟨by decide, by decide, by decide +kernel⟩⟩
theorem ok_X8_worthOf : q_okV kX8_worthOf 1 := ⟨q_ap q_s4 237 (by decide +kernel) rfl, q_ap q_s4 235 (by decide +kernel) rfl, q_ap q_s1 8 (by decide +kernel) rfl, q_ap q_s4 236 (by decide +kernel) rfl, ⟨by decide, by decide, by decide +kernel⟩⟩
theorem ok_X8_gainInAllOrders : q_okV kX8_gainInAllOrders 1 := ⟨q_ap q_s5 14 (by decide +kernel) rfl, q_ap q_s5 12 (by decide +kernel) rfl, q_ap q_s1 8 (by decide +kernel) rfl, q_ap q_s5 13 (by decide +kernel) rfl, ⟨by decide, by decide, by decide +kernel⟩⟩
theorem ok_X8_factorial : q_okS kX8_factorial 1 := ⟨q_ap q_s5 19 (by decide +kernel) rfl, q_ap q_s5 18 (by decide +kernel) rfl, q_ap q_s1 8 (by decide +kernel) rfl, ⟨by decide, by decide, by decide +kernel⟩⟩
theorem ok_X8_leastLightingAll : q_okV kX8_leastLightingAll 0 := ⟨q_ap q_s5 35 (by decide +kernel) rfl, q_ap q_s5 33 (by decide +kernel) rfl, q_ap q_s1 8 (by decide +kernel) rfl, q_ap q_s5 34 (by decide +kernel) rfl, ⟨by decide, by decide, by decide +kernel⟩⟩
theorem ok_X9_noSlot : q_okS kX9_noSlot 1 := ⟨q_ap q_s4 166 (by decide +kernel) rfl, q_ap q_s4 165 (by decide +kernel) rfl, q_ap q_s1 5 (by decide +kernel) rfl, ⟨by decide, by decide, by decide +kernel⟩⟩
theorem ok_X9_hasRow : q_okV kX9_hasRow 1 := ⟨q_ap q_s4 170 (by decide +kernel) rfl, q_ap q_s4 168 (by decide +kernel) rfl, q_ap q_s1 5 (by decide +kernel) rfl, q_ap q_s4 169 (by decide +kernel) rfl, ⟨by decide, by decide, by decide +kernel⟩⟩
theorem ok_X9_rowsHeld : q_okV kX9_rowsHeld 0 := ⟨q_ap q_s6 20 (by decide +kernel) rfl, q_ap q_s6 18 (by decide +kernel) rfl, q_ap q_s1 5 (by decide +kernel) rfl, q_ap q_s6 19 (by decide +kernel) rfl, ⟨by decide, by decide, by decide +kernel⟩⟩
theorem ok_X9_begin : q_okV kX9_begin 3 := ⟨q_ap q_s6 42 (by decide +kernel) rfl, q_ap q_s6 40 (by decide +kernel) rfl, q_ap q_s1 5 (by decide +kernel) rfl, q_ap q_s6 41 (by decide +kernel) rfl, ⟨by decide, by decide, by decide +kernel⟩⟩
theorem ok_X9_areBeyond : q_okV kX9_areBeyond 3 := ⟨q_ap q_s6 50 (by decide +kernel) rfl, q_ap q_s6 48 (by decide +kernel) rfl, q_ap q_s1 5 (by decide +kernel) rfl, q_ap q_s6 49 (by decide +kernel) rfl, ⟨by decide, by decide, by decide +kernel⟩⟩
theorem ok_X9_put : q_okV kX9_put 3 := ⟨q_ap q_s6 54 (by decide +kernel) rfl, q_ap q_s6 52 (by decide +kernel) rfl, q_ap q_s1 5 (by decide +kernel) rfl, q_ap q_s6 53 (by decide +kernel) rfl, ⟨by decide, by decide, by decide +kernel⟩⟩
theorem ok_X9_saying : q_okV kX9_saying 1 := ⟨q_ap q_s4 174 (by decide +kernel) rfl, q_ap q_s4 172 (by decide +kernel) rfl, q_ap q_s1 5 (by decide +kernel) rfl, q_ap q_s4 173 (by decide +kernel) rfl, ⟨by decide, by decide, by decide +kernel⟩⟩
theorem ok_X10_strongestGust : q_okV kX10_strongestGust 2 := ⟨q_ap q_s5 52 (by decide +kernel) rfl, q_ap q_s5 50 (by decide +kernel) rfl, q_ap q_s1 7 (by decide +kernel) rfl, q_ap q_s5 51 (by decide +kernel) rfl, ⟨by decide, by decide, by decide +kernel⟩⟩
theorem ok_X10_heaviestDraught : q_okV kX10_heaviestDraught 1 := ⟨q_ap q_s5 62 (by decide +kernel) rfl, q_ap q_s5 60 (by decide +kernel) rfl, q_ap q_s1 7 (by decide +kernel) rfl, q_ap q_s5 61 (by decide +kernel) rfl, ⟨by decide, by decide, by decide +kernel⟩⟩
theorem ok_X10_chooseOpening : q_okV kX10_chooseOpening 0 := ⟨q_ap q_s5 141 (by decide +kernel) rfl, q_ap q_s5 139 (by decide +kernel) rfl, q_ap q_s1 7 (by decide +kernel) rfl, q_ap q_s5 140 (by decide +kernel) rfl, ⟨by decide, by decide, by decide +kernel⟩⟩
theorem ok_X10_chooseReply : q_okV kX10_chooseReply 1 := ⟨q_ap q_s5 145 (by decide +kernel) rfl, q_ap q_s5 143 (by decide +kernel) rfl, q_ap q_s1 7 (by decide +kernel) rfl, q_ap q_s5 144 (by decide +kernel) rfl, ⟨by decide, by decide, by decide +kernel⟩⟩
theorem ok_X10_gain : q_okV kX10_gain 4 := ⟨q_ap q_s5 162 (by decide +kernel) rfl, q_ap q_s5 160 (by decide +kernel) rfl, q_ap q_s1 7 (by decide +kernel) rfl, q_ap q_s5 161 (by decide +kernel) rfl, ⟨by decide, by decide, by decide +kernel⟩⟩
theorem ok_X11_feed : q_okV kX11_feed 5 := ⟨q_ap q_s2 227 (by decide +kernel) rfl, q_ap q_s2 225 (by decide +kernel) rfl, q_ap q_s1 1 (by decide +kernel) rfl, q_ap q_s2 226 (by decide +kernel) rfl, ⟨by decide, by decide, by decide +kernel⟩⟩
theorem ok_X11_putBytes : q_okV kX11_putBytes 1 := ⟨q_ap q_s2 231 (by decide +kernel) rfl, q_ap q_s2 230 (by decide +kernel) rfl, q_ap q_s1 1 (by decide +kernel) rfl, q_mem 0 (by decide +kernel) rfl, ⟨by decide, by decide, by decide +kernel⟩⟩
theorem ok_X11_end : q_okV kX11_end 1 := ⟨q_ap q_s2 235 (by decide +kernel) rfl, q_ap q_s2 233 (by decide +kernel) rfl, q_ap q_s1 1 (by decide +kernel) rfl, q_ap q_s2 234 (by decide +kernel) rfl, ⟨by decide, by decide, by decide +kernel⟩⟩
theorem ok_X11_night : q_okV kX11_night 0 := ⟨q_ap q_s2 239 (by decide +kernel) rfl, q_ap q_s2 237 (by decide +kernel) rfl, q_ap q_s1 1 (by decide +kernel) rfl, q_ap q_s2 238 (by decide +kernel) rfl, ⟨by decide, by decide, by decide +kernel⟩⟩
theorem ok_X11_fault : q_okV kX11_fault 1 := ⟨q_ap q_s3 173 (by decide +kernel) rfl, q_ap q_s3 171 (by decide +kernel) rfl, q_ap q_s1 1 (by decide +kernel) rfl, q_ap q_s3 172 (by decide +kernel) rfl, ⟨by decide, by decide, by decide +kernel⟩⟩
theorem ok_X11_pew : q_okV kX11_pew 2 := ⟨q_ap q_s3 177 (by decide +kernel) rfl, q_ap q_s3 175 (by decide +kernel) rfl, q_ap q_s1 1 (by decide +kernel) rfl, q_ap q_s3 176 (by decide +kernel) rfl, ⟨by decide, by decide, by decide +kernel⟩⟩
theorem ok_X11_near : q_okV kX11_near 1 := ⟨q_ap q_s3 185 (by decide +kernel) rfl, q_ap q_s3 183 (by decide +kernel) rfl, q_ap q_s1 1 (by decide +kernel) rfl, q_ap q_s3 184 (by decide +kernel) rfl, ⟨by decide, by decide, by decide +kernel⟩⟩
theorem ok_X11_far : q_okV kX11_far 2 := ⟨q_ap q_s3 189 (by decide +kernel) rfl, q_ap q_s3 187 (by decide +kernel) rfl, q_ap q_s1 1 (by decide +kernel) rfl, q_ap q_s3 188 (by decide +kernel) rfl, ⟨by decide, by decide, by decide +kernel⟩⟩
theorem ok_X11_told : q_okV kX11_told 2 := ⟨q_ap q_s3 197 (by decide +kernel) rfl, q_ap q_s3 195 (by decide +kernel) rfl, q_ap q_s1 1 (by decide +kernel) rfl, q_ap q_s3 196 (by decide +kernel) rfl, ⟨by decide, by decide, by decide +kernel⟩⟩
theorem ok_X11_lit : q_okV kX11_lit 1 := ⟨q_ap q_s3 207 (by decide +kernel) rfl, q_ap q_s3 205 (by decide +kernel) rfl, q_ap q_s1 1 (by decide +kernel) rfl, q_ap q_s3 206 (by decide +kernel) rfl, ⟨by decide, by decide, by decide +kernel⟩⟩
theorem ok_X11_letters : q_okV kX11_letters 2 := ⟨q_ap q_s4 45 (by decide +kernel) rfl, q_ap q_s4 43 (by decide +kernel) rfl, q_ap q_s1 1 (by decide +kernel) rfl, q_ap q_s4 44 (by decide +kernel) rfl, ⟨by decide, by decide, by decide +kernel⟩⟩
theorem ok_X11_says : q_okV kX11_says 3 := ⟨q_ap q_s4 53 (by decide +kernel) rfl, q_ap q_s4 51 (by decide +kernel) rfl, q_ap q_s1 1 (by decide +kernel) rfl, q_ap q_s4 52 (by decide +kernel) rfl, ⟨by decide, by decide, by decide +kernel⟩⟩
theorem ok_X11_from : q_okV kX11_from 2 := ⟨q_ap q_s4 57 (by decide +kernel) rfl, q_ap q_s4 55 (by decide +kernel) rfl, q_ap q_s1 1 (by decide +kernel) rfl, q_ap q_s4 56 (by decide +kernel) rfl, ⟨by decide, by decide, by decide +kernel⟩⟩
theorem ok_X11_since : q_okV kX11_since 2 := ⟨q_ap q_s4 61 (by decide +kernel) rfl, q_ap q_s4 59 (by decide +kernel) rfl, q_ap q_s1 1 (by decide +kernel) rfl, q_ap q_s4 60 (by decide +kernel) rfl, ⟨by decide, by decide, by decide +kernel⟩⟩
theorem ok_X11_when : q_okV kX11_when 1 := ⟨q_ap q_s4 65 (by decide +kernel) rfl, q_ap q_s4 63 (by decide +kernel) rfl, q_ap q_s1 1 (by decide +kernel) rfl, q_ap q_s4 64 (by decide +kernel) rfl, ⟨by decide, by decide, by decide +kernel⟩⟩
theorem ok_X11_often : q_okV kX11_often 1 := ⟨q_ap q_s4 73 (by decide +kernel) rfl, q_ap q_s4 71 (by decide +kernel) rfl, q_ap q_s1 1 (by decide +kernel) rfl, q_ap q_s4 72 (by decide +kernel) rfl, ⟨by decide, by decide, by decide +kernel⟩⟩
theorem ok_X11_full : q_okV kX11_full 0 := ⟨q_ap q_s4 77 (by decide +kernel) rfl, q_ap q_s4 75 (by decide +kernel) rfl, q_ap q_s1 1 (by decide +kernel) rfl, q_ap q_s4 76 (by decide +kernel) rfl, ⟨by decide, by decide, by decide +kernel⟩⟩
theorem ok_X11_dark : q_okV kX11_dark 0 := ⟨q_ap q_s4 85 (by decide +kernel) rfl, q_ap q_s4 83 (by decide +kernel) rfl, q_ap q_s1 1 (by decide +kernel) rfl, q_ap q_s4 84 (by decide +kernel) rfl, ⟨by decide, by decide, by decide +kernel⟩⟩
theorem ok_X11_still : q_okV kX11_still 0 := ⟨q_ap q_s4 89 (by decide +kernel) rfl, q_ap q_s4 87 (by decide +kernel) rfl, q_ap q_s1 1 (by decide +kernel) rfl, q_ap q_s4 88 (by decide +kernel) rfl, ⟨by decide, by decide, by decide +kernel⟩⟩
theorem ok_X11_sorts : q_okV kX11_sorts 1 := ⟨q_ap q_s4 97 (by decide +kernel) rfl, q_ap q_s4 95 (by decide +kernel) rfl, q_ap q_s1 1 (by decide +kernel) rfl, q_ap q_s4 96 (by decide +kernel) rfl, ⟨by decide, by decide, by decide +kernel⟩⟩
theorem ok_X11_alike : q_okV kX11_alike 2 := ⟨q_ap q_s4 105 (by decide +kernel) rfl, q_ap q_s4 103 (by decide +kernel) rfl, q_ap q_s1 1 (by decide +kernel) rfl, q_ap q_s4 104 (by decide +kernel) rfl, ⟨by decide, by decide, by decide +kernel⟩⟩
theorem ok_X11_depth : q_okV kX11_depth 2 := ⟨q_ap q_s4 109 (by decide +kernel) rfl, q_ap q_s4 107 (by decide +kernel) rfl, q_ap q_s1 1 (by decide +kernel) rfl, q_ap q_s4 108 (by decide +kernel) rfl, ⟨by decide, by decide, by decide +kernel⟩⟩
theorem ok_X11_longest : q_okV kX11_longest 1 := ⟨q_ap q_s4 113 (by decide +kernel) rfl, q_ap q_s4 111 (by decide +kernel) rfl, q_ap q_s1 1 (by decide +kernel) rfl, q_ap q_s4 112 (by decide +kernel) rfl, ⟨by decide, by decide, by decide +kernel⟩⟩
theorem ok_X11_shortest : q_okV kX11_shortest 1 := ⟨q_ap q_s4 117 (by decide +kernel) rfl, q_ap q_s4 115 (by decide +kernel) rfl, q_ap q_s1 1 (by decide +kernel) rfl, q_ap q_s4 116 (by decide +kernel) rfl, ⟨by decide, by decide, by decide +kernel⟩⟩
theorem ok_X11_words : q_okV kX11_words 1 := ⟨q_ap q_s4 121 (by decide +kernel) rfl, q_ap q_s4 119 (by decide +kernel) rfl, q_ap q_s1 1 (by decide +kernel) rfl, q_ap q_s4 120 (by decide +kernel) rfl, ⟨by decide, by decide, by decide +kernel⟩⟩
theorem ok_X11_turned : q_okV kX11_turned 1 := ⟨q_ap q_s4 129 (by decide +kernel) rfl, q_ap q_s4 127 (by decide +kernel) rfl, q_ap q_s1 1 (by decide +kernel) rfl, q_ap q_s4 128 (by decide +kernel) rfl, ⟨by decide, by decide, by decide +kernel⟩⟩
theorem ok_X11_spoken : q_okV kX11_spoken 2 := ⟨q_ap q_s4 133 (by decide +kernel) rfl, q_ap q_s4 131 (by decide +kernel) rfl, q_ap q_s1 1 (by decide +kernel) rfl, q_ap q_s4 132 (by decide +kernel) rfl, ⟨by decide, by decide, by decide +kernel⟩⟩
theorem ok_X11_taught : q_okV kX11_taught 1 := ⟨q_ap q_s4 140 (by decide +kernel) rfl, q_ap q_s4 138 (by decide +kernel) rfl, q_ap q_s1 1 (by decide +kernel) rfl, q_ap q_s4 139 (by decide +kernel) rfl, ⟨by decide, by decide, by decide +kernel⟩⟩
theorem ok_X11_deepest : q_okV kX11_deepest 0 := ⟨q_ap q_s4 144 (by decide +kernel) rfl, q_ap q_s4 142 (by decide +kernel) rfl, q_ap q_s1 1 (by decide +kernel) rfl, q_ap q_s4 143 (by decide +kernel) rfl, ⟨by decide, by decide, by decide +kernel⟩⟩
theorem ok_X11_fresh : q_okV kX11_fresh 1 := ⟨q_ap q_s4 151 (by decide +kernel) rfl, q_ap q_s4 149 (by decide +kernel) rfl, q_ap q_s1 1 (by decide +kernel) rfl, q_ap q_s4 150 (by decide +kernel) rfl, ⟨by decide, by decide, by decide +kernel⟩⟩
theorem ok_X11_gone : q_okV kX11_gone 1 := ⟨q_ap q_s4 155 (by decide +kernel) rfl, q_ap q_s4 153 (by decide +kernel) rfl, q_ap q_s1 1 (by decide +kernel) rfl, q_ap q_s4 154 (by decide +kernel) rfl, ⟨by decide, by decide, by decide +kernel⟩⟩
theorem ok_X11_hears : q_okV kX11_hears 3 := ⟨q_ap q_s4 159 (by decide +kernel) rfl, q_ap q_s4 157 (by decide +kernel) rfl, q_ap q_s1 1 (by decide +kernel) rfl, q_ap q_s4 158 (by decide +kernel) rfl, ⟨by decide, by decide, by decide +kernel⟩⟩
theorem ok_X11_heard : q_okV kX11_heard 4 := ⟨q_ap q_s4 185 (by decide +kernel) rfl, q_ap q_s4 183 (by decide +kernel) rfl, q_ap q_s1 1 (by decide +kernel) rfl, q_ap q_s4 184 (by decide +kernel) rfl, ⟨by decide, by decide, by decide +kernel⟩⟩
theorem ok_X11_round : q_okV kX11_round 3 := ⟨q_ap q_s4 189 (by decide +kernel) rfl, q_ap q_s4 187 (by decide +kernel) rfl, q_ap q_s1 1 (by decide +kernel) rfl, q_ap q_s4 188 (by decide +kernel) rfl, ⟨by decide, by decide, by decide +kernel⟩⟩
theorem ok_X11_first : q_okV kX11_first 3 := ⟨q_ap q_s4 193 (by decide +kernel) rfl, q_ap q_s4 191 (by decide +kernel) rfl, q_ap q_s1 1 (by decide +kernel) rfl, q_ap q_s4 192 (by decide +kernel) rfl, ⟨by decide, by decide, by decide +kernel⟩⟩
theorem ok_X11_letter : q_okV kX11_letter 4 := ⟨q_ap q_s4 225 (by decide +kernel) rfl, q_ap q_s4 223 (by decide +kernel) rfl, q_ap q_s1 1 (by decide +kernel) rfl, q_ap q_s4 224 (by decide +kernel) rfl, ⟨by decide, by decide, by decide +kernel⟩⟩
theorem ok_X11_ways : q_okV kX11_ways 3 := ⟨q_ap q_s4 229 (by decide +kernel) rfl, q_ap q_s4 227 (by decide +kernel) rfl, q_ap q_s1 1 (by decide +kernel) rfl, q_ap q_s4 228 (by decide +kernel) rfl, ⟨by decide, by decide, by decide +kernel⟩⟩
theorem ok_X11_hearingRefusal : q_okV kX11_hearingRefusal 3 := ⟨q_ap q_s4 163 (by decide +kernel) rfl, q_ap q_s4 162 (by decide +kernel) rfl, q_ap q_s1 1 (by decide +kernel) rfl, q_mem 28 (by decide +kernel) rfl, ⟨by decide, by decide, by decide +kernel⟩⟩
theorem ok_X11_heardTwice : q_okV kX11_heardTwice 3 := ⟨q_ap q_s4 180 (by decide +kernel) rfl, q_ap q_s4 179 (by decide +kernel) rfl, q_ap q_s1 1 (by decide +kernel) rfl, q_mem 29 (by decide +kernel) rfl, ⟨by decide, by decide, by decide +kernel⟩⟩
theorem ok_X11_best : q_okV kX11_best 0 := ⟨q_ap q_s4 233 (by decide +kernel) rfl, q_ap q_s4 231 (by decide +kernel) rfl, q_ap q_s1 1 (by decide +kernel) rfl, q_ap q_s4 232 (by decide +kernel) rfl, ⟨by decide, by decide, by decide +kernel⟩⟩
theorem ok_X11_worth : q_okV kX11_worth 1 := ⟨q_ap q_s5 3 (by decide +kernel) rfl, q_ap q_s5 1 (by decide +kernel) rfl, q_ap q_s1 1 (by decide +kernel) rfl, q_ap q_s5 2 (by decide +kernel) rfl, ⟨by decide, by decide, by decide +kernel⟩⟩
theorem ok_X11_share : q_okV kX11_share 2 := ⟨q_ap q_s5 7 (by decide +kernel) rfl, q_ap q_s5 5 (by decide +kernel) rfl, q_ap q_s1 1 (by decide +kernel) rfl, q_ap q_s5 6 (by decide +kernel) rfl, ⟨by decide, by decide, by decide +kernel⟩⟩
theorem ok_X11_fewest : q_okV kX11_fewest 0 := ⟨q_ap q_s5 31 (by decide +kernel) rfl, q_ap q_s5 29 (by decide +kernel) rfl, q_ap q_s1 1 (by decide +kernel) rfl, q_ap q_s5 30 (by decide +kernel) rfl, ⟨by decide, by decide, by decide +kernel⟩⟩
theorem ok_X11_sets : q_okV kX11_sets 0 := ⟨q_ap q_s5 40 (by decide +kernel) rfl, q_ap q_s5 38 (by decide +kernel) rfl, q_ap q_s1 1 (by decide +kernel) rfl, q_ap q_s5 39 (by decide +kernel) rfl, ⟨by decide, by decide, by decide +kernel⟩⟩
theorem ok_X11_gust : q_okV kX11_gust 1 := ⟨q_ap q_s5 44 (by decide +kernel) rfl, q_ap q_s5 42 (by decide +kernel) rfl, q_ap q_s1 1 (by decide +kernel) rfl, q_ap q_s5 43 (by decide +kernel) rfl, ⟨by decide, by decide, by decide +kernel⟩⟩
theorem ok_X11_guard : q_okV kX11_guard 0 := ⟨q_ap q_s5 58 (by decide +kernel) rfl, q_ap q_s5 56 (by decide +kernel) rfl, q_ap q_s1 1 (by decide +kernel) rfl, q_ap q_s5 57 (by decide +kernel) rfl, ⟨by decide, by decide, by decide +kernel⟩⟩
theorem ok_X11_whom : q_okV kX11_whom 1 := ⟨q_ap q_s5 66 (by decide +kernel) rfl, q_ap q_s5 64 (by decide +kernel) rfl, q_ap q_s1 1 (by decide +kernel) rfl, q_ap q_s5 65 (by decide +kernel) rfl, ⟨by decide, by decide, by decide +kernel⟩⟩
theorem ok_X11_ask : q_okV kX11_ask 1 := ⟨q_ap q_s5 98 (by decide +kernel) rfl, q_ap q_s5 96 (by decide +kernel) rfl, q_ap q_s1 1 (by decide +kernel) rfl, q_ap q_s5 97 (by decide +kernel) rfl, ⟨by decide, by decide, by decide +kernel⟩⟩
theorem ok_X11_leaves : q_okV kX11_leaves 1 := ⟨q_ap q_s5 112 (by decide +kernel) rfl, q_ap q_s5 110 (by decide +kernel) rfl, q_ap q_s1 1 (by decide +kernel) rfl, q_ap q_s5 111 (by decide +kernel) rfl, ⟨by decide, by decide, by decide +kernel⟩⟩
theorem ok_X11_laws : q_okV kX11_laws 1 := ⟨q_ap q_s5 116 (by decide +kernel) rfl, q_ap q_s5 114 (by decide +kernel) rfl, q_ap q_s1 1 (by decide +kernel) rfl, q_ap q_s5 115 (by decide +kernel) rfl, ⟨by decide, by decide, by decide +kernel⟩⟩
theorem ok_X11_originRefusal : q_okV kX11_originRefusal 1 := ⟨q_ap q_s5 70 (by decide +kernel) rfl, q_ap q_s5 69 (by decide +kernel) rfl, q_ap q_s1 1 (by decide +kernel) rfl, q_mem 34 (by decide +kernel) rfl, ⟨by decide, by decide, by decide +kernel⟩⟩
theorem ok_X11_clueRefusal : q_okV kX11_clueRefusal 1 := ⟨q_ap q_s5 74 (by decide +kernel) rfl, q_ap q_s5 73 (by decide +kernel) rfl, q_ap q_s1 1 (by decide +kernel) rfl, q_mem 35 (by decide +kernel) rfl, ⟨by decide, by decide, by decide +kernel⟩⟩
theorem ok_X11_by : q_okV kX11_by 1 := ⟨q_ap q_s5 128 (by decide +kernel) rfl, q_ap q_s5 126 (by decide +kernel) rfl, q_ap q_s1 1 (by decide +kernel) rfl, q_ap q_s5 127 (by decide +kernel) rfl, ⟨by decide, by decide, by decide +kernel⟩⟩
theorem ok_X11_law : q_okV kX11_law 0 := ⟨q_ap q_s5 133 (by decide +kernel) rfl, q_ap q_s5 131 (by decide +kernel) rfl, q_ap q_s1 1 (by decide +kernel) rfl, q_ap q_s5 132 (by decide +kernel) rfl, ⟨by decide, by decide, by decide +kernel⟩⟩
theorem ok_X11_rector : q_okV kX11_rector 0 := ⟨q_ap q_s5 137 (by decide +kernel) rfl, q_ap q_s5 135 (by decide +kernel) rfl, q_ap q_s1 1 (by decide +kernel) rfl, q_ap q_s5 136 (by decide +kernel) rfl, ⟨by decide, by decide, by decide +kernel⟩⟩
theorem ok_X11_opens : q_okV kX11_opens 0 := ⟨q_ap q_s5 149 (by decide +kernel) rfl, q_ap q_s5 147 (by decide +kernel) rfl, q_ap q_s1 1 (by decide +kernel) rfl, q_ap q_s5 148 (by decide +kernel) rfl, ⟨by decide, by decide, by decide +kernel⟩⟩
theorem ok_X11_replies : q_okV kX11_replies 1 := ⟨q_ap q_s5 153 (by decide +kernel) rfl, q_ap q_s5 151 (by decide +kernel) rfl, q_ap q_s1 1 (by decide +kernel) rfl, q_ap q_s5 152 (by decide +kernel) rfl, ⟨by decide, by decide, by decide +kernel⟩⟩
theorem ok_X11_rests : q_okV kX11_rests 2 := ⟨q_ap q_s5 158 (by decide +kernel) rfl, q_ap q_s5 156 (by decide +kernel) rfl, q_ap q_s1 1 (by decide +kernel) rfl, q_ap q_s5 157 (by decide +kernel) rfl, ⟨by decide, by decide, by decide +kernel⟩⟩
theorem ok_X11_gets : q_okV kX11_gets 4 := ⟨q_ap q_s5 167 (by decide +kernel) rfl, q_ap q_s5 165 (by decide +kernel) rfl, q_ap q_s1 1 (by decide +kernel) rfl, q_ap q_s5 166 (by decide +kernel) rfl, ⟨by decide, by decide, by decide +kernel⟩⟩
theorem ok_X11_chance : q_okV kX11_chance 3 := ⟨q_ap q_s5 171 (by decide +kernel) rfl, q_ap q_s5 169 (by decide +kernel) rfl, q_ap q_s1 1 (by decide +kernel) rfl, q_ap q_s5 170 (by decide +kernel) rfl, ⟨by decide, by decide, by decide +kernel⟩⟩
theorem ok_X11_mean : q_okV kX11_mean 2 := ⟨q_ap q_s5 198 (by decide +kernel) rfl, q_ap q_s5 196 (by decide +kernel) rfl, q_ap q_s1 1 (by decide +kernel) rfl, q_ap q_s5 197 (by decide +kernel) rfl, ⟨by decide, by decide, by decide +kernel⟩⟩
theorem ok_X11_noChanceHour : q_okV kX11_noChanceHour 1 := ⟨q_ap q_s5 175 (by decide +kernel) rfl, q_ap q_s5 174 (by decide +kernel) rfl, q_ap q_s1 1 (by decide +kernel) rfl, q_mem 39 (by decide +kernel) rfl, ⟨by decide, by decide, by decide +kernel⟩⟩
theorem ok_X11_light : q_okV kX11_light 3 := ⟨q_ap q_s5 202 (by decide +kernel) rfl, q_ap q_s5 200 (by decide +kernel) rfl, q_ap q_s1 1 (by decide +kernel) rfl, q_ap q_s5 201 (by decide +kernel) rfl, ⟨by decide, by decide, by decide +kernel⟩⟩
theorem ok_X11_draught : q_okV kX11_draught 2 := ⟨q_ap q_s5 214 (by decide +kernel) rfl, q_ap q_s5 212 (by decide +kernel) rfl, q_ap q_s1 1 (by decide +kernel) rfl, q_ap q_s5 213 (by decide +kernel) rfl, ⟨by decide, by decide, by decide +kernel⟩⟩
theorem ok_X11_act : q_okV kX11_act 3 := ⟨q_ap q_s5 206 (by decide +kernel) rfl, q_ap q_s5 205 (by decide +kernel) rfl, q_ap q_s1 1 (by decide +kernel) rfl, q_mem 40 (by decide +kernel) rfl, ⟨by decide, by decide, by decide +kernel⟩⟩
theorem ok_X11_undo : q_okV kX11_undo 0 := ⟨q_ap q_s5 218 (by decide +kernel) rfl, q_ap q_s5 216 (by decide +kernel) rfl, q_ap q_s1 1 (by decide +kernel) rfl, q_ap q_s5 217 (by decide +kernel) rfl, ⟨by decide, by decide, by decide +kernel⟩⟩
theorem ok_X11_anew : q_okV kX11_anew 0 := ⟨q_ap q_s5 222 (by decide +kernel) rfl, q_ap q_s5 220 (by decide +kernel) rfl, q_ap q_s1 1 (by decide +kernel) rfl, q_ap q_s5 221 (by decide +kernel) rfl, ⟨by decide, by decide, by decide +kernel⟩⟩
theorem ok_X11_drawn : q_okV kX11_drawn 2 := ⟨q_ap q_s5 226 (by decide +kernel) rfl, q_ap q_s5 224 (by decide +kernel) rfl, q_ap q_s1 1 (by decide +kernel) rfl, q_ap q_s5 225 (by decide +kernel) rfl, ⟨by decide, by decide, by decide +kernel⟩⟩
theorem ok_X11_luck : q_okV kX11_luck 3 := ⟨q_ap q_s6 7 (by decide +kernel) rfl, q_ap q_s6 5 (by decide +kernel) rfl, q_ap q_s1 1 (by decide +kernel) rfl, q_ap q_s6 6 (by decide +kernel) rfl, ⟨by decide, by decide, by decide +kernel⟩⟩
theorem ok_X11_noSeed : q_okS kX11_noSeed 1 := ⟨q_ap q_s5 229 (by decide +kernel) rfl, q_ap q_s5 228 (by decide +kernel) rfl, q_ap q_s1 1 (by decide +kernel) rfl, ⟨by decide, by decide, by decide +kernel⟩⟩
theorem ok_X11_hushes : q_okV kX11_hushes 1 := ⟨q_ap q_s6 11 (by decide +kernel) rfl, q_ap q_s6 9 (by decide +kernel) rfl, q_ap q_s1 1 (by decide +kernel) rfl, q_ap q_s6 10 (by decide +kernel) rfl, ⟨by decide, by decide, by decide +kernel⟩⟩
theorem ok_X11_count : q_okV kX11_count 1 := ⟨q_ap q_s6 16 (by decide +kernel) rfl, q_ap q_s6 14 (by decide +kernel) rfl, q_ap q_s1 1 (by decide +kernel) rfl, q_ap q_s6 15 (by decide +kernel) rfl, ⟨by decide, by decide, by decide +kernel⟩⟩
theorem ok_X11_image : q_okV kX11_image 1 := ⟨q_ap q_s6 25 (by decide +kernel) rfl, q_ap q_s6 23 (by decide +kernel) rfl, q_ap q_s1 1 (by decide +kernel) rfl, q_ap q_s6 24 (by decide +kernel) rfl, ⟨by decide, by decide, by decide +kernel⟩⟩
theorem ok_X11_back : q_okV kX11_back 1 := ⟨q_ap q_s6 34 (by decide +kernel) rfl, q_ap q_s6 32 (by decide +kernel) rfl, q_ap q_s1 1 (by decide +kernel) rfl, q_ap q_s6 33 (by decide +kernel) rfl, ⟨by decide, by decide, by decide +kernel⟩⟩
theorem ok_X11_row : q_okV kX11_row 3 := ⟨q_ap q_s6 38 (by decide +kernel) rfl, q_ap q_s6 36 (by decide +kernel) rfl, q_ap q_s1 1 (by decide +kernel) rfl, q_ap q_s6 37 (by decide +kernel) rfl, ⟨by decide, by decide, by decide +kernel⟩⟩
theorem ok_X11_write : q_okV kX11_write 3 := ⟨q_ap q_s6 46 (by decide +kernel) rfl, q_ap q_s6 44 (by decide +kernel) rfl, q_ap q_s1 1 (by decide +kernel) rfl, q_ap q_s6 45 (by decide +kernel) rfl, ⟨by decide, by decide, by decide +kernel⟩⟩
theorem ok_X11_paste : q_okV kX11_paste 5 := ⟨q_ap q_s6 58 (by decide +kernel) rfl, q_ap q_s6 56 (by decide +kernel) rfl, q_ap q_s1 1 (by decide +kernel) rfl, q_ap q_s6 57 (by decide +kernel) rfl, ⟨by decide, by decide, by decide +kernel⟩⟩
theorem ok_X11_noNight : q_okV kX11_noNight 0 := ⟨q_ap q_s3 215 (by decide +kernel) rfl, q_ap q_s3 214 (by decide +kernel) rfl, q_ap q_s1 1 (by decide +kernel) rfl, q_mem 18 (by decide +kernel) rfl, ⟨by decide, by decide, by decide +kernel⟩⟩
theorem ok_X11_noPew : q_okV kX11_noPew 1 := ⟨q_ap q_s3 181 (by decide +kernel) rfl, q_ap q_s3 180 (by decide +kernel) rfl, q_ap q_s1 1 (by decide +kernel) rfl, q_mem 16 (by decide +kernel) rfl, ⟨by decide, by decide, by decide +kernel⟩⟩
theorem ok_X11_noHour : q_okV kX11_noHour 1 := ⟨q_ap q_s3 211 (by decide +kernel) rfl, q_ap q_s3 210 (by decide +kernel) rfl, q_ap q_s1 1 (by decide +kernel) rfl, q_mem 17 (by decide +kernel) rfl, ⟨by decide, by decide, by decide +kernel⟩⟩
theorem ok_X11_noLetter : q_okS kX11_noLetter 1 := ⟨q_ap q_s4 136 (by decide +kernel) rfl, q_ap q_s4 135 (by decide +kernel) rfl, q_ap q_s1 1 (by decide +kernel) rfl, ⟨by decide, by decide, by decide +kernel⟩⟩
theorem ok_X11_noPart : q_okS kX11_noPart 1 := ⟨q_ap q_s5 10 (by decide +kernel) rfl, q_ap q_s5 9 (by decide +kernel) rfl, q_ap q_s1 1 (by decide +kernel) rfl, ⟨by decide, by decide, by decide +kernel⟩⟩
theorem ok_X11_cell : q_okS kX11_cell 2 := ⟨q_ap q_s4 48 (by decide +kernel) rfl, q_ap q_s4 47 (by decide +kernel) rfl, q_ap q_s1 1 (by decide +kernel) rfl, ⟨by decide, by decide, by decide +kernel⟩⟩
theorem ok_X11_letterOrNone : q_okS kX11_letterOrNone 2 := ⟨q_ap q_s3 200 (by decide +kernel) rfl, q_ap q_s3 199 (by decide +kernel) rfl, q_ap q_s1 1 (by decide +kernel) rfl, ⟨by decide, by decide, by decide +kernel⟩⟩
theorem ok_X11_unsettle : q_okV kX11_unsettle 0 := ⟨q_ap q_s3 168 (by decide +kernel) rfl, q_ap q_s3 167 (by decide +kernel) rfl, q_ap q_s1 1 (by decide +kernel) rfl, q_mem 15 (by decide +kernel) rfl, ⟨by decide, by decide, by decide +kernel⟩⟩
theorem ok_X11_settledCourse : q_okV kX11_settledCourse 0 := ⟨q_ap q_s3 219 (by decide +kernel) rfl, q_ap q_s3 218 (by decide +kernel) rfl, q_ap q_s1 1 (by decide +kernel) rfl, q_mem 19 (by decide +kernel) rfl, ⟨by decide, by decide, by decide +kernel⟩⟩
theorem ok_X11_litAtLast : q_okV kX11_litAtLast 0 := ⟨q_ap q_s5 48 (by decide +kernel) rfl, q_ap q_s5 47 (by decide +kernel) rfl, q_ap q_s1 1 (by decide +kernel) rfl, q_mem 33 (by decide +kernel) rfl, ⟨by decide, by decide, by decide +kernel⟩⟩
theorem ok_X11_lowestPart : q_okS kX11_lowestPart 3 := ⟨q_ap q_s5 24 (by decide +kernel) rfl, q_ap q_s5 23 (by decide +kernel) rfl, q_ap q_s1 1 (by decide +kernel) rfl, ⟨by decide, by decide, by decide +kernel⟩⟩
theorem ok_X12_in : q_okS kX12_in 3 := ⟨q_ap q_s6 196 (by decide +kernel) rfl, q_ap q_s6 195 (by decide +kernel) rfl, q_ap q_s1 12 (by decide +kernel) rfl, ⟨by decide, by decide, by decide +kernel⟩⟩
theorem ok_X12_bits : q_okS kX12_bits 1 := ⟨q_ap q_s8 128 (by decide +kernel) rfl, q_ap q_s8 127 (by decide +kernel) rfl, q_ap q_s1 12 (by decide +kernel) rfl, ⟨by decide, by decide, by decide +kernel⟩⟩
theorem ok_X12_bit : q_okS kX12_bit 2 := ⟨q_ap q_s7 111 (by decide +kernel) rfl, q_ap q_s7 110 (by decide +kernel) rfl, q_ap q_s1 12 (by decide +kernel) rfl, ⟨by decide, by decide, by decide +kernel⟩⟩
theorem ok_X12_image : q_okV kX12_image 1 := ⟨q_ap q_s6 192 (by decide +kernel) rfl, q_ap q_s6 190 (by decide +kernel) rfl, q_ap q_s1 12 (by decide +kernel) rfl, q_ap q_s6 191 (by decide +kernel) rfl, ⟨by decide, by decide, by decide +kernel⟩⟩
theorem ok_X12_back : q_okV kX12_back 1 := ⟨q_ap q_s6 200 (by decide +kernel) rfl, q_ap q_s6 198 (by decide +kernel) rfl, q_ap q_s1 12 (by decide +kernel) rfl, q_ap q_s6 199 (by decide +kernel) rfl, ⟨by decide, by decide, by decide +kernel⟩⟩
theorem ok_X12_isNight : q_okV kX12_isNight 0 := ⟨q_ap q_s7 179 (by decide +kernel) rfl, q_ap q_s7 178 (by decide +kernel) rfl, q_ap q_s1 12 (by decide +kernel) rfl, q_mem 77 (by decide +kernel) rfl, ⟨by decide, by decide, by decide +kernel⟩⟩
theorem ok_X12_hours : q_okV kX12_hours 0 := ⟨q_ap q_s7 151 (by decide +kernel) rfl, q_ap q_s7 150 (by decide +kernel) rfl, q_ap q_s1 12 (by decide +kernel) rfl, q_mem 70 (by decide +kernel) rfl, ⟨by decide, by decide, by decide +kernel⟩⟩
theorem ok_X12_pews : q_okV kX12_pews 0 := ⟨q_ap q_s7 83 (by decide +kernel) rfl, q_ap q_s7 82 (by decide +kernel) rfl, q_ap q_s1 12 (by decide +kernel) rfl, q_mem 60 (by decide +kernel) rfl, ⟨by decide, by decide, by decide +kernel⟩⟩
theorem ok_X12_allPews : q_okV kX12_allPews 0 := ⟨q_ap q_s7 227 (by decide +kernel) rfl, q_ap q_s7 226 (by decide +kernel) rfl, q_ap q_s1 12 (by decide +kernel) rfl, q_mem 81 (by decide +kernel) rfl, ⟨by decide, by decide, by decide +kernel⟩⟩
theorem ok_X12_isHour : q_okV kX12_isHour 1 := ⟨q_ap q_s7 183 (by decide +kernel) rfl, q_ap q_s7 182 (by decide +kernel) rfl, q_ap q_s1 12 (by decide +kernel) rfl, q_mem 78 (by decide +kernel) rfl, ⟨by decide, by decide, by decide +kernel⟩⟩
theorem ok_X12_isPew : q_okV kX12_isPew 1 := ⟨q_ap q_s7 79 (by decide +kernel) rfl, q_ap q_s7 78 (by decide +kernel) rfl, q_ap q_s1 12 (by decide +kernel) rfl, q_mem 59 (by decide +kernel) rfl, ⟨by decide, by decide, by decide +kernel⟩⟩
theorem ok_X12_ruleOf : q_okV kX12_ruleOf 2 := ⟨q_ap q_s7 87 (by decide +kernel) rfl, q_ap q_s7 86 (by decide +kernel) rfl, q_ap q_s1 12 (by decide +kernel) rfl, q_mem 61 (by decide +kernel) rfl, ⟨by decide, by decide, by decide +kernel⟩⟩
theorem ok_X12_feed : q_okV kX12_feed 5 := ⟨q_ap q_s6 204 (by decide +kernel) rfl, q_ap q_s6 202 (by decide +kernel) rfl, q_ap q_s1 12 (by decide +kernel) rfl, q_ap q_s6 203 (by decide +kernel) rfl, ⟨by decide, by decide, by decide +kernel⟩⟩
theorem ok_X12_end : q_okV kX12_end 1 := ⟨q_ap q_s6 208 (by decide +kernel) rfl, q_ap q_s6 206 (by decide +kernel) rfl, q_ap q_s1 12 (by decide +kernel) rfl, q_ap q_s6 207 (by decide +kernel) rfl, ⟨by decide, by decide, by decide +kernel⟩⟩
theorem ok_X12_see : q_okV kX12_see 1 := ⟨q_ap q_s6 224 (by decide +kernel) rfl, q_ap q_s6 223 (by decide +kernel) rfl, q_ap q_s1 12 (by decide +kernel) rfl, q_mem 42 (by decide +kernel) rfl, ⟨by decide, by decide, by decide +kernel⟩⟩
theorem ok_X12_advance : q_okV kX12_advance 0 := ⟨q_ap q_s6 220 (by decide +kernel) rfl, q_ap q_s6 219 (by decide +kernel) rfl, q_ap q_s1 12 (by decide +kernel) rfl, q_mem 41 (by decide +kernel) rfl, ⟨by decide, by decide, by decide +kernel⟩⟩
theorem ok_X12_good : q_okV kX12_good 0 := ⟨q_ap q_s6 234 (by decide +kernel) rfl, q_ap q_s6 233 (by decide +kernel) rfl, q_ap q_s1 12 (by decide +kernel) rfl, q_mem 43 (by decide +kernel) rfl, ⟨by decide, by decide, by decide +kernel⟩⟩
theorem ok_X12_errs : q_okV kX12_errs 1 := ⟨q_ap q_s7 21 (by decide +kernel) rfl, q_ap q_s7 20 (by decide +kernel) rfl, q_ap q_s1 12 (by decide +kernel) rfl, q_mem 49 (by decide +kernel) rfl, ⟨by decide, by decide, by decide +kernel⟩⟩
theorem ok_X12_is : q_okV kX12_is 1 := ⟨q_ap q_s7 15 (by decide +kernel) rfl, q_ap q_s7 14 (by decide +kernel) rfl, q_ap q_s1 12 (by decide +kernel) rfl, q_mem 48 (by decide +kernel) rfl, ⟨by decide, by decide, by decide +kernel⟩⟩
theorem ok_X12_takes : q_okV kX12_takes 1 := ⟨q_ap q_s7 11 (by decide +kernel) rfl, q_ap q_s7 10 (by decide +kernel) rfl, q_ap q_s1 12 (by decide +kernel) rfl, q_mem 47 (by decide +kernel) rfl, ⟨by decide, by decide, by decide +kernel⟩⟩
theorem ok_X12_expects : q_okV kX12_expects 1 := ⟨q_ap q_s7 7 (by decide +kernel) rfl, q_ap q_s7 6 (by decide +kernel) rfl, q_ap q_s1 12 (by decide +kernel) rfl, q_mem 46 (by decide +kernel) rfl, ⟨by decide, by decide, by decide +kernel⟩⟩
theorem ok_X12_number : q_okV kX12_number 2 := ⟨q_ap q_s7 30 (by decide +kernel) rfl, q_ap q_s7 29 (by decide +kernel) rfl, q_ap q_s1 12 (by decide +kernel) rfl, q_mem 51 (by decide +kernel) rfl, ⟨by decide, by decide, by decide +kernel⟩⟩
theorem ok_X12_toldBy : q_okV kX12_toldBy 3 := ⟨q_ap q_s7 26 (by decide +kernel) rfl, q_ap q_s7 25 (by decide +kernel) rfl, q_ap q_s1 12 (by decide +kernel) rfl, q_mem 50 (by decide +kernel) rfl, ⟨by decide, by decide, by decide +kernel⟩⟩
theorem ok_X12_fault : q_okV kX12_fault 1 := ⟨q_ap q_s6 212 (by decide +kernel) rfl, q_ap q_s6 210 (by decide +kernel) rfl, q_ap q_s1 12 (by decide +kernel) rfl, q_ap q_s6 211 (by decide +kernel) rfl, ⟨by decide, by decide, by decide +kernel⟩⟩
theorem ok_X12_readFirst : q_okV kX12_readFirst 0 := ⟨q_ap q_s7 2 (by decide +kernel) rfl, q_ap q_s7 1 (by decide +kernel) rfl, q_ap q_s1 12 (by decide +kernel) rfl, q_mem 45 (by decide +kernel) rfl, ⟨by decide, by decide, by decide +kernel⟩⟩
theorem ok_X12_readPew : q_okV kX12_readPew 0 := ⟨q_ap q_s7 48 (by decide +kernel) rfl, q_ap q_s7 47 (by decide +kernel) rfl, q_ap q_s1 12 (by decide +kernel) rfl, q_mem 54 (by decide +kernel) rfl, ⟨by decide, by decide, by decide +kernel⟩⟩
theorem ok_X12_isJoined : q_okV kX12_isJoined 2 := ⟨q_ap q_s7 61 (by decide +kernel) rfl, q_ap q_s7 60 (by decide +kernel) rfl, q_ap q_s1 12 (by decide +kernel) rfl, q_mem 56 (by decide +kernel) rfl, ⟨by decide, by decide, by decide +kernel⟩⟩
theorem ok_X12_readAisle : q_okV kX12_readAisle 0 := ⟨q_ap q_s7 57 (by decide +kernel) rfl, q_ap q_s7 56 (by decide +kernel) rfl, q_ap q_s1 12 (by decide +kernel) rfl, q_mem 55 (by decide +kernel) rfl, ⟨by decide, by decide, by decide +kernel⟩⟩
theorem ok_X12_readLight : q_okV kX12_readLight 0 := ⟨q_ap q_s7 65 (by decide +kernel) rfl, q_ap q_s7 64 (by decide +kernel) rfl, q_ap q_s1 12 (by decide +kernel) rfl, q_mem 57 (by decide +kernel) rfl, ⟨by decide, by decide, by decide +kernel⟩⟩
theorem ok_X12_readDraught : q_okV kX12_readDraught 0 := ⟨q_ap q_s7 70 (by decide +kernel) rfl, q_ap q_s7 69 (by decide +kernel) rfl, q_ap q_s1 12 (by decide +kernel) rfl, q_mem 58 (by decide +kernel) rfl, ⟨by decide, by decide, by decide +kernel⟩⟩
theorem ok_X12_isFull : q_okV kX12_isFull 0 := ⟨q_ap q_s7 44 (by decide +kernel) rfl, q_ap q_s7 43 (by decide +kernel) rfl, q_ap q_s1 12 (by decide +kernel) rfl, q_mem 53 (by decide +kernel) rfl, ⟨by decide, by decide, by decide +kernel⟩⟩
theorem ok_X12_readNext : q_okV kX12_readNext 0 := ⟨q_ap q_s7 36 (by decide +kernel) rfl, q_ap q_s7 35 (by decide +kernel) rfl, q_ap q_s1 12 (by decide +kernel) rfl, q_mem 52 (by decide +kernel) rfl, ⟨by decide, by decide, by decide +kernel⟩⟩
theorem ok_X12_readLine : q_okV kX12_readLine 0 := ⟨q_ap q_s6 238 (by decide +kernel) rfl, q_ap q_s6 237 (by decide +kernel) rfl, q_ap q_s1 12 (by decide +kernel) rfl, q_mem 44 (by decide +kernel) rfl, ⟨by decide, by decide, by decide +kernel⟩⟩
theorem ok_X12_night : q_okV kX12_night 0 := ⟨q_ap q_s6 216 (by decide +kernel) rfl, q_ap q_s6 214 (by decide +kernel) rfl, q_ap q_s1 12 (by decide +kernel) rfl, q_ap q_s6 215 (by decide +kernel) rfl, ⟨by decide, by decide, by decide +kernel⟩⟩
theorem ok_X12_pew : q_okV kX12_pew 2 := ⟨q_ap q_s7 75 (by decide +kernel) rfl, q_ap q_s7 73 (by decide +kernel) rfl, q_ap q_s1 12 (by decide +kernel) rfl, q_ap q_s7 74 (by decide +kernel) rfl, ⟨by decide, by decide, by decide +kernel⟩⟩
theorem ok_X12_longOf : q_okS kX12_longOf 1 := ⟨q_ap q_s7 97 (by decide +kernel) rfl, q_ap q_s7 96 (by decide +kernel) rfl, q_ap q_s1 12 (by decide +kernel) rfl, ⟨by decide, by decide, by decide +kernel⟩⟩
theorem ok_X12_letterOf : q_okS kX12_letterOf 2 := ⟨q_ap q_s7 100 (by decide +kernel) rfl, q_ap q_s7 99 (by decide +kernel) rfl, q_ap q_s1 12 (by decide +kernel) rfl, ⟨by decide, by decide, by decide +kernel⟩⟩
theorem ok_X12_letterOrNone : q_okS kX12_letterOrNone 2 := ⟨q_ap q_s7 94 (by decide +kernel) rfl, q_ap q_s7 93 (by decide +kernel) rfl, q_ap q_s1 12 (by decide +kernel) rfl, ⟨by decide, by decide, by decide +kernel⟩⟩
theorem ok_X12_changed : q_okV kX12_changed 2 := ⟨q_ap q_s7 175 (by decide +kernel) rfl, q_ap q_s7 174 (by decide +kernel) rfl, q_ap q_s1 12 (by decide +kernel) rfl, q_mem 76 (by decide +kernel) rfl, ⟨by decide, by decide, by decide +kernel⟩⟩
theorem ok_X12_told : q_okV kX12_told 2 := ⟨q_ap q_s7 91 (by decide +kernel) rfl, q_ap q_s7 89 (by decide +kernel) rfl, q_ap q_s1 12 (by decide +kernel) rfl, q_ap q_s7 90 (by decide +kernel) rfl, ⟨by decide, by decide, by decide +kernel⟩⟩
theorem ok_X12_nearOf : q_okV kX12_nearOf 1 := ⟨q_ap q_s7 108 (by decide +kernel) rfl, q_ap q_s7 107 (by decide +kernel) rfl, q_ap q_s1 12 (by decide +kernel) rfl, q_mem 62 (by decide +kernel) rfl, ⟨by decide, by decide, by decide +kernel⟩⟩
theorem ok_X12_near : q_okV kX12_near 1 := ⟨q_ap q_s7 104 (by decide +kernel) rfl, q_ap q_s7 102 (by decide +kernel) rfl, q_ap q_s1 12 (by decide +kernel) rfl, q_ap q_s7 103 (by decide +kernel) rfl, ⟨by decide, by decide, by decide +kernel⟩⟩
theorem ok_X12_far : q_okV kX12_far 2 := ⟨q_ap q_s7 115 (by decide +kernel) rfl, q_ap q_s7 113 (by decide +kernel) rfl, q_ap q_s1 12 (by decide +kernel) rfl, q_ap q_s7 114 (by decide +kernel) rfl, ⟨by decide, by decide, by decide +kernel⟩⟩
theorem ok_X12_asItIs : q_okV kX12_asItIs 0 := ⟨q_ap q_s7 131 (by decide +kernel) rfl, q_ap q_s7 130 (by decide +kernel) rfl, q_ap q_s1 12 (by decide +kernel) rfl, q_mem 65 (by decide +kernel) rfl, ⟨by decide, by decide, by decide +kernel⟩⟩
theorem ok_X12_saysOf : q_okV kX12_saysOf 2 := ⟨q_ap q_s7 167 (by decide +kernel) rfl, q_ap q_s7 166 (by decide +kernel) rfl, q_ap q_s1 12 (by decide +kernel) rfl, q_mem 74 (by decide +kernel) rfl, ⟨by decide, by decide, by decide +kernel⟩⟩
theorem ok_X12_lights : q_okV kX12_lights 3 := ⟨q_ap q_s7 147 (by decide +kernel) rfl, q_ap q_s7 146 (by decide +kernel) rfl, q_ap q_s1 12 (by decide +kernel) rfl, q_mem 69 (by decide +kernel) rfl, ⟨by decide, by decide, by decide +kernel⟩⟩
theorem ok_X12_putsOut : q_okV kX12_putsOut 2 := ⟨q_ap q_s7 143 (by decide +kernel) rfl, q_ap q_s7 142 (by decide +kernel) rfl, q_ap q_s1 12 (by decide +kernel) rfl, q_mem 68 (by decide +kernel) rfl, ⟨by decide, by decide, by decide +kernel⟩⟩
theorem ok_X12_beginNight : q_okV kX12_beginNight 0 := ⟨q_ap q_s7 139 (by decide +kernel) rfl, q_ap q_s7 138 (by decide +kernel) rfl, q_ap q_s1 12 (by decide +kernel) rfl, q_mem 67 (by decide +kernel) rfl, ⟨by decide, by decide, by decide +kernel⟩⟩
theorem ok_X12_beginHour : q_okV kX12_beginHour 1 := ⟨q_ap q_s7 155 (by decide +kernel) rfl, q_ap q_s7 154 (by decide +kernel) rfl, q_ap q_s1 12 (by decide +kernel) rfl, q_mem 71 (by decide +kernel) rfl, ⟨by decide, by decide, by decide +kernel⟩⟩
theorem ok_X12_isBetter : q_okV kX12_isBetter 3 := ⟨q_ap q_s7 171 (by decide +kernel) rfl, q_ap q_s7 170 (by decide +kernel) rfl, q_ap q_s1 12 (by decide +kernel) rfl, q_mem 75 (by decide +kernel) rfl, ⟨by decide, by decide, by decide +kernel⟩⟩
theorem ok_X12_heardBy : q_okV kX12_heardBy 2 := ⟨q_ap q_s7 163 (by decide +kernel) rfl, q_ap q_s7 162 (by decide +kernel) rfl, q_ap q_s1 12 (by decide +kernel) rfl, q_mem 73 (by decide +kernel) rfl, ⟨by decide, by decide, by decide +kernel⟩⟩
theorem ok_X12_goesOn : q_okV kX12_goesOn 2 := ⟨q_ap q_s7 159 (by decide +kernel) rfl, q_ap q_s7 158 (by decide +kernel) rfl, q_ap q_s1 12 (by decide +kernel) rfl, q_mem 72 (by decide +kernel) rfl, ⟨by decide, by decide, by decide +kernel⟩⟩
theorem ok_X12_goAll : q_okV kX12_goAll 0 := ⟨q_ap q_s7 135 (by decide +kernel) rfl, q_ap q_s7 134 (by decide +kernel) rfl, q_ap q_s1 12 (by decide +kernel) rfl, q_mem 66 (by decide +kernel) rfl, ⟨by decide, by decide, by decide +kernel⟩⟩
theorem ok_X12_asksNight : q_okV kX12_asksNight 0 := ⟨q_ap q_s7 127 (by decide +kernel) rfl, q_ap q_s7 126 (by decide +kernel) rfl, q_ap q_s1 12 (by decide +kernel) rfl, q_mem 64 (by decide +kernel) rfl, ⟨by decide, by decide, by decide +kernel⟩⟩
theorem ok_X12_asksHour : q_okV kX12_asksHour 1 := ⟨q_ap q_s7 123 (by decide +kernel) rfl, q_ap q_s7 122 (by decide +kernel) rfl, q_ap q_s1 12 (by decide +kernel) rfl, q_mem 63 (by decide +kernel) rfl, ⟨by decide, by decide, by decide +kernel⟩⟩
theorem ok_X12_asksPew : q_okV kX12_asksPew 1 := ⟨q_ap q_s7 215 (by decide +kernel) rfl, q_ap q_s7 214 (by decide +kernel) rfl, q_ap q_s1 12 (by decide +kernel) rfl, q_mem 80 (by decide +kernel) rfl, ⟨by decide, by decide, by decide +kernel⟩⟩
theorem ok_X12_litAt : q_okV kX12_litAt 1 := ⟨q_ap q_s7 187 (by decide +kernel) rfl, q_ap q_s7 186 (by decide +kernel) rfl, q_ap q_s1 12 (by decide +kernel) rfl, q_mem 79 (by decide +kernel) rfl, ⟨by decide, by decide, by decide +kernel⟩⟩
theorem ok_X12_litLast : q_okV kX12_litLast 0 := ⟨q_ap q_s8 125 (by decide +kernel) rfl, q_ap q_s8 124 (by decide +kernel) rfl, q_ap q_s1 12 (by decide +kernel) rfl, q_mem 94 (by decide +kernel) rfl, ⟨by decide, by decide, by decide +kernel⟩⟩
theorem ok_X12_lastMany : q_okV kX12_lastMany 0 := ⟨q_ap q_s8 121 (by decide +kernel) rfl, q_ap q_s8 120 (by decide +kernel) rfl, q_ap q_s1 12 (by decide +kernel) rfl, q_mem 93 (by decide +kernel) rfl, ⟨by decide, by decide, by decide +kernel⟩⟩
theorem ok_X12_wordsAt : q_okV kX12_wordsAt 1 := ⟨q_ap q_s8 35 (by decide +kernel) rfl, q_ap q_s8 34 (by decide +kernel) rfl, q_ap q_s1 12 (by decide +kernel) rfl, q_mem 85 (by decide +kernel) rfl, ⟨by decide, by decide, by decide +kernel⟩⟩
theorem ok_X12_lit : q_okV kX12_lit 1 := ⟨q_ap q_s7 119 (by decide +kernel) rfl, q_ap q_s7 117 (by decide +kernel) rfl, q_ap q_s1 12 (by decide +kernel) rfl, q_ap q_s7 118 (by decide +kernel) rfl, ⟨by decide, by decide, by decide +kernel⟩⟩
theorem ok_X12_letters : q_okV kX12_letters 2 := ⟨q_ap q_s7 191 (by decide +kernel) rfl, q_ap q_s7 189 (by decide +kernel) rfl, q_ap q_s1 12 (by decide +kernel) rfl, q_ap q_s7 190 (by decide +kernel) rfl, ⟨by decide, by decide, by decide +kernel⟩⟩
theorem ok_X12_says : q_okV kX12_says 3 := ⟨q_ap q_s7 195 (by decide +kernel) rfl, q_ap q_s7 193 (by decide +kernel) rfl, q_ap q_s1 12 (by decide +kernel) rfl, q_ap q_s7 194 (by decide +kernel) rfl, ⟨by decide, by decide, by decide +kernel⟩⟩
theorem ok_X12_from : q_okV kX12_from 2 := ⟨q_ap q_s7 199 (by decide +kernel) rfl, q_ap q_s7 197 (by decide +kernel) rfl, q_ap q_s1 12 (by decide +kernel) rfl, q_ap q_s7 198 (by decide +kernel) rfl, ⟨by decide, by decide, by decide +kernel⟩⟩
theorem ok_X12_since : q_okV kX12_since 2 := ⟨q_ap q_s7 203 (by decide +kernel) rfl, q_ap q_s7 201 (by decide +kernel) rfl, q_ap q_s1 12 (by decide +kernel) rfl, q_ap q_s7 202 (by decide +kernel) rfl, ⟨by decide, by decide, by decide +kernel⟩⟩
theorem ok_X12_depth : q_okV kX12_depth 2 := ⟨q_ap q_s7 207 (by decide +kernel) rfl, q_ap q_s7 205 (by decide +kernel) rfl, q_ap q_s1 12 (by decide +kernel) rfl, q_ap q_s7 206 (by decide +kernel) rfl, ⟨by decide, by decide, by decide +kernel⟩⟩
theorem ok_X12_when : q_okV kX12_when 1 := ⟨q_ap q_s7 211 (by decide +kernel) rfl, q_ap q_s7 209 (by decide +kernel) rfl, q_ap q_s1 12 (by decide +kernel) rfl, q_ap q_s7 210 (by decide +kernel) rfl, ⟨by decide, by decide, by decide +kernel⟩⟩
theorem ok_X12_often : q_okV kX12_often 1 := ⟨q_ap q_s7 219 (by decide +kernel) rfl, q_ap q_s7 217 (by decide +kernel) rfl, q_ap q_s1 12 (by decide +kernel) rfl, q_ap q_s7 218 (by decide +kernel) rfl, ⟨by decide, by decide, by decide +kernel⟩⟩
theorem ok_X12_full : q_okV kX12_full 0 := ⟨q_ap q_s7 223 (by decide +kernel) rfl, q_ap q_s7 221 (by decide +kernel) rfl, q_ap q_s1 12 (by decide +kernel) rfl, q_ap q_s7 222 (by decide +kernel) rfl, ⟨by decide, by decide, by decide +kernel⟩⟩
theorem ok_X12_dark : q_okV kX12_dark 0 := ⟨q_ap q_s7 231 (by decide +kernel) rfl, q_ap q_s7 229 (by decide +kernel) rfl, q_ap q_s1 12 (by decide +kernel) rfl, q_ap q_s7 230 (by decide +kernel) rfl, ⟨by decide, by decide, by decide +kernel⟩⟩
theorem ok_X12_turnedAt : q_okV kX12_turnedAt 1 := ⟨q_ap q_s7 239 (by decide +kernel) rfl, q_ap q_s7 238 (by decide +kernel) rfl, q_ap q_s1 12 (by decide +kernel) rfl, q_mem 82 (by decide +kernel) rfl, ⟨by decide, by decide, by decide +kernel⟩⟩
theorem ok_X12_turned : q_okV kX12_turned 1 := ⟨q_ap q_s7 235 (by decide +kernel) rfl, q_ap q_s7 233 (by decide +kernel) rfl, q_ap q_s1 12 (by decide +kernel) rfl, q_ap q_s7 234 (by decide +kernel) rfl, ⟨by decide, by decide, by decide +kernel⟩⟩
theorem ok_X12_still : q_okV kX12_still 0 := ⟨q_ap q_s8 3 (by decide +kernel) rfl, q_ap q_s8 1 (by decide +kernel) rfl, q_ap q_s1 12 (by decide +kernel) rfl, q_ap q_s8 2 (by decide +kernel) rfl, ⟨by decide, by decide, by decide +kernel⟩⟩
theorem ok_X12_alikeTo : q_okV kX12_alikeTo 2 := ⟨q_ap q_s8 11 (by decide +kernel) rfl, q_ap q_s8 10 (by decide +kernel) rfl, q_ap q_s1 12 (by decide +kernel) rfl, q_mem 83 (by decide +kernel) rfl, ⟨by decide, by decide, by decide +kernel⟩⟩
theorem ok_X12_alike : q_okV kX12_alike 2 := ⟨q_ap q_s8 7 (by decide +kernel) rfl, q_ap q_s8 5 (by decide +kernel) rfl, q_ap q_s1 12 (by decide +kernel) rfl, q_ap q_s8 6 (by decide +kernel) rfl, ⟨by decide, by decide, by decide +kernel⟩⟩
theorem ok_X12_sorts : q_okV kX12_sorts 1 := ⟨q_ap q_s8 15 (by decide +kernel) rfl, q_ap q_s8 13 (by decide +kernel) rfl, q_ap q_s1 12 (by decide +kernel) rfl, q_ap q_s8 14 (by decide +kernel) rfl, ⟨by decide, by decide, by decide +kernel⟩⟩
theorem ok_X12_longestBy : q_okV kX12_longestBy 2 := ⟨q_ap q_s8 23 (by decide +kernel) rfl, q_ap q_s8 22 (by decide +kernel) rfl, q_ap q_s1 12 (by decide +kernel) rfl, q_mem 84 (by decide +kernel) rfl, ⟨by decide, by decide, by decide +kernel⟩⟩
theorem ok_X12_longest : q_okV kX12_longest 1 := ⟨q_ap q_s8 19 (by decide +kernel) rfl, q_ap q_s8 17 (by decide +kernel) rfl, q_ap q_s1 12 (by decide +kernel) rfl, q_ap q_s8 18 (by decide +kernel) rfl, ⟨by decide, by decide, by decide +kernel⟩⟩
theorem ok_X12_shortest : q_okV kX12_shortest 1 := ⟨q_ap q_s8 27 (by decide +kernel) rfl, q_ap q_s8 25 (by decide +kernel) rfl, q_ap q_s1 12 (by decide +kernel) rfl, q_ap q_s8 26 (by decide +kernel) rfl, ⟨by decide, by decide, by decide +kernel⟩⟩
theorem ok_X12_words : q_okV kX12_words 1 := ⟨q_ap q_s8 31 (by decide +kernel) rfl, q_ap q_s8 29 (by decide +kernel) rfl, q_ap q_s1 12 (by decide +kernel) rfl, q_ap q_s8 30 (by decide +kernel) rfl, ⟨by decide, by decide, by decide +kernel⟩⟩
theorem ok_X12_spoken : q_okV kX12_spoken 2 := ⟨q_ap q_s8 39 (by decide +kernel) rfl, q_ap q_s8 37 (by decide +kernel) rfl, q_ap q_s1 12 (by decide +kernel) rfl, q_ap q_s8 38 (by decide +kernel) rfl, ⟨by decide, by decide, by decide +kernel⟩⟩
theorem ok_X12_taught : q_okV kX12_taught 1 := ⟨q_ap q_s8 43 (by decide +kernel) rfl, q_ap q_s8 41 (by decide +kernel) rfl, q_ap q_s1 12 (by decide +kernel) rfl, q_ap q_s8 42 (by decide +kernel) rfl, ⟨by decide, by decide, by decide +kernel⟩⟩
theorem ok_X12_deepest : q_okV kX12_deepest 0 := ⟨q_ap q_s8 47 (by decide +kernel) rfl, q_ap q_s8 45 (by decide +kernel) rfl, q_ap q_s1 12 (by decide +kernel) rfl, q_ap q_s8 46 (by decide +kernel) rfl, ⟨by decide, by decide, by decide +kernel⟩⟩
theorem ok_X12_fresh : q_okV kX12_fresh 1 := ⟨q_ap q_s8 52 (by decide +kernel) rfl, q_ap q_s8 50 (by decide +kernel) rfl, q_ap q_s1 12 (by decide +kernel) rfl, q_ap q_s8 51 (by decide +kernel) rfl, ⟨by decide, by decide, by decide +kernel⟩⟩
theorem ok_X12_gone : q_okV kX12_gone 1 := ⟨q_ap q_s8 56 (by decide +kernel) rfl, q_ap q_s8 54 (by decide +kernel) rfl, q_ap q_s1 12 (by decide +kernel) rfl, q_ap q_s8 55 (by decide +kernel) rfl, ⟨by decide, by decide, by decide +kernel⟩⟩
theorem ok_X12_numberAt : q_okV kX12_numberAt 2 := ⟨q_ap q_s8 73 (by decide +kernel) rfl, q_ap q_s8 72 (by decide +kernel) rfl, q_ap q_s1 12 (by decide +kernel) rfl, q_mem 87 (by decide +kernel) rfl, ⟨by decide, by decide, by decide +kernel⟩⟩
theorem ok_X12_askRow : q_okV kX12_askRow 3 := ⟨q_ap q_s8 64 (by decide +kernel) rfl, q_ap q_s8 63 (by decide +kernel) rfl, q_ap q_s1 12 (by decide +kernel) rfl, q_mem 86 (by decide +kernel) rfl, ⟨by decide, by decide, by decide +kernel⟩⟩
theorem ok_X12_heardTwice : q_okV kX12_heardTwice 3 := ⟨q_ap q_s8 77 (by decide +kernel) rfl, q_ap q_s8 76 (by decide +kernel) rfl, q_ap q_s1 12 (by decide +kernel) rfl, q_mem 88 (by decide +kernel) rfl, ⟨by decide, by decide, by decide +kernel⟩⟩
theorem ok_X12_hears : q_okV kX12_hears 3 := ⟨q_ap q_s8 60 (by decide +kernel) rfl, q_ap q_s8 58 (by decide +kernel) rfl, q_ap q_s1 12 (by decide +kernel) rfl, q_ap q_s8 59 (by decide +kernel) rfl, ⟨by decide, by decide, by decide +kernel⟩⟩
theorem ok_X12_heard : q_okV kX12_heard 4 := ⟨q_ap q_s8 81 (by decide +kernel) rfl, q_ap q_s8 79 (by decide +kernel) rfl, q_ap q_s1 12 (by decide +kernel) rfl, q_ap q_s8 80 (by decide +kernel) rfl, ⟨by decide, by decide, by decide +kernel⟩⟩
theorem ok_X12_round : q_okV kX12_round 3 := ⟨q_ap q_s8 85 (by decide +kernel) rfl, q_ap q_s8 83 (by decide +kernel) rfl, q_ap q_s1 12 (by decide +kernel) rfl, q_ap q_s8 84 (by decide +kernel) rfl, ⟨by decide, by decide, by decide +kernel⟩⟩
theorem ok_X12_isSaying : q_okV kX12_isSaying 1 := ⟨q_ap q_s8 101 (by decide +kernel) rfl, q_ap q_s8 100 (by decide +kernel) rfl, q_ap q_s1 12 (by decide +kernel) rfl, q_mem 91 (by decide +kernel) rfl, ⟨by decide, by decide, by decide +kernel⟩⟩
theorem ok_X12_layFirst : q_okV kX12_layFirst 2 := ⟨q_ap q_s8 97 (by decide +kernel) rfl, q_ap q_s8 96 (by decide +kernel) rfl, q_ap q_s1 12 (by decide +kernel) rfl, q_mem 90 (by decide +kernel) rfl, ⟨by decide, by decide, by decide +kernel⟩⟩
theorem ok_X12_askFirst : q_okV kX12_askFirst 3 := ⟨q_ap q_s8 93 (by decide +kernel) rfl, q_ap q_s8 92 (by decide +kernel) rfl, q_ap q_s1 12 (by decide +kernel) rfl, q_mem 89 (by decide +kernel) rfl, ⟨by decide, by decide, by decide +kernel⟩⟩
theorem ok_X12_first : q_okV kX12_first 3 := ⟨q_ap q_s8 89 (by decide +kernel) rfl, q_ap q_s8 87 (by decide +kernel) rfl, q_ap q_s1 12 (by decide +kernel) rfl, q_ap q_s8 88 (by decide +kernel) rfl, ⟨by decide, by decide, by decide +kernel⟩⟩
theorem ok_X12_letter : q_okV kX12_letter 4 := ⟨q_ap q_s8 105 (by decide +kernel) rfl, q_ap q_s8 103 (by decide +kernel) rfl, q_ap q_s1 12 (by decide +kernel) rfl, q_ap q_s8 104 (by decide +kernel) rfl, ⟨by decide, by decide, by decide +kernel⟩⟩
theorem ok_X12_ways : q_okV kX12_ways 3 := ⟨q_ap q_s8 109 (by decide +kernel) rfl, q_ap q_s8 107 (by decide +kernel) rfl, q_ap q_s1 12 (by decide +kernel) rfl, q_ap q_s8 108 (by decide +kernel) rfl, ⟨by decide, by decide, by decide +kernel⟩⟩
theorem ok_X12_worthOf : q_okV kX12_worthOf 1 := ⟨q_ap q_s8 117 (by decide +kernel) rfl, q_ap q_s8 116 (by decide +kernel) rfl, q_ap q_s1 12 (by decide +kernel) rfl, q_mem 92 (by decide +kernel) rfl, ⟨by decide, by decide, by decide +kernel⟩⟩
theorem ok_X12_worth : q_okV kX12_worth 1 := ⟨q_ap q_s8 113 (by decide +kernel) rfl, q_ap q_s8 111 (by decide +kernel) rfl, q_ap q_s1 12 (by decide +kernel) rfl, q_ap q_s8 112 (by decide +kernel) rfl, ⟨by decide, by decide, by decide +kernel⟩⟩
theorem ok_X12_best : q_okV kX12_best 0 := ⟨q_ap q_s8 132 (by decide +kernel) rfl, q_ap q_s8 130 (by decide +kernel) rfl, q_ap q_s1 12 (by decide +kernel) rfl, q_ap q_s8 131 (by decide +kernel) rfl, ⟨by decide, by decide, by decide +kernel⟩⟩
theorem ok_X12_factorial : q_okS kX12_factorial 1 := ⟨q_ap q_s8 139 (by decide +kernel) rfl, q_ap q_s8 138 (by decide +kernel) rfl, q_ap q_s1 12 (by decide +kernel) rfl, ⟨by decide, by decide, by decide +kernel⟩⟩
theorem ok_X12_divisor : q_okS kX12_divisor 2 := ⟨q_ap q_s8 145 (by decide +kernel) rfl, q_ap q_s8 144 (by decide +kernel) rfl, q_ap q_s1 12 (by decide +kernel) rfl, ⟨by decide, by decide, by decide +kernel⟩⟩
theorem ok_X12_part : q_okS kX12_part 3 := ⟨q_ap q_s8 142 (by decide +kernel) rfl, q_ap q_s8 141 (by decide +kernel) rfl, q_ap q_s1 12 (by decide +kernel) rfl, ⟨by decide, by decide, by decide +kernel⟩⟩
theorem ok_X12_share : q_okV kX12_share 2 := ⟨q_ap q_s8 136 (by decide +kernel) rfl, q_ap q_s8 134 (by decide +kernel) rfl, q_ap q_s1 12 (by decide +kernel) rfl, q_ap q_s8 135 (by decide +kernel) rfl, ⟨by decide, by decide, by decide +kernel⟩⟩
theorem ok_X12_fewestOf : q_okV kX12_fewestOf 0 := ⟨q_ap q_s8 154 (by decide +kernel) rfl, q_ap q_s8 153 (by decide +kernel) rfl, q_ap q_s1 12 (by decide +kernel) rfl, q_mem 95 (by decide +kernel) rfl, ⟨by decide, by decide, by decide +kernel⟩⟩
theorem ok_X12_fewest : q_okV kX12_fewest 0 := ⟨q_ap q_s8 150 (by decide +kernel) rfl, q_ap q_s8 148 (by decide +kernel) rfl, q_ap q_s1 12 (by decide +kernel) rfl, q_ap q_s8 149 (by decide +kernel) rfl, ⟨by decide, by decide, by decide +kernel⟩⟩
theorem ok_X12_sets : q_okV kX12_sets 0 := ⟨q_ap q_s8 158 (by decide +kernel) rfl, q_ap q_s8 156 (by decide +kernel) rfl, q_ap q_s1 12 (by decide +kernel) rfl, q_ap q_s8 157 (by decide +kernel) rfl, ⟨by decide, by decide, by decide +kernel⟩⟩
theorem ok_X12_gust : q_okV kX12_gust 1 := ⟨q_ap q_s8 162 (by decide +kernel) rfl, q_ap q_s8 160 (by decide +kernel) rfl, q_ap q_s1 12 (by decide +kernel) rfl, q_ap q_s8 161 (by decide +kernel) rfl, ⟨by decide, by decide, by decide +kernel⟩⟩
theorem ok_X12_guard : q_okV kX12_guard 0 := ⟨q_ap q_s8 166 (by decide +kernel) rfl, q_ap q_s8 164 (by decide +kernel) rfl, q_ap q_s1 12 (by decide +kernel) rfl, q_ap q_s8 165 (by decide +kernel) rfl, ⟨by decide, by decide, by decide +kernel⟩⟩
theorem ok_X12_askHeard : q_okV kX12_askHeard 1 := ⟨q_ap q_s8 178 (by decide +kernel) rfl, q_ap q_s8 177 (by decide +kernel) rfl, q_ap q_s1 12 (by decide +kernel) rfl, q_mem 97 (by decide +kernel) rfl, ⟨by decide, by decide, by decide +kernel⟩⟩
theorem ok_X12_isHeard : q_okV kX12_isHeard 1 := ⟨q_ap q_s8 186 (by decide +kernel) rfl, q_ap q_s8 185 (by decide +kernel) rfl, q_ap q_s1 12 (by decide +kernel) rfl, q_mem 99 (by decide +kernel) rfl, ⟨by decide, by decide, by decide +kernel⟩⟩
theorem ok_X12_askWhom : q_okV kX12_askWhom 1 := ⟨q_ap q_s8 174 (by decide +kernel) rfl, q_ap q_s8 173 (by decide +kernel) rfl, q_ap q_s1 12 (by decide +kernel) rfl, q_mem 96 (by decide +kernel) rfl, ⟨by decide, by decide, by decide +kernel⟩⟩
theorem ok_X12_whomOf : q_okV kX12_whomOf 1 := ⟨q_ap q_s8 182 (by decide +kernel) rfl, q_ap q_s8 181 (by decide +kernel) rfl, q_ap q_s1 12 (by decide +kernel) rfl, q_mem 98 (by decide +kernel) rfl, ⟨by decide, by decide, by decide +kernel⟩⟩
theorem ok_X12_whom : q_okV kX12_whom 1 := ⟨q_ap q_s8 170 (by decide +kernel) rfl, q_ap q_s8 168 (by decide +kernel) rfl, q_ap q_s1 12 (by decide +kernel) rfl, q_ap q_s8 169 (by decide +kernel) rfl, ⟨by decide, by decide, by decide +kernel⟩⟩
theorem ok_X12_worstOf : q_okV kX12_worstOf 2 := ⟨q_ap q_s8 198 (by decide +kernel) rfl, q_ap q_s8 197 (by decide +kernel) rfl, q_ap q_s1 12 (by decide +kernel) rfl, q_mem 101 (by decide +kernel) rfl, ⟨by decide, by decide, by decide +kernel⟩⟩
theorem ok_X12_askOf : q_okV kX12_askOf 1 := ⟨q_ap q_s8 194 (by decide +kernel) rfl, q_ap q_s8 193 (by decide +kernel) rfl, q_ap q_s1 12 (by decide +kernel) rfl, q_mem 100 (by decide +kernel) rfl, ⟨by decide, by decide, by decide +kernel⟩⟩
theorem ok_X12_ask : q_okV kX12_ask 1 := ⟨q_ap q_s8 190 (by decide +kernel) rfl, q_ap q_s8 188 (by decide +kernel) rfl, q_ap q_s1 12 (by decide +kernel) rfl, q_ap q_s8 189 (by decide +kernel) rfl, ⟨by decide, by decide, by decide +kernel⟩⟩
theorem ok_X12_leaves : q_okV kX12_leaves 1 := ⟨q_ap q_s8 202 (by decide +kernel) rfl, q_ap q_s8 200 (by decide +kernel) rfl, q_ap q_s1 12 (by decide +kernel) rfl, q_ap q_s8 201 (by decide +kernel) rfl, ⟨by decide, by decide, by decide +kernel⟩⟩
theorem ok_X12_laws : q_okV kX12_laws 1 := ⟨q_ap q_s8 206 (by decide +kernel) rfl, q_ap q_s8 204 (by decide +kernel) rfl, q_ap q_s1 12 (by decide +kernel) rfl, q_ap q_s8 205 (by decide +kernel) rfl, ⟨by decide, by decide, by decide +kernel⟩⟩
theorem ok_X12_goBy : q_okV kX12_goBy 1 := ⟨q_ap q_s8 214 (by decide +kernel) rfl, q_ap q_s8 213 (by decide +kernel) rfl, q_ap q_s1 12 (by decide +kernel) rfl, q_mem 102 (by decide +kernel) rfl, ⟨by decide, by decide, by decide +kernel⟩⟩
theorem ok_X12_by : q_okV kX12_by 1 := ⟨q_ap q_s8 210 (by decide +kernel) rfl, q_ap q_s8 208 (by decide +kernel) rfl, q_ap q_s1 12 (by decide +kernel) rfl, q_ap q_s8 209 (by decide +kernel) rfl, ⟨by decide, by decide, by decide +kernel⟩⟩
theorem ok_X12_law : q_okV kX12_law 0 := ⟨q_ap q_s8 218 (by decide +kernel) rfl, q_ap q_s8 216 (by decide +kernel) rfl, q_ap q_s1 12 (by decide +kernel) rfl, q_ap q_s8 217 (by decide +kernel) rfl, ⟨by decide, by decide, by decide +kernel⟩⟩
theorem ok_X12_litByTurns : q_okV kX12_litByTurns 2 := ⟨q_ap q_s8 234 (by decide +kernel) rfl, q_ap q_s8 233 (by decide +kernel) rfl, q_ap q_s1 12 (by decide +kernel) rfl, q_mem 105 (by decide +kernel) rfl, ⟨by decide, by decide, by decide +kernel⟩⟩
theorem ok_X12_repliesTo : q_okV kX12_repliesTo 1 := ⟨q_ap q_s8 230 (by decide +kernel) rfl, q_ap q_s8 229 (by decide +kernel) rfl, q_ap q_s1 12 (by decide +kernel) rfl, q_mem 104 (by decide +kernel) rfl, ⟨by decide, by decide, by decide +kernel⟩⟩
theorem ok_X12_opensOf : q_okV kX12_opensOf 0 := ⟨q_ap q_s8 226 (by decide +kernel) rfl, q_ap q_s8 225 (by decide +kernel) rfl, q_ap q_s1 12 (by decide +kernel) rfl, q_mem 103 (by decide +kernel) rfl, ⟨by decide, by decide, by decide +kernel⟩⟩
theorem ok_X12_rector : q_okV kX12_rector 0 := ⟨q_ap q_s8 222 (by decide +kernel) rfl, q_ap q_s8 220 (by decide +kernel) rfl, q_ap q_s1 12 (by decide +kernel) rfl, q_ap q_s8 221 (by decide +kernel) rfl, ⟨by decide, by decide, by decide +kernel⟩⟩
theorem ok_X12_opens : q_okV kX12_opens 0 := ⟨q_ap q_s8 238 (by decide +kernel) rfl, q_ap q_s8 236 (by decide +kernel) rfl, q_ap q_s1 12 (by decide +kernel) rfl, q_ap q_s8 237 (by decide +kernel) rfl, ⟨by decide, by decide, by decide +kernel⟩⟩
theorem ok_X12_replies : q_okV kX12_replies 1 := ⟨q_ap q_s9 2 (by decide +kernel) rfl, q_ap q_s9 0 (by decide +kernel) rfl, q_ap q_s1 12 (by decide +kernel) rfl, q_ap q_s9 1 (by decide +kernel) rfl, ⟨by decide, by decide, by decide +kernel⟩⟩
theorem ok_X12_getsBy : q_okV kX12_getsBy 5 := ⟨q_ap q_s9 14 (by decide +kernel) rfl, q_ap q_s9 13 (by decide +kernel) rfl, q_ap q_s1 12 (by decide +kernel) rfl, q_mem 107 (by decide +kernel) rfl, ⟨by decide, by decide, by decide +kernel⟩⟩
theorem ok_X12_areTwo : q_okV kX12_areTwo 2 := ⟨q_ap q_s9 10 (by decide +kernel) rfl, q_ap q_s9 9 (by decide +kernel) rfl, q_ap q_s1 12 (by decide +kernel) rfl, q_mem 106 (by decide +kernel) rfl, ⟨by decide, by decide, by decide +kernel⟩⟩
theorem ok_X12_rests : q_okV kX12_rests 2 := ⟨q_ap q_s9 6 (by decide +kernel) rfl, q_ap q_s9 4 (by decide +kernel) rfl, q_ap q_s1 12 (by decide +kernel) rfl, q_ap q_s9 5 (by decide +kernel) rfl, ⟨by decide, by decide, by decide +kernel⟩⟩
theorem ok_X12_gets : q_okV kX12_gets 4 := ⟨q_ap q_s9 18 (by decide +kernel) rfl, q_ap q_s9 16 (by decide +kernel) rfl, q_ap q_s1 12 (by decide +kernel) rfl, q_ap q_s9 17 (by decide +kernel) rfl, ⟨by decide, by decide, by decide +kernel⟩⟩
theorem ok_X12_laySilence : q_okV kX12_laySilence 2 := ⟨q_ap q_s9 32 (by decide +kernel) rfl, q_ap q_s9 31 (by decide +kernel) rfl, q_ap q_s1 12 (by decide +kernel) rfl, q_mem 109 (by decide +kernel) rfl, ⟨by decide, by decide, by decide +kernel⟩⟩
theorem ok_X12_isSilence : q_okV kX12_isSilence 2 := ⟨q_ap q_s9 26 (by decide +kernel) rfl, q_ap q_s9 25 (by decide +kernel) rfl, q_ap q_s1 12 (by decide +kernel) rfl, q_mem 108 (by decide +kernel) rfl, ⟨by decide, by decide, by decide +kernel⟩⟩
theorem ok_X12_chance : q_okV kX12_chance 3 := ⟨q_ap q_s9 22 (by decide +kernel) rfl, q_ap q_s9 20 (by decide +kernel) rfl, q_ap q_s1 12 (by decide +kernel) rfl, q_ap q_s9 21 (by decide +kernel) rfl, ⟨by decide, by decide, by decide +kernel⟩⟩
theorem ok_X12_mean : q_okV kX12_mean 2 := ⟨q_ap q_s9 36 (by decide +kernel) rfl, q_ap q_s9 34 (by decide +kernel) rfl, q_ap q_s1 12 (by decide +kernel) rfl, q_ap q_s9 35 (by decide +kernel) rfl, ⟨by decide, by decide, by decide +kernel⟩⟩
theorem ok_X12_keepAct : q_okV kX12_keepAct 1 := ⟨q_ap q_s9 44 (by decide +kernel) rfl, q_ap q_s9 43 (by decide +kernel) rfl, q_ap q_s1 12 (by decide +kernel) rfl, q_mem 110 (by decide +kernel) rfl, ⟨by decide, by decide, by decide +kernel⟩⟩
theorem ok_X12_light : q_okV kX12_light 3 := ⟨q_ap q_s9 40 (by decide +kernel) rfl, q_ap q_s9 38 (by decide +kernel) rfl, q_ap q_s1 12 (by decide +kernel) rfl, q_ap q_s9 39 (by decide +kernel) rfl, ⟨by decide, by decide, by decide +kernel⟩⟩
theorem ok_X12_draught : q_okV kX12_draught 2 := ⟨q_ap q_s9 48 (by decide +kernel) rfl, q_ap q_s9 46 (by decide +kernel) rfl, q_ap q_s1 12 (by decide +kernel) rfl, q_ap q_s9 47 (by decide +kernel) rfl, ⟨by decide, by decide, by decide +kernel⟩⟩
theorem ok_X12_undo : q_okV kX12_undo 0 := ⟨q_ap q_s9 52 (by decide +kernel) rfl, q_ap q_s9 50 (by decide +kernel) rfl, q_ap q_s1 12 (by decide +kernel) rfl, q_ap q_s9 51 (by decide +kernel) rfl, ⟨by decide, by decide, by decide +kernel⟩⟩
theorem ok_X12_anew : q_okV kX12_anew 0 := ⟨q_ap q_s9 56 (by decide +kernel) rfl, q_ap q_s9 54 (by decide +kernel) rfl, q_ap q_s1 12 (by decide +kernel) rfl, q_ap q_s9 55 (by decide +kernel) rfl, ⟨by decide, by decide, by decide +kernel⟩⟩
theorem ok_X12_goDrawn : q_okV kX12_goDrawn 1 := ⟨q_ap q_s9 68 (by decide +kernel) rfl, q_ap q_s9 67 (by decide +kernel) rfl, q_ap q_s1 12 (by decide +kernel) rfl, q_mem 111 (by decide +kernel) rfl, ⟨by decide, by decide, by decide +kernel⟩⟩
theorem ok_X12_isSeed : q_okS kX12_isSeed 1 := ⟨q_ap q_s9 63 (by decide +kernel) rfl, q_ap q_s9 62 (by decide +kernel) rfl, q_ap q_s1 12 (by decide +kernel) rfl, ⟨by decide, by decide, by decide +kernel⟩⟩
theorem ok_X12_drawn : q_okV kX12_drawn 2 := ⟨q_ap q_s9 60 (by decide +kernel) rfl, q_ap q_s9 58 (by decide +kernel) rfl, q_ap q_s1 12 (by decide +kernel) rfl, q_ap q_s9 59 (by decide +kernel) rfl, ⟨by decide, by decide, by decide +kernel⟩⟩
theorem ok_X12_luck : q_okV kX12_luck 3 := ⟨q_ap q_s9 77 (by decide +kernel) rfl, q_ap q_s9 75 (by decide +kernel) rfl, q_ap q_s1 12 (by decide +kernel) rfl, q_ap q_s9 76 (by decide +kernel) rfl, ⟨by decide, by decide, by decide +kernel⟩⟩
theorem ok_X12_hushes : q_okV kX12_hushes 1 := ⟨q_ap q_s9 82 (by decide +kernel) rfl, q_ap q_s9 80 (by decide +kernel) rfl, q_ap q_s1 12 (by decide +kernel) rfl, q_ap q_s9 81 (by decide +kernel) rfl, ⟨by decide, by decide, by decide +kernel⟩⟩
theorem ok_X12_count : q_okV kX12_count 1 := ⟨q_ap q_s9 86 (by decide +kernel) rfl, q_ap q_s9 84 (by decide +kernel) rfl, q_ap q_s1 12 (by decide +kernel) rfl, q_ap q_s9 85 (by decide +kernel) rfl, ⟨by decide, by decide, by decide +kernel⟩⟩
theorem ok_X12_isSlot : q_okS kX12_isSlot 1 := ⟨q_ap q_s8 67 (by decide +kernel) rfl, q_ap q_s8 66 (by decide +kernel) rfl, q_ap q_s1 12 (by decide +kernel) rfl, ⟨by decide, by decide, by decide +kernel⟩⟩
theorem ok_X12_clipped : q_okS kX12_clipped 2 := ⟨q_ap q_s9 98 (by decide +kernel) rfl, q_ap q_s9 97 (by decide +kernel) rfl, q_ap q_s1 12 (by decide +kernel) rfl, ⟨by decide, by decide, by decide +kernel⟩⟩
theorem ok_X12_row : q_okV kX12_row 3 := ⟨q_ap q_s9 91 (by decide +kernel) rfl, q_ap q_s9 89 (by decide +kernel) rfl, q_ap q_s1 12 (by decide +kernel) rfl, q_ap q_s9 90 (by decide +kernel) rfl, ⟨by decide, by decide, by decide +kernel⟩⟩
theorem ok_X12_write : q_okV kX12_write 3 := ⟨q_ap q_s9 95 (by decide +kernel) rfl, q_ap q_s9 93 (by decide +kernel) rfl, q_ap q_s1 12 (by decide +kernel) rfl, q_ap q_s9 94 (by decide +kernel) rfl, ⟨by decide, by decide, by decide +kernel⟩⟩
theorem ok_X12_paste : q_okV kX12_paste 5 := ⟨q_ap q_s9 102 (by decide +kernel) rfl, q_ap q_s9 100 (by decide +kernel) rfl, q_ap q_s1 12 (by decide +kernel) rfl, q_ap q_s9 101 (by decide +kernel) rfl, ⟨by decide, by decide, by decide +kernel⟩⟩
theorem ok_J6_bitCount_0f7a4 : q_okS kJ6_bitCount_0f7a4 1 := ⟨q_ap q_s4 38 (by decide +kernel) rfl, q_ap q_s4 37 (by decide +kernel) rfl, q_ap q_s1 20 (by decide +kernel) rfl, ⟨by decide, by decide, by decide +kernel⟩⟩
theorem ok_J9_abs_067f4 : q_okS kJ9_abs_067f4 1 := ⟨q_ap q_s5 27 (by decide +kernel) rfl, q_ap q_s5 26 (by decide +kernel) rfl, q_ap q_s1 13 (by decide +kernel) rfl, ⟨by decide, by decide, by decide +kernel⟩⟩
theorem ok_J9_max_7cf53 : q_okS kJ9_max_7cf53 2 := ⟨q_ap q_s4 147 (by decide +kernel) rfl, q_ap q_s4 146 (by decide +kernel) rfl, q_ap q_s1 13 (by decide +kernel) rfl, ⟨by decide, by decide, by decide +kernel⟩⟩
theorem ok_J9_min_7cf53 : q_okS kJ9_min_7cf53 2 := ⟨q_ap q_s3 20 (by decide +kernel) rfl, q_ap q_s3 19 (by decide +kernel) rfl, q_ap q_s1 13 (by decide +kernel) rfl, ⟨by decide, by decide, by decide +kernel⟩⟩
theorem ok_J0_length_8abf5 : q_okV kJ0_length_8abf5 0 := ⟨q_ap q_s3 41 (by decide +kernel) rfl, q_ap q_s3 39 (by decide +kernel) rfl, q_ap q_s1 14 (by decide +kernel) rfl, q_ap q_s3 40 (by decide +kernel) rfl, ⟨by decide, by decide, by decide +kernel⟩⟩
theorem ok_J0_charAt_5068e : q_okV kJ0_charAt_5068e 1 := ⟨q_ap q_s3 51 (by decide +kernel) rfl, q_ap q_s3 49 (by decide +kernel) rfl, q_ap q_s1 14 (by decide +kernel) rfl, q_ap q_s3 50 (by decide +kernel) rfl, ⟨by decide, by decide, by decide +kernel⟩⟩
theorem ok_J0_coder_7d493 : q_okV kJ0_coder_7d493 0 := ⟨q_ap q_s3 45 (by decide +kernel) rfl, q_ap q_s3 43 (by decide +kernel) rfl, q_ap q_s1 14 (by decide +kernel) rfl, q_ap q_s3 44 (by decide +kernel) rfl, ⟨by decide, by decide, by decide +kernel⟩⟩
theorem ok_J0_isLatin1_aae02 : q_okV kJ0_isLatin1_aae02 0 := ⟨q_ap q_s3 55 (by decide +kernel) rfl, q_ap q_s3 53 (by decide +kernel) rfl, q_ap q_s1 14 (by decide +kernel) rfl, q_ap q_s3 54 (by decide +kernel) rfl, ⟨by decide, by decide, by decide +kernel⟩⟩
theorem ok_J0_checkIndex_df160 : q_okS kJ0_checkIndex_df160 2 := ⟨q_ap q_s3 61 (by decide +kernel) rfl, q_ap q_s3 60 (by decide +kernel) rfl, q_ap q_s1 14 (by decide +kernel) rfl, ⟨by decide, by decide, by decide +kernel⟩⟩
theorem ok_J1_charAt_3b067 : q_okS kJ1_charAt_3b067 2 := ⟨q_ap q_s3 58 (by decide +kernel) rfl, q_ap q_s3 57 (by decide +kernel) rfl, q_ap q_s1 15 (by decide +kernel) rfl, ⟨by decide, by decide, by decide +kernel⟩⟩
theorem ok_J3_checkIndex_8e157 : q_okS kJ3_checkIndex_8e157 3 := ⟨q_ap q_s3 66 (by decide +kernel) rfl, q_ap q_s3 65 (by decide +kernel) rfl, q_ap q_s1 16 (by decide +kernel) rfl, ⟨by decide, by decide, by decide +kernel⟩⟩
theorem q_clX0 : q_cls 0 RX0 TX0 4 tyX0 := ⟨rfl, by decide +kernel, tyX0_ok, nmX0⟩
theorem fkX0_0 : 0 < 4 ∧ (q_FK.getD 0 [])[0]? = some 0 := ⟨by decide, rfl⟩
theorem fkX0_1 : 1 < 4 ∧ (q_FK.getD 0 [])[1]? = some 2 := ⟨by decide, rfl⟩
theorem fkX0_2 : 2 < 4 ∧ (q_FK.getD 0 [])[2]? = some 2 := ⟨by decide, rfl⟩
theorem fkX0_3 : 3 < 4 ∧ (q_FK.getD 0 [])[3]? = some 2 := ⟨by decide, rfl⟩
theorem q_clX1 : q_cls 1 RX1 TX1 2 tyX1 := ⟨rfl, by decide +kernel, tyX1_ok, nmX1⟩
theorem fkX1_0 : 0 < 2 ∧ (q_FK.getD 1 [])[0]? = some 2 := ⟨by decide, rfl⟩
theorem fkX1_1 : 1 < 2 ∧ (q_FK.getD 1 [])[1]? = some 2 := ⟨by decide, rfl⟩
theorem q_clX2 : q_cls 2 RX2 TX2 7 tyX2 := ⟨rfl, by decide +kernel, tyX2_ok, nmX2⟩
theorem fkX2_0 : 0 < 7 ∧ (q_FK.getD 2 [])[0]? = some 0 := ⟨by decide, rfl⟩
theorem fkX2_1 : 1 < 7 ∧ (q_FK.getD 2 [])[1]? = some 0 := ⟨by decide, rfl⟩
theorem fkX2_2 : 2 < 7 ∧ (q_FK.getD 2 [])[2]? = some 2 := ⟨by decide, rfl⟩
theorem fkX2_3 : 3 < 7 ∧ (q_FK.getD 2 [])[3]? = some 2 := ⟨by decide, rfl⟩
theorem fkX2_4 : 4 < 7 ∧ (q_FK.getD 2 [])[4]? = some 2 := ⟨by decide, rfl⟩
theorem fkX2_5 : 5 < 7 ∧ (q_FK.getD 2 [])[5]? = some 2 := ⟨by decide, rfl⟩
theorem fkX2_6 : 6 < 7 ∧ (q_FK.getD 2 [])[6]? = some 2 := ⟨by decide, rfl⟩
theorem q_clX3 : q_cls 3 RX3 TX3 17 tyX3 := ⟨rfl, by decide +kernel, tyX3_ok, nmX3⟩
theorem fkX3_0 : 0 < 17 ∧ (q_FK.getD 3 [])[0]? = some 2 := ⟨by decide, rfl⟩
theorem fkX3_1 : 1 < 17 ∧ (q_FK.getD 3 [])[1]? = some 2 := ⟨by decide, rfl⟩
theorem fkX3_2 : 2 < 17 ∧ (q_FK.getD 3 [])[2]? = some 2 := ⟨by decide, rfl⟩
theorem fkX3_3 : 3 < 17 ∧ (q_FK.getD 3 [])[3]? = some 2 := ⟨by decide, rfl⟩
theorem fkX3_4 : 4 < 17 ∧ (q_FK.getD 3 [])[4]? = some 2 := ⟨by decide, rfl⟩
theorem fkX3_5 : 5 < 17 ∧ (q_FK.getD 3 [])[5]? = some 2 := ⟨by decide, rfl⟩
theorem fkX3_6 : 6 < 17 ∧ (q_FK.getD 3 [])[6]? = some 2 := ⟨by decide, rfl⟩
theorem fkX3_7 : 7 < 17 ∧ (q_FK.getD 3 [])[7]? = some 0 := ⟨by decide, rfl⟩
theorem fkX3_8 : 8 < 17 ∧ (q_FK.getD 3 [])[8]? = some 0 := ⟨by decide, rfl⟩
theorem fkX3_9 : 9 < 17 ∧ (q_FK.getD 3 [])[9]? = some 0 := ⟨by decide, rfl⟩
theorem fkX3_10 : 10 < 17 ∧ (q_FK.getD 3 [])[10]? = some 0 := ⟨by decide, rfl⟩
theorem fkX3_11 : 11 < 17 ∧ (q_FK.getD 3 [])[11]? = some 0 := ⟨by decide, rfl⟩
theorem fkX3_12 : 12 < 17 ∧ (q_FK.getD 3 [])[12]? = some 0 := ⟨by decide, rfl⟩
theorem fkX3_13 : 13 < 17 ∧ (q_FK.getD 3 [])[13]? = some 0 := ⟨by decide, rfl⟩
theorem fkX3_14 : 14 < 17 ∧ (q_FK.getD 3 [])[14]? = some 0 := ⟨by decide, rfl⟩
theorem fkX3_15 : 15 < 17 ∧ (q_FK.getD 3 [])[15]? = some 0 := ⟨by decide, rfl⟩
theorem fkX3_16 : 16 < 17 ∧ (q_FK.getD 3 [])[16]? = some 0 := ⟨by decide, rfl⟩
theorem q_clX4 : q_cls 4 RX4 TX4 6 tyX4 := ⟨rfl, by decide +kernel, tyX4_ok, nmX4⟩
theorem fkX4_0 : 0 < 6 ∧ (q_FK.getD 4 [])[0]? = some 0 := ⟨by decide, rfl⟩
theorem fkX4_1 : 1 < 6 ∧ (q_FK.getD 4 [])[1]? = some 0 := ⟨by decide, rfl⟩
theorem fkX4_2 : 2 < 6 ∧ (q_FK.getD 4 [])[2]? = some 2 := ⟨by decide, rfl⟩
theorem fkX4_3 : 3 < 6 ∧ (q_FK.getD 4 [])[3]? = some 0 := ⟨by decide, rfl⟩
theorem fkX4_4 : 4 < 6 ∧ (q_FK.getD 4 [])[4]? = some 2 := ⟨by decide, rfl⟩
theorem fkX4_5 : 5 < 6 ∧ (q_FK.getD 4 [])[5]? = some 2 := ⟨by decide, rfl⟩
theorem q_clX5 : q_cls 5 RX5 TX5 16 tyX5 := ⟨rfl, by decide +kernel, tyX5_ok, nmX5⟩
theorem fkX5_0 : 0 < 16 ∧ (q_FK.getD 5 [])[0]? = some 0 := ⟨by decide, rfl⟩
theorem fkX5_1 : 1 < 16 ∧ (q_FK.getD 5 [])[1]? = some 0 := ⟨by decide, rfl⟩
theorem fkX5_2 : 2 < 16 ∧ (q_FK.getD 5 [])[2]? = some 0 := ⟨by decide, rfl⟩
theorem fkX5_3 : 3 < 16 ∧ (q_FK.getD 5 [])[3]? = some 0 := ⟨by decide, rfl⟩
theorem fkX5_4 : 4 < 16 ∧ (q_FK.getD 5 [])[4]? = some 0 := ⟨by decide, rfl⟩
theorem fkX5_5 : 5 < 16 ∧ (q_FK.getD 5 [])[5]? = some 0 := ⟨by decide, rfl⟩
theorem fkX5_6 : 6 < 16 ∧ (q_FK.getD 5 [])[6]? = some 0 := ⟨by decide, rfl⟩
theorem fkX5_7 : 7 < 16 ∧ (q_FK.getD 5 [])[7]? = some 0 := ⟨by decide, rfl⟩
theorem fkX5_8 : 8 < 16 ∧ (q_FK.getD 5 [])[8]? = some 2 := ⟨by decide, rfl⟩
theorem fkX5_9 : 9 < 16 ∧ (q_FK.getD 5 [])[9]? = some 2 := ⟨by decide, rfl⟩
theorem fkX5_10 : 10 < 16 ∧ (q_FK.getD 5 [])[10]? = some 2 := ⟨by decide, rfl⟩
theorem fkX5_11 : 11 < 16 ∧ (q_FK.getD 5 [])[11]? = some 2 := ⟨by decide, rfl⟩
theorem fkX5_12 : 12 < 16 ∧ (q_FK.getD 5 [])[12]? = some 2 := ⟨by decide, rfl⟩
theorem fkX5_13 : 13 < 16 ∧ (q_FK.getD 5 [])[13]? = some 2 := ⟨by decide, rfl⟩
theorem fkX5_14 : 14 < 16 ∧ (q_FK.getD 5 [])[14]? = some 2 := ⟨by decide, rfl⟩
theorem fkX5_15 : 15 < 16 ∧ (q_FK.getD 5 [])[15]? = some 2 := ⟨by decide, rfl⟩
theorem q_clX6 : q_cls 6 RX6 TX6 9 tyX6 := ⟨rfl, by decide +kernel, tyX6_ok, nmX6⟩
theorem fkX6_0 : 0 < 9 ∧ (q_FK.getD 6 [])[0]? = some 0 := ⟨by decide, rfl⟩
theorem fkX6_1 : 1 < 9 ∧ (q_FK.getD 6 [])[1]? = some 0 := ⟨by decide, rfl⟩
theorem fkX6_2 : 2 < 9 ∧ (q_FK.getD 6 [])[2]? = some 2 := ⟨by decide, rfl⟩
theorem fkX6_3 : 3 < 9 ∧ (q_FK.getD 6 [])[3]? = some 2 := ⟨by decide, rfl⟩
theorem fkX6_4 : 4 < 9 ∧ (q_FK.getD 6 [])[4]? = some 0 := ⟨by decide, rfl⟩
theorem fkX6_5 : 5 < 9 ∧ (q_FK.getD 6 [])[5]? = some 0 := ⟨by decide, rfl⟩
theorem fkX6_6 : 6 < 9 ∧ (q_FK.getD 6 [])[6]? = some 0 := ⟨by decide, rfl⟩
theorem fkX6_7 : 7 < 9 ∧ (q_FK.getD 6 [])[7]? = some 0 := ⟨by decide, rfl⟩
theorem fkX6_8 : 8 < 9 ∧ (q_FK.getD 6 [])[8]? = some 0 := ⟨by decide, rfl⟩
theorem q_clX8 : q_cls 7 RX8 TX8 3 tyX8 := ⟨rfl, by decide +kernel, tyX8_ok, nmX8⟩
theorem fkX8_0 : 0 < 3 ∧ (q_FK.getD 7 [])[0]? = some 2 := ⟨by decide, rfl⟩
theorem fkX8_1 : 1 < 3 ∧ (q_FK.getD 7 [])[1]? = some 2 := ⟨by decide, rfl⟩
theorem fkX8_2 : 2 < 3 ∧ (q_FK.getD 7 [])[2]? = some 2 := ⟨by decide, rfl⟩
theorem q_clX9 : q_cls 8 RX9 TX9 3 tyX9 := ⟨rfl, by decide +kernel, tyX9_ok, nmX9⟩
theorem fkX9_0 : 0 < 3 ∧ (q_FK.getD 8 [])[0]? = some 2 := ⟨by decide, rfl⟩
theorem fkX9_1 : 1 < 3 ∧ (q_FK.getD 8 [])[1]? = some 2 := ⟨by decide, rfl⟩
theorem fkX9_2 : 2 < 3 ∧ (q_FK.getD 8 [])[2]? = some 2 := ⟨by decide, rfl⟩
theorem q_clX10 : q_cls 9 RX10 TX10 5 tyX10 := ⟨rfl, by decide +kernel, tyX10_ok, nmX10⟩
theorem fkX10_0 : 0 < 5 ∧ (q_FK.getD 9 [])[0]? = some 0 := ⟨by decide, rfl⟩
theorem fkX10_1 : 1 < 5 ∧ (q_FK.getD 9 [])[1]? = some 0 := ⟨by decide, rfl⟩
theorem fkX10_2 : 2 < 5 ∧ (q_FK.getD 9 [])[2]? = some 0 := ⟨by decide, rfl⟩
theorem fkX10_3 : 3 < 5 ∧ (q_FK.getD 9 [])[3]? = some 2 := ⟨by decide, rfl⟩
theorem fkX10_4 : 4 < 5 ∧ (q_FK.getD 9 [])[4]? = some 2 := ⟨by decide, rfl⟩
theorem q_clX11 : q_cls 10 RX11 TX11 19 tyX11 := ⟨rfl, by decide +kernel, tyX11_ok, nmX11⟩
theorem fkX11_0 : 0 < 19 ∧ (q_FK.getD 10 [])[0]? = some 2 := ⟨by decide, rfl⟩
theorem fkX11_1 : 1 < 19 ∧ (q_FK.getD 10 [])[1]? = some 0 := ⟨by decide, rfl⟩
theorem fkX11_2 : 2 < 19 ∧ (q_FK.getD 10 [])[2]? = some 0 := ⟨by decide, rfl⟩
theorem fkX11_3 : 3 < 19 ∧ (q_FK.getD 10 [])[3]? = some 0 := ⟨by decide, rfl⟩
theorem fkX11_4 : 4 < 19 ∧ (q_FK.getD 10 [])[4]? = some 2 := ⟨by decide, rfl⟩
theorem fkX11_5 : 5 < 19 ∧ (q_FK.getD 10 [])[5]? = some 2 := ⟨by decide, rfl⟩
theorem fkX11_6 : 6 < 19 ∧ (q_FK.getD 10 [])[6]? = some 2 := ⟨by decide, rfl⟩
theorem fkX11_7 : 7 < 19 ∧ (q_FK.getD 10 [])[7]? = some 2 := ⟨by decide, rfl⟩
theorem fkX11_8 : 8 < 19 ∧ (q_FK.getD 10 [])[8]? = some 2 := ⟨by decide, rfl⟩
theorem fkX11_9 : 9 < 19 ∧ (q_FK.getD 10 [])[9]? = some 2 := ⟨by decide, rfl⟩
theorem fkX11_10 : 10 < 19 ∧ (q_FK.getD 10 [])[10]? = some 2 := ⟨by decide, rfl⟩
theorem fkX11_11 : 11 < 19 ∧ (q_FK.getD 10 [])[11]? = some 2 := ⟨by decide, rfl⟩
theorem fkX11_12 : 12 < 19 ∧ (q_FK.getD 10 [])[12]? = some 2 := ⟨by decide, rfl⟩
theorem fkX11_13 : 13 < 19 ∧ (q_FK.getD 10 [])[13]? = some 2 := ⟨by decide, rfl⟩
theorem fkX11_14 : 14 < 19 ∧ (q_FK.getD 10 [])[14]? = some 2 := ⟨by decide, rfl⟩
theorem fkX11_15 : 15 < 19 ∧ (q_FK.getD 10 [])[15]? = some 2 := ⟨by decide, rfl⟩
theorem fkX11_16 : 16 < 19 ∧ (q_FK.getD 10 [])[16]? = some 2 := ⟨by decide, rfl⟩
theorem fkX11_17 : 17 < 19 ∧ (q_FK.getD 10 [])[17]? = some 2 := ⟨by decide, rfl⟩
theorem fkX11_18 : 18 < 19 ∧ (q_FK.getD 10 [])[18]? = some 0 := ⟨by decide, rfl⟩
theorem q_clX12 : q_cls 11 RX12 TX12 41 tyX12 := ⟨rfl, by decide +kernel, tyX12_ok, nmX12⟩
theorem fkX12_0 : 0 < 41 ∧ (q_FK.getD 11 [])[0]? = some 0 := ⟨by decide, rfl⟩
theorem fkX12_1 : 1 < 41 ∧ (q_FK.getD 11 [])[1]? = some 2 := ⟨by decide, rfl⟩
theorem fkX12_2 : 2 < 41 ∧ (q_FK.getD 11 [])[2]? = some 2 := ⟨by decide, rfl⟩
theorem fkX12_3 : 3 < 41 ∧ (q_FK.getD 11 [])[3]? = some 2 := ⟨by decide, rfl⟩
theorem fkX12_4 : 4 < 41 ∧ (q_FK.getD 11 [])[4]? = some 2 := ⟨by decide, rfl⟩
theorem fkX12_5 : 5 < 41 ∧ (q_FK.getD 11 [])[5]? = some 0 := ⟨by decide, rfl⟩
theorem fkX12_6 : 6 < 41 ∧ (q_FK.getD 11 [])[6]? = some 2 := ⟨by decide, rfl⟩
theorem fkX12_7 : 7 < 41 ∧ (q_FK.getD 11 [])[7]? = some 0 := ⟨by decide, rfl⟩
theorem fkX12_8 : 8 < 41 ∧ (q_FK.getD 11 [])[8]? = some 0 := ⟨by decide, rfl⟩
theorem fkX12_9 : 9 < 41 ∧ (q_FK.getD 11 [])[9]? = some 0 := ⟨by decide, rfl⟩
theorem fkX12_10 : 10 < 41 ∧ (q_FK.getD 11 [])[10]? = some 0 := ⟨by decide, rfl⟩
theorem fkX12_11 : 11 < 41 ∧ (q_FK.getD 11 [])[11]? = some 0 := ⟨by decide, rfl⟩
theorem fkX12_12 : 12 < 41 ∧ (q_FK.getD 11 [])[12]? = some 0 := ⟨by decide, rfl⟩
theorem fkX12_13 : 13 < 41 ∧ (q_FK.getD 11 [])[13]? = some 0 := ⟨by decide, rfl⟩
theorem fkX12_14 : 14 < 41 ∧ (q_FK.getD 11 [])[14]? = some 2 := ⟨by decide, rfl⟩
theorem fkX12_15 : 15 < 41 ∧ (q_FK.getD 11 [])[15]? = some 0 := ⟨by decide, rfl⟩
theorem fkX12_16 : 16 < 41 ∧ (q_FK.getD 11 [])[16]? = some 0 := ⟨by decide, rfl⟩
theorem fkX12_17 : 17 < 41 ∧ (q_FK.getD 11 [])[17]? = some 0 := ⟨by decide, rfl⟩
theorem fkX12_18 : 18 < 41 ∧ (q_FK.getD 11 [])[18]? = some 0 := ⟨by decide, rfl⟩
theorem fkX12_19 : 19 < 41 ∧ (q_FK.getD 11 [])[19]? = some 0 := ⟨by decide, rfl⟩
theorem fkX12_20 : 20 < 41 ∧ (q_FK.getD 11 [])[20]? = some 0 := ⟨by decide, rfl⟩
theorem fkX12_21 : 21 < 41 ∧ (q_FK.getD 11 [])[21]? = some 0 := ⟨by decide, rfl⟩
theorem fkX12_22 : 22 < 41 ∧ (q_FK.getD 11 [])[22]? = some 0 := ⟨by decide, rfl⟩
theorem fkX12_23 : 23 < 41 ∧ (q_FK.getD 11 [])[23]? = some 0 := ⟨by decide, rfl⟩
theorem fkX12_24 : 24 < 41 ∧ (q_FK.getD 11 [])[24]? = some 2 := ⟨by decide, rfl⟩
theorem fkX12_25 : 25 < 41 ∧ (q_FK.getD 11 [])[25]? = some 2 := ⟨by decide, rfl⟩
theorem fkX12_26 : 26 < 41 ∧ (q_FK.getD 11 [])[26]? = some 2 := ⟨by decide, rfl⟩
theorem fkX12_27 : 27 < 41 ∧ (q_FK.getD 11 [])[27]? = some 2 := ⟨by decide, rfl⟩
theorem fkX12_28 : 28 < 41 ∧ (q_FK.getD 11 [])[28]? = some 0 := ⟨by decide, rfl⟩
theorem fkX12_29 : 29 < 41 ∧ (q_FK.getD 11 [])[29]? = some 0 := ⟨by decide, rfl⟩
theorem fkX12_30 : 30 < 41 ∧ (q_FK.getD 11 [])[30]? = some 0 := ⟨by decide, rfl⟩
theorem fkX12_31 : 31 < 41 ∧ (q_FK.getD 11 [])[31]? = some 2 := ⟨by decide, rfl⟩
theorem fkX12_32 : 32 < 41 ∧ (q_FK.getD 11 [])[32]? = some 2 := ⟨by decide, rfl⟩
theorem fkX12_33 : 33 < 41 ∧ (q_FK.getD 11 [])[33]? = some 0 := ⟨by decide, rfl⟩
theorem fkX12_34 : 34 < 41 ∧ (q_FK.getD 11 [])[34]? = some 1 := ⟨by decide, rfl⟩
theorem fkX12_35 : 35 < 41 ∧ (q_FK.getD 11 [])[35]? = some 1 := ⟨by decide, rfl⟩
theorem fkX12_36 : 36 < 41 ∧ (q_FK.getD 11 [])[36]? = some 1 := ⟨by decide, rfl⟩
theorem fkX12_37 : 37 < 41 ∧ (q_FK.getD 11 [])[37]? = some 2 := ⟨by decide, rfl⟩
theorem fkX12_38 : 38 < 41 ∧ (q_FK.getD 11 [])[38]? = some 2 := ⟨by decide, rfl⟩
theorem fkX12_39 : 39 < 41 ∧ (q_FK.getD 11 [])[39]? = some 2 := ⟨by decide, rfl⟩
theorem fkX12_40 : 40 < 41 ∧ (q_FK.getD 11 [])[40]? = some 2 := ⟨by decide, rfl⟩
theorem lyp_0 : q_LY.getD 0 (2, 0, 0) = (0, 10, 19) ∧ 0 < q_NT := ⟨rfl, by decide⟩
theorem lyp_1 : q_LY.getD 1 (2, 0, 0) = (1, 1, 600) ∧ 1 < q_NT := ⟨rfl, by decide⟩
theorem lyp_2 : q_LY.getD 2 (2, 0, 0) = (0, 6, 9) ∧ 2 < q_NT := ⟨rfl, by decide⟩
theorem lyp_3 : q_LY.getD 3 (2, 0, 0) = (0, 5, 16) ∧ 3 < q_NT := ⟨rfl, by decide⟩
theorem lyp_4 : q_LY.getD 4 (2, 0, 0) = (1, 0, 7) ∧ 4 < q_NT := ⟨rfl, by decide⟩
theorem lyp_5 : q_LY.getD 5 (2, 0, 0) = (1, 0, 7) ∧ 5 < q_NT := ⟨rfl, by decide⟩
theorem lyp_6 : q_LY.getD 6 (2, 0, 0) = (1, 0, 7) ∧ 6 < q_NT := ⟨rfl, by decide⟩
theorem lyp_7 : q_LY.getD 7 (2, 0, 0) = (1, 0, 7) ∧ 7 < q_NT := ⟨rfl, by decide⟩
theorem lyp_8 : q_LY.getD 8 (2, 0, 0) = (1, 0, 4) ∧ 8 < q_NT := ⟨rfl, by decide⟩
theorem lyp_9 : q_LY.getD 9 (2, 0, 0) = (1, 0, 4) ∧ 9 < q_NT := ⟨rfl, by decide⟩
theorem lyp_10 : q_LY.getD 10 (2, 0, 0) = (1, 0, 6) ∧ 10 < q_NT := ⟨rfl, by decide⟩
theorem lyp_11 : q_LY.getD 11 (2, 0, 0) = (1, 0, 6) ∧ 11 < q_NT := ⟨rfl, by decide⟩
theorem lyp_12 : q_LY.getD 12 (2, 0, 0) = (0, 5, 16) ∧ 12 < q_NT := ⟨rfl, by decide⟩
theorem lyp_13 : q_LY.getD 13 (2, 0, 0) = (1, 0, 7) ∧ 13 < q_NT := ⟨rfl, by decide⟩
theorem lyp_14 : q_LY.getD 14 (2, 0, 0) = (1, 0, 7) ∧ 14 < q_NT := ⟨rfl, by decide⟩
theorem lyp_15 : q_LY.getD 15 (2, 0, 0) = (1, 0, 7) ∧ 15 < q_NT := ⟨rfl, by decide⟩
theorem lyp_16 : q_LY.getD 16 (2, 0, 0) = (1, 0, 7) ∧ 16 < q_NT := ⟨rfl, by decide⟩
theorem lyp_17 : q_LY.getD 17 (2, 0, 0) = (1, 0, 4) ∧ 17 < q_NT := ⟨rfl, by decide⟩
theorem lyp_18 : q_LY.getD 18 (2, 0, 0) = (1, 0, 4) ∧ 18 < q_NT := ⟨rfl, by decide⟩
theorem lyp_19 : q_LY.getD 19 (2, 0, 0) = (1, 0, 6) ∧ 19 < q_NT := ⟨rfl, by decide⟩
theorem lyp_20 : q_LY.getD 20 (2, 0, 0) = (1, 0, 6) ∧ 20 < q_NT := ⟨rfl, by decide⟩
theorem lyp_21 : q_LY.getD 21 (2, 0, 0) = (0, 0, 4) ∧ 21 < q_NT := ⟨rfl, by decide⟩
theorem lyp_22 : q_LY.getD 22 (2, 0, 0) = (1, 0, 30) ∧ 22 < q_NT := ⟨rfl, by decide⟩
theorem lyp_23 : q_LY.getD 23 (2, 0, 0) = (1, 0, 30) ∧ 23 < q_NT := ⟨rfl, by decide⟩
theorem lyp_24 : q_LY.getD 24 (2, 0, 0) = (1, 0, 30) ∧ 24 < q_NT := ⟨rfl, by decide⟩
theorem lyp_25 : q_LY.getD 25 (2, 0, 0) = (0, 8, 3) ∧ 25 < q_NT := ⟨rfl, by decide⟩
theorem lyp_26 : q_LY.getD 26 (2, 0, 0) = (1, 0, 4) ∧ 26 < q_NT := ⟨rfl, by decide⟩
theorem lyp_27 : q_LY.getD 27 (2, 0, 0) = (1, 0, 4) ∧ 27 < q_NT := ⟨rfl, by decide⟩
theorem lyp_28 : q_LY.getD 28 (2, 0, 0) = (1, 6, 4) ∧ 28 < q_NT := ⟨rfl, by decide⟩
theorem lyp_29 : q_LY.getD 29 (2, 0, 0) = (1, 2, 60) ∧ 29 < q_NT := ⟨rfl, by decide⟩
theorem lyp_30 : q_LY.getD 30 (2, 0, 0) = (1, 2, 60) ∧ 30 < q_NT := ⟨rfl, by decide⟩
theorem lyp_31 : q_LY.getD 31 (2, 0, 0) = (1, 2, 60) ∧ 31 < q_NT := ⟨rfl, by decide⟩
theorem lyp_32 : q_LY.getD 32 (2, 0, 0) = (1, 2, 60) ∧ 32 < q_NT := ⟨rfl, by decide⟩
theorem lyp_33 : q_LY.getD 33 (2, 0, 0) = (1, 4, 3) ∧ 33 < q_NT := ⟨rfl, by decide⟩
theorem lyp_34 : q_LY.getD 34 (2, 0, 0) = (1, 5, 3) ∧ 34 < q_NT := ⟨rfl, by decide⟩
theorem lyp_35 : q_LY.getD 35 (2, 0, 0) = (1, 3, 3) ∧ 35 < q_NT := ⟨rfl, by decide⟩
theorem lyp_36 : q_LY.getD 36 (2, 0, 0) = (0, 5, 16) ∧ 36 < q_NT := ⟨rfl, by decide⟩
theorem lyp_37 : q_LY.getD 37 (2, 0, 0) = (1, 0, 7) ∧ 37 < q_NT := ⟨rfl, by decide⟩
theorem lyp_38 : q_LY.getD 38 (2, 0, 0) = (1, 0, 7) ∧ 38 < q_NT := ⟨rfl, by decide⟩
theorem lyp_39 : q_LY.getD 39 (2, 0, 0) = (1, 0, 7) ∧ 39 < q_NT := ⟨rfl, by decide⟩
theorem lyp_40 : q_LY.getD 40 (2, 0, 0) = (1, 0, 7) ∧ 40 < q_NT := ⟨rfl, by decide⟩
theorem lyp_41 : q_LY.getD 41 (2, 0, 0) = (1, 0, 4) ∧ 41 < q_NT := ⟨rfl, by decide⟩
theorem lyp_42 : q_LY.getD 42 (2, 0, 0) = (1, 0, 4) ∧ 42 < q_NT := ⟨rfl, by decide⟩
theorem lyp_43 : q_LY.getD 43 (2, 0, 0) = (1, 0, 6) ∧ 43 < q_NT := ⟨rfl, by decide⟩
theorem lyp_44 : q_LY.getD 44 (2, 0, 0) = (1, 0, 6) ∧ 44 < q_NT := ⟨rfl, by decide⟩
theorem lyp_45 : q_LY.getD 45 (2, 0, 0) = (0, 0, 4) ∧ 45 < q_NT := ⟨rfl, by decide⟩
theorem lyp_46 : q_LY.getD 46 (2, 0, 0) = (1, 0, 30) ∧ 46 < q_NT := ⟨rfl, by decide⟩
theorem lyp_47 : q_LY.getD 47 (2, 0, 0) = (1, 0, 30) ∧ 47 < q_NT := ⟨rfl, by decide⟩
theorem lyp_48 : q_LY.getD 48 (2, 0, 0) = (1, 0, 30) ∧ 48 < q_NT := ⟨rfl, by decide⟩
theorem lyp_49 : q_LY.getD 49 (2, 0, 0) = (0, 5, 16) ∧ 49 < q_NT := ⟨rfl, by decide⟩
theorem lyp_50 : q_LY.getD 50 (2, 0, 0) = (1, 0, 7) ∧ 50 < q_NT := ⟨rfl, by decide⟩
theorem lyp_51 : q_LY.getD 51 (2, 0, 0) = (1, 0, 7) ∧ 51 < q_NT := ⟨rfl, by decide⟩
theorem lyp_52 : q_LY.getD 52 (2, 0, 0) = (1, 0, 7) ∧ 52 < q_NT := ⟨rfl, by decide⟩
theorem lyp_53 : q_LY.getD 53 (2, 0, 0) = (1, 0, 7) ∧ 53 < q_NT := ⟨rfl, by decide⟩
theorem lyp_54 : q_LY.getD 54 (2, 0, 0) = (1, 0, 4) ∧ 54 < q_NT := ⟨rfl, by decide⟩
theorem lyp_55 : q_LY.getD 55 (2, 0, 0) = (1, 0, 4) ∧ 55 < q_NT := ⟨rfl, by decide⟩
theorem lyp_56 : q_LY.getD 56 (2, 0, 0) = (1, 0, 6) ∧ 56 < q_NT := ⟨rfl, by decide⟩
theorem lyp_57 : q_LY.getD 57 (2, 0, 0) = (1, 0, 6) ∧ 57 < q_NT := ⟨rfl, by decide⟩
theorem lyp_58 : q_LY.getD 58 (2, 0, 0) = (0, 0, 4) ∧ 58 < q_NT := ⟨rfl, by decide⟩
theorem lyp_59 : q_LY.getD 59 (2, 0, 0) = (1, 0, 30) ∧ 59 < q_NT := ⟨rfl, by decide⟩
theorem lyp_60 : q_LY.getD 60 (2, 0, 0) = (1, 0, 30) ∧ 60 < q_NT := ⟨rfl, by decide⟩
theorem lyp_61 : q_LY.getD 61 (2, 0, 0) = (1, 0, 30) ∧ 61 < q_NT := ⟨rfl, by decide⟩
theorem lyp_62 : q_LY.getD 62 (2, 0, 0) = (0, 5, 16) ∧ 62 < q_NT := ⟨rfl, by decide⟩
theorem lyp_63 : q_LY.getD 63 (2, 0, 0) = (1, 0, 7) ∧ 63 < q_NT := ⟨rfl, by decide⟩
theorem lyp_64 : q_LY.getD 64 (2, 0, 0) = (1, 0, 7) ∧ 64 < q_NT := ⟨rfl, by decide⟩
theorem lyp_65 : q_LY.getD 65 (2, 0, 0) = (1, 0, 7) ∧ 65 < q_NT := ⟨rfl, by decide⟩
theorem lyp_66 : q_LY.getD 66 (2, 0, 0) = (1, 0, 7) ∧ 66 < q_NT := ⟨rfl, by decide⟩
theorem lyp_67 : q_LY.getD 67 (2, 0, 0) = (1, 0, 4) ∧ 67 < q_NT := ⟨rfl, by decide⟩
theorem lyp_68 : q_LY.getD 68 (2, 0, 0) = (1, 0, 4) ∧ 68 < q_NT := ⟨rfl, by decide⟩
theorem lyp_69 : q_LY.getD 69 (2, 0, 0) = (1, 0, 6) ∧ 69 < q_NT := ⟨rfl, by decide⟩
theorem lyp_70 : q_LY.getD 70 (2, 0, 0) = (1, 0, 6) ∧ 70 < q_NT := ⟨rfl, by decide⟩
theorem lyp_71 : q_LY.getD 71 (2, 0, 0) = (0, 0, 4) ∧ 71 < q_NT := ⟨rfl, by decide⟩
theorem lyp_72 : q_LY.getD 72 (2, 0, 0) = (1, 0, 30) ∧ 72 < q_NT := ⟨rfl, by decide⟩
theorem lyp_73 : q_LY.getD 73 (2, 0, 0) = (1, 0, 30) ∧ 73 < q_NT := ⟨rfl, by decide⟩
theorem lyp_74 : q_LY.getD 74 (2, 0, 0) = (1, 0, 30) ∧ 74 < q_NT := ⟨rfl, by decide⟩
theorem lyp_75 : q_LY.getD 75 (2, 0, 0) = (0, 3, 17) ∧ 75 < q_NT := ⟨rfl, by decide⟩
theorem lyp_76 : q_LY.getD 76 (2, 0, 0) = (1, 0, 13) ∧ 76 < q_NT := ⟨rfl, by decide⟩
theorem lyp_77 : q_LY.getD 77 (2, 0, 0) = (1, 0, 91) ∧ 77 < q_NT := ⟨rfl, by decide⟩
theorem lyp_78 : q_LY.getD 78 (2, 0, 0) = (1, 0, 91) ∧ 78 < q_NT := ⟨rfl, by decide⟩
theorem lyp_79 : q_LY.getD 79 (2, 0, 0) = (1, 0, 91) ∧ 79 < q_NT := ⟨rfl, by decide⟩
theorem lyp_80 : q_LY.getD 80 (2, 0, 0) = (1, 0, 91) ∧ 80 < q_NT := ⟨rfl, by decide⟩
theorem lyp_81 : q_LY.getD 81 (2, 0, 0) = (0, 3, 17) ∧ 81 < q_NT := ⟨rfl, by decide⟩
theorem lyp_82 : q_LY.getD 82 (2, 0, 0) = (1, 0, 13) ∧ 82 < q_NT := ⟨rfl, by decide⟩
theorem lyp_83 : q_LY.getD 83 (2, 0, 0) = (1, 0, 91) ∧ 83 < q_NT := ⟨rfl, by decide⟩
theorem lyp_84 : q_LY.getD 84 (2, 0, 0) = (1, 0, 91) ∧ 84 < q_NT := ⟨rfl, by decide⟩
theorem lyp_85 : q_LY.getD 85 (2, 0, 0) = (1, 0, 91) ∧ 85 < q_NT := ⟨rfl, by decide⟩
theorem lyp_86 : q_LY.getD 86 (2, 0, 0) = (1, 0, 91) ∧ 86 < q_NT := ⟨rfl, by decide⟩
theorem lyp_87 : q_LY.getD 87 (2, 0, 0) = (0, 9, 5) ∧ 87 < q_NT := ⟨rfl, by decide⟩
theorem lyp_88 : q_LY.getD 88 (2, 0, 0) = (0, 7, 3) ∧ 88 < q_NT := ⟨rfl, by decide⟩
theorem lyp_89 : q_LY.getD 89 (2, 0, 0) = (1, 0, 128) ∧ 89 < q_NT := ⟨rfl, by decide⟩
theorem lyp_90 : q_LY.getD 90 (2, 0, 0) = (0, 4, 6) ∧ 90 < q_NT := ⟨rfl, by decide⟩
theorem lyp_91 : q_LY.getD 91 (2, 0, 0) = (1, 0, 13) ∧ 91 < q_NT := ⟨rfl, by decide⟩
theorem lyp_92 : q_LY.getD 92 (2, 0, 0) = (0, 2, 7) ∧ 92 < q_NT := ⟨rfl, by decide⟩
theorem lyp_93 : q_LY.getD 93 (2, 0, 0) = (1, 0, 637) ∧ 93 < q_NT := ⟨rfl, by decide⟩
theorem lyp_94 : q_LY.getD 94 (2, 0, 0) = (1, 0, 7) ∧ 94 < q_NT := ⟨rfl, by decide⟩
theorem lyp_95 : q_LY.getD 95 (2, 0, 0) = (0, 1, 2) ∧ 95 < q_NT := ⟨rfl, by decide⟩
theorem lyp_96 : q_LY.getD 96 (2, 0, 0) = (0, 11, 41) ∧ 96 < q_NT := ⟨rfl, by decide⟩
theorem lyp_97 : q_LY.getD 97 (2, 0, 0) = (1, 0, 104) ∧ 97 < q_NT := ⟨rfl, by decide⟩
theorem lyp_98 : q_LY.getD 98 (2, 0, 0) = (1, 0, 312) ∧ 98 < q_NT := ⟨rfl, by decide⟩
theorem lyp_99 : q_LY.getD 99 (2, 0, 0) = (1, 3, 3) ∧ 99 < q_NT := ⟨rfl, by decide⟩
theorem lyp_100 : q_LY.getD 100 (2, 0, 0) = (1, 1, 600) ∧ 100 < q_NT := ⟨rfl, by decide⟩
theorem lyp_101 : q_LY.getD 101 (2, 0, 0) = (1, 0, 5) ∧ 101 < q_NT := ⟨rfl, by decide⟩
theorem lyp_102 : q_LY.getD 102 (2, 0, 0) = (1, 0, 104) ∧ 102 < q_NT := ⟨rfl, by decide⟩
theorem lyp_103 : q_LY.getD 103 (2, 0, 0) = (1, 0, 91) ∧ 103 < q_NT := ⟨rfl, by decide⟩
theorem lyp_104 : q_LY.getD 104 (2, 0, 0) = (1, 0, 91) ∧ 104 < q_NT := ⟨rfl, by decide⟩
theorem lyp_105 : q_LY.getD 105 (2, 0, 0) = (1, 0, 91) ∧ 105 < q_NT := ⟨rfl, by decide⟩
theorem lyp_106 : q_LY.getD 106 (2, 0, 0) = (1, 0, 91) ∧ 106 < q_NT := ⟨rfl, by decide⟩
theorem lyp_107 : q_LY.getD 107 (2, 0, 0) = (1, 0, 128) ∧ 107 < q_NT := ⟨rfl, by decide⟩
theorem lyp_108 : q_LY.getD 108 (2, 0, 0) = (1, 0, 637) ∧ 108 < q_NT := ⟨rfl, by decide⟩
theorem lyp_109 : q_LY.getD 109 (2, 0, 0) = (1, 0, 4) ∧ 109 < q_NT := ⟨rfl, by decide⟩
theorem lyp_110 : q_LY.getD 110 (2, 0, 0) = (1, 0, 4) ∧ 110 < q_NT := ⟨rfl, by decide⟩
theorem lyp_111 : q_LY.getD 111 (2, 0, 0) = (1, 2, 240) ∧ 111 < q_NT := ⟨rfl, by decide⟩
theorem lyp_112 : q_LY.getD 112 (2, 0, 0) = (1, 2, 60) ∧ 112 < q_NT := ⟨rfl, by decide⟩
theorem fl_X5_36 : Cond.fieldLink RX5 36 "TaperTalk$Night" "lines" "I" ∈ q_tb := q_ap q_s1 41 (by decide +kernel) rfl
theorem fl_X6_47 : Cond.fieldLink RX6 47 "TaperTalk$Night" "lines" "I" ∈ q_tb := q_ap q_s1 42 (by decide +kernel) rfl
theorem fl_X11_142 : Cond.fieldLink RX11 142 "TaperTalk$Night" "lines" "I" ∈ q_tb := q_ap q_s1 43 (by decide +kernel) rfl
theorem fl_X5_40 : Cond.fieldLink RX5 40 "TaperTalk$Night" "hours" "I" ∈ q_tb := q_ap q_s1 44 (by decide +kernel) rfl
theorem fl_X4_42 : Cond.fieldLink RX4 42 "TaperTalk$Night" "hours" "I" ∈ q_tb := q_ap q_s1 45 (by decide +kernel) rfl
theorem fl_X10_36 : Cond.fieldLink RX10 36 "TaperTalk$Night" "hours" "I" ∈ q_tb := q_ap q_s1 46 (by decide +kernel) rfl
theorem fl_X2_45 : Cond.fieldLink RX2 45 "TaperTalk$Night" "hours" "I" ∈ q_tb := q_ap q_s1 47 (by decide +kernel) rfl
theorem fl_X8_32 : Cond.fieldLink RX8 32 "TaperTalk$Night" "hours" "I" ∈ q_tb := q_ap q_s1 48 (by decide +kernel) rfl
theorem fl_X6_93 : Cond.fieldLink RX6 93 "TaperTalk$Night" "hours" "I" ∈ q_tb := q_ap q_s1 49 (by decide +kernel) rfl
theorem fl_X1_60 : Cond.fieldLink RX1 60 "TaperTalk$Night" "hours" "I" ∈ q_tb := q_ap q_s1 50 (by decide +kernel) rfl
theorem fl_X11_203 : Cond.fieldLink RX11 203 "TaperTalk$Night" "hours" "I" ∈ q_tb := q_ap q_s1 51 (by decide +kernel) rfl
theorem fl_X3_35 : Cond.fieldLink RX3 35 "TaperTalk$Night" "law" "I" ∈ q_tb := q_ap q_s1 52 (by decide +kernel) rfl
theorem fl_X5_43 : Cond.fieldLink RX5 43 "TaperTalk$Night" "law" "I" ∈ q_tb := q_ap q_s1 53 (by decide +kernel) rfl
theorem fl_X6_97 : Cond.fieldLink RX6 97 "TaperTalk$Night" "law" "I" ∈ q_tb := q_ap q_s1 54 (by decide +kernel) rfl
theorem fl_X11_388 : Cond.fieldLink RX11 388 "TaperTalk$Night" "law" "I" ∈ q_tb := q_ap q_s1 55 (by decide +kernel) rfl
theorem fl_X5_46 : Cond.fieldLink RX5 46 "TaperTalk$Night" "odds" "I" ∈ q_tb := q_ap q_s1 56 (by decide +kernel) rfl
theorem fl_X1_44 : Cond.fieldLink RX1 44 "TaperTalk$Night" "odds" "I" ∈ q_tb := q_ap q_s1 57 (by decide +kernel) rfl
theorem fl_X6_101 : Cond.fieldLink RX6 101 "TaperTalk$Night" "odds" "I" ∈ q_tb := q_ap q_s1 58 (by decide +kernel) rfl
theorem fl_X11_391 : Cond.fieldLink RX11 391 "TaperTalk$Night" "odds" "I" ∈ q_tb := q_ap q_s1 59 (by decide +kernel) rfl
theorem fl_X5_49 : Cond.fieldLink RX5 49 "TaperTalk$Night" "pews" "I" ∈ q_tb := q_ap q_s1 60 (by decide +kernel) rfl
theorem fl_X10_28 : Cond.fieldLink RX10 28 "TaperTalk$Night" "pews" "I" ∈ q_tb := q_ap q_s1 61 (by decide +kernel) rfl
theorem fl_X2_39 : Cond.fieldLink RX2 39 "TaperTalk$Night" "pews" "I" ∈ q_tb := q_ap q_s1 62 (by decide +kernel) rfl
theorem fl_X8_55 : Cond.fieldLink RX8 55 "TaperTalk$Night" "pews" "I" ∈ q_tb := q_ap q_s1 63 (by decide +kernel) rfl
theorem fl_X6_103 : Cond.fieldLink RX6 103 "TaperTalk$Night" "pews" "I" ∈ q_tb := q_ap q_s1 64 (by decide +kernel) rfl
theorem fl_X3_95 : Cond.fieldLink RX3 95 "TaperTalk$Night" "pews" "I" ∈ q_tb := q_ap q_s1 65 (by decide +kernel) rfl
theorem fl_X11_214 : Cond.fieldLink RX11 214 "TaperTalk$Night" "pews" "I" ∈ q_tb := q_ap q_s1 66 (by decide +kernel) rfl
theorem fl_X5_52 : Cond.fieldLink RX5 52 "TaperTalk$Night" "aisles" "I" ∈ q_tb := q_ap q_s1 67 (by decide +kernel) rfl
theorem fl_X6_133 : Cond.fieldLink RX6 133 "TaperTalk$Night" "aisles" "I" ∈ q_tb := q_ap q_s1 68 (by decide +kernel) rfl
theorem fl_X11_394 : Cond.fieldLink RX11 394 "TaperTalk$Night" "aisles" "I" ∈ q_tb := q_ap q_s1 69 (by decide +kernel) rfl
theorem fl_X5_55 : Cond.fieldLink RX5 55 "TaperTalk$Night" "lights" "I" ∈ q_tb := q_ap q_s1 70 (by decide +kernel) rfl
theorem fl_X3_105 : Cond.fieldLink RX3 105 "TaperTalk$Night" "lights" "I" ∈ q_tb := q_ap q_s1 71 (by decide +kernel) rfl
theorem fl_X6_147 : Cond.fieldLink RX6 147 "TaperTalk$Night" "lights" "I" ∈ q_tb := q_ap q_s1 72 (by decide +kernel) rfl
theorem fl_X11_166 : Cond.fieldLink RX11 166 "TaperTalk$Night" "lights" "I" ∈ q_tb := q_ap q_s1 73 (by decide +kernel) rfl
theorem fl_X5_58 : Cond.fieldLink RX5 58 "TaperTalk$Night" "draughts" "I" ∈ q_tb := q_ap q_s1 74 (by decide +kernel) rfl
theorem fl_X10_43 : Cond.fieldLink RX10 43 "TaperTalk$Night" "draughts" "I" ∈ q_tb := q_ap q_s1 75 (by decide +kernel) rfl
theorem fl_X6_157 : Cond.fieldLink RX6 157 "TaperTalk$Night" "draughts" "I" ∈ q_tb := q_ap q_s1 76 (by decide +kernel) rfl
theorem fl_X3_149 : Cond.fieldLink RX3 149 "TaperTalk$Night" "draughts" "I" ∈ q_tb := q_ap q_s1 77 (by decide +kernel) rfl
theorem fl_X11_397 : Cond.fieldLink RX11 397 "TaperTalk$Night" "draughts" "I" ∈ q_tb := q_ap q_s1 78 (by decide +kernel) rfl
theorem fl_X5_9 : Cond.fieldLink RX5 9 "TaperTalk$Night" "rule" "[I" ∈ q_tb := q_ap q_s1 79 (by decide +kernel) rfl
theorem fl_X11_149 : Cond.fieldLink RX11 149 "TaperTalk$Night" "rule" "[I" ∈ q_tb := q_ap q_s1 80 (by decide +kernel) rfl
theorem fl_X5_15 : Cond.fieldLink RX5 15 "TaperTalk$Night" "firstLetter" "[I" ∈ q_tb := q_ap q_s1 81 (by decide +kernel) rfl
theorem fl_X11_153 : Cond.fieldLink RX11 153 "TaperTalk$Night" "firstLetter" "[I" ∈ q_tb := q_ap q_s1 82 (by decide +kernel) rfl
theorem fl_X5_18 : Cond.fieldLink RX5 18 "TaperTalk$Night" "secondLetter" "[I" ∈ q_tb := q_ap q_s1 83 (by decide +kernel) rfl
theorem fl_X11_156 : Cond.fieldLink RX11 156 "TaperTalk$Night" "secondLetter" "[I" ∈ q_tb := q_ap q_s1 84 (by decide +kernel) rfl
theorem fl_X5_21 : Cond.fieldLink RX5 21 "TaperTalk$Night" "near" "[I" ∈ q_tb := q_ap q_s1 85 (by decide +kernel) rfl
theorem fl_X3_120 : Cond.fieldLink RX3 120 "TaperTalk$Night" "near" "[I" ∈ q_tb := q_ap q_s1 86 (by decide +kernel) rfl
theorem fl_X6_143 : Cond.fieldLink RX6 143 "TaperTalk$Night" "near" "[I" ∈ q_tb := q_ap q_s1 87 (by decide +kernel) rfl
theorem fl_X11_159 : Cond.fieldLink RX11 159 "TaperTalk$Night" "near" "[I" ∈ q_tb := q_ap q_s1 88 (by decide +kernel) rfl
theorem fl_X5_24 : Cond.fieldLink RX5 24 "TaperTalk$Night" "lightPew" "[I" ∈ q_tb := q_ap q_s1 89 (by decide +kernel) rfl
theorem fl_X3_108 : Cond.fieldLink RX3 108 "TaperTalk$Night" "lightPew" "[I" ∈ q_tb := q_ap q_s1 90 (by decide +kernel) rfl
theorem fl_X5_27 : Cond.fieldLink RX5 27 "TaperTalk$Night" "lightSays" "[I" ∈ q_tb := q_ap q_s1 91 (by decide +kernel) rfl
theorem fl_X2_61 : Cond.fieldLink RX2 61 "TaperTalk$Night" "lightSays" "[I" ∈ q_tb := q_ap q_s1 92 (by decide +kernel) rfl
theorem fl_X3_111 : Cond.fieldLink RX3 111 "TaperTalk$Night" "lightSays" "[I" ∈ q_tb := q_ap q_s1 93 (by decide +kernel) rfl
theorem fl_X11_169 : Cond.fieldLink RX11 169 "TaperTalk$Night" "lightSays" "[I" ∈ q_tb := q_ap q_s1 94 (by decide +kernel) rfl
theorem fl_X5_30 : Cond.fieldLink RX5 30 "TaperTalk$Night" "draughtPew" "[I" ∈ q_tb := q_ap q_s1 95 (by decide +kernel) rfl
theorem fl_X3_155 : Cond.fieldLink RX3 155 "TaperTalk$Night" "draughtPew" "[I" ∈ q_tb := q_ap q_s1 96 (by decide +kernel) rfl
theorem fl_X5_33 : Cond.fieldLink RX5 33 "TaperTalk$Night" "draughtHour" "[I" ∈ q_tb := q_ap q_s1 97 (by decide +kernel) rfl
theorem fl_X3_152 : Cond.fieldLink RX3 152 "TaperTalk$Night" "draughtHour" "[I" ∈ q_tb := q_ap q_s1 98 (by decide +kernel) rfl
theorem fl_X6_29 : Cond.fieldLink RX6 29 "TaperTalk$Reader" "fault" "I" ∈ q_tb := q_ap q_s1 134 (by decide +kernel) rfl
theorem fl_X11_128 : Cond.fieldLink RX11 128 "TaperTalk$Reader" "fault" "I" ∈ q_tb := q_ap q_s1 135 (by decide +kernel) rfl
theorem fl_X6_32 : Cond.fieldLink RX6 32 "TaperTalk$Reader" "place" "I" ∈ q_tb := q_ap q_s1 136 (by decide +kernel) rfl
theorem fl_X11_129 : Cond.fieldLink RX11 129 "TaperTalk$Reader" "place" "I" ∈ q_tb := q_ap q_s1 137 (by decide +kernel) rfl
theorem fl_X6_12 : Cond.fieldLink RX6 12 "TaperTalk$Reader" "draft" "LTaperTalk$Night;" ∈ q_tb := q_ap q_s1 138 (by decide +kernel) rfl
theorem fl_X6_18 : Cond.fieldLink RX6 18 "TaperTalk$Reader" "bytes" "[B" ∈ q_tb := q_ap q_s1 139 (by decide +kernel) rfl
theorem fl_X6_22 : Cond.fieldLink RX6 22 "TaperTalk$Reader" "length" "I" ∈ q_tb := q_ap q_s1 140 (by decide +kernel) rfl
theorem fl_X6_165 : Cond.fieldLink RX6 165 "TaperTalk$Reader" "start" "I" ∈ q_tb := q_ap q_s1 141 (by decide +kernel) rfl
theorem fl_X6_26 : Cond.fieldLink RX6 26 "TaperTalk$Reader" "next" "I" ∈ q_tb := q_ap q_s1 142 (by decide +kernel) rfl
theorem fl_X6_41 : Cond.fieldLink RX6 41 "TaperTalk$Reader" "token" "I" ∈ q_tb := q_ap q_s1 143 (by decide +kernel) rfl
theorem fl_X6_116 : Cond.fieldLink RX6 116 "TaperTalk$Reader" "value" "I" ∈ q_tb := q_ap q_s1 144 (by decide +kernel) rfl
theorem fl_X0_19 : Cond.fieldLink RX0 19 "TaperTalk$Acts" "count" "I" ∈ q_tb := q_ap q_s1 172 (by decide +kernel) rfl
theorem fl_X11_136 : Cond.fieldLink RX11 136 "TaperTalk$Acts" "count" "I" ∈ q_tb := q_ap q_s1 173 (by decide +kernel) rfl
theorem fl_X3_135 : Cond.fieldLink RX3 135 "TaperTalk$Acts" "count" "I" ∈ q_tb := q_ap q_s1 174 (by decide +kernel) rfl
theorem fl_X0_9 : Cond.fieldLink RX0 9 "TaperTalk$Acts" "pew" "[I" ∈ q_tb := q_ap q_s1 175 (by decide +kernel) rfl
theorem fl_X3_146 : Cond.fieldLink RX3 146 "TaperTalk$Acts" "pew" "[I" ∈ q_tb := q_ap q_s1 176 (by decide +kernel) rfl
theorem fl_X0_13 : Cond.fieldLink RX0 13 "TaperTalk$Acts" "letter" "[I" ∈ q_tb := q_ap q_s1 177 (by decide +kernel) rfl
theorem fl_X3_143 : Cond.fieldLink RX3 143 "TaperTalk$Acts" "letter" "[I" ∈ q_tb := q_ap q_s1 178 (by decide +kernel) rfl
theorem fl_X0_16 : Cond.fieldLink RX0 16 "TaperTalk$Acts" "hour" "[I" ∈ q_tb := q_ap q_s1 179 (by decide +kernel) rfl
theorem fl_X3_140 : Cond.fieldLink RX3 140 "TaperTalk$Acts" "hour" "[I" ∈ q_tb := q_ap q_s1 180 (by decide +kernel) rfl
theorem fl_X9_11 : Cond.fieldLink RX9 11 "TaperTalk$Slots" "width" "[I" ∈ q_tb := q_ap q_s1 198 (by decide +kernel) rfl
theorem fl_X11_417 : Cond.fieldLink RX11 417 "TaperTalk$Slots" "width" "[I" ∈ q_tb := q_ap q_s1 199 (by decide +kernel) rfl
theorem fl_X9_15 : Cond.fieldLink RX9 15 "TaperTalk$Slots" "length" "[I" ∈ q_tb := q_ap q_s1 200 (by decide +kernel) rfl
theorem fl_X2_30 : Cond.fieldLink RX2 30 "TaperTalk$Slots" "length" "[I" ∈ q_tb := q_ap q_s1 201 (by decide +kernel) rfl
theorem fl_X9_20 : Cond.fieldLink RX9 20 "TaperTalk$Slots" "numbers" "[[J" ∈ q_tb := q_ap q_s1 202 (by decide +kernel) rfl
theorem fl_X2_35 : Cond.fieldLink RX2 35 "TaperTalk$Slots" "numbers" "[[J" ∈ q_tb := q_ap q_s1 203 (by decide +kernel) rfl
theorem fl_X11_420 : Cond.fieldLink RX11 420 "TaperTalk$Slots" "numbers" "[[J" ∈ q_tb := q_ap q_s1 204 (by decide +kernel) rfl
theorem fl_X3_9 : Cond.fieldLink RX3 9 "TaperTalk$Course" "lit" "[I" ∈ q_tb := q_ap q_s1 221 (by decide +kernel) rfl
theorem fl_X1_56 : Cond.fieldLink RX1 56 "TaperTalk$Course" "lit" "[I" ∈ q_tb := q_ap q_s1 222 (by decide +kernel) rfl
theorem fl_X11_183 : Cond.fieldLink RX11 183 "TaperTalk$Course" "lit" "[I" ∈ q_tb := q_ap q_s1 223 (by decide +kernel) rfl
theorem fl_X3_15 : Cond.fieldLink RX3 15 "TaperTalk$Course" "says" "[I" ∈ q_tb := q_ap q_s1 224 (by decide +kernel) rfl
theorem fl_X4_50 : Cond.fieldLink RX4 50 "TaperTalk$Course" "says" "[I" ∈ q_tb := q_ap q_s1 225 (by decide +kernel) rfl
theorem fl_X2_50 : Cond.fieldLink RX2 50 "TaperTalk$Course" "says" "[I" ∈ q_tb := q_ap q_s1 226 (by decide +kernel) rfl
theorem fl_X10_68 : Cond.fieldLink RX10 68 "TaperTalk$Course" "says" "[I" ∈ q_tb := q_ap q_s1 227 (by decide +kernel) rfl
theorem fl_X11_186 : Cond.fieldLink RX11 186 "TaperTalk$Course" "says" "[I" ∈ q_tb := q_ap q_s1 228 (by decide +kernel) rfl
theorem fl_X3_18 : Cond.fieldLink RX3 18 "TaperTalk$Course" "heardOf" "[I" ∈ q_tb := q_ap q_s1 229 (by decide +kernel) rfl
theorem fl_X4_67 : Cond.fieldLink RX4 67 "TaperTalk$Course" "heardOf" "[I" ∈ q_tb := q_ap q_s1 230 (by decide +kernel) rfl
theorem fl_X11_197 : Cond.fieldLink RX11 197 "TaperTalk$Course" "heardOf" "[I" ∈ q_tb := q_ap q_s1 231 (by decide +kernel) rfl
theorem fl_X3_21 : Cond.fieldLink RX3 21 "TaperTalk$Course" "litSince" "[I" ∈ q_tb := q_ap q_s1 232 (by decide +kernel) rfl
theorem fl_X4_70 : Cond.fieldLink RX4 70 "TaperTalk$Course" "litSince" "[I" ∈ q_tb := q_ap q_s1 233 (by decide +kernel) rfl
theorem fl_X11_200 : Cond.fieldLink RX11 200 "TaperTalk$Course" "litSince" "[I" ∈ q_tb := q_ap q_s1 234 (by decide +kernel) rfl
theorem fl_X3_24 : Cond.fieldLink RX3 24 "TaperTalk$Course" "depthOf" "[I" ∈ q_tb := q_ap q_s1 235 (by decide +kernel) rfl
theorem fl_X11_227 : Cond.fieldLink RX11 227 "TaperTalk$Course" "depthOf" "[I" ∈ q_tb := q_ap q_s1 236 (by decide +kernel) rfl
theorem fl_X3_27 : Cond.fieldLink RX3 27 "TaperTalk$Course" "night" "LTaperTalk$Night;" ∈ q_tb := q_ap q_s1 237 (by decide +kernel) rfl
theorem fl_X3_31 : Cond.fieldLink RX3 31 "TaperTalk$Course" "acts" "LTaperTalk$Acts;" ∈ q_tb := q_ap q_s1 238 (by decide +kernel) rfl
theorem fl_X3_41 : Cond.fieldLink RX3 41 "TaperTalk$Course" "law" "I" ∈ q_tb := q_ap q_s1 239 (by decide +kernel) rfl
theorem fl_X3_42 : Cond.fieldLink RX3 42 "TaperTalk$Course" "shut" "I" ∈ q_tb := q_ap q_s2 0 (by decide +kernel) rfl
theorem fl_X10_65 : Cond.fieldLink RX10 65 "TaperTalk$Course" "shut" "I" ∈ q_tb := q_ap q_s2 1 (by decide +kernel) rfl
theorem fl_X3_45 : Cond.fieldLink RX3 45 "TaperTalk$Course" "silence" "I" ∈ q_tb := q_ap q_s2 2 (by decide +kernel) rfl
theorem fl_X1_28 : Cond.fieldLink RX1 28 "TaperTalk$Course" "silence" "I" ∈ q_tb := q_ap q_s2 3 (by decide +kernel) rfl
theorem fl_X3_48 : Cond.fieldLink RX3 48 "TaperTalk$Course" "lit0More" "I" ∈ q_tb := q_ap q_s2 4 (by decide +kernel) rfl
theorem fl_X10_62 : Cond.fieldLink RX10 62 "TaperTalk$Course" "lit0More" "I" ∈ q_tb := q_ap q_s2 5 (by decide +kernel) rfl
theorem fl_X3_51 : Cond.fieldLink RX3 51 "TaperTalk$Course" "gustPew" "I" ∈ q_tb := q_ap q_s2 6 (by decide +kernel) rfl
theorem fl_X10_33 : Cond.fieldLink RX10 33 "TaperTalk$Course" "gustPew" "I" ∈ q_tb := q_ap q_s2 7 (by decide +kernel) rfl
theorem fl_X10_24 : Cond.fieldLink RX10 24 "TaperTalk$Course" "gustHour" "I" ∈ q_tb := q_ap q_s2 8 (by decide +kernel) rfl
theorem fl_X3_54 : Cond.fieldLink RX3 54 "TaperTalk$Course" "gustHour" "I" ∈ q_tb := q_ap q_s2 9 (by decide +kernel) rfl
theorem fl_X3_57 : Cond.fieldLink RX3 57 "TaperTalk$Course" "draughtLeftOut" "I" ∈ q_tb := q_ap q_s2 10 (by decide +kernel) rfl
theorem fl_X10_46 : Cond.fieldLink RX10 46 "TaperTalk$Course" "draughtLeftOut" "I" ∈ q_tb := q_ap q_s2 11 (by decide +kernel) rfl
theorem fl_X3_60 : Cond.fieldLink RX3 60 "TaperTalk$Course" "alone" "Z" ∈ q_tb := q_ap q_s2 12 (by decide +kernel) rfl
theorem fl_X3_67 : Cond.fieldLink RX3 67 "TaperTalk$Course" "aloneSet" "I" ∈ q_tb := q_ap q_s2 13 (by decide +kernel) rfl
theorem fl_X3_70 : Cond.fieldLink RX3 70 "TaperTalk$Course" "aloneSays" "I" ∈ q_tb := q_ap q_s2 14 (by decide +kernel) rfl
theorem fl_X10_56 : Cond.fieldLink RX10 56 "TaperTalk$Trials" "value" "I" ∈ q_tb := q_ap q_s2 57 (by decide +kernel) rfl
theorem fl_X11_339 : Cond.fieldLink RX11 339 "TaperTalk$Trials" "value" "I" ∈ q_tb := q_ap q_s2 58 (by decide +kernel) rfl
theorem fl_X10_49 : Cond.fieldLink RX10 49 "TaperTalk$Trials" "opening" "I" ∈ q_tb := q_ap q_s2 59 (by decide +kernel) rfl
theorem fl_X11_342 : Cond.fieldLink RX11 342 "TaperTalk$Trials" "opening" "I" ∈ q_tb := q_ap q_s2 60 (by decide +kernel) rfl
theorem fl_X10_59 : Cond.fieldLink RX10 59 "TaperTalk$Trials" "reply" "I" ∈ q_tb := q_ap q_s2 61 (by decide +kernel) rfl
theorem fl_X11_348 : Cond.fieldLink RX11 348 "TaperTalk$Trials" "reply" "I" ∈ q_tb := q_ap q_s2 62 (by decide +kernel) rfl
theorem fl_X10_9 : Cond.fieldLink RX10 9 "TaperTalk$Trials" "night" "LTaperTalk$Night;" ∈ q_tb := q_ap q_s2 63 (by decide +kernel) rfl
theorem fl_X10_15 : Cond.fieldLink RX10 15 "TaperTalk$Trials" "course" "LTaperTalk$Course;" ∈ q_tb := q_ap q_s2 64 (by decide +kernel) rfl
theorem fl_X8_9 : Cond.fieldLink RX8 9 "TaperTalk$Sets" "worths" "[I" ∈ q_tb := q_ap q_s2 86 (by decide +kernel) rfl
theorem fl_X8_15 : Cond.fieldLink RX8 15 "TaperTalk$Sets" "night" "LTaperTalk$Night;" ∈ q_tb := q_ap q_s2 87 (by decide +kernel) rfl
theorem fl_X8_19 : Cond.fieldLink RX8 19 "TaperTalk$Sets" "course" "LTaperTalk$Course;" ∈ q_tb := q_ap q_s2 88 (by decide +kernel) rfl
theorem fl_X4_25 : Cond.fieldLink RX4 25 "TaperTalk$Finder" "found" "I" ∈ q_tb := q_ap q_s2 102 (by decide +kernel) rfl
theorem fl_X11_261 : Cond.fieldLink RX11 261 "TaperTalk$Finder" "found" "I" ∈ q_tb := q_ap q_s2 103 (by decide +kernel) rfl
theorem fl_X4_29 : Cond.fieldLink RX4 29 "TaperTalk$Finder" "ways" "I" ∈ q_tb := q_ap q_s2 104 (by decide +kernel) rfl
theorem fl_X11_258 : Cond.fieldLink RX11 258 "TaperTalk$Finder" "ways" "I" ∈ q_tb := q_ap q_s2 105 (by decide +kernel) rfl
theorem fl_X4_9 : Cond.fieldLink RX4 9 "TaperTalk$Finder" "trail" "[I" ∈ q_tb := q_ap q_s2 106 (by decide +kernel) rfl
theorem fl_X4_64 : Cond.fieldLink RX4 64 "TaperTalk$Finder" "trailLength" "I" ∈ q_tb := q_ap q_s2 107 (by decide +kernel) rfl
theorem fl_X4_15 : Cond.fieldLink RX4 15 "TaperTalk$Finder" "night" "LTaperTalk$Night;" ∈ q_tb := q_ap q_s2 108 (by decide +kernel) rfl
theorem fl_X4_19 : Cond.fieldLink RX4 19 "TaperTalk$Finder" "course" "LTaperTalk$Course;" ∈ q_tb := q_ap q_s2 109 (by decide +kernel) rfl
theorem fl_X2_80 : Cond.fieldLink RX2 80 "TaperTalk$Clues" "question" "I" ∈ q_tb := q_ap q_s2 129 (by decide +kernel) rfl
theorem fl_X11_315 : Cond.fieldLink RX11 315 "TaperTalk$Clues" "question" "I" ∈ q_tb := q_ap q_s2 130 (by decide +kernel) rfl
theorem fl_X2_88 : Cond.fieldLink RX2 88 "TaperTalk$Clues" "left" "I" ∈ q_tb := q_ap q_s2 131 (by decide +kernel) rfl
theorem fl_X11_318 : Cond.fieldLink RX11 318 "TaperTalk$Clues" "left" "I" ∈ q_tb := q_ap q_s2 132 (by decide +kernel) rfl
theorem fl_X2_9 : Cond.fieldLink RX2 9 "TaperTalk$Clues" "sizes" "[I" ∈ q_tb := q_ap q_s2 133 (by decide +kernel) rfl
theorem fl_X2_15 : Cond.fieldLink RX2 15 "TaperTalk$Clues" "tally" "[I" ∈ q_tb := q_ap q_s2 134 (by decide +kernel) rfl
theorem fl_X2_18 : Cond.fieldLink RX2 18 "TaperTalk$Clues" "night" "LTaperTalk$Night;" ∈ q_tb := q_ap q_s2 135 (by decide +kernel) rfl
theorem fl_X2_22 : Cond.fieldLink RX2 22 "TaperTalk$Clues" "course" "LTaperTalk$Course;" ∈ q_tb := q_ap q_s2 136 (by decide +kernel) rfl
theorem fl_X2_26 : Cond.fieldLink RX2 26 "TaperTalk$Clues" "slots" "LTaperTalk$Slots;" ∈ q_tb := q_ap q_s2 137 (by decide +kernel) rfl
theorem fl_X1_9 : Cond.fieldLink RX1 9 "TaperTalk$Chances" "night" "LTaperTalk$Night;" ∈ q_tb := q_ap q_s2 159 (by decide +kernel) rfl
theorem fl_X1_15 : Cond.fieldLink RX1 15 "TaperTalk$Chances" "course" "LTaperTalk$Course;" ∈ q_tb := q_ap q_s2 160 (by decide +kernel) rfl
theorem fl_X11_9 : Cond.fieldLink RX11 9 "TaperTalk" "tape" "[B" ∈ q_tb := q_ap q_s2 166 (by decide +kernel) rfl
theorem fl_X11_13 : Cond.fieldLink RX11 13 "TaperTalk" "tapeBytes" "I" ∈ q_tb := q_ap q_s2 167 (by decide +kernel) rfl
theorem fl_X11_17 : Cond.fieldLink RX11 17 "TaperTalk" "fault" "I" ∈ q_tb := q_ap q_s2 168 (by decide +kernel) rfl
theorem fl_X11_20 : Cond.fieldLink RX11 20 "TaperTalk" "faultPlace" "I" ∈ q_tb := q_ap q_s2 169 (by decide +kernel) rfl
theorem fl_X11_28 : Cond.fieldLink RX11 28 "TaperTalk" "reader" "LTaperTalk$Reader;" ∈ q_tb := q_ap q_s2 170 (by decide +kernel) rfl
theorem fl_X11_35 : Cond.fieldLink RX11 35 "TaperTalk" "plan" "LTaperTalk$Night;" ∈ q_tb := q_ap q_s2 171 (by decide +kernel) rfl
theorem fl_X11_42 : Cond.fieldLink RX11 42 "TaperTalk" "acts" "LTaperTalk$Acts;" ∈ q_tb := q_ap q_s2 172 (by decide +kernel) rfl
theorem fl_X11_49 : Cond.fieldLink RX11 49 "TaperTalk" "slots" "LTaperTalk$Slots;" ∈ q_tb := q_ap q_s2 173 (by decide +kernel) rfl
theorem fl_X11_53 : Cond.fieldLink RX11 53 "TaperTalk" "imageNights" "[LTaperTalk$Night;" ∈ q_tb := q_ap q_s2 174 (by decide +kernel) rfl
theorem fl_X11_57 : Cond.fieldLink RX11 57 "TaperTalk" "imageActs" "[LTaperTalk$Acts;" ∈ q_tb := q_ap q_s2 175 (by decide +kernel) rfl
theorem fl_X11_61 : Cond.fieldLink RX11 61 "TaperTalk" "imaged" "[Z" ∈ q_tb := q_ap q_s2 176 (by decide +kernel) rfl
theorem fl_X11_70 : Cond.fieldLink RX11 70 "TaperTalk" "now" "LTaperTalk$Course;" ∈ q_tb := q_ap q_s2 177 (by decide +kernel) rfl
theorem fl_X11_74 : Cond.fieldLink RX11 74 "TaperTalk" "trial" "LTaperTalk$Course;" ∈ q_tb := q_ap q_s2 178 (by decide +kernel) rfl
theorem fl_X11_82 : Cond.fieldLink RX11 82 "TaperTalk" "trials" "LTaperTalk$Trials;" ∈ q_tb := q_ap q_s2 179 (by decide +kernel) rfl
theorem fl_X11_89 : Cond.fieldLink RX11 89 "TaperTalk" "subsets" "LTaperTalk$Sets;" ∈ q_tb := q_ap q_s2 180 (by decide +kernel) rfl
theorem fl_X11_96 : Cond.fieldLink RX11 96 "TaperTalk" "finder" "LTaperTalk$Finder;" ∈ q_tb := q_ap q_s2 181 (by decide +kernel) rfl
theorem fl_X11_105 : Cond.fieldLink RX11 105 "TaperTalk" "clues" "LTaperTalk$Clues;" ∈ q_tb := q_ap q_s2 182 (by decide +kernel) rfl
theorem fl_X11_112 : Cond.fieldLink RX11 112 "TaperTalk" "chances" "LTaperTalk$Chances;" ∈ q_tb := q_ap q_s2 183 (by decide +kernel) rfl
theorem fl_X11_116 : Cond.fieldLink RX11 116 "TaperTalk" "settled" "Z" ∈ q_tb := q_ap q_s2 184 (by decide +kernel) rfl
theorem fl_J0_38 : Cond.fieldLink RJ0 38 "java/lang/String" "COMPACT_STRINGS" "Z" ∈ q_tb := q_ap q_s3 46 (by decide +kernel) rfl
theorem fl_J0_1053 : Cond.fieldLink RJ0 1053 "jdk/internal/util/Preconditions" "SIOOBE_FORMATTER" "Ljava/util/function/BiFunction;" ∈ q_tb := q_ap q_s3 62 (by decide +kernel) rfl
theorem fl_X12_9 : Cond.fieldLink RX12 9 "TaperTalkModel" "world" "[I" ∈ q_tb := q_ap q_s6 66 (by decide +kernel) rfl
theorem fl_X12_13 : Cond.fieldLink RX12 13 "TaperTalkModel" "images" "[I" ∈ q_tb := q_ap q_s6 67 (by decide +kernel) rfl
theorem fl_X12_16 : Cond.fieldLink RX12 16 "TaperTalkModel" "hasImage" "[Z" ∈ q_tb := q_ap q_s6 68 (by decide +kernel) rfl
theorem fl_X12_20 : Cond.fieldLink RX12 20 "TaperTalkModel" "tape" "[B" ∈ q_tb := q_ap q_s6 69 (by decide +kernel) rfl
theorem fl_X12_85 : Cond.fieldLink RX12 85 "TaperTalkModel" "taped" "I" ∈ q_tb := q_ap q_s6 70 (by decide +kernel) rfl
theorem fl_X12_24 : Cond.fieldLink RX12 24 "TaperTalkModel" "five" "[I" ∈ q_tb := q_ap q_s6 71 (by decide +kernel) rfl
theorem fl_X12_88 : Cond.fieldLink RX12 88 "TaperTalkModel" "size" "I" ∈ q_tb := q_ap q_s6 72 (by decide +kernel) rfl
theorem fl_X12_91 : Cond.fieldLink RX12 91 "TaperTalkModel" "at" "I" ∈ q_tb := q_ap q_s6 73 (by decide +kernel) rfl
theorem fl_X12_98 : Cond.fieldLink RX12 98 "TaperTalkModel" "from" "I" ∈ q_tb := q_ap q_s6 74 (by decide +kernel) rfl
theorem fl_X12_101 : Cond.fieldLink RX12 101 "TaperTalkModel" "token" "I" ∈ q_tb := q_ap q_s6 75 (by decide +kernel) rfl
theorem fl_X12_112 : Cond.fieldLink RX12 112 "TaperTalkModel" "value" "I" ∈ q_tb := q_ap q_s6 76 (by decide +kernel) rfl
theorem fl_X12_122 : Cond.fieldLink RX12 122 "TaperTalkModel" "faultKind" "I" ∈ q_tb := q_ap q_s6 77 (by decide +kernel) rfl
theorem fl_X12_27 : Cond.fieldLink RX12 27 "TaperTalkModel" "faultPlace" "I" ∈ q_tb := q_ap q_s6 78 (by decide +kernel) rfl
theorem fl_X12_31 : Cond.fieldLink RX12 31 "TaperTalkModel" "fresh" "[I" ∈ q_tb := q_ap q_s6 79 (by decide +kernel) rfl
theorem fl_X12_234 : Cond.fieldLink RX12 234 "TaperTalkModel" "shutSet" "I" ∈ q_tb := q_ap q_s6 80 (by decide +kernel) rfl
theorem fl_X12_243 : Cond.fieldLink RX12 243 "TaperTalkModel" "lawNow" "I" ∈ q_tb := q_ap q_s6 81 (by decide +kernel) rfl
theorem fl_X12_246 : Cond.fieldLink RX12 246 "TaperTalkModel" "silentSet" "I" ∈ q_tb := q_ap q_s6 82 (by decide +kernel) rfl
theorem fl_X12_249 : Cond.fieldLink RX12 249 "TaperTalkModel" "aloneSet" "I" ∈ q_tb := q_ap q_s6 83 (by decide +kernel) rfl
theorem fl_X12_252 : Cond.fieldLink RX12 252 "TaperTalkModel" "aloneSays" "I" ∈ q_tb := q_ap q_s6 84 (by decide +kernel) rfl
theorem fl_X12_255 : Cond.fieldLink RX12 255 "TaperTalkModel" "moreLit" "I" ∈ q_tb := q_ap q_s6 85 (by decide +kernel) rfl
theorem fl_X12_258 : Cond.fieldLink RX12 258 "TaperTalkModel" "outPew" "I" ∈ q_tb := q_ap q_s6 86 (by decide +kernel) rfl
theorem fl_X12_261 : Cond.fieldLink RX12 261 "TaperTalkModel" "outHour" "I" ∈ q_tb := q_ap q_s6 87 (by decide +kernel) rfl
theorem fl_X12_264 : Cond.fieldLink RX12 264 "TaperTalkModel" "leftOut" "I" ∈ q_tb := q_ap q_s6 88 (by decide +kernel) rfl
theorem fl_X12_34 : Cond.fieldLink RX12 34 "TaperTalkModel" "saysAt" "[I" ∈ q_tb := q_ap q_s6 89 (by decide +kernel) rfl
theorem fl_X12_37 : Cond.fieldLink RX12 37 "TaperTalkModel" "fromAt" "[I" ∈ q_tb := q_ap q_s6 90 (by decide +kernel) rfl
theorem fl_X12_40 : Cond.fieldLink RX12 40 "TaperTalkModel" "sinceAt" "[I" ∈ q_tb := q_ap q_s6 91 (by decide +kernel) rfl
theorem fl_X12_43 : Cond.fieldLink RX12 43 "TaperTalkModel" "depthAt" "[I" ∈ q_tb := q_ap q_s6 92 (by decide +kernel) rfl
theorem fl_X12_348 : Cond.fieldLink RX12 348 "TaperTalkModel" "rowSays" "I" ∈ q_tb := q_ap q_s6 93 (by decide +kernel) rfl
theorem fl_X12_362 : Cond.fieldLink RX12 362 "TaperTalkModel" "firstSays" "I" ∈ q_tb := q_ap q_s6 94 (by decide +kernel) rfl
theorem fl_X12_365 : Cond.fieldLink RX12 365 "TaperTalkModel" "firstMany" "I" ∈ q_tb := q_ap q_s6 95 (by decide +kernel) rfl
theorem fl_X12_46 : Cond.fieldLink RX12 46 "TaperTalkModel" "litBy" "[I" ∈ q_tb := q_ap q_s6 96 (by decide +kernel) rfl
theorem fl_X12_49 : Cond.fieldLink RX12 49 "TaperTalkModel" "longBy" "[I" ∈ q_tb := q_ap q_s6 97 (by decide +kernel) rfl
theorem fl_X12_413 : Cond.fieldLink RX12 413 "TaperTalkModel" "askWorst" "I" ∈ q_tb := q_ap q_s6 98 (by decide +kernel) rfl
theorem fl_X12_443 : Cond.fieldLink RX12 443 "TaperTalkModel" "oftenAll" "J" ∈ q_tb := q_ap q_s6 99 (by decide +kernel) rfl
theorem fl_X12_447 : Cond.fieldLink RX12 447 "TaperTalkModel" "oftenLit" "J" ∈ q_tb := q_ap q_s6 100 (by decide +kernel) rfl
theorem fl_X12_450 : Cond.fieldLink RX12 450 "TaperTalkModel" "oftenWords" "J" ∈ q_tb := q_ap q_s6 101 (by decide +kernel) rfl
theorem fl_X12_52 : Cond.fieldLink RX12 52 "TaperTalkModel" "many" "[I" ∈ q_tb := q_ap q_s6 102 (by decide +kernel) rfl
theorem fl_X12_55 : Cond.fieldLink RX12 55 "TaperTalkModel" "width" "[I" ∈ q_tb := q_ap q_s6 103 (by decide +kernel) rfl
theorem fl_X12_58 : Cond.fieldLink RX12 58 "TaperTalkModel" "numbers" "[J" ∈ q_tb := q_ap q_s6 104 (by decide +kernel) rfl
theorem fl_X12_62 : Cond.fieldLink RX12 62 "TaperTalkModel" "moving" "[J" ∈ q_tb := q_ap q_s6 105 (by decide +kernel) rfl
theorem fl_J0_9 : Cond.fieldLink RJ0 9 "java/lang/String" "value" "[B" ∈ q_tb := q_ap q_s9 104 (by decide +kernel) rfl
theorem fl_J0_15 : Cond.fieldLink RJ0 15 "java/lang/String" "coder" "B" ∈ q_tb := q_ap q_s9 105 (by decide +kernel) rfl
theorem ml_L_9 : Cond.methodLink RL 9 yX11_init ∈ q_tb := q_ap q_s1 23 (by decide +kernel) rfl
theorem ml_X11_3 : Cond.methodLink RX11 3 objectInit ∈ q_tb := q_ap q_s1 26 (by decide +kernel) rfl
theorem ml_X11_25 : Cond.methodLink RX11 25 yX6_init ∈ q_tb := q_ap q_s1 31 (by decide +kernel) rfl
theorem ml_X6_3 : Cond.methodLink RX6 3 objectInit ∈ q_tb := q_ap q_s1 34 (by decide +kernel) rfl
theorem ml_X5_3 : Cond.methodLink RX5 3 objectInit ∈ q_tb := q_ap q_s1 40 (by decide +kernel) rfl
theorem ml_X0_1 : Cond.methodLink RX0 1 objectInit ∈ q_tb := q_ap q_s1 171 (by decide +kernel) rfl
theorem ml_X11_48 : Cond.methodLink RX11 48 yX9_init ∈ q_tb := q_ap q_s1 192 (by decide +kernel) rfl
theorem ml_X9_3 : Cond.methodLink RX9 3 objectInit ∈ q_tb := q_ap q_s1 195 (by decide +kernel) rfl
theorem ml_X11_67 : Cond.methodLink RX11 67 yX3_init ∈ q_tb := q_ap q_s1 217 (by decide +kernel) rfl
theorem ml_X3_3 : Cond.methodLink RX3 3 objectInit ∈ q_tb := q_ap q_s1 220 (by decide +kernel) rfl
theorem ml_X11_79 : Cond.methodLink RX11 79 yX10_init ∈ q_tb := q_ap q_s2 53 (by decide +kernel) rfl
theorem ml_X10_3 : Cond.methodLink RX10 3 objectInit ∈ q_tb := q_ap q_s2 56 (by decide +kernel) rfl
theorem ml_X11_88 : Cond.methodLink RX11 88 yX8_init ∈ q_tb := q_ap q_s2 78 (by decide +kernel) rfl
theorem ml_X8_3 : Cond.methodLink RX8 3 objectInit ∈ q_tb := q_ap q_s2 81 (by decide +kernel) rfl
theorem ml_X8_23 : Cond.methodLink RX8 23 yX8_forget ∈ q_tb := q_ap q_s2 82 (by decide +kernel) rfl
theorem ml_X11_95 : Cond.methodLink RX11 95 yX4_init ∈ q_tb := q_ap q_s2 98 (by decide +kernel) rfl
theorem ml_X4_3 : Cond.methodLink RX4 3 objectInit ∈ q_tb := q_ap q_s2 101 (by decide +kernel) rfl
theorem ml_X11_102 : Cond.methodLink RX11 102 yX2_init ∈ q_tb := q_ap q_s2 125 (by decide +kernel) rfl
theorem ml_X2_3 : Cond.methodLink RX2 3 objectInit ∈ q_tb := q_ap q_s2 128 (by decide +kernel) rfl
theorem ml_X11_111 : Cond.methodLink RX11 111 yX1_init ∈ q_tb := q_ap q_s2 155 (by decide +kernel) rfl
theorem ml_X1_3 : Cond.methodLink RX1 3 objectInit ∈ q_tb := q_ap q_s2 158 (by decide +kernel) rfl
theorem ml_L_13 : Cond.methodLink RL 13 yX11_feed ∈ q_tb := q_ap q_s2 224 (by decide +kernel) rfl
theorem ml_X11_120 : Cond.methodLink RX11 120 yX11_putBytes ∈ q_tb := q_ap q_s2 228 (by decide +kernel) rfl
theorem ml_L_18 : Cond.methodLink RL 18 yX11_end ∈ q_tb := q_ap q_s2 232 (by decide +kernel) rfl
theorem ml_L_23 : Cond.methodLink RL 23 yX11_night ∈ q_tb := q_ap q_s2 236 (by decide +kernel) rfl
theorem ml_X11_124 : Cond.methodLink RX11 124 yX6_read ∈ q_tb := q_ap q_s3 0 (by decide +kernel) rfl
theorem ml_X6_35 : Cond.methodLink RX6 35 yX5_clear ∈ q_tb := q_ap q_s3 4 (by decide +kernel) rfl
theorem ml_X6_38 : Cond.methodLink RX6 38 yX6_advance ∈ q_tb := q_ap q_s3 8 (by decide +kernel) rfl
theorem ml_X6_168 : Cond.methodLink RX6 168 yX6_isLowerCase ∈ q_tb := q_ap q_s3 12 (by decide +kernel) rfl
theorem ml_X6_171 : Cond.methodLink RX6 171 yX6_isDigit ∈ q_tb := q_ap q_s3 15 (by decide +kernel) rfl
theorem ml_X6_174 : Cond.methodLink RX6 174 yJ9_min_7cf53 ∈ q_tb := q_ap q_s3 18 (by decide +kernel) rfl
theorem ml_X6_44 : Cond.methodLink RX6 44 yX6_readLine ∈ q_tb := q_ap q_s3 21 (by decide +kernel) rfl
theorem ml_X6_50 : Cond.methodLink RX6 50 yX6_readNight ∈ q_tb := q_ap q_s3 25 (by decide +kernel) rfl
theorem ml_X6_83 : Cond.methodLink RX6 83 yX6_needWord ∈ q_tb := q_ap q_s3 30 (by decide +kernel) rfl
theorem ml_X6_55 : Cond.methodLink RX6 55 yX6_isWord ∈ q_tb := q_ap q_s3 34 (by decide +kernel) rfl
theorem ml_X6_179 : Cond.methodLink RX6 179 yJ0_length_8abf5 ∈ q_tb := q_ap q_s3 38 (by decide +kernel) rfl
theorem ml_J0_335 : Cond.methodLink RJ0 335 yJ0_coder_7d493 ∈ q_tb := q_ap q_s3 42 (by decide +kernel) rfl
theorem ml_X6_183 : Cond.methodLink RX6 183 yJ0_charAt_5068e ∈ q_tb := q_ap q_s3 48 (by decide +kernel) rfl
theorem ml_J0_492 : Cond.methodLink RJ0 492 yJ0_isLatin1_aae02 ∈ q_tb := q_ap q_s3 52 (by decide +kernel) rfl
theorem ml_J0_495 : Cond.methodLink RJ0 495 yJ1_charAt_3b067 ∈ q_tb := q_ap q_s3 56 (by decide +kernel) rfl
theorem ml_J1_9 : Cond.methodLink RJ1 9 yJ0_checkIndex_df160 ∈ q_tb := q_ap q_s3 59 (by decide +kernel) rfl
theorem ml_J0_1059 : Cond.methodLink RJ0 1059 yJ3_checkIndex_8e157 ∈ q_tb := q_ap q_s3 64 (by decide +kernel) rfl
theorem ml_J0_498 : Cond.methodLink RJ0 498 yJ2_charAt_3b067 ∈ q_tb := q_ap q_s3 67 (by decide +kernel) rfl
theorem ml_J2_67 : Cond.methodLink RJ2 67 yJ2_checkIndex_2214a ∈ q_tb := q_ap q_s3 70 (by decide +kernel) rfl
theorem ml_J2_48 : Cond.methodLink RJ2 48 yJ2_length_9d52b ∈ q_tb := q_ap q_s3 73 (by decide +kernel) rfl
theorem ml_J2_414 : Cond.methodLink RJ2 414 yJ0_checkIndex_df160 ∈ q_tb := q_ap q_s3 76 (by decide +kernel) rfl
theorem ml_J2_71 : Cond.methodLink RJ2 71 yJ2_getChar_3b067 ∈ q_tb := q_ap q_s3 77 (by decide +kernel) rfl
theorem ml_X6_77 : Cond.methodLink RX6 77 yX6_fail ∈ q_tb := q_ap q_s3 86 (by decide +kernel) rfl
theorem ml_X6_89 : Cond.methodLink RX6 89 yX6_needNumber ∈ q_tb := q_ap q_s3 91 (by decide +kernel) rfl
theorem ml_X6_59 : Cond.methodLink RX6 59 yX6_readPew ∈ q_tb := q_ap q_s3 98 (by decide +kernel) rfl
theorem ml_X6_106 : Cond.methodLink RX6 106 yX6_refuseMoreThan ∈ q_tb := q_ap q_s3 102 (by decide +kernel) rfl
theorem ml_X6_110 : Cond.methodLink RX6 110 yX6_ruleWord ∈ q_tb := q_ap q_s3 106 (by decide +kernel) rfl
theorem ml_X6_119 : Cond.methodLink RX6 119 yX5_addPew ∈ q_tb := q_ap q_s3 115 (by decide +kernel) rfl
theorem ml_X5_67 : Cond.methodLink RX5 67 yX5_setRule ∈ q_tb := q_ap q_s3 119 (by decide +kernel) rfl
theorem ml_X6_64 : Cond.methodLink RX6 64 yX6_readAisle ∈ q_tb := q_ap q_s3 124 (by decide +kernel) rfl
theorem ml_X6_136 : Cond.methodLink RX6 136 yX6_areJoined ∈ q_tb := q_ap q_s3 128 (by decide +kernel) rfl
theorem ml_X6_140 : Cond.methodLink RX6 140 yX5_addAisle ∈ q_tb := q_ap q_s3 132 (by decide +kernel) rfl
theorem ml_X6_69 : Cond.methodLink RX6 69 yX6_readLight ∈ q_tb := q_ap q_s3 137 (by decide +kernel) rfl
theorem ml_X6_150 : Cond.methodLink RX6 150 yX7_with ∈ q_tb := q_ap q_s3 141 (by decide +kernel) rfl
theorem ml_X6_154 : Cond.methodLink RX6 154 yX5_addLight ∈ q_tb := q_ap q_s3 144 (by decide +kernel) rfl
theorem ml_X6_74 : Cond.methodLink RX6 74 yX6_readDraught ∈ q_tb := q_ap q_s3 149 (by decide +kernel) rfl
theorem ml_X6_162 : Cond.methodLink RX6 162 yX5_addDraught ∈ q_tb := q_ap q_s3 154 (by decide +kernel) rfl
theorem ml_X11_132 : Cond.methodLink RX11 132 yX5_take ∈ q_tb := q_ap q_s3 158 (by decide +kernel) rfl
theorem ml_X5_61 : Cond.methodLink RX5 61 arraycopyName ∈ q_tb := q_ap q_s3 162 (by decide +kernel) rfl
theorem ml_X11_139 : Cond.methodLink RX11 139 yX11_unsettle ∈ q_tb := q_ap q_s3 165 (by decide +kernel) rfl
theorem ml_X11_430 : Cond.methodLink RX11 430 yX8_forget ∈ q_tb := q_ap q_s3 169 (by decide +kernel) rfl
theorem ml_L_28 : Cond.methodLink RL 28 yX11_fault ∈ q_tb := q_ap q_s3 170 (by decide +kernel) rfl
theorem ml_L_32 : Cond.methodLink RL 32 yX11_pew ∈ q_tb := q_ap q_s3 174 (by decide +kernel) rfl
theorem ml_X11_145 : Cond.methodLink RX11 145 yX11_noPew ∈ q_tb := q_ap q_s3 178 (by decide +kernel) rfl
theorem ml_L_37 : Cond.methodLink RL 37 yX11_near ∈ q_tb := q_ap q_s3 182 (by decide +kernel) rfl
theorem ml_L_41 : Cond.methodLink RL 41 yX11_far ∈ q_tb := q_ap q_s3 186 (by decide +kernel) rfl
theorem ml_X11_162 : Cond.methodLink RX11 162 yX5_nearAny ∈ q_tb := q_ap q_s3 190 (by decide +kernel) rfl
theorem ml_L_45 : Cond.methodLink RL 45 yX11_told ∈ q_tb := q_ap q_s3 194 (by decide +kernel) rfl
theorem ml_X11_172 : Cond.methodLink RX11 172 yX11_letterOrNone ∈ q_tb := q_ap q_s3 198 (by decide +kernel) rfl
theorem ml_X11_236 : Cond.methodLink RX11 236 yX7_letterAt ∈ q_tb := q_ap q_s3 201 (by decide +kernel) rfl
theorem ml_L_49 : Cond.methodLink RL 49 yX11_lit ∈ q_tb := q_ap q_s3 204 (by decide +kernel) rfl
theorem ml_X11_176 : Cond.methodLink RX11 176 yX11_noHour ∈ q_tb := q_ap q_s3 208 (by decide +kernel) rfl
theorem ml_X11_210 : Cond.methodLink RX11 210 yX11_noNight ∈ q_tb := q_ap q_s3 212 (by decide +kernel) rfl
theorem ml_X11_179 : Cond.methodLink RX11 179 yX11_settledCourse ∈ q_tb := q_ap q_s3 216 (by decide +kernel) rfl
theorem ml_X11_433 : Cond.methodLink RX11 433 yX3_asNow ∈ q_tb := q_ap q_s3 220 (by decide +kernel) rfl
theorem ml_X11_333 : Cond.methodLink RX11 333 yX3_run ∈ q_tb := q_ap q_s3 224 (by decide +kernel) rfl
theorem ml_X3_73 : Cond.methodLink RX3 73 yX3_begin ∈ q_tb := q_ap q_s3 228 (by decide +kernel) rfl
theorem ml_X3_98 : Cond.methodLink RX3 98 yX3_quench ∈ q_tb := q_ap q_s3 232 (by decide +kernel) rfl
theorem ml_X3_101 : Cond.methodLink RX3 101 yX3_kindle ∈ q_tb := q_ap q_s3 236 (by decide +kernel) rfl
theorem ml_X3_76 : Cond.methodLink RX3 76 yX3_carry ∈ q_tb := q_ap q_s4 0 (by decide +kernel) rfl
theorem ml_X3_114 : Cond.methodLink RX3 114 arraycopyName ∈ q_tb := q_ap q_s4 4 (by decide +kernel) rfl
theorem ml_X3_123 : Cond.methodLink RX3 123 yX3_speaker ∈ q_tb := q_ap q_s4 5 (by decide +kernel) rfl
theorem ml_X3_132 : Cond.methodLink RX3 132 yX7_size ∈ q_tb := q_ap q_s4 9 (by decide +kernel) rfl
theorem ml_X3_129 : Cond.methodLink RX3 129 yX5_heardBy ∈ q_tb := q_ap q_s4 12 (by decide +kernel) rfl
theorem ml_X5_71 : Cond.methodLink RX5 71 yX7_size ∈ q_tb := q_ap q_s4 16 (by decide +kernel) rfl
theorem ml_X5_77 : Cond.methodLink RX5 77 yX7_reversed ∈ q_tb := q_ap q_s4 17 (by decide +kernel) rfl
theorem ml_X5_80 : Cond.methodLink RX5 80 yX7_with ∈ q_tb := q_ap q_s4 20 (by decide +kernel) rfl
theorem ml_X5_84 : Cond.methodLink RX5 84 yX7_replaced ∈ q_tb := q_ap q_s4 21 (by decide +kernel) rfl
theorem ml_X3_80 : Cond.methodLink RX3 80 yX3_lightByActs ∈ q_tb := q_ap q_s4 24 (by decide +kernel) rfl
theorem ml_X3_83 : Cond.methodLink RX3 83 yX3_putOut ∈ q_tb := q_ap q_s4 28 (by decide +kernel) rfl
theorem ml_X3_86 : Cond.methodLink RX3 86 yX3_noteLit ∈ q_tb := q_ap q_s4 32 (by decide +kernel) rfl
theorem ml_X3_89 : Cond.methodLink RX3 89 yJ6_bitCount_0f7a4 ∈ q_tb := q_ap q_s4 36 (by decide +kernel) rfl
theorem ml_L_53 : Cond.methodLink RL 53 yX11_letters ∈ q_tb := q_ap q_s4 42 (by decide +kernel) rfl
theorem ml_X11_189 : Cond.methodLink RX11 189 yX11_cell ∈ q_tb := q_ap q_s4 46 (by decide +kernel) rfl
theorem ml_X11_192 : Cond.methodLink RX11 192 yX7_size ∈ q_tb := q_ap q_s4 49 (by decide +kernel) rfl
theorem ml_L_57 : Cond.methodLink RL 57 yX11_says ∈ q_tb := q_ap q_s4 50 (by decide +kernel) rfl
theorem ml_L_62 : Cond.methodLink RL 62 yX11_from ∈ q_tb := q_ap q_s4 54 (by decide +kernel) rfl
theorem ml_L_66 : Cond.methodLink RL 66 yX11_since ∈ q_tb := q_ap q_s4 58 (by decide +kernel) rfl
theorem ml_L_70 : Cond.methodLink RL 70 yX11_when ∈ q_tb := q_ap q_s4 62 (by decide +kernel) rfl
theorem ml_X11_206 : Cond.methodLink RX11 206 yX3_isLit ∈ q_tb := q_ap q_s4 66 (by decide +kernel) rfl
theorem ml_L_74 : Cond.methodLink RL 74 yX11_often ∈ q_tb := q_ap q_s4 70 (by decide +kernel) rfl
theorem ml_L_78 : Cond.methodLink RL 78 yX11_full ∈ q_tb := q_ap q_s4 74 (by decide +kernel) rfl
theorem ml_X11_217 : Cond.methodLink RX11 217 yX5_allPews ∈ q_tb := q_ap q_s4 78 (by decide +kernel) rfl
theorem ml_L_82 : Cond.methodLink RL 82 yX11_dark ∈ q_tb := q_ap q_s4 82 (by decide +kernel) rfl
theorem ml_L_86 : Cond.methodLink RL 86 yX11_still ∈ q_tb := q_ap q_s4 86 (by decide +kernel) rfl
theorem ml_X11_221 : Cond.methodLink RX11 221 yX3_otherwise ∈ q_tb := q_ap q_s4 90 (by decide +kernel) rfl
theorem ml_L_90 : Cond.methodLink RL 90 yX11_sorts ∈ q_tb := q_ap q_s4 94 (by decide +kernel) rfl
theorem ml_X11_224 : Cond.methodLink RX11 224 yX3_sayingSame ∈ q_tb := q_ap q_s4 98 (by decide +kernel) rfl
theorem ml_L_94 : Cond.methodLink RL 94 yX11_alike ∈ q_tb := q_ap q_s4 102 (by decide +kernel) rfl
theorem ml_L_98 : Cond.methodLink RL 98 yX11_depth ∈ q_tb := q_ap q_s4 106 (by decide +kernel) rfl
theorem ml_L_102 : Cond.methodLink RL 102 yX11_longest ∈ q_tb := q_ap q_s4 110 (by decide +kernel) rfl
theorem ml_L_106 : Cond.methodLink RL 106 yX11_shortest ∈ q_tb := q_ap q_s4 114 (by decide +kernel) rfl
theorem ml_L_110 : Cond.methodLink RL 110 yX11_words ∈ q_tb := q_ap q_s4 118 (by decide +kernel) rfl
theorem ml_X11_230 : Cond.methodLink RX11 230 yX3_lettersSaid ∈ q_tb := q_ap q_s4 122 (by decide +kernel) rfl
theorem ml_L_114 : Cond.methodLink RL 114 yX11_turned ∈ q_tb := q_ap q_s4 126 (by decide +kernel) rfl
theorem ml_L_118 : Cond.methodLink RL 118 yX11_spoken ∈ q_tb := q_ap q_s4 130 (by decide +kernel) rfl
theorem ml_X11_233 : Cond.methodLink RX11 233 yX11_noLetter ∈ q_tb := q_ap q_s4 134 (by decide +kernel) rfl
theorem ml_L_122 : Cond.methodLink RL 122 yX11_taught ∈ q_tb := q_ap q_s4 137 (by decide +kernel) rfl
theorem ml_L_126 : Cond.methodLink RL 126 yX11_deepest ∈ q_tb := q_ap q_s4 141 (by decide +kernel) rfl
theorem ml_X11_239 : Cond.methodLink RX11 239 yJ9_max_7cf53 ∈ q_tb := q_ap q_s4 145 (by decide +kernel) rfl
theorem ml_L_130 : Cond.methodLink RL 130 yX11_fresh ∈ q_tb := q_ap q_s4 148 (by decide +kernel) rfl
theorem ml_L_134 : Cond.methodLink RL 134 yX11_gone ∈ q_tb := q_ap q_s4 152 (by decide +kernel) rfl
theorem ml_L_138 : Cond.methodLink RL 138 yX11_hears ∈ q_tb := q_ap q_s4 156 (by decide +kernel) rfl
theorem ml_X11_244 : Cond.methodLink RX11 244 yX11_hearingRefusal ∈ q_tb := q_ap q_s4 160 (by decide +kernel) rfl
theorem ml_X11_264 : Cond.methodLink RX11 264 yX9_noSlot ∈ q_tb := q_ap q_s4 164 (by decide +kernel) rfl
theorem ml_X11_267 : Cond.methodLink RX11 267 yX9_hasRow ∈ q_tb := q_ap q_s4 167 (by decide +kernel) rfl
theorem ml_X11_248 : Cond.methodLink RX11 248 yX9_saying ∈ q_tb := q_ap q_s4 171 (by decide +kernel) rfl
theorem ml_X9_31 : Cond.methodLink RX9 31 yX7_with ∈ q_tb := q_ap q_s4 176 (by decide +kernel) rfl
theorem ml_X11_251 : Cond.methodLink RX11 251 yX11_heardTwice ∈ q_tb := q_ap q_s4 177 (by decide +kernel) rfl
theorem ml_X11_270 : Cond.methodLink RX11 270 yX5_heardBy ∈ q_tb := q_ap q_s4 181 (by decide +kernel) rfl
theorem ml_L_142 : Cond.methodLink RL 142 yX11_heard ∈ q_tb := q_ap q_s4 182 (by decide +kernel) rfl
theorem ml_L_147 : Cond.methodLink RL 147 yX11_round ∈ q_tb := q_ap q_s4 186 (by decide +kernel) rfl
theorem ml_L_151 : Cond.methodLink RL 151 yX11_first ∈ q_tb := q_ap q_s4 190 (by decide +kernel) rfl
theorem ml_X11_254 : Cond.methodLink RX11 254 yX4_seek ∈ q_tb := q_ap q_s4 194 (by decide +kernel) rfl
theorem ml_X4_32 : Cond.methodLink RX4 32 yX4_spelled ∈ q_tb := q_ap q_s4 198 (by decide +kernel) rfl
theorem ml_X4_76 : Cond.methodLink RX4 76 yX7_with ∈ q_tb := q_ap q_s4 201 (by decide +kernel) rfl
theorem ml_X4_36 : Cond.methodLink RX4 36 yX3_tellAlone ∈ q_tb := q_ap q_s4 202 (by decide +kernel) rfl
theorem ml_X3_64 : Cond.methodLink RX3 64 yX3_asNow ∈ q_tb := q_ap q_s4 206 (by decide +kernel) rfl
theorem ml_X4_47 : Cond.methodLink RX4 47 yX3_run ∈ q_tb := q_ap q_s4 207 (by decide +kernel) rfl
theorem ml_X4_53 : Cond.methodLink RX4 53 yX7_size ∈ q_tb := q_ap q_s4 208 (by decide +kernel) rfl
theorem ml_X4_57 : Cond.methodLink RX4 57 yX4_followTrail ∈ q_tb := q_ap q_s4 209 (by decide +kernel) rfl
theorem ml_X4_61 : Cond.methodLink RX4 61 yX4_tryAll ∈ q_tb := q_ap q_s4 213 (by decide +kernel) rfl
theorem ml_X4_73 : Cond.methodLink RX4 73 yX4_carried ∈ q_tb := q_ap q_s4 217 (by decide +kernel) rfl
theorem ml_X4_80 : Cond.methodLink RX4 80 yX5_heardBy ∈ q_tb := q_ap q_s4 221 (by decide +kernel) rfl
theorem ml_L_155 : Cond.methodLink RL 155 yX11_letter ∈ q_tb := q_ap q_s4 222 (by decide +kernel) rfl
theorem ml_L_159 : Cond.methodLink RL 159 yX11_ways ∈ q_tb := q_ap q_s4 226 (by decide +kernel) rfl
theorem ml_L_163 : Cond.methodLink RL 163 yX11_best ∈ q_tb := q_ap q_s4 230 (by decide +kernel) rfl
theorem ml_X11_273 : Cond.methodLink RX11 273 yX8_worthOf ∈ q_tb := q_ap q_s4 234 (by decide +kernel) rfl
theorem ml_X8_26 : Cond.methodLink RX8 26 yX3_tellAlone ∈ q_tb := q_ap q_s4 238 (by decide +kernel) rfl
theorem ml_X8_38 : Cond.methodLink RX8 38 yX3_run ∈ q_tb := q_ap q_s4 239 (by decide +kernel) rfl
theorem ml_L_167 : Cond.methodLink RL 167 yX11_worth ∈ q_tb := q_ap q_s5 0 (by decide +kernel) rfl
theorem ml_L_171 : Cond.methodLink RL 171 yX11_share ∈ q_tb := q_ap q_s5 4 (by decide +kernel) rfl
theorem ml_X11_276 : Cond.methodLink RX11 276 yX11_noPart ∈ q_tb := q_ap q_s5 8 (by decide +kernel) rfl
theorem ml_X11_279 : Cond.methodLink RX11 279 yX8_gainInAllOrders ∈ q_tb := q_ap q_s5 11 (by decide +kernel) rfl
theorem ml_X8_42 : Cond.methodLink RX8 42 yX5_allPews ∈ q_tb := q_ap q_s5 15 (by decide +kernel) rfl
theorem ml_X8_46 : Cond.methodLink RX8 46 yJ6_bitCount_0f7a4 ∈ q_tb := q_ap q_s5 16 (by decide +kernel) rfl
theorem ml_X8_52 : Cond.methodLink RX8 52 yX8_factorial ∈ q_tb := q_ap q_s5 17 (by decide +kernel) rfl
theorem ml_X8_58 : Cond.methodLink RX8 58 yX8_worthOf ∈ q_tb := q_ap q_s5 20 (by decide +kernel) rfl
theorem ml_X11_282 : Cond.methodLink RX11 282 yX8_factorial ∈ q_tb := q_ap q_s5 21 (by decide +kernel) rfl
theorem ml_X11_285 : Cond.methodLink RX11 285 yX11_lowestPart ∈ q_tb := q_ap q_s5 22 (by decide +kernel) rfl
theorem ml_X11_436 : Cond.methodLink RX11 436 yJ9_abs_067f4 ∈ q_tb := q_ap q_s5 25 (by decide +kernel) rfl
theorem ml_L_175 : Cond.methodLink RL 175 yX11_fewest ∈ q_tb := q_ap q_s5 28 (by decide +kernel) rfl
theorem ml_X11_289 : Cond.methodLink RX11 289 yX8_leastLightingAll ∈ q_tb := q_ap q_s5 32 (by decide +kernel) rfl
theorem ml_X11_292 : Cond.methodLink RX11 292 yJ6_bitCount_0f7a4 ∈ q_tb := q_ap q_s5 36 (by decide +kernel) rfl
theorem ml_L_179 : Cond.methodLink RL 179 yX11_sets ∈ q_tb := q_ap q_s5 37 (by decide +kernel) rfl
theorem ml_L_183 : Cond.methodLink RL 183 yX11_gust ∈ q_tb := q_ap q_s5 41 (by decide +kernel) rfl
theorem ml_X11_297 : Cond.methodLink RX11 297 yX11_litAtLast ∈ q_tb := q_ap q_s5 45 (by decide +kernel) rfl
theorem ml_X11_300 : Cond.methodLink RX11 300 yX10_strongestGust ∈ q_tb := q_ap q_s5 49 (by decide +kernel) rfl
theorem ml_X10_19 : Cond.methodLink RX10 19 yX3_asNow ∈ q_tb := q_ap q_s5 53 (by decide +kernel) rfl
theorem ml_X10_39 : Cond.methodLink RX10 39 yX3_run ∈ q_tb := q_ap q_s5 54 (by decide +kernel) rfl
theorem ml_L_187 : Cond.methodLink RL 187 yX11_guard ∈ q_tb := q_ap q_s5 55 (by decide +kernel) rfl
theorem ml_X11_303 : Cond.methodLink RX11 303 yX10_heaviestDraught ∈ q_tb := q_ap q_s5 59 (by decide +kernel) rfl
theorem ml_L_191 : Cond.methodLink RL 191 yX11_whom ∈ q_tb := q_ap q_s5 63 (by decide +kernel) rfl
theorem ml_X11_306 : Cond.methodLink RX11 306 yX11_originRefusal ∈ q_tb := q_ap q_s5 67 (by decide +kernel) rfl
theorem ml_X11_321 : Cond.methodLink RX11 321 yX11_clueRefusal ∈ q_tb := q_ap q_s5 71 (by decide +kernel) rfl
theorem ml_X11_327 : Cond.methodLink RX11 327 yX2_areSound ∈ q_tb := q_ap q_s5 75 (by decide +kernel) rfl
theorem ml_X11_309 : Cond.methodLink RX11 309 yX2_origins ∈ q_tb := q_ap q_s5 80 (by decide +kernel) rfl
theorem ml_X2_64 : Cond.methodLink RX2 64 yX3_tellAlone ∈ q_tb := q_ap q_s5 84 (by decide +kernel) rfl
theorem ml_X2_68 : Cond.methodLink RX2 68 yX3_run ∈ q_tb := q_ap q_s5 85 (by decide +kernel) rfl
theorem ml_X2_72 : Cond.methodLink RX2 72 yX2_fit ∈ q_tb := q_ap q_s5 86 (by decide +kernel) rfl
theorem ml_X2_55 : Cond.methodLink RX2 55 yX7_size ∈ q_tb := q_ap q_s5 90 (by decide +kernel) rfl
theorem ml_X2_76 : Cond.methodLink RX2 76 yX2_noteSizes ∈ q_tb := q_ap q_s5 91 (by decide +kernel) rfl
theorem ml_L_195 : Cond.methodLink RL 195 yX11_ask ∈ q_tb := q_ap q_s5 95 (by decide +kernel) rfl
theorem ml_X11_312 : Cond.methodLink RX11 312 yX2_chooseQuestion ∈ q_tb := q_ap q_s5 99 (by decide +kernel) rfl
theorem ml_X2_83 : Cond.methodLink RX2 83 yJ6_bitCount_0f7a4 ∈ q_tb := q_ap q_s5 103 (by decide +kernel) rfl
theorem ml_X2_91 : Cond.methodLink RX2 91 yX2_leftAtWorst ∈ q_tb := q_ap q_s5 104 (by decide +kernel) rfl
theorem ml_X2_94 : Cond.methodLink RX2 94 yJ9_max_7cf53 ∈ q_tb := q_ap q_s5 108 (by decide +kernel) rfl
theorem ml_L_199 : Cond.methodLink RL 199 yX11_leaves ∈ q_tb := q_ap q_s5 109 (by decide +kernel) rfl
theorem ml_L_203 : Cond.methodLink RL 203 yX11_laws ∈ q_tb := q_ap q_s5 113 (by decide +kernel) rfl
theorem ml_X11_324 : Cond.methodLink RX11 324 yX2_fittingLaws ∈ q_tb := q_ap q_s5 117 (by decide +kernel) rfl
theorem ml_X2_99 : Cond.methodLink RX2 99 yX3_byLaw ∈ q_tb := q_ap q_s5 121 (by decide +kernel) rfl
theorem ml_L_207 : Cond.methodLink RL 207 yX11_by ∈ q_tb := q_ap q_s5 125 (by decide +kernel) rfl
theorem ml_X11_330 : Cond.methodLink RX11 330 yX3_byLaw ∈ q_tb := q_ap q_s5 129 (by decide +kernel) rfl
theorem ml_L_211 : Cond.methodLink RL 211 yX11_law ∈ q_tb := q_ap q_s5 130 (by decide +kernel) rfl
theorem ml_L_215 : Cond.methodLink RL 215 yX11_rector ∈ q_tb := q_ap q_s5 134 (by decide +kernel) rfl
theorem ml_X11_336 : Cond.methodLink RX11 336 yX10_chooseOpening ∈ q_tb := q_ap q_s5 138 (by decide +kernel) rfl
theorem ml_X10_52 : Cond.methodLink RX10 52 yX10_chooseReply ∈ q_tb := q_ap q_s5 142 (by decide +kernel) rfl
theorem ml_L_219 : Cond.methodLink RL 219 yX11_opens ∈ q_tb := q_ap q_s5 146 (by decide +kernel) rfl
theorem ml_L_223 : Cond.methodLink RL 223 yX11_replies ∈ q_tb := q_ap q_s5 150 (by decide +kernel) rfl
theorem ml_X11_345 : Cond.methodLink RX11 345 yX10_chooseReply ∈ q_tb := q_ap q_s5 154 (by decide +kernel) rfl
theorem ml_L_227 : Cond.methodLink RL 227 yX11_rests ∈ q_tb := q_ap q_s5 155 (by decide +kernel) rfl
theorem ml_X11_351 : Cond.methodLink RX11 351 yX10_gain ∈ q_tb := q_ap q_s5 159 (by decide +kernel) rfl
theorem ml_X10_72 : Cond.methodLink RX10 72 yX7_size ∈ q_tb := q_ap q_s5 163 (by decide +kernel) rfl
theorem ml_L_231 : Cond.methodLink RL 231 yX11_gets ∈ q_tb := q_ap q_s5 164 (by decide +kernel) rfl
theorem ml_L_235 : Cond.methodLink RL 235 yX11_chance ∈ q_tb := q_ap q_s5 168 (by decide +kernel) rfl
theorem ml_X11_355 : Cond.methodLink RX11 355 yX11_noChanceHour ∈ q_tb := q_ap q_s5 172 (by decide +kernel) rfl
theorem ml_X11_360 : Cond.methodLink RX11 360 yX1_weighed ∈ q_tb := q_ap q_s5 177 (by decide +kernel) rfl
theorem ml_X1_19 : Cond.methodLink RX1 19 yX3_asNow ∈ q_tb := q_ap q_s5 181 (by decide +kernel) rfl
theorem ml_X1_24 : Cond.methodLink RX1 24 yX1_backwards ∈ q_tb := q_ap q_s5 182 (by decide +kernel) rfl
theorem ml_X1_32 : Cond.methodLink RX1 32 yX1_firstChanged ∈ q_tb := q_ap q_s5 185 (by decide +kernel) rfl
theorem ml_X1_38 : Cond.methodLink RX1 38 yJ6_bitCount_0f7a4 ∈ q_tb := q_ap q_s5 188 (by decide +kernel) rfl
theorem ml_X1_35 : Cond.methodLink RX1 35 yX3_run ∈ q_tb := q_ap q_s5 189 (by decide +kernel) rfl
theorem ml_X1_49 : Cond.methodLink RX1 49 yX1_power ∈ q_tb := q_ap q_s5 190 (by decide +kernel) rfl
theorem ml_X1_53 : Cond.methodLink RX1 53 yX3_lettersSaid ∈ q_tb := q_ap q_s5 193 (by decide +kernel) rfl
theorem ml_X11_364 : Cond.methodLink RX11 364 yX1_power ∈ q_tb := q_ap q_s5 194 (by decide +kernel) rfl
theorem ml_L_240 : Cond.methodLink RL 240 yX11_mean ∈ q_tb := q_ap q_s5 195 (by decide +kernel) rfl
theorem ml_L_245 : Cond.methodLink RL 245 yX11_light ∈ q_tb := q_ap q_s5 199 (by decide +kernel) rfl
theorem ml_X11_367 : Cond.methodLink RX11 367 yX11_act ∈ q_tb := q_ap q_s5 203 (by decide +kernel) rfl
theorem ml_X11_370 : Cond.methodLink RX11 370 yX0_add ∈ q_tb := q_ap q_s5 207 (by decide +kernel) rfl
theorem ml_L_249 : Cond.methodLink RL 249 yX11_draught ∈ q_tb := q_ap q_s5 211 (by decide +kernel) rfl
theorem ml_L_253 : Cond.methodLink RL 253 yX11_undo ∈ q_tb := q_ap q_s5 215 (by decide +kernel) rfl
theorem ml_L_257 : Cond.methodLink RL 257 yX11_anew ∈ q_tb := q_ap q_s5 219 (by decide +kernel) rfl
theorem ml_L_261 : Cond.methodLink RL 261 yX11_drawn ∈ q_tb := q_ap q_s5 223 (by decide +kernel) rfl
theorem ml_X11_373 : Cond.methodLink RX11 373 yX11_noSeed ∈ q_tb := q_ap q_s5 227 (by decide +kernel) rfl
theorem ml_X11_376 : Cond.methodLink RX11 376 yX1_silenceDrawn ∈ q_tb := q_ap q_s5 231 (by decide +kernel) rfl
theorem ml_X11_380 : Cond.methodLink RX11 380 yX1_litAfter ∈ q_tb := q_ap q_s6 0 (by decide +kernel) rfl
theorem ml_L_265 : Cond.methodLink RL 265 yX11_luck ∈ q_tb := q_ap q_s6 4 (by decide +kernel) rfl
theorem ml_L_269 : Cond.methodLink RL 269 yX11_hushes ∈ q_tb := q_ap q_s6 8 (by decide +kernel) rfl
theorem ml_X11_384 : Cond.methodLink RX11 384 yX5_setRule ∈ q_tb := q_ap q_s6 12 (by decide +kernel) rfl
theorem ml_L_273 : Cond.methodLink RL 273 yX11_count ∈ q_tb := q_ap q_s6 13 (by decide +kernel) rfl
theorem ml_X11_400 : Cond.methodLink RX11 400 yX9_rowsHeld ∈ q_tb := q_ap q_s6 17 (by decide +kernel) rfl
theorem ml_X9_23 : Cond.methodLink RX9 23 yX9_hasRow ∈ q_tb := q_ap q_s6 21 (by decide +kernel) rfl
theorem ml_L_277 : Cond.methodLink RL 277 yX11_image ∈ q_tb := q_ap q_s6 22 (by decide +kernel) rfl
theorem ml_X11_403 : Cond.methodLink RX11 403 yX0_take ∈ q_tb := q_ap q_s6 26 (by decide +kernel) rfl
theorem ml_X0_23 : Cond.methodLink RX0 23 arraycopyName ∈ q_tb := q_ap q_s6 30 (by decide +kernel) rfl
theorem ml_L_281 : Cond.methodLink RL 281 yX11_back ∈ q_tb := q_ap q_s6 31 (by decide +kernel) rfl
theorem ml_L_285 : Cond.methodLink RL 285 yX11_row ∈ q_tb := q_ap q_s6 35 (by decide +kernel) rfl
theorem ml_X11_406 : Cond.methodLink RX11 406 yX9_begin ∈ q_tb := q_ap q_s6 39 (by decide +kernel) rfl
theorem ml_L_291 : Cond.methodLink RL 291 yX11_write ∈ q_tb := q_ap q_s6 43 (by decide +kernel) rfl
theorem ml_X11_409 : Cond.methodLink RX11 409 yX9_areBeyond ∈ q_tb := q_ap q_s6 47 (by decide +kernel) rfl
theorem ml_X11_413 : Cond.methodLink RX11 413 yX9_put ∈ q_tb := q_ap q_s6 51 (by decide +kernel) rfl
theorem ml_L_296 : Cond.methodLink RL 296 yX11_paste ∈ q_tb := q_ap q_s6 55 (by decide +kernel) rfl
theorem ml_X11_424 : Cond.methodLink RX11 424 arraycopyName ∈ q_tb := q_ap q_s6 59 (by decide +kernel) rfl
theorem ml_L_12 : Cond.methodLink RL 12 yX12_init ∈ q_tb := q_ap q_s6 62 (by decide +kernel) rfl
theorem ml_X12_3 : Cond.methodLink RX12 3 objectInit ∈ q_tb := q_ap q_s6 65 (by decide +kernel) rfl
theorem ml_L_280 : Cond.methodLink RL 280 yX12_image ∈ q_tb := q_ap q_s6 189 (by decide +kernel) rfl
theorem ml_X12_70 : Cond.methodLink RX12 70 yX12_in ∈ q_tb := q_ap q_s6 194 (by decide +kernel) rfl
theorem ml_L_284 : Cond.methodLink RL 284 yX12_back ∈ q_tb := q_ap q_s6 197 (by decide +kernel) rfl
theorem ml_L_17 : Cond.methodLink RL 17 yX12_feed ∈ q_tb := q_ap q_s6 201 (by decide +kernel) rfl
theorem ml_L_22 : Cond.methodLink RL 22 yX12_end ∈ q_tb := q_ap q_s6 205 (by decide +kernel) rfl
theorem ml_L_31 : Cond.methodLink RL 31 yX12_fault ∈ q_tb := q_ap q_s6 209 (by decide +kernel) rfl
theorem ml_L_27 : Cond.methodLink RL 27 yX12_night ∈ q_tb := q_ap q_s6 213 (by decide +kernel) rfl
theorem ml_X12_141 : Cond.methodLink RX12 141 yX12_advance ∈ q_tb := q_ap q_s6 217 (by decide +kernel) rfl
theorem ml_X12_94 : Cond.methodLink RX12 94 yX12_see ∈ q_tb := q_ap q_s6 221 (by decide +kernel) rfl
theorem ml_X12_116 : Cond.methodLink RX12 116 yJ9_min_7cf53 ∈ q_tb := q_ap q_s6 230 (by decide +kernel) rfl
theorem ml_X12_125 : Cond.methodLink RX12 125 yX12_good ∈ q_tb := q_ap q_s6 231 (by decide +kernel) rfl
theorem ml_X12_215 : Cond.methodLink RX12 215 yX12_readLine ∈ q_tb := q_ap q_s6 235 (by decide +kernel) rfl
theorem ml_X12_209 : Cond.methodLink RX12 209 yX12_readFirst ∈ q_tb := q_ap q_s6 239 (by decide +kernel) rfl
theorem ml_X12_151 : Cond.methodLink RX12 151 yX12_expects ∈ q_tb := q_ap q_s7 4 (by decide +kernel) rfl
theorem ml_X12_144 : Cond.methodLink RX12 144 yX12_takes ∈ q_tb := q_ap q_s7 8 (by decide +kernel) rfl
theorem ml_X12_137 : Cond.methodLink RX12 137 yX12_is ∈ q_tb := q_ap q_s7 12 (by decide +kernel) rfl
theorem ml_X12_128 : Cond.methodLink RX12 128 yJ0_length_8abf5 ∈ q_tb := q_ap q_s7 16 (by decide +kernel) rfl
theorem ml_X12_133 : Cond.methodLink RX12 133 yJ0_charAt_5068e ∈ q_tb := q_ap q_s7 17 (by decide +kernel) rfl
theorem ml_X12_147 : Cond.methodLink RX12 147 yX12_errs ∈ q_tb := q_ap q_s7 18 (by decide +kernel) rfl
theorem ml_X12_161 : Cond.methodLink RX12 161 yX12_toldBy ∈ q_tb := q_ap q_s7 23 (by decide +kernel) rfl
theorem ml_X12_155 : Cond.methodLink RX12 155 yX12_number ∈ q_tb := q_ap q_s7 27 (by decide +kernel) rfl
theorem ml_X12_212 : Cond.methodLink RX12 212 yX12_readNext ∈ q_tb := q_ap q_s7 33 (by decide +kernel) rfl
theorem ml_X12_194 : Cond.methodLink RX12 194 yX12_isFull ∈ q_tb := q_ap q_s7 41 (by decide +kernel) rfl
theorem ml_X12_197 : Cond.methodLink RX12 197 yX12_readPew ∈ q_tb := q_ap q_s7 45 (by decide +kernel) rfl
theorem ml_X12_200 : Cond.methodLink RX12 200 yX12_readAisle ∈ q_tb := q_ap q_s7 54 (by decide +kernel) rfl
theorem ml_X12_179 : Cond.methodLink RX12 179 yX12_isJoined ∈ q_tb := q_ap q_s7 58 (by decide +kernel) rfl
theorem ml_X12_203 : Cond.methodLink RX12 203 yX12_readLight ∈ q_tb := q_ap q_s7 62 (by decide +kernel) rfl
theorem ml_X12_206 : Cond.methodLink RX12 206 yX12_readDraught ∈ q_tb := q_ap q_s7 67 (by decide +kernel) rfl
theorem ml_L_36 : Cond.methodLink RL 36 yX12_pew ∈ q_tb := q_ap q_s7 72 (by decide +kernel) rfl
theorem ml_X12_218 : Cond.methodLink RX12 218 yX12_isPew ∈ q_tb := q_ap q_s7 76 (by decide +kernel) rfl
theorem ml_X12_74 : Cond.methodLink RX12 74 yX12_pews ∈ q_tb := q_ap q_s7 80 (by decide +kernel) rfl
theorem ml_X12_222 : Cond.methodLink RX12 222 yX12_ruleOf ∈ q_tb := q_ap q_s7 84 (by decide +kernel) rfl
theorem ml_L_48 : Cond.methodLink RL 48 yX12_told ∈ q_tb := q_ap q_s7 88 (by decide +kernel) rfl
theorem ml_X12_231 : Cond.methodLink RX12 231 yX12_letterOrNone ∈ q_tb := q_ap q_s7 92 (by decide +kernel) rfl
theorem ml_X12_225 : Cond.methodLink RX12 225 yX12_longOf ∈ q_tb := q_ap q_s7 95 (by decide +kernel) rfl
theorem ml_X12_228 : Cond.methodLink RX12 228 yX12_letterOf ∈ q_tb := q_ap q_s7 98 (by decide +kernel) rfl
theorem ml_L_40 : Cond.methodLink RL 40 yX12_near ∈ q_tb := q_ap q_s7 101 (by decide +kernel) rfl
theorem ml_X12_240 : Cond.methodLink RX12 240 yX12_nearOf ∈ q_tb := q_ap q_s7 105 (by decide +kernel) rfl
theorem ml_X12_237 : Cond.methodLink RX12 237 yX12_bit ∈ q_tb := q_ap q_s7 109 (by decide +kernel) rfl
theorem ml_L_44 : Cond.methodLink RL 44 yX12_far ∈ q_tb := q_ap q_s7 112 (by decide +kernel) rfl
theorem ml_L_52 : Cond.methodLink RL 52 yX12_lit ∈ q_tb := q_ap q_s7 116 (by decide +kernel) rfl
theorem ml_X12_318 : Cond.methodLink RX12 318 yX12_asksHour ∈ q_tb := q_ap q_s7 120 (by decide +kernel) rfl
theorem ml_X12_303 : Cond.methodLink RX12 303 yX12_asksNight ∈ q_tb := q_ap q_s7 124 (by decide +kernel) rfl
theorem ml_X12_297 : Cond.methodLink RX12 297 yX12_asItIs ∈ q_tb := q_ap q_s7 128 (by decide +kernel) rfl
theorem ml_X12_300 : Cond.methodLink RX12 300 yX12_goAll ∈ q_tb := q_ap q_s7 132 (by decide +kernel) rfl
theorem ml_X12_288 : Cond.methodLink RX12 288 yX12_beginNight ∈ q_tb := q_ap q_s7 136 (by decide +kernel) rfl
theorem ml_X12_267 : Cond.methodLink RX12 267 yX12_putsOut ∈ q_tb := q_ap q_s7 140 (by decide +kernel) rfl
theorem ml_X12_271 : Cond.methodLink RX12 271 yX12_lights ∈ q_tb := q_ap q_s7 144 (by decide +kernel) rfl
theorem ml_X12_82 : Cond.methodLink RX12 82 yX12_hours ∈ q_tb := q_ap q_s7 148 (by decide +kernel) rfl
theorem ml_X12_291 : Cond.methodLink RX12 291 yX12_beginHour ∈ q_tb := q_ap q_s7 152 (by decide +kernel) rfl
theorem ml_X12_294 : Cond.methodLink RX12 294 yX12_goesOn ∈ q_tb := q_ap q_s7 156 (by decide +kernel) rfl
theorem ml_X12_282 : Cond.methodLink RX12 282 yX12_heardBy ∈ q_tb := q_ap q_s7 160 (by decide +kernel) rfl
theorem ml_X12_275 : Cond.methodLink RX12 275 yX12_saysOf ∈ q_tb := q_ap q_s7 164 (by decide +kernel) rfl
theorem ml_X12_278 : Cond.methodLink RX12 278 yX12_isBetter ∈ q_tb := q_ap q_s7 168 (by decide +kernel) rfl
theorem ml_X12_285 : Cond.methodLink RX12 285 yX12_changed ∈ q_tb := q_ap q_s7 172 (by decide +kernel) rfl
theorem ml_X12_78 : Cond.methodLink RX12 78 yX12_isNight ∈ q_tb := q_ap q_s7 176 (by decide +kernel) rfl
theorem ml_X12_306 : Cond.methodLink RX12 306 yX12_isHour ∈ q_tb := q_ap q_s7 180 (by decide +kernel) rfl
theorem ml_X12_309 : Cond.methodLink RX12 309 yX12_litAt ∈ q_tb := q_ap q_s7 184 (by decide +kernel) rfl
theorem ml_L_56 : Cond.methodLink RL 56 yX12_letters ∈ q_tb := q_ap q_s7 188 (by decide +kernel) rfl
theorem ml_L_61 : Cond.methodLink RL 61 yX12_says ∈ q_tb := q_ap q_s7 192 (by decide +kernel) rfl
theorem ml_L_65 : Cond.methodLink RL 65 yX12_from ∈ q_tb := q_ap q_s7 196 (by decide +kernel) rfl
theorem ml_L_69 : Cond.methodLink RL 69 yX12_since ∈ q_tb := q_ap q_s7 200 (by decide +kernel) rfl
theorem ml_L_101 : Cond.methodLink RL 101 yX12_depth ∈ q_tb := q_ap q_s7 204 (by decide +kernel) rfl
theorem ml_L_73 : Cond.methodLink RL 73 yX12_when ∈ q_tb := q_ap q_s7 208 (by decide +kernel) rfl
theorem ml_X12_322 : Cond.methodLink RX12 322 yX12_asksPew ∈ q_tb := q_ap q_s7 212 (by decide +kernel) rfl
theorem ml_L_77 : Cond.methodLink RL 77 yX12_often ∈ q_tb := q_ap q_s7 216 (by decide +kernel) rfl
theorem ml_L_81 : Cond.methodLink RL 81 yX12_full ∈ q_tb := q_ap q_s7 220 (by decide +kernel) rfl
theorem ml_X12_325 : Cond.methodLink RX12 325 yX12_allPews ∈ q_tb := q_ap q_s7 224 (by decide +kernel) rfl
theorem ml_L_85 : Cond.methodLink RL 85 yX12_dark ∈ q_tb := q_ap q_s7 228 (by decide +kernel) rfl
theorem ml_L_117 : Cond.methodLink RL 117 yX12_turned ∈ q_tb := q_ap q_s7 232 (by decide +kernel) rfl
theorem ml_X12_328 : Cond.methodLink RX12 328 yX12_turnedAt ∈ q_tb := q_ap q_s7 236 (by decide +kernel) rfl
theorem ml_L_89 : Cond.methodLink RL 89 yX12_still ∈ q_tb := q_ap q_s8 0 (by decide +kernel) rfl
theorem ml_L_97 : Cond.methodLink RL 97 yX12_alike ∈ q_tb := q_ap q_s8 4 (by decide +kernel) rfl
theorem ml_X12_331 : Cond.methodLink RX12 331 yX12_alikeTo ∈ q_tb := q_ap q_s8 8 (by decide +kernel) rfl
theorem ml_L_93 : Cond.methodLink RL 93 yX12_sorts ∈ q_tb := q_ap q_s8 12 (by decide +kernel) rfl
theorem ml_L_105 : Cond.methodLink RL 105 yX12_longest ∈ q_tb := q_ap q_s8 16 (by decide +kernel) rfl
theorem ml_X12_334 : Cond.methodLink RX12 334 yX12_longestBy ∈ q_tb := q_ap q_s8 20 (by decide +kernel) rfl
theorem ml_L_109 : Cond.methodLink RL 109 yX12_shortest ∈ q_tb := q_ap q_s8 24 (by decide +kernel) rfl
theorem ml_L_113 : Cond.methodLink RL 113 yX12_words ∈ q_tb := q_ap q_s8 28 (by decide +kernel) rfl
theorem ml_X12_337 : Cond.methodLink RX12 337 yX12_wordsAt ∈ q_tb := q_ap q_s8 32 (by decide +kernel) rfl
theorem ml_L_121 : Cond.methodLink RL 121 yX12_spoken ∈ q_tb := q_ap q_s8 36 (by decide +kernel) rfl
theorem ml_L_125 : Cond.methodLink RL 125 yX12_taught ∈ q_tb := q_ap q_s8 40 (by decide +kernel) rfl
theorem ml_L_129 : Cond.methodLink RL 129 yX12_deepest ∈ q_tb := q_ap q_s8 44 (by decide +kernel) rfl
theorem ml_X12_340 : Cond.methodLink RX12 340 yJ9_max_7cf53 ∈ q_tb := q_ap q_s8 48 (by decide +kernel) rfl
theorem ml_L_133 : Cond.methodLink RL 133 yX12_fresh ∈ q_tb := q_ap q_s8 49 (by decide +kernel) rfl
theorem ml_L_137 : Cond.methodLink RL 137 yX12_gone ∈ q_tb := q_ap q_s8 53 (by decide +kernel) rfl
theorem ml_L_141 : Cond.methodLink RL 141 yX12_hears ∈ q_tb := q_ap q_s8 57 (by decide +kernel) rfl
theorem ml_X12_355 : Cond.methodLink RX12 355 yX12_askRow ∈ q_tb := q_ap q_s8 61 (by decide +kernel) rfl
theorem ml_X12_343 : Cond.methodLink RX12 343 yX12_isSlot ∈ q_tb := q_ap q_s8 65 (by decide +kernel) rfl
theorem ml_X12_351 : Cond.methodLink RX12 351 yX12_numberAt ∈ q_tb := q_ap q_s8 70 (by decide +kernel) rfl
theorem ml_X12_359 : Cond.methodLink RX12 359 yX12_heardTwice ∈ q_tb := q_ap q_s8 74 (by decide +kernel) rfl
theorem ml_L_146 : Cond.methodLink RL 146 yX12_heard ∈ q_tb := q_ap q_s8 78 (by decide +kernel) rfl
theorem ml_L_150 : Cond.methodLink RL 150 yX12_round ∈ q_tb := q_ap q_s8 82 (by decide +kernel) rfl
theorem ml_L_154 : Cond.methodLink RL 154 yX12_first ∈ q_tb := q_ap q_s8 86 (by decide +kernel) rfl
theorem ml_X12_374 : Cond.methodLink RX12 374 yX12_askFirst ∈ q_tb := q_ap q_s8 90 (by decide +kernel) rfl
theorem ml_X12_371 : Cond.methodLink RX12 371 yX12_layFirst ∈ q_tb := q_ap q_s8 94 (by decide +kernel) rfl
theorem ml_X12_368 : Cond.methodLink RX12 368 yX12_isSaying ∈ q_tb := q_ap q_s8 98 (by decide +kernel) rfl
theorem ml_L_158 : Cond.methodLink RL 158 yX12_letter ∈ q_tb := q_ap q_s8 102 (by decide +kernel) rfl
theorem ml_L_162 : Cond.methodLink RL 162 yX12_ways ∈ q_tb := q_ap q_s8 106 (by decide +kernel) rfl
theorem ml_L_170 : Cond.methodLink RL 170 yX12_worth ∈ q_tb := q_ap q_s8 110 (by decide +kernel) rfl
theorem ml_X12_380 : Cond.methodLink RX12 380 yX12_worthOf ∈ q_tb := q_ap q_s8 114 (by decide +kernel) rfl
theorem ml_X12_377 : Cond.methodLink RX12 377 yX12_lastMany ∈ q_tb := q_ap q_s8 118 (by decide +kernel) rfl
theorem ml_X12_312 : Cond.methodLink RX12 312 yX12_litLast ∈ q_tb := q_ap q_s8 122 (by decide +kernel) rfl
theorem ml_X12_315 : Cond.methodLink RX12 315 yX12_bits ∈ q_tb := q_ap q_s8 126 (by decide +kernel) rfl
theorem ml_L_166 : Cond.methodLink RL 166 yX12_best ∈ q_tb := q_ap q_s8 129 (by decide +kernel) rfl
theorem ml_L_174 : Cond.methodLink RL 174 yX12_share ∈ q_tb := q_ap q_s8 133 (by decide +kernel) rfl
theorem ml_X12_391 : Cond.methodLink RX12 391 yX12_factorial ∈ q_tb := q_ap q_s8 137 (by decide +kernel) rfl
theorem ml_X12_394 : Cond.methodLink RX12 394 yX12_part ∈ q_tb := q_ap q_s8 140 (by decide +kernel) rfl
theorem ml_X12_387 : Cond.methodLink RX12 387 yX12_divisor ∈ q_tb := q_ap q_s8 143 (by decide +kernel) rfl
theorem ml_X12_383 : Cond.methodLink RX12 383 yJ9_abs_067f4 ∈ q_tb := q_ap q_s8 146 (by decide +kernel) rfl
theorem ml_L_178 : Cond.methodLink RL 178 yX12_fewest ∈ q_tb := q_ap q_s8 147 (by decide +kernel) rfl
theorem ml_X12_398 : Cond.methodLink RX12 398 yX12_fewestOf ∈ q_tb := q_ap q_s8 151 (by decide +kernel) rfl
theorem ml_L_182 : Cond.methodLink RL 182 yX12_sets ∈ q_tb := q_ap q_s8 155 (by decide +kernel) rfl
theorem ml_L_186 : Cond.methodLink RL 186 yX12_gust ∈ q_tb := q_ap q_s8 159 (by decide +kernel) rfl
theorem ml_L_190 : Cond.methodLink RL 190 yX12_guard ∈ q_tb := q_ap q_s8 163 (by decide +kernel) rfl
theorem ml_L_194 : Cond.methodLink RL 194 yX12_whom ∈ q_tb := q_ap q_s8 167 (by decide +kernel) rfl
theorem ml_X12_407 : Cond.methodLink RX12 407 yX12_askWhom ∈ q_tb := q_ap q_s8 171 (by decide +kernel) rfl
theorem ml_X12_401 : Cond.methodLink RX12 401 yX12_askHeard ∈ q_tb := q_ap q_s8 175 (by decide +kernel) rfl
theorem ml_X12_410 : Cond.methodLink RX12 410 yX12_whomOf ∈ q_tb := q_ap q_s8 179 (by decide +kernel) rfl
theorem ml_X12_404 : Cond.methodLink RX12 404 yX12_isHeard ∈ q_tb := q_ap q_s8 183 (by decide +kernel) rfl
theorem ml_L_198 : Cond.methodLink RL 198 yX12_ask ∈ q_tb := q_ap q_s8 187 (by decide +kernel) rfl
theorem ml_X12_419 : Cond.methodLink RX12 419 yX12_askOf ∈ q_tb := q_ap q_s8 191 (by decide +kernel) rfl
theorem ml_X12_416 : Cond.methodLink RX12 416 yX12_worstOf ∈ q_tb := q_ap q_s8 195 (by decide +kernel) rfl
theorem ml_L_202 : Cond.methodLink RL 202 yX12_leaves ∈ q_tb := q_ap q_s8 199 (by decide +kernel) rfl
theorem ml_L_206 : Cond.methodLink RL 206 yX12_laws ∈ q_tb := q_ap q_s8 203 (by decide +kernel) rfl
theorem ml_L_210 : Cond.methodLink RL 210 yX12_by ∈ q_tb := q_ap q_s8 207 (by decide +kernel) rfl
theorem ml_X12_424 : Cond.methodLink RX12 424 yX12_goBy ∈ q_tb := q_ap q_s8 211 (by decide +kernel) rfl
theorem ml_L_214 : Cond.methodLink RL 214 yX12_law ∈ q_tb := q_ap q_s8 215 (by decide +kernel) rfl
theorem ml_L_218 : Cond.methodLink RL 218 yX12_rector ∈ q_tb := q_ap q_s8 219 (by decide +kernel) rfl
theorem ml_X12_433 : Cond.methodLink RX12 433 yX12_opensOf ∈ q_tb := q_ap q_s8 223 (by decide +kernel) rfl
theorem ml_X12_430 : Cond.methodLink RX12 430 yX12_repliesTo ∈ q_tb := q_ap q_s8 227 (by decide +kernel) rfl
theorem ml_X12_427 : Cond.methodLink RX12 427 yX12_litByTurns ∈ q_tb := q_ap q_s8 231 (by decide +kernel) rfl
theorem ml_L_222 : Cond.methodLink RL 222 yX12_opens ∈ q_tb := q_ap q_s8 235 (by decide +kernel) rfl
theorem ml_L_226 : Cond.methodLink RL 226 yX12_replies ∈ q_tb := q_ap q_s8 239 (by decide +kernel) rfl
theorem ml_L_230 : Cond.methodLink RL 230 yX12_rests ∈ q_tb := q_ap q_s9 3 (by decide +kernel) rfl
theorem ml_X12_436 : Cond.methodLink RX12 436 yX12_areTwo ∈ q_tb := q_ap q_s9 7 (by decide +kernel) rfl
theorem ml_X12_439 : Cond.methodLink RX12 439 yX12_getsBy ∈ q_tb := q_ap q_s9 11 (by decide +kernel) rfl
theorem ml_L_234 : Cond.methodLink RL 234 yX12_gets ∈ q_tb := q_ap q_s9 15 (by decide +kernel) rfl
theorem ml_L_239 : Cond.methodLink RL 239 yX12_chance ∈ q_tb := q_ap q_s9 19 (by decide +kernel) rfl
theorem ml_X12_455 : Cond.methodLink RX12 455 yX12_isSilence ∈ q_tb := q_ap q_s9 23 (by decide +kernel) rfl
theorem ml_X12_460 : Cond.methodLink RX12 460 yX12_laySilence ∈ q_tb := q_ap q_s9 29 (by decide +kernel) rfl
theorem ml_L_244 : Cond.methodLink RL 244 yX12_mean ∈ q_tb := q_ap q_s9 33 (by decide +kernel) rfl
theorem ml_L_248 : Cond.methodLink RL 248 yX12_light ∈ q_tb := q_ap q_s9 37 (by decide +kernel) rfl
theorem ml_X12_463 : Cond.methodLink RX12 463 yX12_keepAct ∈ q_tb := q_ap q_s9 41 (by decide +kernel) rfl
theorem ml_L_252 : Cond.methodLink RL 252 yX12_draught ∈ q_tb := q_ap q_s9 45 (by decide +kernel) rfl
theorem ml_L_256 : Cond.methodLink RL 256 yX12_undo ∈ q_tb := q_ap q_s9 49 (by decide +kernel) rfl
theorem ml_L_260 : Cond.methodLink RL 260 yX12_anew ∈ q_tb := q_ap q_s9 53 (by decide +kernel) rfl
theorem ml_L_264 : Cond.methodLink RL 264 yX12_drawn ∈ q_tb := q_ap q_s9 57 (by decide +kernel) rfl
theorem ml_X12_478 : Cond.methodLink RX12 478 yX12_isSeed ∈ q_tb := q_ap q_s9 61 (by decide +kernel) rfl
theorem ml_X12_481 : Cond.methodLink RX12 481 yX12_goDrawn ∈ q_tb := q_ap q_s9 65 (by decide +kernel) rfl
theorem ml_L_268 : Cond.methodLink RL 268 yX12_luck ∈ q_tb := q_ap q_s9 74 (by decide +kernel) rfl
theorem ml_L_272 : Cond.methodLink RL 272 yX12_hushes ∈ q_tb := q_ap q_s9 79 (by decide +kernel) rfl
theorem ml_L_276 : Cond.methodLink RL 276 yX12_count ∈ q_tb := q_ap q_s9 83 (by decide +kernel) rfl
theorem ml_L_288 : Cond.methodLink RL 288 yX12_row ∈ q_tb := q_ap q_s9 88 (by decide +kernel) rfl
theorem ml_L_295 : Cond.methodLink RL 295 yX12_write ∈ q_tb := q_ap q_s9 92 (by decide +kernel) rfl
theorem ml_X12_489 : Cond.methodLink RX12 489 yX12_clipped ∈ q_tb := q_ap q_s9 96 (by decide +kernel) rfl
theorem ml_L_299 : Cond.methodLink RL 299 yX12_paste ∈ q_tb := q_ap q_s9 99 (by decide +kernel) rfl
theorem cn_J6_265 : Cond.constant RJ6 265 (1431655765) ∈ q_tb := q_ap q_s4 39 (by decide +kernel) rfl
theorem cn_J6_266 : Cond.constant RJ6 266 (858993459) ∈ q_tb := q_ap q_s4 40 (by decide +kernel) rfl
theorem cn_J6_267 : Cond.constant RJ6 267 (252645135) ∈ q_tb := q_ap q_s4 41 (by decide +kernel) rfl
theorem cn_X11_383 : Cond.constant RX11 383 (2000000000) ∈ q_tb := q_ap q_s5 230 (by decide +kernel) rfl
theorem cn_X12_115 : Cond.constant RX12 115 (99999) ∈ q_tb := q_ap q_s6 229 (by decide +kernel) rfl
theorem cn_X9_29 : Cond.constantLong RX9 29 (4) ∈ q_tb := q_ap q_s4 175 (by decide +kernel) rfl
theorem cn_X2_48 : Cond.constantLong RX2 48 (6) ∈ q_tb := q_ap q_s5 79 (by decide +kernel) rfl
theorem cn_X11_358 : Cond.constantLong RX11 358 (-2) ∈ q_tb := q_ap q_s5 176 (by decide +kernel) rfl
theorem cn_X1_63 : Cond.constantLong RX1 63 (1103515245) ∈ q_tb := q_ap q_s5 235 (by decide +kernel) rfl
theorem cn_X1_65 : Cond.constantLong RX1 65 (12345) ∈ q_tb := q_ap q_s5 236 (by decide +kernel) rfl
theorem cn_X1_67 : Cond.constantLong RX1 67 (2147483648) ∈ q_tb := q_ap q_s5 237 (by decide +kernel) rfl
theorem cn_X1_69 : Cond.constantLong RX1 69 (65536) ∈ q_tb := q_ap q_s5 238 (by decide +kernel) rfl
theorem cn_X1_71 : Cond.constantLong RX1 71 (10) ∈ q_tb := q_ap q_s5 239 (by decide +kernel) rfl
theorem cn_X12_68 : Cond.constantLong RX12 68 (2) ∈ q_tb := q_ap q_s6 193 (by decide +kernel) rfl
theorem cn_X12_104 : Cond.constantLong RX12 104 (97) ∈ q_tb := q_ap q_s6 225 (by decide +kernel) rfl
theorem cn_X12_106 : Cond.constantLong RX12 106 (122) ∈ q_tb := q_ap q_s6 226 (by decide +kernel) rfl
theorem cn_X12_108 : Cond.constantLong RX12 108 (48) ∈ q_tb := q_ap q_s6 227 (by decide +kernel) rfl
theorem cn_X12_110 : Cond.constantLong RX12 110 (57) ∈ q_tb := q_ap q_s6 228 (by decide +kernel) rfl
theorem cn_X12_183 : Cond.constantLong RX12 183 (4) ∈ q_tb := q_ap q_s7 66 (by decide +kernel) rfl
theorem cn_X12_422 : Cond.constantLong RX12 422 (3) ∈ q_tb := q_ap q_s8 68 (by decide +kernel) rfl
theorem cn_X12_346 : Cond.constantLong RX12 346 (6) ∈ q_tb := q_ap q_s8 69 (by decide +kernel) rfl
theorem cn_X12_453 : Cond.constantLong RX12 453 (7) ∈ q_tb := q_ap q_s9 27 (by decide +kernel) rfl
theorem cn_X12_458 : Cond.constantLong RX12 458 (-2) ∈ q_tb := q_ap q_s9 28 (by decide +kernel) rfl
theorem cn_X12_476 : Cond.constantLong RX12 476 (2000000000) ∈ q_tb := q_ap q_s9 64 (by decide +kernel) rfl
theorem cn_X12_466 : Cond.constantLong RX12 466 (1103515245) ∈ q_tb := q_ap q_s9 69 (by decide +kernel) rfl
theorem cn_X12_468 : Cond.constantLong RX12 468 (12345) ∈ q_tb := q_ap q_s9 70 (by decide +kernel) rfl
theorem cn_X12_470 : Cond.constantLong RX12 470 (2147483648) ∈ q_tb := q_ap q_s9 71 (by decide +kernel) rfl
theorem cn_X12_472 : Cond.constantLong RX12 472 (65536) ∈ q_tb := q_ap q_s9 72 (by decide +kernel) rfl
theorem cn_X12_474 : Cond.constantLong RX12 474 (10) ∈ q_tb := q_ap q_s9 73 (by decide +kernel) rfl
theorem cn_X12_485 : Cond.constantLong RX12 485 (20) ∈ q_tb := q_ap q_s9 78 (by decide +kernel) rfl
theorem cn_X12_487 : Cond.constantLong RX12 487 (8) ∈ q_tb := q_ap q_s9 87 (by decide +kernel) rfl
theorem cn_L_289 : Cond.constantLong RL 289 (4294967295) ∈ q_tb := q_ap q_s9 103 (by decide +kernel) rfl
