abbrev mJ0_charAt_5068e : pn_M := (yJ0_charAt_5068e, cJ0_charAt_5068e, 2, (some .char), [])
abbrev mJ0_checkIndex_df160 : pn_M := (yJ0_checkIndex_df160, cJ0_checkIndex_df160, 2, none, [])
abbrev mJ0_coder_7d493 : pn_M := (yJ0_coder_7d493, cJ0_coder_7d493, 1, (some .byte), [])
abbrev mJ0_isLatin1_aae02 : pn_M := (yJ0_isLatin1_aae02, cJ0_isLatin1_aae02, 1, (some .boolean), [])
abbrev mJ0_length_8abf5 : pn_M := (yJ0_length_8abf5, cJ0_length_8abf5, 1, (some .int), [])
abbrev mJ1_charAt_3b067 : pn_M := (yJ1_charAt_3b067, cJ1_charAt_3b067, 2, (some .char), [])
abbrev mJ3_checkIndex_8e157 : pn_M := (yJ3_checkIndex_8e157, cJ3_checkIndex_8e157, 3, (some .int), [])
abbrev mJ6_bitCount_0f7a4 : pn_M := (yJ6_bitCount_0f7a4, cJ6_bitCount_0f7a4, 1, (some .int), [])
abbrev mJ7_fill_53178 : pn_M := (yJ7_fill_53178, cJ7_fill_53178, 4, none, [])
abbrev mJ9_floorMod_7cf53 : pn_M := (yJ9_floorMod_7cf53, cJ9_floorMod_7cf53, 3, (some .int), [])
abbrev mJ9_max_7cf53 : pn_M := (yJ9_max_7cf53, cJ9_max_7cf53, 2, (some .int), [])
abbrev mJ9_min_7cf53 : pn_M := (yJ9_min_7cf53, cJ9_min_7cf53, 2, (some .int), [])
abbrev mL_against : pn_M := (yL_against, cL_against, 6, (some .int), [(0, 12, 15, 24), (0, 12, 19, 13)])
abbrev mL_ask : pn_M := (yL_ask, cL_ask, 4, (some .int), [(0, 9, 12, 24), (0, 9, 15, 13)])
abbrev mL_begin : pn_M := (yL_begin, cL_begin, 5, (some .int), [(0, 17, 20, 24)])
abbrev mL_brave : pn_M := (yL_brave, cL_brave, 4, (some .int), [(0, 9, 12, 24)])
abbrev mL_brings : pn_M := (yL_brings, cL_brings, 4, (some .int), [(0, 9, 12, 13)])
abbrev mL_buy : pn_M := (yL_buy, cL_buy, 3, (some .int), [(0, 8, 11, 36)])
abbrev mL_calm : pn_M := (yL_calm, cL_calm, 4, (some .int), [(0, 9, 12, 13)])
abbrev mL_can : pn_M := (yL_can, cL_can, 4, (some .int), [(0, 16, 19, 24)])
abbrev mL_comes : pn_M := (yL_comes, cL_comes, 4, (some .int), [(0, 9, 12, 24)])
abbrev mL_feud : pn_M := (yL_feud, cL_feud, 5, (some .int), [(0, 10, 13, 24), (0, 10, 17, 13)])
abbrev mL_feuded : pn_M := (yL_feuded, cL_feuded, 4, (some .int), [(0, 9, 12, 24)])
abbrev mL_fewest : pn_M := (yL_fewest, cL_fewest, 5, (some .int), [(0, 10, 13, 24), (0, 10, 17, 13)])
abbrev mL_give : pn_M := (yL_give, cL_give, 5, (some .int), [(0, 10, 13, 24), (0, 10, 17, 13)])
abbrev mL_heard : pn_M := (yL_heard, cL_heard, 5, (some .int), [(0, 10, 13, 24), (0, 10, 17, 13)])
abbrev mL_keep : pn_M := (yL_keep, cL_keep, 4, (some .int), [(0, 9, 12, 24)])
abbrev mL_law : pn_M := (yL_law, cL_law, 3, (some .int), [(0, 8, 11, 13)])
abbrev mL_law_ : pn_M := (yL_law_, cL_law_, 7, (some .boolean), [])
abbrev mL_led : pn_M := (yL_led, cL_led, 5, (some .int), [(0, 10, 13, 24)])
abbrev mL_log : pn_M := (yL_log, cL_log, 5, (some .int), [(0, 10, 13, 26)])
abbrev mL_loud : pn_M := (yL_loud, cL_loud, 4, (some .int), [(0, 9, 12, 24)])
abbrev mL_name : pn_M := (yL_name, cL_name, 4, (some .int), [(0, 9, 12, 24), (0, 9, 15, 36)])
abbrev mL_nights : pn_M := (yL_nights, cL_nights, 4, (some .int), [(0, 9, 12, 13)])
abbrev mL_person : pn_M := (yL_person, cL_person, 5, (some .int), [(0, 10, 13, 24), (0, 10, 17, 26)])
abbrev mL_price : pn_M := (yL_price, cL_price, 4, (some .int), [(0, 9, 12, 24)])
abbrev mL_rests : pn_M := (yL_rests, cL_rests, 4, (some .int), [(0, 9, 12, 24)])
abbrev mL_ring : pn_M := (yL_ring, cL_ring, 4, (some .int), [(0, 16, 19, 24)])
abbrev mL_rounds : pn_M := (yL_rounds, cL_rounds, 4, (some .int), [(0, 9, 12, 24)])
abbrev mL_share : pn_M := (yL_share, cL_share, 5, (some .int), [(0, 10, 13, 24), (0, 10, 17, 13)])
abbrev mL_span : pn_M := (yL_span, cL_span, 5, (some .int), [(0, 10, 13, 13)])
abbrev mL_spent : pn_M := (yL_spent, cL_spent, 5, (some .int), [(0, 10, 13, 24), (0, 10, 17, 13)])
abbrev mL_teach : pn_M := (yL_teach, cL_teach, 5, (some .int), [(0, 10, 13, 24), (0, 10, 17, 13)])
abbrev mL_tips : pn_M := (yL_tips, cL_tips, 4, (some .int), [(0, 9, 12, 24)])
abbrev mL_trial : pn_M := (yL_trial, cL_trial, 5, (some .int), [(0, 10, 13, 13)])
abbrev mL_village : pn_M := (yL_village, cL_village, 3, (some .int), [(0, 8, 11, 13), (0, 8, 14, 15)])
abbrev mL_watched : pn_M := (yL_watched, cL_watched, 4, (some .int), [(0, 9, 12, 24)])
abbrev mL_when : pn_M := (yL_when, cL_when, 5, (some .int), [(0, 10, 13, 24), (0, 10, 17, 13)])
abbrev mL_wrong : pn_M := (yL_wrong, cL_wrong, 5, (some .int), [(0, 10, 13, 24), (0, 10, 17, 13)])
abbrev mX0_admit : pn_M := (yX0_admit, cX0_admit, 4, none, [])
abbrev mX0_gather : pn_M := (yX0_gather, cX0_gather, 6, none, [])
abbrev mX0_invite : pn_M := (yX0_invite, cX0_invite, 5, none, [])
abbrev mX0_needsOf : pn_M := (yX0_needsOf, cX0_needsOf, 2, (some .int), [])
abbrev mX0_pansOf : pn_M := (yX0_pansOf, cX0_pansOf, 2, (some .int), [])
abbrev mX0_roundOf : pn_M := (yX0_roundOf, cX0_roundOf, 2, (some .int), [])
abbrev mX0_willing : pn_M := (yX0_willing, cX0_willing, 4, (some .int), [])
abbrev mX10_against : pn_M := (yX10_against, cX10_against, 4, (some .int), [])
abbrev mX10_alike : pn_M := (yX10_alike, cX10_alike, 4, (some .int), [])
abbrev mX10_areAlike : pn_M := (yX10_areAlike, cX10_areAlike, 3, (some .boolean), [])
abbrev mX10_arePairs : pn_M := (yX10_arePairs, cX10_arePairs, 5, (some .boolean), [])
abbrev mX10_ask : pn_M := (yX10_ask, cX10_ask, 2, (some .int), [])
abbrev mX10_back : pn_M := (yX10_back, cX10_back, 1, (some .boolean), [])
abbrev mX10_begin : pn_M := (yX10_begin, cX10_begin, 4, (some .boolean), [])
abbrev mX10_best : pn_M := (yX10_best, cX10_best, 3, (some .int), [])
abbrev mX10_brave : pn_M := (yX10_brave, cX10_brave, 4, (some .int), [])
abbrev mX10_brings : pn_M := (yX10_brings, cX10_brings, 2, (some .int), [])
abbrev mX10_buy : pn_M := (yX10_buy, cX10_buy, 2, (some .int), [])
abbrev mX10_buyOff : pn_M := (yX10_buyOff, cX10_buyOff, 3, none, [])
abbrev mX10_calm : pn_M := (yX10_calm, cX10_calm, 2, (some .int), [])
abbrev mX10_can : pn_M := (yX10_can, cX10_can, 2, (some .boolean), [])
abbrev mX10_checkNumber : pn_M := (yX10_checkNumber, cX10_checkNumber, 3, none, [])
abbrev mX10_checkPerson : pn_M := (yX10_checkPerson, cX10_checkPerson, 2, none, [])
abbrev mX10_checkTwo : pn_M := (yX10_checkTwo, cX10_checkTwo, 3, none, [])
abbrev mX10_comes : pn_M := (yX10_comes, cX10_comes, 2, (some .int), [])
abbrev mX10_count : pn_M := (yX10_count, cX10_count, 2, (some .int), [])
abbrev mX10_dearest : pn_M := (yX10_dearest, cX10_dearest, 4, (some .int), [])
abbrev mX10_end : pn_M := (yX10_end, cX10_end, 2, (some .boolean), [])
abbrev mX10_endOfNoise : pn_M := (yX10_endOfNoise, cX10_endOfNoise, 4, (some .int), [])
abbrev mX10_ends : pn_M := (yX10_ends, cX10_ends, 2, (some .int), [])
abbrev mX10_fault : pn_M := (yX10_fault, cX10_fault, 1, (some .int), [])
abbrev mX10_feed : pn_M := (yX10_feed, cX10_feed, 6, (some .int), [])
abbrev mX10_feud : pn_M := (yX10_feud, cX10_feud, 3, (some .int), [])
abbrev mX10_feuded : pn_M := (yX10_feuded, cX10_feuded, 4, (some .int), [])
abbrev mX10_feuds : pn_M := (yX10_feuds, cX10_feuds, 4, (some .int), [])
abbrev mX10_fewest : pn_M := (yX10_fewest, cX10_fewest, 7, (some .int), [])
abbrev mX10_findSets : pn_M := (yX10_findSets, cX10_findSets, 4, none, [])
abbrev mX10_fineAll : pn_M := (yX10_fineAll, cX10_fineAll, 3, none, [])
abbrev mX10_finesOf : pn_M := (yX10_finesOf, cX10_finesOf, 3, (some .int), [])
abbrev mX10_fitsPairs : pn_M := (yX10_fitsPairs, cX10_fitsPairs, 5, (some .boolean), [])
abbrev mX10_give : pn_M := (yX10_give, cX10_give, 3, (some .int), [])
abbrev mX10_hasBit : pn_M := (yX10_hasBit, cX10_hasBit, 2, (some .boolean), [])
abbrev mX10_hated : pn_M := (yX10_hated, cX10_hated, 5, (some .int), [])
abbrev mX10_hatersOf : pn_M := (yX10_hatersOf, cX10_hatersOf, 4, (some .int), [])
abbrev mX10_heard : pn_M := (yX10_heard, cX10_heard, 3, (some .int), [])
abbrev mX10_image : pn_M := (yX10_image, cX10_image, 1, none, [])
abbrev mX10_isCalmWithout : pn_M := (yX10_isCalmWithout, cX10_isCalmWithout, 3, (some .boolean), [])
abbrev mX10_isPart : pn_M := (yX10_isPart, cX10_isPart, 2, (some .boolean), [])
abbrev mX10_keep : pn_M := (yX10_keep, cX10_keep, 6, (some .int), [])
abbrev mX10_law : pn_M := (yX10_law, cX10_law, 2, (some .int), [])
abbrev mX10_led : pn_M := (yX10_led, cX10_led, 6, (some .int), [])
abbrev mX10_log : pn_M := (yX10_log, cX10_log, 3, (some .int), [])
abbrev mX10_loud : pn_M := (yX10_loud, cX10_loud, 2, (some .int), [])
abbrev mX10_name : pn_M := (yX10_name, cX10_name, 3, (some .int), [])
abbrev mX10_nights : pn_M := (yX10_nights, cX10_nights, 4, (some .int), [])
abbrev mX10_passNight : pn_M := (yX10_passNight, cX10_passNight, 6, (some .int), [])
abbrev mX10_person : pn_M := (yX10_person, cX10_person, 3, (some .int), [])
abbrev mX10_price : pn_M := (yX10_price, cX10_price, 2, (some .int), [])
abbrev mX10_priceOf : pn_M := (yX10_priceOf, cX10_priceOf, 1, (some .int), [])
abbrev mX10_rests : pn_M := (yX10_rests, cX10_rests, 2, (some .int), [])
abbrev mX10_ring : pn_M := (yX10_ring, cX10_ring, 4, (some .boolean), [])
abbrev mX10_ripest : pn_M := (yX10_ripest, cX10_ripest, 5, (some .int), [])
abbrev mX10_rounds : pn_M := (yX10_rounds, cX10_rounds, 2, (some .int), [])
abbrev mX10_seed : pn_M := (yX10_seed, cX10_seed, 3, (some .int), [])
abbrev mX10_share : pn_M := (yX10_share, cX10_share, 3, (some .int), [])
abbrev mX10_sizeBy : pn_M := (yX10_sizeBy, cX10_sizeBy, 3, (some .int), [])
abbrev mX10_span : pn_M := (yX10_span, cX10_span, 6, (some .int), [])
abbrev mX10_spent : pn_M := (yX10_spent, cX10_spent, 3, (some .int), [])
abbrev mX10_sumPrices : pn_M := (yX10_sumPrices, cX10_sumPrices, 3, none, [])
abbrev mX10_summonTo : pn_M := (yX10_summonTo, cX10_summonTo, 2, none, [])
abbrev mX10_teach : pn_M := (yX10_teach, cX10_teach, 3, (some .int), [])
abbrev mX10_thirstOf : pn_M := (yX10_thirstOf, cX10_thirstOf, 3, (some .int), [])
abbrev mX10_tips : pn_M := (yX10_tips, cX10_tips, 8, (some .int), [])
abbrev mX10_trial : pn_M := (yX10_trial, cX10_trial, 3, (some .int), [])
abbrev mX10_tryNights : pn_M := (yX10_tryNights, cX10_tryNights, 5, none, [])
abbrev mX10_undo : pn_M := (yX10_undo, cX10_undo, 1, (some .boolean), [])
abbrev mX10_village : pn_M := (yX10_village, cX10_village, 2, (some .int), [])
abbrev mX10_watched : pn_M := (yX10_watched, cX10_watched, 2, (some .int), [])
abbrev mX10_when : pn_M := (yX10_when, cX10_when, 3, (some .int), [])
abbrev mX10_wouldPay : pn_M := (yX10_wouldPay, cX10_wouldPay, 3, (some .boolean), [])
abbrev mX10_wrong : pn_M := (yX10_wrong, cX10_wrong, 3, (some .int), [])
abbrev mX11_after : pn_M := (yX11_after, cX11_after, 4, (some .int), [])
abbrev mX11_against : pn_M := (yX11_against, cX11_against, 4, (some .int), [])
abbrev mX11_alike : pn_M := (yX11_alike, cX11_alike, 4, (some .int), [])
abbrev mX11_ask : pn_M := (yX11_ask, cX11_ask, 8, (some .int), [])
abbrev mX11_at : pn_M := (yX11_at, cX11_at, 2, (some .int), [])
abbrev mX11_back : pn_M := (yX11_back, cX11_back, 2, (some .boolean), [])
abbrev mX11_bears : pn_M := (yX11_bears, cX11_bears, 1, none, [])
abbrev mX11_begin : pn_M := (yX11_begin, cX11_begin, 4, (some .boolean), [])
abbrev mX11_beginners : pn_M := (yX11_beginners, cX11_beginners, 3, (some .int), [])
abbrev mX11_best : pn_M := (yX11_best, cX11_best, 5, (some .int), [])
abbrev mX11_blanks : pn_M := (yX11_blanks, cX11_blanks, 1, none, [])
abbrev mX11_brave : pn_M := (yX11_brave, cX11_brave, 4, (some .int), [])
abbrev mX11_brings : pn_M := (yX11_brings, cX11_brings, 2, (some .int), [])
abbrev mX11_bringsBack : pn_M := (yX11_bringsBack, cX11_bringsBack, 2, none, [])
abbrev mX11_broughtBy : pn_M := (yX11_broughtBy, cX11_broughtBy, 4, (some .int), [])
abbrev mX11_buy : pn_M := (yX11_buy, cX11_buy, 3, (some .int), [])
abbrev mX11_buysOff : pn_M := (yX11_buysOff, cX11_buysOff, 4, none, [])
abbrev mX11_calm : pn_M := (yX11_calm, cX11_calm, 4, (some .int), [])
abbrev mX11_can : pn_M := (yX11_can, cX11_can, 2, (some .boolean), [])
abbrev mX11_comes : pn_M := (yX11_comes, cX11_comes, 2, (some .int), [])
abbrev mX11_count : pn_M := (yX11_count, cX11_count, 2, (some .int), [])
abbrev mX11_crowdOf : pn_M := (yX11_crowdOf, cX11_crowdOf, 2, (some .int), [])
abbrev mX11_dearest : pn_M := (yX11_dearest, cX11_dearest, 5, (some .int), [])
abbrev mX11_doRest : pn_M := (yX11_doRest, cX11_doRest, 6, (some .boolean), [])
abbrev mX11_drawn : pn_M := (yX11_drawn, cX11_drawn, 2, (some .int), [])
abbrev mX11_emits : pn_M := (yX11_emits, cX11_emits, 3, none, [])
abbrev mX11_end : pn_M := (yX11_end, cX11_end, 2, (some .boolean), [])
abbrev mX11_ends : pn_M := (yX11_ends, cX11_ends, 3, (some .int), [])
abbrev mX11_everybody : pn_M := (yX11_everybody, cX11_everybody, 1, (some .int), [])
abbrev mX11_factOf : pn_M := (yX11_factOf, cX11_factOf, 5, (some .int), [])
abbrev mX11_fault : pn_M := (yX11_fault, cX11_fault, 1, (some .int), [])
abbrev mX11_feed : pn_M := (yX11_feed, cX11_feed, 7, (some .int), [])
abbrev mX11_feud : pn_M := (yX11_feud, cX11_feud, 4, (some .int), [])
abbrev mX11_feuded : pn_M := (yX11_feuded, cX11_feuded, 5, (some .int), [])
abbrev mX11_feuds : pn_M := (yX11_feuds, cX11_feuds, 4, (some .int), [])
abbrev mX11_fewest : pn_M := (yX11_fewest, cX11_fewest, 6, (some .int), [])
abbrev mX11_fines : pn_M := (yX11_fines, cX11_fines, 3, none, [])
abbrev mX11_fits : pn_M := (yX11_fits, cX11_fits, 5, (some .boolean), [])
abbrev mX11_gathers : pn_M := (yX11_gathers, cX11_gathers, 9, (some .int), [])
abbrev mX11_give : pn_M := (yX11_give, cX11_give, 3, (some .int), [])
abbrev mX11_goesOn : pn_M := (yX11_goesOn, cX11_goesOn, 5, (some .int), [])
abbrev mX11_has : pn_M := (yX11_has, cX11_has, 2, (some .boolean), [])
abbrev mX11_hasTarget : pn_M := (yX11_hasTarget, cX11_hasTarget, 1, (some .boolean), [])
abbrev mX11_hated : pn_M := (yX11_hated, cX11_hated, 6, (some .int), [])
abbrev mX11_heard : pn_M := (yX11_heard, cX11_heard, 6, (some .int), [])
abbrev mX11_holdsLine : pn_M := (yX11_holdsLine, cX11_holdsLine, 11, (some .boolean), [])
abbrev mX11_howManyFit : pn_M := (yX11_howManyFit, cX11_howManyFit, 5, (some .int), [])
abbrev mX11_image : pn_M := (yX11_image, cX11_image, 2, none, [])
abbrev mX11_in : pn_M := (yX11_in, cX11_in, 3, (some .boolean), [])
abbrev mX11_isAt : pn_M := (yX11_isAt, cX11_isAt, 3, (some .boolean), [])
abbrev mX11_isTold : pn_M := (yX11_isTold, cX11_isTold, 4, (some .boolean), [])
abbrev mX11_isWord : pn_M := (yX11_isWord, cX11_isWord, 4, (some .boolean), [])
abbrev mX11_keep : pn_M := (yX11_keep, cX11_keep, 6, (some .int), [])
abbrev mX11_keepsAll : pn_M := (yX11_keepsAll, cX11_keepsAll, 2, none, [])
abbrev mX11_law : pn_M := (yX11_law, cX11_law, 3, (some .int), [])
abbrev mX11_laysNeeds : pn_M := (yX11_laysNeeds, cX11_laysNeeds, 3, none, [])
abbrev mX11_leadsTo : pn_M := (yX11_leadsTo, cX11_leadsTo, 4, (some .int), [])
abbrev mX11_led : pn_M := (yX11_led, cX11_led, 6, (some .int), [])
abbrev mX11_letters : pn_M := (yX11_letters, cX11_letters, 1, none, [])
abbrev mX11_likens : pn_M := (yX11_likens, cX11_likens, 3, (some .boolean), [])
abbrev mX11_log : pn_M := (yX11_log, cX11_log, 3, (some .int), [])
abbrev mX11_loud : pn_M := (yX11_loud, cX11_loud, 2, (some .int), [])
abbrev mX11_loudTo : pn_M := (yX11_loudTo, cX11_loudTo, 2, (some .int), [])
abbrev mX11_name : pn_M := (yX11_name, cX11_name, 3, (some .int), [])
abbrev mX11_needsOf : pn_M := (yX11_needsOf, cX11_needsOf, 3, (some .int), [])
abbrev mX11_nights : pn_M := (yX11_nights, cX11_nights, 2, (some .int), [])
abbrev mX11_noAhead : pn_M := (yX11_noAhead, cX11_noAhead, 1, (some .boolean), [])
abbrev mX11_noTarget : pn_M := (yX11_noTarget, cX11_noTarget, 1, none, [])
abbrev mX11_nobody : pn_M := (yX11_nobody, cX11_nobody, 2, (some .boolean), [])
abbrev mX11_noiseOf : pn_M := (yX11_noiseOf, cX11_noiseOf, 5, (some .int), [])
abbrev mX11_number : pn_M := (yX11_number, cX11_number, 4, (some .int), [])
abbrev mX11_of : pn_M := (yX11_of, cX11_of, 3, (some .int), [])
abbrev mX11_ofLog : pn_M := (yX11_ofLog, cX11_ofLog, 3, (some .int), [])
abbrev mX11_oneHas : pn_M := (yX11_oneHas, cX11_oneHas, 4, (some .int), [])
abbrev mX11_oneNight : pn_M := (yX11_oneNight, cX11_oneNight, 5, (some .int), [])
abbrev mX11_paidBy : pn_M := (yX11_paidBy, cX11_paidBy, 5, (some .int), [])
abbrev mX11_pansOf : pn_M := (yX11_pansOf, cX11_pansOf, 3, (some .int), [])
abbrev mX11_passes : pn_M := (yX11_passes, cX11_passes, 2, (some .boolean), [])
abbrev mX11_paysOff : pn_M := (yX11_paysOff, cX11_paysOff, 3, (some .boolean), [])
abbrev mX11_people : pn_M := (yX11_people, cX11_people, 1, (some .int), [])
abbrev mX11_person : pn_M := (yX11_person, cX11_person, 3, (some .int), [])
abbrev mX11_personTold : pn_M := (yX11_personTold, cX11_personTold, 1, (some .int), [])
abbrev mX11_price : pn_M := (yX11_price, cX11_price, 2, (some .int), [])
abbrev mX11_priceBy : pn_M := (yX11_priceBy, cX11_priceBy, 3, (some .int), [])
abbrev mX11_pursesOfAll : pn_M := (yX11_pursesOfAll, cX11_pursesOfAll, 3, (some .int), [])
abbrev mX11_readAll : pn_M := (yX11_readAll, cX11_readAll, 3, (some .int), [])
abbrev mX11_readAllOf : pn_M := (yX11_readAllOf, cX11_readAllOf, 1, (some .boolean), [])
abbrev mX11_readAtom : pn_M := (yX11_readAtom, cX11_readAtom, 2, (some .boolean), [])
abbrev mX11_readCond : pn_M := (yX11_readCond, cX11_readCond, 1, (some .boolean), [])
abbrev mX11_readFeud : pn_M := (yX11_readFeud, cX11_readFeud, 3, (some .boolean), [])
abbrev mX11_readLawLine : pn_M := (yX11_readLawLine, cX11_readLawLine, 3, (some .boolean), [])
abbrev mX11_readLine : pn_M := (yX11_readLine, cX11_readLine, 3, (some .boolean), [])
abbrev mX11_readNumber : pn_M := (yX11_readNumber, cX11_readNumber, 5, (some .boolean), [])
abbrev mX11_readPart : pn_M := (yX11_readPart, cX11_readPart, 3, (some .boolean), [])
abbrev mX11_readPerson : pn_M := (yX11_readPerson, cX11_readPerson, 6, (some .boolean), [])
abbrev mX11_readSum : pn_M := (yX11_readSum, cX11_readSum, 1, (some .boolean), [])
abbrev mX11_readTag : pn_M := (yX11_readTag, cX11_readTag, 2, (some .boolean), [])
abbrev mX11_readTarget : pn_M := (yX11_readTarget, cX11_readTarget, 2, (some .boolean), [])
abbrev mX11_readVillageLine : pn_M := (yX11_readVillageLine, cX11_readVillageLine, 1, (some .boolean), [])
abbrev mX11_readWrong : pn_M := (yX11_readWrong, cX11_readWrong, 2, (some .boolean), [])
abbrev mX11_remembers : pn_M := (yX11_remembers, cX11_remembers, 2, none, [])
abbrev mX11_rests : pn_M := (yX11_rests, cX11_rests, 5, (some .int), [])
abbrev mX11_ring : pn_M := (yX11_ring, cX11_ring, 4, (some .boolean), [])
abbrev mX11_ripest : pn_M := (yX11_ripest, cX11_ripest, 5, (some .int), [])
abbrev mX11_rounds : pn_M := (yX11_rounds, cX11_rounds, 2, (some .int), [])
abbrev mX11_seed : pn_M := (yX11_seed, cX11_seed, 3, (some .int), [])
abbrev mX11_share : pn_M := (yX11_share, cX11_share, 4, (some .int), [])
abbrev mX11_sign : pn_M := (yX11_sign, cX11_sign, 2, (some .boolean), [])
abbrev mX11_span : pn_M := (yX11_span, cX11_span, 6, (some .int), [])
abbrev mX11_spent : pn_M := (yX11_spent, cX11_spent, 5, (some .int), [])
abbrev mX11_sumOf : pn_M := (yX11_sumOf, cX11_sumOf, 6, (some .int), [])
abbrev mX11_teach : pn_M := (yX11_teach, cX11_teach, 3, (some .int), [])
abbrev mX11_tells : pn_M := (yX11_tells, cX11_tells, 5, none, [])
abbrev mX11_tellsOf : pn_M := (yX11_tellsOf, cX11_tellsOf, 6, (some .int), [])
abbrev mX11_thirstOf : pn_M := (yX11_thirstOf, cX11_thirstOf, 4, (some .int), [])
abbrev mX11_thrown : pn_M := (yX11_thrown, cX11_thrown, 1, (some .int), [])
abbrev mX11_throwsIf : pn_M := (yX11_throwsIf, cX11_throwsIf, 3, (some .boolean), [])
abbrev mX11_tips : pn_M := (yX11_tips, cX11_tips, 7, (some .int), [])
abbrev mX11_trial : pn_M := (yX11_trial, cX11_trial, 4, (some .int), [])
abbrev mX11_undo : pn_M := (yX11_undo, cX11_undo, 2, (some .boolean), [])
abbrev mX11_uses : pn_M := (yX11_uses, cX11_uses, 1, none, [])
abbrev mX11_village : pn_M := (yX11_village, cX11_village, 3, (some .int), [])
abbrev mX11_villageHas : pn_M := (yX11_villageHas, cX11_villageHas, 4, (some .int), [])
abbrev mX11_watched : pn_M := (yX11_watched, cX11_watched, 2, (some .int), [])
abbrev mX11_watchedTo : pn_M := (yX11_watchedTo, cX11_watchedTo, 5, (some .int), [])
abbrev mX11_when : pn_M := (yX11_when, cX11_when, 3, (some .int), [])
abbrev mX11_wordOfPart : pn_M := (yX11_wordOfPart, cX11_wordOfPart, 1, (some .int), [])
abbrev mX11_wrong : pn_M := (yX11_wrong, cX11_wrong, 3, (some .int), [])
abbrev mX1_leastLoss : pn_M := (yX1_leastLoss, cX1_leastLoss, 4, (some .int), [])
abbrev mX1_put : pn_M := (yX1_put, cX1_put, 6, none, [])
abbrev mX1_restingCells : pn_M := (yX1_restingCells, cX1_restingCells, 3, (some .int), [])
abbrev mX2_addCode : pn_M := (yX2_addCode, cX2_addCode, 2, none, [])
abbrev mX2_addLine : pn_M := (yX2_addLine, cX2_addLine, 3, none, [])
abbrev mX2_clear : pn_M := (yX2_clear, cX2_clear, 1, none, [])
abbrev mX2_copy : pn_M := (yX2_copy, cX2_copy, 2, none, [])
abbrev mX2_gatherFacts : pn_M := (yX2_gatherFacts, cX2_gatherFacts, 4, none, [])
abbrev mX2_holds : pn_M := (yX2_holds, cX2_holds, 6, (some .boolean), [])
abbrev mX2_joined : pn_M := (yX2_joined, cX2_joined, 3, (some .int), [])
abbrev mX2_pop : pn_M := (yX2_pop, cX2_pop, 1, (some .int), [])
abbrev mX2_push : pn_M := (yX2_push, cX2_push, 2, none, [])
abbrev mX2_weigh : pn_M := (yX2_weigh, cX2_weigh, 6, none, [])
abbrev mX3_isSumPart : pn_M := (yX3_isSumPart, cX3_isSumPart, 1, (some .boolean), [])
abbrev mX3_readAtom : pn_M := (yX3_readAtom, cX3_readAtom, 5, (some .boolean), [])
abbrev mX3_readComparison : pn_M := (yX3_readComparison, cX3_readComparison, 3, (some .boolean), [])
abbrev mX3_readCondition : pn_M := (yX3_readCondition, cX3_readCondition, 5, (some .boolean), [])
abbrev mX3_readLine : pn_M := (yX3_readLine, cX3_readLine, 3, (some .boolean), [])
abbrev mX3_readSum : pn_M := (yX3_readSum, cX3_readSum, 4, (some .boolean), [])
abbrev mX4_readLines : pn_M := (yX4_readLines, cX4_readLines, 3, (some .boolean), [])
abbrev mX5_forget : pn_M := (yX5_forget, cX5_forget, 1, none, [])
abbrev mX5_remember : pn_M := (yX5_remember, cX5_remember, 3, none, [])
abbrev mX5_restore : pn_M := (yX5_restore, cX5_restore, 4, (some .boolean), [])
abbrev mX5_stateAt : pn_M := (yX5_stateAt, cX5_stateAt, 2, (some (.object "PanNights$Village")), [])
abbrev mX6_add : pn_M := (yX6_add, cX6_add, 3, none, [])
abbrev mX6_bestToAsk : pn_M := (yX6_bestToAsk, cX6_bestToAsk, 6, (some .int), [])
abbrev mX6_clear : pn_M := (yX6_clear, cX6_clear, 1, none, [])
abbrev mX7_addThing : pn_M := (yX7_addThing, cX7_addThing, 3, none, [])
abbrev mX7_byteAt : pn_M := (yX7_byteAt, cX7_byteAt, 2, (some .int), [])
abbrev mX7_endOfRun : pn_M := (yX7_endOfRun, cX7_endOfRun, 4, (some .int), [])
abbrev mX7_fail : pn_M := (yX7_fail, cX7_fail, 1, (some .boolean), [])
abbrev mX7_hasRoom : pn_M := (yX7_hasRoom, cX7_hasRoom, 2, (some .boolean), [])
abbrev mX7_isDigit : pn_M := (yX7_isDigit, cX7_isDigit, 1, (some .boolean), [])
abbrev mX7_isLetter : pn_M := (yX7_isLetter, cX7_isLetter, 1, (some .boolean), [])
abbrev mX7_nextThing : pn_M := (yX7_nextThing, cX7_nextThing, 1, (some .int), [])
abbrev mX7_numberOf : pn_M := (yX7_numberOf, cX7_numberOf, 5, (some .int), [])
abbrev mX7_put : pn_M := (yX7_put, cX7_put, 3, none, [])
abbrev mX7_split : pn_M := (yX7_split, cX7_split, 3, none, [])
abbrev mX7_take : pn_M := (yX7_take, cX7_take, 2, (some .boolean), [])
abbrev mX7_takeNumber : pn_M := (yX7_takeNumber, cX7_takeNumber, 3, (some .int), [])
abbrev mX7_takeNumberAfter : pn_M := (yX7_takeNumberAfter, cX7_takeNumberAfter, 3, (some .int), [])
abbrev mX7_thingOf : pn_M := (yX7_thingOf, cX7_thingOf, 4, (some .int), [])
abbrev mX7_useUp : pn_M := (yX7_useUp, cX7_useUp, 1, none, [])
abbrev mX7_wordOf : pn_M := (yX7_wordOf, cX7_wordOf, 7, (some .int), [])
abbrev mX8_addPerson : pn_M := (yX8_addPerson, cX8_addPerson, 3, (some .int), [])
abbrev mX8_addRow : pn_M := (yX8_addRow, cX8_addRow, 5, none, [])
abbrev mX8_aim : pn_M := (yX8_aim, cX8_aim, 2, none, [])
abbrev mX8_bear : pn_M := (yX8_bear, cX8_bear, 1, none, [])
abbrev mX8_beginners : pn_M := (yX8_beginners, cX8_beginners, 3, (some .int), [])
abbrev mX8_copy : pn_M := (yX8_copy, cX8_copy, 2, none, [])
abbrev mX8_draw : pn_M := (yX8_draw, cX8_draw, 1, (some .int), [])
abbrev mX8_forgive : pn_M := (yX8_forgive, cX8_forgive, 1, none, [])
abbrev mX8_has : pn_M := (yX8_has, cX8_has, 2, (some .boolean), [])
abbrev mX8_of : pn_M := (yX8_of, cX8_of, 3, (some .int), [])
abbrev mX8_purses : pn_M := (yX8_purses, cX8_purses, 3, (some .int), [])
abbrev mX8_row : pn_M := (yX8_row, cX8_row, 4, (some .int), [])
abbrev mX8_tell : pn_M := (yX8_tell, cX8_tell, 5, (some .int), [])
abbrev mX9_readFeud : pn_M := (yX9_readFeud, cX9_readFeud, 3, (some .boolean), [])
abbrev mX9_readLine : pn_M := (yX9_readLine, cX9_readLine, 1, (some .boolean), [])
abbrev mX9_readPerson : pn_M := (yX9_readPerson, cX9_readPerson, 8, (some .boolean), [])
abbrev mX9_readSetting : pn_M := (yX9_readSetting, cX9_readSetting, 1, (some .boolean), [])
abbrev mX9_readTarget : pn_M := (yX9_readTarget, cX9_readTarget, 2, (some .boolean), [])
abbrev mX9_readWrong : pn_M := (yX9_readWrong, cX9_readWrong, 3, (some .boolean), [])
theorem qt_0 : 0 < 97 := by decide
theorem qk_0 : pn_K 0 = 9 := by decide
theorem ql_0 : pn_L 0 = 0 := by decide
theorem qt_1 : 1 < 97 := by decide
theorem qk_1 : pn_K 1 = 6 := by decide
theorem ql_1 : pn_L 1 = 0 := by decide
theorem qt_2 : 2 < 97 := by decide
theorem qk_2 : pn_K 2 = 12 := by decide
theorem ql_2 : pn_L 2 = 400 := by decide
theorem qt_3 : 3 < 97 := by decide
theorem qk_3 : pn_K 3 = 12 := by decide
theorem ql_3 : pn_L 3 = 401 := by decide
theorem qt_4 : 4 < 97 := by decide
theorem qk_4 : pn_K 4 = 12 := by decide
theorem ql_4 : pn_L 4 = 401 := by decide
theorem qt_5 : 5 < 97 := by decide
theorem qk_5 : pn_K 5 = 7 := by decide
theorem ql_5 : pn_L 5 = 0 := by decide
theorem qt_8 : 8 < 97 := by decide
theorem qk_8 : pn_K 8 = 7 := by decide
theorem ql_8 : pn_L 8 = 0 := by decide
theorem qt_11 : 11 < 97 := by decide
theorem qk_11 : pn_K 11 = 7 := by decide
theorem ql_11 : pn_L 11 = 0 := by decide
theorem qt_14 : 14 < 97 := by decide
theorem qk_14 : pn_K 14 = 2 := by decide
theorem ql_14 : pn_L 14 = 0 := by decide
theorem qt_21 : 21 < 97 := by decide
theorem qk_21 : pn_K 21 = 2 := by decide
theorem ql_21 : pn_L 21 = 0 := by decide
theorem qt_28 : 28 < 97 := by decide
theorem qk_28 : pn_K 28 = 2 := by decide
theorem ql_28 : pn_L 28 = 0 := by decide
theorem qt_35 : 35 < 97 := by decide
theorem qk_35 : pn_K 35 = 8 := by decide
theorem ql_35 : pn_L 35 = 0 := by decide
theorem qt_36 : 36 < 97 := by decide
theorem qk_36 : pn_K 36 = 3 := by decide
theorem ql_36 : pn_L 36 = 0 := by decide
theorem qt_37 : 37 < 97 := by decide
theorem qk_37 : pn_K 37 = 0 := by decide
theorem ql_37 : pn_L 37 = 0 := by decide
theorem qt_38 : 38 < 97 := by decide
theorem qk_38 : pn_K 38 = 12 := by decide
theorem ql_38 : pn_L 38 = 8 := by decide
theorem qt_39 : 39 < 97 := by decide
theorem qk_39 : pn_K 39 = 12 := by decide
theorem ql_39 : pn_L 39 = 8 := by decide
theorem qt_40 : 40 < 97 := by decide
theorem qk_40 : pn_K 40 = 12 := by decide
theorem ql_40 : pn_L 40 = 8 := by decide
theorem qt_41 : 41 < 97 := by decide
theorem qk_41 : pn_K 41 = 4 := by decide
theorem ql_41 : pn_L 41 = 0 := by decide
theorem qt_42 : 42 < 97 := by decide
theorem qk_42 : pn_K 42 = 13 := by decide
theorem ql_42 : pn_L 42 = 12 := by decide
theorem qt_79 : 79 < 97 := by decide
theorem qk_79 : pn_K 79 = 5 := by decide
theorem ql_79 : pn_L 79 = 0 := by decide
theorem qt_80 : 80 < 97 := by decide
theorem qk_80 : pn_K 80 = 12 := by decide
theorem ql_80 : pn_L 80 = 8 := by decide
theorem qt_81 : 81 < 97 := by decide
theorem qk_81 : pn_K 81 = 1 := by decide
theorem ql_81 : pn_L 81 = 0 := by decide
theorem qt_82 : 82 < 97 := by decide
theorem qk_82 : pn_K 82 = 12 := by decide
theorem ql_82 : pn_L 82 = 6 := by decide
theorem qt_83 : 83 < 97 := by decide
theorem qk_83 : pn_K 83 = 12 := by decide
theorem ql_83 : pn_L 83 = 6 := by decide
theorem qt_84 : 84 < 97 := by decide
theorem qk_84 : pn_K 84 = 12 := by decide
theorem ql_84 : pn_L 84 = 21 := by decide
theorem qt_85 : 85 < 97 := by decide
theorem qk_85 : pn_K 85 = 10 := by decide
theorem ql_85 : pn_L 85 = 0 := by decide
theorem qt_86 : 86 < 97 := by decide
theorem qk_86 : pn_K 86 = 12 := by decide
theorem ql_86 : pn_L 86 = 2015 := by decide
theorem qt_87 : 87 < 97 := by decide
theorem qk_87 : pn_K 87 = 12 := by decide
theorem ql_87 : pn_L 87 = 1166 := by decide
theorem qt_88 : 88 < 97 := by decide
theorem qk_88 : pn_K 88 = 12 := by decide
theorem ql_88 : pn_L 88 = 1166 := by decide
theorem qt_89 : 89 < 97 := by decide
theorem qk_89 : pn_K 89 = 12 := by decide
theorem ql_89 : pn_L 89 = 317 := by decide
theorem qt_90 : 90 < 97 := by decide
theorem qk_90 : pn_K 90 = 12 := by decide
theorem ql_90 : pn_L 90 = 3804 := by decide
theorem qt_91 : 91 < 97 := by decide
theorem qk_91 : pn_K 91 = 11 := by decide
theorem ql_91 : pn_L 91 = 400 := by decide
theorem qt_92 : 92 < 97 := by decide
theorem qk_92 : pn_K 92 = 12 := by decide
theorem ql_92 : pn_L 92 = 5 := by decide
theorem qt_93 : 93 < 97 := by decide
theorem qk_93 : pn_K 93 = 12 := by decide
theorem ql_93 : pn_L 93 = 400 := by decide
theorem qt_94 : 94 < 97 := by decide
theorem qk_94 : pn_K 94 = 12 := by decide
theorem ql_94 : pn_L 94 = 8 := by decide
theorem qt_95 : 95 < 97 := by decide
theorem qk_95 : pn_K 95 = 12 := by decide
theorem ql_95 : pn_L 95 = 8 := by decide
theorem qt_96 : 96 < 97 := by decide
theorem qk_96 : pn_K 96 = 14 := by decide
theorem ql_96 : pn_L 96 = 1 := by decide
theorem qr_0_0 : pn_R 0 0 = some 1 := by decide
theorem qr_0_1 : pn_R 0 1 = some 5 := by decide
theorem qr_0_2 : pn_R 0 2 = some 8 := by decide
theorem qr_0_3 : pn_R 0 3 = some 11 := by decide
theorem qr_0_4 : pn_R 0 4 = some 14 := by decide
theorem qr_0_5 : pn_R 0 5 = some 21 := by decide
theorem qr_0_6 : pn_R 0 6 = some 28 := by decide
theorem qr_0_7 : pn_R 0 7 = some 35 := by decide
theorem qr_0_8 : pn_R 0 8 = some 36 := by decide
theorem qr_0_9 : pn_R 0 9 = some 37 := by decide
theorem qr_0_10 : pn_R 0 10 = some 41 := by decide
theorem qr_0_11 : pn_R 0 11 = some 79 := by decide
theorem qr_0_12 : pn_R 0 12 = some 81 := by decide
theorem qr_0_13 : pn_R 0 13 = some 84 := by decide
theorem qr_0_14 : pn_R 0 14 = none := by decide
theorem qr_0_15 : pn_R 0 15 = none := by decide
theorem qr_1_0 : pn_R 1 0 = some 2 := by decide
theorem qr_1_1 : pn_R 1 1 = some 3 := by decide
theorem qr_1_2 : pn_R 1 2 = some 4 := by decide
theorem qr_1_3 : pn_R 1 3 = none := by decide
theorem qr_1_4 : pn_R 1 4 = none := by decide
theorem qr_1_5 : pn_R 1 5 = none := by decide
theorem qr_1_6 : pn_R 1 6 = none := by decide
theorem qr_1_7 : pn_R 1 7 = none := by decide
theorem qr_5_2 : pn_R 5 2 = none := by decide
theorem qr_5_3 : pn_R 5 3 = none := by decide
theorem qr_5_4 : pn_R 5 4 = none := by decide
theorem qr_5_5 : pn_R 5 5 = none := by decide
theorem qr_5_6 : pn_R 5 6 = none := by decide
theorem qr_5_7 : pn_R 5 7 = none := by decide
theorem qr_5_8 : pn_R 5 8 = none := by decide
theorem qr_5_9 : pn_R 5 9 = none := by decide
theorem qr_5_10 : pn_R 5 10 = none := by decide
theorem qr_5_11 : pn_R 5 11 = none := by decide
theorem qr_5_12 : pn_R 5 12 = none := by decide
theorem qr_5_13 : pn_R 5 13 = none := by decide
theorem qr_8_2 : pn_R 8 2 = none := by decide
theorem qr_8_4 : pn_R 8 4 = none := by decide
theorem qr_8_6 : pn_R 8 6 = none := by decide
theorem qr_8_8 : pn_R 8 8 = none := by decide
theorem qr_8_9 : pn_R 8 9 = none := by decide
theorem qr_8_10 : pn_R 8 10 = none := by decide
theorem qr_8_11 : pn_R 8 11 = none := by decide
theorem qr_8_12 : pn_R 8 12 = none := by decide
theorem qr_14_6 : pn_R 14 6 = none := by decide
theorem qr_14_9 : pn_R 14 9 = none := by decide
theorem qr_14_10 : pn_R 14 10 = none := by decide
theorem qr_35_0 : pn_R 35 0 = some 1 := by decide
theorem qr_35_1 : pn_R 35 1 = some 8 := by decide
theorem qr_36_0 : pn_R 36 0 = some 1 := by decide
theorem qr_36_1 : pn_R 36 1 = some 21 := by decide
theorem qr_37_0 : pn_R 37 0 = some 38 := by decide
theorem qr_37_1 : pn_R 37 1 = some 39 := by decide
theorem qr_37_2 : pn_R 37 2 = some 40 := by decide
theorem qr_37_3 : pn_R 37 3 = none := by decide
theorem qr_37_4 : pn_R 37 4 = none := by decide
theorem qr_37_5 : pn_R 37 5 = none := by decide
theorem qr_37_6 : pn_R 37 6 = none := by decide
theorem qr_37_7 : pn_R 37 7 = none := by decide
theorem qr_41_0 : pn_R 41 0 = some 42 := by decide
theorem qr_41_1 : pn_R 41 1 = none := by decide
theorem qr_41_2 : pn_R 41 2 = none := by decide
theorem qr_79_0 : pn_R 79 0 = some 80 := by decide
theorem qr_79_1 : pn_R 79 1 = none := by decide
theorem qr_79_2 : pn_R 79 2 = none := by decide
theorem qr_81_0 : pn_R 81 0 = some 82 := by decide
theorem qr_81_1 : pn_R 81 1 = some 83 := by decide
theorem qr_85_0 : pn_R 85 0 = none := by decide
theorem qr_85_1 : pn_R 85 1 = some 86 := by decide
theorem qr_85_2 : pn_R 85 2 = some 87 := by decide
theorem qr_85_3 : pn_R 85 3 = some 88 := by decide
theorem qr_85_4 : pn_R 85 4 = some 89 := by decide
theorem qr_85_5 : pn_R 85 5 = some 90 := by decide
theorem qr_85_6 : pn_R 85 6 = none := by decide
theorem qr_85_7 : pn_R 85 7 = none := by decide
theorem qr_85_8 : pn_R 85 8 = some 91 := by decide
theorem qr_85_9 : pn_R 85 9 = none := by decide
theorem qr_85_10 : pn_R 85 10 = none := by decide
theorem qr_85_11 : pn_R 85 11 = none := by decide
theorem qr_85_12 : pn_R 85 12 = none := by decide
theorem qr_85_13 : pn_R 85 13 = none := by decide
theorem qr_85_14 : pn_R 85 14 = none := by decide
theorem qr_85_15 : pn_R 85 15 = some 92 := by decide
theorem qr_85_16 : pn_R 85 16 = none := by decide
theorem qr_85_17 : pn_R 85 17 = some 93 := by decide
theorem qr_85_18 : pn_R 85 18 = some 94 := by decide
theorem qr_85_19 : pn_R 85 19 = some 95 := by decide
theorem qr_85_20 : pn_R 85 20 = none := by decide
theorem ic_m8 : Int32.ofInt (-8) = (-8 : Int32) := by decide
theorem ic_m1 : Int32.ofInt (-1) = (-1 : Int32) := by decide
theorem ic_0 : Int32.ofInt (0) = (0 : Int32) := by decide
theorem ic_1 : Int32.ofInt (1) = (1 : Int32) := by decide
theorem ic_2 : Int32.ofInt (2) = (2 : Int32) := by decide
theorem ic_3 : Int32.ofInt (3) = (3 : Int32) := by decide
theorem ic_4 : Int32.ofInt (4) = (4 : Int32) := by decide
theorem ic_5 : Int32.ofInt (5) = (5 : Int32) := by decide
theorem ic_6 : Int32.ofInt (6) = (6 : Int32) := by decide
theorem bc_6 : (Int8.ofInt (6)).toInt32 = (6 : Int32) := by decide
theorem bc_7 : (Int8.ofInt (7)).toInt32 = (7 : Int32) := by decide
theorem bc_8 : (Int8.ofInt (8)).toInt32 = (8 : Int32) := by decide
theorem bc_9 : (Int8.ofInt (9)).toInt32 = (9 : Int32) := by decide
theorem bc_10 : (Int8.ofInt (10)).toInt32 = (10 : Int32) := by decide
theorem bc_11 : (Int8.ofInt (11)).toInt32 = (11 : Int32) := by decide
theorem bc_12 : (Int8.ofInt (12)).toInt32 = (12 : Int32) := by decide
theorem bc_13 : (Int8.ofInt (13)).toInt32 = (13 : Int32) := by decide
theorem bc_14 : (Int8.ofInt (14)).toInt32 = (14 : Int32) := by decide
theorem bc_15 : (Int8.ofInt (15)).toInt32 = (15 : Int32) := by decide
theorem bc_16 : (Int8.ofInt (16)).toInt32 = (16 : Int32) := by decide
theorem bc_20 : (Int8.ofInt (20)).toInt32 = (20 : Int32) := by decide
theorem bc_23 : (Int8.ofInt (23)).toInt32 = (23 : Int32) := by decide
theorem bc_24 : (Int8.ofInt (24)).toInt32 = (24 : Int32) := by decide
theorem bc_25 : (Int8.ofInt (25)).toInt32 = (25 : Int32) := by decide
theorem bc_26 : (Int8.ofInt (26)).toInt32 = (26 : Int32) := by decide
theorem bc_30 : (Int8.ofInt (30)).toInt32 = (30 : Int32) := by decide
theorem bc_32 : (Int8.ofInt (32)).toInt32 = (32 : Int32) := by decide
theorem bc_40 : (Int8.ofInt (40)).toInt32 = (40 : Int32) := by decide
theorem bc_41 : (Int8.ofInt (41)).toInt32 = (41 : Int32) := by decide
theorem bc_43 : (Int8.ofInt (43)).toInt32 = (43 : Int32) := by decide
theorem bc_48 : (Int8.ofInt (48)).toInt32 = (48 : Int32) := by decide
theorem bc_57 : (Int8.ofInt (57)).toInt32 = (57 : Int32) := by decide
theorem bc_59 : (Int8.ofInt (59)).toInt32 = (59 : Int32) := by decide
theorem bc_60 : (Int8.ofInt (60)).toInt32 = (60 : Int32) := by decide
theorem bc_62 : (Int8.ofInt (62)).toInt32 = (62 : Int32) := by decide
theorem bc_63 : (Int8.ofInt (63)).toInt32 = (63 : Int32) := by decide
theorem bc_77 : (Int8.ofInt (77)).toInt32 = (77 : Int32) := by decide
theorem bc_78 : (Int8.ofInt (78)).toInt32 = (78 : Int32) := by decide
theorem bc_79 : (Int8.ofInt (79)).toInt32 = (79 : Int32) := by decide
theorem bc_80 : (Int8.ofInt (80)).toInt32 = (80 : Int32) := by decide
theorem bc_97 : (Int8.ofInt (97)).toInt32 = (97 : Int32) := by decide
theorem bc_99 : (Int8.ofInt (99)).toInt32 = (99 : Int32) := by decide
theorem bc_100 : (Int8.ofInt (100)).toInt32 = (100 : Int32) := by decide
theorem bc_122 : (Int8.ofInt (122)).toInt32 = (122 : Int32) := by decide
theorem sc_239 : (Int16.ofInt (239)).toInt32 = (239 : Int32) := by decide
theorem sc_255 : (Int16.ofInt (255)).toInt32 = (255 : Int32) := by decide
theorem sc_317 : (Int16.ofInt (317)).toInt32 = (317 : Int32) := by decide
theorem sc_318 : (Int16.ofInt (318)).toInt32 = (318 : Int32) := by decide
theorem sc_366 : (Int16.ofInt (366)).toInt32 = (366 : Int32) := by decide
theorem sc_400 : (Int16.ofInt (400)).toInt32 = (400 : Int32) := by decide
theorem sc_849 : (Int16.ofInt (849)).toInt32 = (849 : Int32) := by decide
theorem sc_999 : (Int16.ofInt (999)).toInt32 = (999 : Int32) := by decide
theorem sc_1000 : (Int16.ofInt (1000)).toInt32 = (1000 : Int32) := by decide
theorem sc_1001 : (Int16.ofInt (1001)).toInt32 = (1001 : Int32) := by decide
theorem sc_1002 : (Int16.ofInt (1002)).toInt32 = (1002 : Int32) := by decide
theorem sc_1003 : (Int16.ofInt (1003)).toInt32 = (1003 : Int32) := by decide
theorem sc_1004 : (Int16.ofInt (1004)).toInt32 = (1004 : Int32) := by decide
theorem sc_1005 : (Int16.ofInt (1005)).toInt32 = (1005 : Int32) := by decide
theorem sc_1006 : (Int16.ofInt (1006)).toInt32 = (1006 : Int32) := by decide
theorem sc_1007 : (Int16.ofInt (1007)).toInt32 = (1007 : Int32) := by decide
theorem sc_1008 : (Int16.ofInt (1008)).toInt32 = (1008 : Int32) := by decide
theorem sc_1009 : (Int16.ofInt (1009)).toInt32 = (1009 : Int32) := by decide
theorem sc_1010 : (Int16.ofInt (1010)).toInt32 = (1010 : Int32) := by decide
theorem sc_1011 : (Int16.ofInt (1011)).toInt32 = (1011 : Int32) := by decide
theorem sc_1012 : (Int16.ofInt (1012)).toInt32 = (1012 : Int32) := by decide
theorem sc_1013 : (Int16.ofInt (1013)).toInt32 = (1013 : Int32) := by decide
theorem sc_1014 : (Int16.ofInt (1014)).toInt32 = (1014 : Int32) := by decide
theorem sc_1015 : (Int16.ofInt (1015)).toInt32 = (1015 : Int32) := by decide
theorem sc_1016 : (Int16.ofInt (1016)).toInt32 = (1016 : Int32) := by decide
theorem sc_1017 : (Int16.ofInt (1017)).toInt32 = (1017 : Int32) := by decide
theorem sc_1018 : (Int16.ofInt (1018)).toInt32 = (1018 : Int32) := by decide
theorem sc_1019 : (Int16.ofInt (1019)).toInt32 = (1019 : Int32) := by decide
theorem sc_1020 : (Int16.ofInt (1020)).toInt32 = (1020 : Int32) := by decide
theorem sc_1021 : (Int16.ofInt (1021)).toInt32 = (1021 : Int32) := by decide
theorem sc_1022 : (Int16.ofInt (1022)).toInt32 = (1022 : Int32) := by decide
theorem sc_1023 : (Int16.ofInt (1023)).toInt32 = (1023 : Int32) := by decide
theorem sc_1027 : (Int16.ofInt (1027)).toInt32 = (1027 : Int32) := by decide
theorem sc_1166 : (Int16.ofInt (1166)).toInt32 = (1166 : Int32) := by decide
theorem sc_1167 : (Int16.ofInt (1167)).toInt32 = (1167 : Int32) := by decide
theorem sc_1215 : (Int16.ofInt (1215)).toInt32 = (1215 : Int32) := by decide
theorem sc_2000 : (Int16.ofInt (2000)).toInt32 = (2000 : Int32) := by decide
theorem sc_2040 : (Int16.ofInt (2040)).toInt32 = (2040 : Int32) := by decide
theorem sc_2041 : (Int16.ofInt (2041)).toInt32 = (2041 : Int32) := by decide
theorem sc_2043 : (Int16.ofInt (2043)).toInt32 = (2043 : Int32) := by decide
theorem sc_2059 : (Int16.ofInt (2059)).toInt32 = (2059 : Int32) := by decide
theorem sc_2060 : (Int16.ofInt (2060)).toInt32 = (2060 : Int32) := by decide
theorem sc_2062 : (Int16.ofInt (2062)).toInt32 = (2062 : Int32) := by decide
theorem sc_3000 : (Int16.ofInt (3000)).toInt32 = (3000 : Int32) := by decide
theorem sc_3001 : (Int16.ofInt (3001)).toInt32 = (3001 : Int32) := by decide
theorem sc_3487 : (Int16.ofInt (3487)).toInt32 = (3487 : Int32) := by decide
theorem sc_9999 : (Int16.ofInt (9999)).toInt32 = (9999 : Int32) := by decide
theorem sc_12345 : (Int16.ofInt (12345)).toInt32 = (12345 : Int32) := by decide
theorem sc_32767 : (Int16.ofInt (32767)).toInt32 = (32767 : Int32) := by decide
theorem qn_0 : Int32.toNatClampNeg (0 : Int32) = 0 := by decide
theorem qn_1 : Int32.toNatClampNeg (1 : Int32) = 1 := by decide
theorem qn_2 : Int32.toNatClampNeg (2 : Int32) = 2 := by decide
theorem qn_3 : Int32.toNatClampNeg (3 : Int32) = 3 := by decide
theorem qn_4 : Int32.toNatClampNeg (4 : Int32) = 4 := by decide
theorem qn_5 : Int32.toNatClampNeg (5 : Int32) = 5 := by decide
theorem qn_6 : Int32.toNatClampNeg (6 : Int32) = 6 := by decide
theorem qn_7 : Int32.toNatClampNeg (7 : Int32) = 7 := by decide
theorem qn_8 : Int32.toNatClampNeg (8 : Int32) = 8 := by decide
theorem qn_9 : Int32.toNatClampNeg (9 : Int32) = 9 := by decide
theorem qn_10 : Int32.toNatClampNeg (10 : Int32) = 10 := by decide
theorem qn_11 : Int32.toNatClampNeg (11 : Int32) = 11 := by decide
theorem qn_12 : Int32.toNatClampNeg (12 : Int32) = 12 := by decide
theorem qn_15 : Int32.toNatClampNeg (15 : Int32) = 15 := by decide
theorem qn_24 : Int32.toNatClampNeg (24 : Int32) = 24 := by decide
theorem qn_25 : Int32.toNatClampNeg (25 : Int32) = 25 := by decide
theorem qn_77 : Int32.toNatClampNeg (77 : Int32) = 77 := by decide
theorem qn_78 : Int32.toNatClampNeg (78 : Int32) = 78 := by decide
theorem qn_79 : Int32.toNatClampNeg (79 : Int32) = 79 := by decide
theorem qn_80 : Int32.toNatClampNeg (80 : Int32) = 80 := by decide
theorem qn_317 : Int32.toNatClampNeg (317 : Int32) = 317 := by decide
theorem qn_1166 : Int32.toNatClampNeg (1166 : Int32) = 1166 := by decide
theorem qi_0 : ∀ w ∈ u_ws RX0 TX0 8, w ∈ pn_T := fun w hw => List.mem_filter.mpr ⟨List.mem_append_right _ ((by decide +kernel : ∀ w ∈ u_ws RX0 TX0 8, w ∈ tables_1) w hw), List.all_eq_true.mp (by decide +kernel : (u_ws RX0 TX0 8).all pn_tk = true) w hw⟩
theorem qi_1 : ∀ w ∈ u_ws RX1 TX1 2, w ∈ pn_T := fun w hw => List.mem_filter.mpr ⟨List.mem_append_right _ ((by decide +kernel : ∀ w ∈ u_ws RX1 TX1 2, w ∈ tables_1) w hw), List.all_eq_true.mp (by decide +kernel : (u_ws RX1 TX1 2).all pn_tk = true) w hw⟩
theorem qi_2 : ∀ w ∈ u_ws RX2 TX2 11, w ∈ pn_T := fun w hw => List.mem_filter.mpr ⟨List.mem_append_right _ ((by decide +kernel : ∀ w ∈ u_ws RX2 TX2 11, w ∈ tables_1) w hw), List.all_eq_true.mp (by decide +kernel : (u_ws RX2 TX2 11).all pn_tk = true) w hw⟩
theorem qi_3 : ∀ w ∈ u_ws RX3 TX3 2, w ∈ pn_T := fun w hw => List.mem_filter.mpr ⟨List.mem_append_right _ ((by decide +kernel : ∀ w ∈ u_ws RX3 TX3 2, w ∈ tables_1) w hw), List.all_eq_true.mp (by decide +kernel : (u_ws RX3 TX3 2).all pn_tk = true) w hw⟩
theorem qi_4 : ∀ w ∈ u_ws RX5 TX5 3, w ∈ pn_T := fun w hw => List.mem_filter.mpr ⟨List.mem_append_right _ ((by decide +kernel : ∀ w ∈ u_ws RX5 TX5 3, w ∈ tables_1) w hw), List.all_eq_true.mp (by decide +kernel : (u_ws RX5 TX5 3).all pn_tk = true) w hw⟩
theorem qi_5 : ∀ w ∈ u_ws RX6 TX6 3, w ∈ pn_T := fun w hw => List.mem_filter.mpr ⟨List.mem_append_right _ ((by decide +kernel : ∀ w ∈ u_ws RX6 TX6 3, w ∈ tables_1) w hw), List.all_eq_true.mp (by decide +kernel : (u_ws RX6 TX6 3).all pn_tk = true) w hw⟩
theorem qi_6 : ∀ w ∈ u_ws RX7 TX7 8, w ∈ pn_T := fun w hw => List.mem_filter.mpr ⟨List.mem_append_right _ ((by decide +kernel : ∀ w ∈ u_ws RX7 TX7 8, w ∈ tables_1) w hw), List.all_eq_true.mp (by decide +kernel : (u_ws RX7 TX7 8).all pn_tk = true) w hw⟩
theorem qi_7 : ∀ w ∈ u_ws RX8 TX8 15, w ∈ pn_T := fun w hw => List.mem_filter.mpr ⟨List.mem_append_right _ ((by decide +kernel : ∀ w ∈ u_ws RX8 TX8 15, w ∈ tables_1) w hw), List.all_eq_true.mp (by decide +kernel : (u_ws RX8 TX8 15).all pn_tk = true) w hw⟩
theorem qi_8 : ∀ w ∈ u_ws RX9 TX9 2, w ∈ pn_T := fun w hw => List.mem_filter.mpr ⟨List.mem_append_right _ ((by decide +kernel : ∀ w ∈ u_ws RX9 TX9 2, w ∈ tables_1) w hw), List.all_eq_true.mp (by decide +kernel : (u_ws RX9 TX9 2).all pn_tk = true) w hw⟩
theorem qi_9 : ∀ w ∈ u_ws RX10 TX10 16, w ∈ pn_T := fun w hw => List.mem_filter.mpr ⟨List.mem_append_right _ ((by decide +kernel : ∀ w ∈ u_ws RX10 TX10 16, w ∈ tables_1) w hw), List.all_eq_true.mp (by decide +kernel : (u_ws RX10 TX10 16).all pn_tk = true) w hw⟩
theorem qi_10 : ∀ w ∈ u_ws RX11 TX11 21, w ∈ pn_T := fun w hw => List.mem_filter.mpr ⟨List.mem_append_right _ ((by decide +kernel : ∀ w ∈ u_ws RX11 TX11 21, w ∈ tables_1) w hw), List.all_eq_true.mp (by decide +kernel : (u_ws RX11 TX11 21).all pn_tk = true) w hw⟩
theorem lf_X0_9_0 : pn_FA RX0 9 0 0 := ⟨RX0, TX0, tyX0, 8, rfl, by decide, rfl, by decide, qi_0, tyX0_ok, nmX0, "PanNights$Crowd", Or.inl rfl, Or.inl (pn_mt 230 (by decide +kernel) (by decide +kernel))⟩
theorem lf_X0_15_0 : pn_FA RX0 15 0 1 := ⟨RX0, TX0, tyX0, 8, rfl, by decide, rfl, by decide, qi_0, tyX0_ok, nmX0, "PanNights$Crowd", Or.inl rfl, Or.inl (pn_mt 231 (by decide +kernel) (by decide +kernel))⟩
theorem lf_X0_18_0 : pn_FA RX0 18 0 2 := ⟨RX0, TX0, tyX0, 8, rfl, by decide, rfl, by decide, qi_0, tyX0_ok, nmX0, "PanNights$Crowd", Or.inl rfl, Or.inl (pn_mt 232 (by decide +kernel) (by decide +kernel))⟩
theorem lf_X0_21_0 : pn_FA RX0 21 0 3 := ⟨RX0, TX0, tyX0, 8, rfl, by decide, rfl, by decide, qi_0, tyX0_ok, nmX0, "PanNights$Crowd", Or.inl rfl, Or.inl (pn_mt 233 (by decide +kernel) (by decide +kernel))⟩
theorem lf_X0_25_0 : pn_FA RX0 25 0 4 := ⟨RX0, TX0, tyX0, 8, rfl, by decide, rfl, by decide, qi_0, tyX0_ok, nmX0, "PanNights$Crowd", Or.inl rfl, Or.inl (pn_mt 235 (by decide +kernel) (by decide +kernel))⟩
theorem lf_X0_28_0 : pn_FA RX0 28 0 5 := ⟨RX0, TX0, tyX0, 8, rfl, by decide, rfl, by decide, qi_0, tyX0_ok, nmX0, "PanNights$Crowd", Or.inl rfl, Or.inl (pn_mt 237 (by decide +kernel) (by decide +kernel))⟩
theorem lf_X0_31_0 : pn_FA RX0 31 0 6 := ⟨RX0, TX0, tyX0, 8, rfl, by decide, rfl, by decide, qi_0, tyX0_ok, nmX0, "PanNights$Crowd", Or.inl rfl, Or.inl (pn_mt 239 (by decide +kernel) (by decide +kernel))⟩
theorem lf_X0_34_0 : pn_FA RX0 34 0 7 := ⟨RX0, TX0, tyX0, 8, rfl, by decide, rfl, by decide, qi_0, tyX0_ok, nmX0, "PanNights$Crowd", Or.inl rfl, Or.inl (pn_mt 241 (by decide +kernel) (by decide +kernel))⟩
theorem lf_X0_37_7 : pn_FA RX0 37 7 2 := ⟨RX8, TX8, tyX8, 15, rfl, by decide, rfl, by decide, qi_7, tyX8_ok, nmX8, "PanNights$Village", Or.inl rfl, Or.inr ⟨"PanNights", (pn_mt 82 (by decide +kernel) (by decide +kernel))⟩⟩
theorem lf_X0_48_2 : pn_FA RX0 48 2 9 := ⟨RX2, TX2, tyX2, 11, rfl, by decide, rfl, by decide, qi_2, tyX2_ok, nmX2, "PanNights$Law", Or.inl rfl, Or.inr ⟨"PanNights", (pn_mt 165 (by decide +kernel) (by decide +kernel))⟩⟩
theorem lf_X0_50_2 : pn_FA RX0 50 2 10 := ⟨RX2, TX2, tyX2, 11, rfl, by decide, rfl, by decide, qi_2, tyX2_ok, nmX2, "PanNights$Law", Or.inl rfl, Or.inr ⟨"PanNights", (pn_mt 168 (by decide +kernel) (by decide +kernel))⟩⟩
theorem lf_X1_9_1 : pn_FA RX1 9 1 0 := ⟨RX1, TX1, tyX1, 2, rfl, by decide, rfl, by decide, qi_1, tyX1_ok, nmX1, "PanNights$Game", Or.inl rfl, Or.inl (pn_mt 304 (by decide +kernel) (by decide +kernel))⟩
theorem lf_X1_15_1 : pn_FA RX1 15 1 1 := ⟨RX1, TX1, tyX1, 2, rfl, by decide, rfl, by decide, qi_1, tyX1_ok, nmX1, "PanNights$Game", Or.inl rfl, Or.inl (pn_mt 305 (by decide +kernel) (by decide +kernel))⟩
theorem lf_X10_12_9 : pn_FA RX10 12 9 0 := ⟨RX10, TX10, tyX10, 16, rfl, by decide, rfl, by decide, qi_9, tyX10_ok, nmX10, "PanNights", Or.inl rfl, Or.inl (pn_mt 311 (by decide +kernel) (by decide +kernel))⟩
theorem lf_X10_19_9 : pn_FA RX10 19 9 1 := ⟨RX10, TX10, tyX10, 16, rfl, by decide, rfl, by decide, qi_9, tyX10_ok, nmX10, "PanNights", Or.inl rfl, Or.inl (pn_mt 312 (by decide +kernel) (by decide +kernel))⟩
theorem lf_X10_23_9 : pn_FA RX10 23 9 2 := ⟨RX10, TX10, tyX10, 16, rfl, by decide, rfl, by decide, qi_9, tyX10_ok, nmX10, "PanNights", Or.inl rfl, Or.inl (pn_mt 313 (by decide +kernel) (by decide +kernel))⟩
theorem lf_X10_26_9 : pn_FA RX10 26 9 3 := ⟨RX10, TX10, tyX10, 16, rfl, by decide, rfl, by decide, qi_9, tyX10_ok, nmX10, "PanNights", Or.inl rfl, Or.inl (pn_mt 314 (by decide +kernel) (by decide +kernel))⟩
theorem lf_X10_32_9 : pn_FA RX10 32 9 4 := ⟨RX10, TX10, tyX10, 16, rfl, by decide, rfl, by decide, qi_9, tyX10_ok, nmX10, "PanNights", Or.inl rfl, Or.inl (pn_mt 315 (by decide +kernel) (by decide +kernel))⟩
theorem lf_X10_36_9 : pn_FA RX10 36 9 5 := ⟨RX10, TX10, tyX10, 16, rfl, by decide, rfl, by decide, qi_9, tyX10_ok, nmX10, "PanNights", Or.inl rfl, Or.inl (pn_mt 316 (by decide +kernel) (by decide +kernel))⟩
theorem lf_X10_39_9 : pn_FA RX10 39 9 6 := ⟨RX10, TX10, tyX10, 16, rfl, by decide, rfl, by decide, qi_9, tyX10_ok, nmX10, "PanNights", Or.inl rfl, Or.inl (pn_mt 317 (by decide +kernel) (by decide +kernel))⟩
theorem lf_X10_47_9 : pn_FA RX10 47 9 7 := ⟨RX10, TX10, tyX10, 16, rfl, by decide, rfl, by decide, qi_9, tyX10_ok, nmX10, "PanNights", Or.inl rfl, Or.inl (pn_mt 318 (by decide +kernel) (by decide +kernel))⟩
theorem lf_X10_56_9 : pn_FA RX10 56 9 8 := ⟨RX10, TX10, tyX10, 16, rfl, by decide, rfl, by decide, qi_9, tyX10_ok, nmX10, "PanNights", Or.inl rfl, Or.inl (pn_mt 319 (by decide +kernel) (by decide +kernel))⟩
theorem lf_X10_63_9 : pn_FA RX10 63 9 9 := ⟨RX10, TX10, tyX10, 16, rfl, by decide, rfl, by decide, qi_9, tyX10_ok, nmX10, "PanNights", Or.inl rfl, Or.inl (pn_mt 320 (by decide +kernel) (by decide +kernel))⟩
theorem lf_X10_70_9 : pn_FA RX10 70 9 10 := ⟨RX10, TX10, tyX10, 16, rfl, by decide, rfl, by decide, qi_9, tyX10_ok, nmX10, "PanNights", Or.inl rfl, Or.inl (pn_mt 321 (by decide +kernel) (by decide +kernel))⟩
theorem lf_X10_77_9 : pn_FA RX10 77 9 11 := ⟨RX10, TX10, tyX10, 16, rfl, by decide, rfl, by decide, qi_9, tyX10_ok, nmX10, "PanNights", Or.inl rfl, Or.inl (pn_mt 322 (by decide +kernel) (by decide +kernel))⟩
theorem lf_X10_84_9 : pn_FA RX10 84 9 12 := ⟨RX10, TX10, tyX10, 16, rfl, by decide, rfl, by decide, qi_9, tyX10_ok, nmX10, "PanNights", Or.inl rfl, Or.inl (pn_mt 323 (by decide +kernel) (by decide +kernel))⟩
theorem lf_X10_88_9 : pn_FA RX10 88 9 13 := ⟨RX10, TX10, tyX10, 16, rfl, by decide, rfl, by decide, qi_9, tyX10_ok, nmX10, "PanNights", Or.inl rfl, Or.inl (pn_mt 324 (by decide +kernel) (by decide +kernel))⟩
theorem lf_X10_92_9 : pn_FA RX10 92 9 14 := ⟨RX10, TX10, tyX10, 16, rfl, by decide, rfl, by decide, qi_9, tyX10_ok, nmX10, "PanNights", Or.inl rfl, Or.inl (pn_mt 325 (by decide +kernel) (by decide +kernel))⟩
theorem lf_X10_96_9 : pn_FA RX10 96 9 15 := ⟨RX10, TX10, tyX10, 16, rfl, by decide, rfl, by decide, qi_9, tyX10_ok, nmX10, "PanNights", Or.inl rfl, Or.inl (pn_mt 326 (by decide +kernel) (by decide +kernel))⟩
theorem lf_X10_108_6 : pn_FA RX10 108 6 3 := ⟨RX7, TX7, tyX7, 8, rfl, by decide, rfl, by decide, qi_6, tyX7_ok, nmX7, "PanNights$Text", Or.inl rfl, Or.inr ⟨"PanNights", (pn_mt 47 (by decide +kernel) (by decide +kernel))⟩⟩
theorem lf_X10_124_6 : pn_FA RX10 124 6 7 := ⟨RX7, TX7, tyX7, 8, rfl, by decide, rfl, by decide, qi_6, tyX7_ok, nmX7, "PanNights$Text", Or.inl rfl, Or.inr ⟨"PanNights", (pn_mt 54 (by decide +kernel) (by decide +kernel))⟩⟩
theorem lf_X10_130_7 : pn_FA RX10 130 7 3 := ⟨RX8, TX8, tyX8, 15, rfl, by decide, rfl, by decide, qi_7, tyX8_ok, nmX8, "PanNights$Village", Or.inl rfl, Or.inr ⟨"PanNights", (pn_mt 86 (by decide +kernel) (by decide +kernel))⟩⟩
theorem lf_X10_146_2 : pn_FA RX10 146 2 6 := ⟨RX2, TX2, tyX2, 11, rfl, by decide, rfl, by decide, qi_2, tyX2_ok, nmX2, "PanNights$Law", Or.inl rfl, Or.inr ⟨"PanNights", (pn_mt 161 (by decide +kernel) (by decide +kernel))⟩⟩
theorem lf_X10_167_2 : pn_FA RX10 167 2 10 := ⟨RX2, TX2, tyX2, 11, rfl, by decide, rfl, by decide, qi_2, tyX2_ok, nmX2, "PanNights$Law", Or.inl rfl, Or.inr ⟨"PanNights", (pn_mt 169 (by decide +kernel) (by decide +kernel))⟩⟩
theorem lf_X10_170_2 : pn_FA RX10 170 2 9 := ⟨RX2, TX2, tyX2, 11, rfl, by decide, rfl, by decide, qi_2, tyX2_ok, nmX2, "PanNights$Law", Or.inl rfl, Or.inr ⟨"PanNights", (pn_mt 166 (by decide +kernel) (by decide +kernel))⟩⟩
theorem lf_X10_179_7 : pn_FA RX10 179 7 4 := ⟨RX8, TX8, tyX8, 15, rfl, by decide, rfl, by decide, qi_7, tyX8_ok, nmX8, "PanNights$Village", Or.inl rfl, Or.inr ⟨"PanNights", (pn_mt 89 (by decide +kernel) (by decide +kernel))⟩⟩
theorem lf_X10_212_0 : pn_FA RX10 212 0 4 := ⟨RX0, TX0, tyX0, 8, rfl, by decide, rfl, by decide, qi_0, tyX0_ok, nmX0, "PanNights$Crowd", Or.inl rfl, Or.inr ⟨"PanNights", (pn_mt 236 (by decide +kernel) (by decide +kernel))⟩⟩
theorem lf_X10_215_0 : pn_FA RX10 215 0 7 := ⟨RX0, TX0, tyX0, 8, rfl, by decide, rfl, by decide, qi_0, tyX0_ok, nmX0, "PanNights$Crowd", Or.inl rfl, Or.inr ⟨"PanNights", (pn_mt 242 (by decide +kernel) (by decide +kernel))⟩⟩
theorem lf_X10_222_0 : pn_FA RX10 222 0 6 := ⟨RX0, TX0, tyX0, 8, rfl, by decide, rfl, by decide, qi_0, tyX0_ok, nmX0, "PanNights$Crowd", Or.inl rfl, Or.inr ⟨"PanNights", (pn_mt 240 (by decide +kernel) (by decide +kernel))⟩⟩
theorem lf_X10_229_0 : pn_FA RX10 229 0 3 := ⟨RX0, TX0, tyX0, 8, rfl, by decide, rfl, by decide, qi_0, tyX0_ok, nmX0, "PanNights$Crowd", Or.inl rfl, Or.inr ⟨"PanNights", (pn_mt 234 (by decide +kernel) (by decide +kernel))⟩⟩
theorem lf_X10_250_7 : pn_FA RX10 250 7 2 := ⟨RX8, TX8, tyX8, 15, rfl, by decide, rfl, by decide, qi_7, tyX8_ok, nmX8, "PanNights$Village", Or.inl rfl, Or.inr ⟨"PanNights", (pn_mt 84 (by decide +kernel) (by decide +kernel))⟩⟩
theorem lf_X10_256_0 : pn_FA RX10 256 0 5 := ⟨RX0, TX0, tyX0, 8, rfl, by decide, rfl, by decide, qi_0, tyX0_ok, nmX0, "PanNights$Crowd", Or.inl rfl, Or.inr ⟨"PanNights", (pn_mt 238 (by decide +kernel) (by decide +kernel))⟩⟩
theorem lf_X10_259_7 : pn_FA RX10 259 7 11 := ⟨RX8, TX8, tyX8, 15, rfl, by decide, rfl, by decide, qi_7, tyX8_ok, nmX8, "PanNights$Village", Or.inl rfl, Or.inr ⟨"PanNights", (pn_mt 111 (by decide +kernel) (by decide +kernel))⟩⟩
theorem lf_X10_280_5 : pn_FA RX10 280 5 2 := ⟨RX6, TX6, tyX6, 3, rfl, by decide, rfl, by decide, qi_5, tyX6_ok, nmX6, "PanNights$Sets", Or.inl rfl, Or.inr ⟨"PanNights", (pn_mt 290 (by decide +kernel) (by decide +kernel))⟩⟩
theorem lf_X10_283_5 : pn_FA RX10 283 5 1 := ⟨RX6, TX6, tyX6, 3, rfl, by decide, rfl, by decide, qi_5, tyX6_ok, nmX6, "PanNights$Sets", Or.inl rfl, Or.inr ⟨"PanNights", (pn_mt 288 (by decide +kernel) (by decide +kernel))⟩⟩
theorem lf_X10_301_7 : pn_FA RX10 301 7 12 := ⟨RX8, TX8, tyX8, 15, rfl, by decide, rfl, by decide, qi_7, tyX8_ok, nmX8, "PanNights$Village", Or.inl rfl, Or.inr ⟨"PanNights", (pn_mt 113 (by decide +kernel) (by decide +kernel))⟩⟩
theorem lf_X10_317_7 : pn_FA RX10 317 7 13 := ⟨RX8, TX8, tyX8, 15, rfl, by decide, rfl, by decide, qi_7, tyX8_ok, nmX8, "PanNights$Village", Or.inl rfl, Or.inr ⟨"PanNights", (pn_mt 115 (by decide +kernel) (by decide +kernel))⟩⟩
theorem lf_X10_327_7 : pn_FA RX10 327 7 6 := ⟨RX8, TX8, tyX8, 15, rfl, by decide, rfl, by decide, qi_7, tyX8_ok, nmX8, "PanNights$Village", Or.inl rfl, Or.inr ⟨"PanNights", (pn_mt 96 (by decide +kernel) (by decide +kernel))⟩⟩
theorem lf_X10_330_7 : pn_FA RX10 330 7 7 := ⟨RX8, TX8, tyX8, 15, rfl, by decide, rfl, by decide, qi_7, tyX8_ok, nmX8, "PanNights$Village", Or.inl rfl, Or.inr ⟨"PanNights", (pn_mt 99 (by decide +kernel) (by decide +kernel))⟩⟩
theorem lf_X10_333_7 : pn_FA RX10 333 7 5 := ⟨RX8, TX8, tyX8, 15, rfl, by decide, rfl, by decide, qi_7, tyX8_ok, nmX8, "PanNights$Village", Or.inl rfl, Or.inr ⟨"PanNights", (pn_mt 92 (by decide +kernel) (by decide +kernel))⟩⟩
theorem lf_X10_336_7 : pn_FA RX10 336 7 8 := ⟨RX8, TX8, tyX8, 15, rfl, by decide, rfl, by decide, qi_7, tyX8_ok, nmX8, "PanNights$Village", Or.inl rfl, Or.inr ⟨"PanNights", (pn_mt 102 (by decide +kernel) (by decide +kernel))⟩⟩
theorem lf_X10_339_7 : pn_FA RX10 339 7 9 := ⟨RX8, TX8, tyX8, 15, rfl, by decide, rfl, by decide, qi_7, tyX8_ok, nmX8, "PanNights$Village", Or.inl rfl, Or.inr ⟨"PanNights", (pn_mt 105 (by decide +kernel) (by decide +kernel))⟩⟩
theorem lf_X10_342_7 : pn_FA RX10 342 7 10 := ⟨RX8, TX8, tyX8, 15, rfl, by decide, rfl, by decide, qi_7, tyX8_ok, nmX8, "PanNights$Village", Or.inl rfl, Or.inr ⟨"PanNights", (pn_mt 108 (by decide +kernel) (by decide +kernel))⟩⟩
theorem lf_X10_345_4 : pn_FA RX10 345 4 1 := ⟨RX5, TX5, tyX5, 3, rfl, by decide, rfl, by decide, qi_4, tyX5_ok, nmX5, "PanNights$Past", Or.inl rfl, Or.inr ⟨"PanNights", (pn_mt 271 (by decide +kernel) (by decide +kernel))⟩⟩
