/-! the words that calls, fields and methods rest on, by their places in the tables -/
theorem vc0 : vwCl[0]? = some (RX0, TX0, 2) := rfl
theorem vc1 : vwCl[1]? = some (RX1, TX1, 2) := rfl
theorem vc2 : vwCl[2]? = some (RX2, TX2, 4) := rfl
theorem vc3 : vwCl[3]? = some (RX3, TX3, 6) := rfl
theorem vc4 : vwCl[4]? = some (RX4, TX4, 5) := rfl
theorem vc5 : vwCl[5]? = some (RX5, TX5, 3) := rfl
theorem vc6 : vwCl[6]? = some (RX6, TX6, 13) := rfl
theorem vc7 : vwCl[7]? = some (RX7, TX7, 14) := rfl
theorem vc8 : vwCl[8]? = some (RX8, TX8, 2) := rfl
theorem vc9 : vwCl[9]? = some (RX10, TX10, 12) := rfl
theorem vc10 : vwCl[10]? = some (RX11, TX11, 34) := rfl
def mX0_init : MI := (yX0_init, cX0_init, 1, none, 1, 20)
def mX0_choose : MI := (yX0_choose, cX0_choose, 10, none, 2, 45)
def mX0_offer : MI := (yX0_offer, cX0_offer, 4, none, 1, 21)
def mX1_init : MI := (yX1_init, cX1_init, 1, none, 2, 40)
def mX1_hold : MI := (yX1_hold, cX1_hold, 3, none, 2, 55)
def mX1_giveBack : MI := (yX1_giveBack, cX1_giveBack, 3, none, 2, 55)
def mX2_init : MI := (yX2_init, cX2_init, 2, none, 1, 20)
def mX2_add : MI := (yX2_add, cX2_add, 4, none, 0, 0)
def mX2_ahead : MI := (yX2_ahead, cX2_ahead, 4, (some .int), 0, 0)
def mX2_sum : MI := (yX2_sum, cX2_sum, 5, (some .int), 1, 21)
def mX2_holds : MI := (yX2_holds, cX2_holds, 4, (some .boolean), 0, 0)
def mX3_init : MI := (yX3_init, cX3_init, 1, none, 2, 41)
def mX3_empty : MI := (yX3_empty, cX3_empty, 1, none, 0, 0)
def mX3_put : MI := (yX3_put, cX3_put, 4, none, 1, 23)
def mX3_meet : MI := (yX3_meet, cX3_meet, 4, none, 3, 67)
def mX3_cross : MI := (yX3_cross, cX3_cross, 3, none, 2, 45)
def mX3_price : MI := (yX3_price, cX3_price, 2, none, 1, 21)
def mX3_trades : MI := (yX3_trades, cX3_trades, 3, (some .boolean), 1, 23)
def mX4_init : MI := (yX4_init, cX4_init, 1, none, 1, 20)
def mX4_add : MI := (yX4_add, cX4_add, 5, none, 0, 0)
def mX4_copy : MI := (yX4_copy, cX4_copy, 2, none, 1, 34)
def mX4_seenOf : MI := (yX4_seenOf, cX4_seenOf, 6, (some .int), 1, 21)
def mX4_mayBeBy : MI := (yX4_mayBeBy, cX4_mayBeBy, 8, (some .boolean), 3, 74)
def mX5_init : MI := (yX5_init, cX5_init, 1, none, 1, 20)
def mX5_read : MI := (yX5_read, cX5_read, 5, (some .int), 3, 68)
def mX5_split : MI := (yX5_split, cX5_split, 7, (some .boolean), 0, 0)
def mX5_take : MI := (yX5_take, cX5_take, 3, (some .boolean), 2, 46)
def mX6_init : MI := (yX6_init, cX6_init, 1, none, 1, 20)
def mX6_empty : MI := (yX6_empty, cX6_empty, 1, none, 0, 0)
def mX6_has : MI := (yX6_has, cX6_has, 2, (some .boolean), 0, 0)
def mX6_addPerson : MI := (yX6_addPerson, cX6_addPerson, 5, (some .boolean), 1, 22)
def mX6_set : MI := (yX6_set, cX6_set, 3, (some .boolean), 1, 22)
def mX7_init : MI := (yX7_init, cX7_init, 1, none, 3, 61)
def mX7_play : MI := (yX7_play, cX7_play, 6, none, 5, 126)
def mX7_wanders : MI := (yX7_wanders, cX7_wanders, 1, (some .int), 0, 0)
def mX7_draw : MI := (yX7_draw, cX7_draw, 5, (some .int), 0, 0)
def mX7_rest : MI := (yX7_rest, cX7_rest, 2, (some .int), 0, 0)
def mX7_tells : MI := (yX7_tells, cX7_tells, 7, (some .int), 3, 74)
def mX7_trade : MI := (yX7_trade, cX7_trade, 6, none, 1, 21)
def mX7_playShouts : MI := (yX7_playShouts, cX7_playShouts, 6, none, 4, 100)
def mX7_hearBid : MI := (yX7_hearBid, cX7_hearBid, 5, none, 2, 46)
def mX7_hearOffer : MI := (yX7_hearOffer, cX7_hearOffer, 5, none, 2, 46)
def mX7_playPairs : MI := (yX7_playPairs, cX7_playPairs, 7, none, 4, 100)
def mX7_playPosted : MI := (yX7_playPosted, cX7_playPosted, 5, none, 4, 100)
def mX7_cheapestLeft : MI := (yX7_cheapestLeft, cX7_cheapestLeft, 6, (some .int), 1, 22)
def mX7_playBell : MI := (yX7_playBell, cX7_playBell, 4, none, 4, 100)
def mX8_init : MI := (yX8_init, cX8_init, 1, none, 1, 20)
def mX8_add : MI := (yX8_add, cX8_add, 2, none, 0, 0)
def mX9_span : MI := (yX9_span, cX9_span, 4, (some .int), 0, 0)
def mX9_by : MI := (yX9_by, cX9_by, 9, (some .int), 2, 46)
def mX9_near : MI := (yX9_near, cX9_near, 6, (some .int), 1, 21)
def mX9_share : MI := (yX9_share, cX9_share, 3, (some .int), 0, 0)
def mX9_underLid : MI := (yX9_underLid, cX9_underLid, 3, (some .int), 1, 21)
def mX9_isHeard : MI := (yX9_isHeard, cX9_isHeard, 3, (some .boolean), 0, 0)
def mX10_init : MI := (yX10_init, cX10_init, 2, none, 4, 81)
def mX10_write : MI := (yX10_write, cX10_write, 5, (some .int), 1, 22)
def mX10_wipe : MI := (yX10_wipe, cX10_wipe, 2, (some .int), 0, 0)
def mX10_fault : MI := (yX10_fault, cX10_fault, 1, (some .int), 4, 92)
def mX10_lay : MI := (yX10_lay, cX10_lay, 2, (some .int), 4, 92)
def mX10_person : MI := (yX10_person, cX10_person, 3, (some .int), 1, 22)
def mX10_law : MI := (yX10_law, cX10_law, 4, (some .int), 1, 22)
def mX10_lines : MI := (yX10_lines, cX10_lines, 2, (some .int), 4, 90)
def mX10_served : MI := (yX10_served, cX10_served, 7, (some .int), 4, 90)
def mX10_pairs : MI := (yX10_pairs, cX10_pairs, 6, (some .long), 1, 25)
def mX10_bell : MI := (yX10_bell, cX10_bell, 3, (some .int), 4, 90)
def mX10_best : MI := (yX10_best, cX10_best, 9, (some .int), 4, 90)
def mX10_round : MI := (yX10_round, cX10_round, 4, (some .int), 6, 151)
def mX10_of : MI := (yX10_of, cX10_of, 4, (some .int), 6, 151)
def mX10_means : MI := (yX10_means, cX10_means, 4, (some .int), 7, 175)
def mX10_rules : MI := (yX10_rules, cX10_rules, 4, (some .int), 7, 175)
def mX10_shout : MI := (yX10_shout, cX10_shout, 3, (some .int), 1, 22)
def mX10_known : MI := (yX10_known, cX10_known, 2, (some .int), 2, 46)
def mX10_least : MI := (yX10_least, cX10_least, 3, (some .int), 3, 67)
def mX10_laws : MI := (yX10_laws, cX10_laws, 4, (some .int), 4, 101)
def mX10_two : MI := (yX10_two, cX10_two, 6, (some .int), 3, 74)
def mX10_keep : MI := (yX10_keep, cX10_keep, 1, (some .int), 3, 77)
def mX10_back : MI := (yX10_back, cX10_back, 1, (some .int), 3, 77)
def mX10_count : MI := (yX10_count, cX10_count, 2, (some .int), 0, 0)
def mX10_within : MI := (yX10_within, cX10_within, 3, (some .boolean), 0, 0)
def mX10_gainOfAllMeetings : MI := (yX10_gainOfAllMeetings, cX10_gainOfAllMeetings, 6, (some .int), 0, 0)
def mX10_gainOfTelling : MI := (yX10_gainOfTelling, cX10_gainOfTelling, 4, (some .int), 3, 67)
def mX10_sumUp : MI := (yX10_sumUp, cX10_sumUp, 5, none, 6, 151)
def mX10_bestBy : MI := (yX10_bestBy, cX10_bestBy, 5, (some .int), 0, 0)
def mX11_init : MI := (yX11_init, cX11_init, 1, none, 1, 21)
def mX11_in : MI := (yX11_in, cX11_in, 6, (some .boolean), 0, 0)
def mX11_noRoom : MI := (yX11_noRoom, cX11_noRoom, 2, none, 0, 0)
def mX11_write : MI := (yX11_write, cX11_write, 5, (some .int), 1, 25)
def mX11_wipe : MI := (yX11_wipe, cX11_wipe, 2, (some .int), 0, 0)
def mX11_byteAt : MI := (yX11_byteAt, cX11_byteAt, 2, (some .int), 0, 0)
def mX11_figures : MI := (yX11_figures, cX11_figures, 5, (some .boolean), 1, 25)
def mX11_readMany : MI := (yX11_readMany, cX11_readMany, 4, (some .int), 0, 0)
def mX11_personItem : MI := (yX11_personItem, cX11_personItem, 2, (some .boolean), 2, 49)
def mX11_numberItem : MI := (yX11_numberItem, cX11_numberItem, 4, (some .boolean), 2, 49)
def mX11_item : MI := (yX11_item, cX11_item, 2, (some .boolean), 3, 72)
def mX11_readAll : MI := (yX11_readAll, cX11_readAll, 2, (some .int), 4, 93)
def mX11_fault : MI := (yX11_fault, cX11_fault, 1, (some .int), 5, 114)
def mX11_lay : MI := (yX11_lay, cX11_lay, 2, (some .int), 5, 114)
def mX11_isPerson : MI := (yX11_isPerson, cX11_isPerson, 2, (some .boolean), 1, 25)
def mX11_manyOf : MI := (yX11_manyOf, cX11_manyOf, 4, (some .int), 0, 0)
def mX11_person : MI := (yX11_person, cX11_person, 3, (some .int), 2, 46)
def mX11_law : MI := (yX11_law, cX11_law, 4, (some .int), 2, 46)
def mX11_showTrue : MI := (yX11_showTrue, cX11_showTrue, 2, none, 0, 0)
def mX11_layLines : MI := (yX11_layLines, cX11_layLines, 3, none, 0, 0)
def mX11_worth : MI := (yX11_worth, cX11_worth, 2, (some .int), 0, 0)
def mX11_costs : MI := (yX11_costs, cX11_costs, 2, (some .int), 0, 0)
def mX11_quantity : MI := (yX11_quantity, cX11_quantity, 3, (some .int), 1, 21)
def mX11_gainOf : MI := (yX11_gainOf, cX11_gainOf, 4, (some .int), 1, 21)
def mX11_lowest : MI := (yX11_lowest, cX11_lowest, 4, (some .int), 1, 21)
def mX11_highest : MI := (yX11_highest, cX11_highest, 4, (some .int), 1, 21)
def mX11_lines : MI := (yX11_lines, cX11_lines, 4, (some .int), 2, 44)
def mX11_served : MI := (yX11_served, cX11_served, 12, (some .int), 2, 44)
def mX11_common : MI := (yX11_common, cX11_common, 10, (some .long), 0, 0)
def mX11_pairs : MI := (yX11_pairs, cX11_pairs, 7, (some .long), 1, 29)
def mX11_isFirst : MI := (yX11_isFirst, cX11_isFirst, 5, (some .boolean), 0, 0)
def mX11_bellOf : MI := (yX11_bellOf, cX11_bellOf, 6, (some .int), 2, 44)
def mX11_bell : MI := (yX11_bell, cX11_bell, 3, (some .int), 3, 69)
def mX11_best : MI := (yX11_best, cX11_best, 8, (some .int), 3, 69)
def mX11_draw : MI := (yX11_draw, cX11_draw, 5, (some .int), 0, 0)
def mX11_shoutBy : MI := (yX11_shoutBy, cX11_shoutBy, 10, (some .int), 0, 0)
def mX11_shoutOf : MI := (yX11_shoutOf, cX11_shoutOf, 5, (some .int), 1, 29)
def mX11_trade : MI := (yX11_trade, cX11_trade, 5, none, 0, 0)
def mX11_note : MI := (yX11_note, cX11_note, 4, none, 0, 0)
def mX11_goShouts : MI := (yX11_goShouts, cX11_goShouts, 9, none, 2, 53)
def mX11_personOf : MI := (yX11_personOf, cX11_personOf, 5, (some .int), 0, 0)
def mX11_goPairs : MI := (yX11_goPairs, cX11_goPairs, 5, none, 2, 53)
def mX11_goPosted : MI := (yX11_goPosted, cX11_goPosted, 6, none, 2, 53)
def mX11_goBell : MI := (yX11_goBell, cX11_goBell, 4, none, 2, 53)
def mX11_goRound : MI := (yX11_goRound, cX11_goRound, 5, none, 3, 81)
def mX11_isRound : MI := (yX11_isRound, cX11_isRound, 2, (some .boolean), 1, 25)
def mX11_round : MI := (yX11_round, cX11_round, 4, (some .int), 4, 105)
def mX11_of : MI := (yX11_of, cX11_of, 4, (some .int), 4, 105)
def mX11_layMeans : MI := (yX11_layMeans, cX11_layMeans, 4, none, 4, 105)
def mX11_means : MI := (yX11_means, cX11_means, 4, (some .int), 5, 128)
def mX11_bestBy : MI := (yX11_bestBy, cX11_bestBy, 5, (some .int), 0, 0)
def mX11_rules : MI := (yX11_rules, cX11_rules, 4, (some .int), 5, 128)
def mX11_shout : MI := (yX11_shout, cX11_shout, 3, (some .int), 1, 25)
def mX11_knownOf : MI := (yX11_knownOf, cX11_knownOf, 5, (some .int), 0, 0)
def mX11_known : MI := (yX11_known, cX11_known, 2, (some .int), 2, 46)
def mX11_least : MI := (yX11_least, cX11_least, 3, (some .int), 2, 44)
def mX11_mayBe : MI := (yX11_mayBe, cX11_mayBe, 5, (some .boolean), 1, 29)
def mX11_laws : MI := (yX11_laws, cX11_laws, 6, (some .int), 2, 53)
def mX11_layRooms : MI := (yX11_layRooms, cX11_layRooms, 4, none, 1, 22)
def mX11_carried : MI := (yX11_carried, cX11_carried, 9, (some .int), 1, 25)
def mX11_two : MI := (yX11_two, cX11_two, 6, (some .int), 2, 53)
def mX11_copyLog : MI := (yX11_copyLog, cX11_copyLog, 4, none, 0, 0)
def mX11_keep : MI := (yX11_keep, cX11_keep, 2, (some .int), 1, 23)
def mX11_back : MI := (yX11_back, cX11_back, 2, (some .int), 1, 23)
def mX11_count : MI := (yX11_count, cX11_count, 2, (some .int), 1, 23)
def mL_law : MI := (yL_law, cL_law, 4, (some .boolean), 8, 198)
theorem okX0_init : mOK mX0_init 0 := ⟨tb_in 343 (by decide +kernel) rfl, tb_in 63 (by decide +kernel) rfl, by decide +kernel⟩
theorem pyX0_init : plainName mX0_init.1.cls = true := by decide +kernel
theorem inX0_init : Cond.instanceMethod mX0_init.1 ∈ TB := tb_in 342 (by decide +kernel) rfl
theorem okX0_choose : mOK mX0_choose 3 := ⟨tb_in 695 (by decide +kernel) rfl, tb_in 63 (by decide +kernel) rfl, by decide +kernel⟩
theorem pyX0_choose : plainName mX0_choose.1.cls = true := by decide +kernel
theorem inX0_choose : Cond.instanceMethod mX0_choose.1 ∈ TB := tb_in 693 (by decide +kernel) rfl
theorem seX0_choose : Cond.selects mX0_choose.1.cls mX0_choose.1 mX0_choose.1 ∈ TB := tb_in 694 (by decide +kernel) rfl
theorem okX0_offer : mOK mX0_offer 2 := ⟨tb_in 702 (by decide +kernel) rfl, tb_in 63 (by decide +kernel) rfl, by decide +kernel⟩
theorem pyX0_offer : plainName mX0_offer.1.cls = true := by decide +kernel
theorem inX0_offer : Cond.instanceMethod mX0_offer.1 ∈ TB := tb_in 701 (by decide +kernel) rfl
theorem seX0_offer : Cond.selects mX0_offer.1.cls mX0_offer.1 mX0_offer.1 ∈ TB := tb_in 15 (by decide +kernel) rfl
theorem okX1_init : mOK mX1_init 0 := ⟨tb_in 359 (by decide +kernel) rfl, tb_in 64 (by decide +kernel) rfl, by decide +kernel⟩
theorem pyX1_init : plainName mX1_init.1.cls = true := by decide +kernel
theorem inX1_init : Cond.instanceMethod mX1_init.1 ∈ TB := tb_in 358 (by decide +kernel) rfl
theorem okX1_hold : mOK mX1_hold 2 := ⟨tb_in 710 (by decide +kernel) rfl, tb_in 64 (by decide +kernel) rfl, by decide +kernel⟩
theorem pyX1_hold : plainName mX1_hold.1.cls = true := by decide +kernel
theorem inX1_hold : Cond.instanceMethod mX1_hold.1 ∈ TB := tb_in 708 (by decide +kernel) rfl
theorem seX1_hold : Cond.selects mX1_hold.1.cls mX1_hold.1 mX1_hold.1 ∈ TB := tb_in 709 (by decide +kernel) rfl
theorem okX1_giveBack : mOK mX1_giveBack 2 := ⟨tb_in 726 (by decide +kernel) rfl, tb_in 64 (by decide +kernel) rfl, by decide +kernel⟩
theorem pyX1_giveBack : plainName mX1_giveBack.1.cls = true := by decide +kernel
theorem inX1_giveBack : Cond.instanceMethod mX1_giveBack.1 ∈ TB := tb_in 724 (by decide +kernel) rfl
theorem seX1_giveBack : Cond.selects mX1_giveBack.1.cls mX1_giveBack.1 mX1_giveBack.1 ∈ TB := tb_in 725 (by decide +kernel) rfl
theorem okX2_init : mOK mX2_init 1 := ⟨tb_in 234 (by decide +kernel) rfl, tb_in 61 (by decide +kernel) rfl, by decide +kernel⟩
theorem pyX2_init : plainName mX2_init.1.cls = true := by decide +kernel
theorem inX2_init : Cond.instanceMethod mX2_init.1 ∈ TB := tb_in 233 (by decide +kernel) rfl
theorem okX2_add : mOK mX2_add 2 := ⟨tb_in 484 (by decide +kernel) rfl, tb_in 61 (by decide +kernel) rfl, by decide +kernel⟩
theorem pyX2_add : plainName mX2_add.1.cls = true := by decide +kernel
theorem inX2_add : Cond.instanceMethod mX2_add.1 ∈ TB := tb_in 482 (by decide +kernel) rfl
theorem seX2_add : Cond.selects mX2_add.1.cls mX2_add.1 mX2_add.1 ∈ TB := tb_in 483 (by decide +kernel) rfl
theorem okX2_ahead : mOK mX2_ahead 1 := ⟨tb_in 511 (by decide +kernel) rfl, tb_in 61 (by decide +kernel) rfl, by decide +kernel⟩
theorem pyX2_ahead : plainName mX2_ahead.1.cls = true := by decide +kernel
theorem inX2_ahead : Cond.instanceMethod mX2_ahead.1 ∈ TB := tb_in 509 (by decide +kernel) rfl
theorem seX2_ahead : Cond.selects mX2_ahead.1.cls mX2_ahead.1 mX2_ahead.1 ∈ TB := tb_in 510 (by decide +kernel) rfl
theorem okX2_sum : mOK mX2_sum 2 := ⟨tb_in 495 (by decide +kernel) rfl, tb_in 61 (by decide +kernel) rfl, by decide +kernel⟩
theorem pyX2_sum : plainName mX2_sum.1.cls = true := by decide +kernel
theorem inX2_sum : Cond.instanceMethod mX2_sum.1 ∈ TB := tb_in 493 (by decide +kernel) rfl
theorem seX2_sum : Cond.selects mX2_sum.1.cls mX2_sum.1 mX2_sum.1 ∈ TB := tb_in 494 (by decide +kernel) rfl
theorem okX2_holds : mOK mX2_holds 2 := ⟨tb_in 542 (by decide +kernel) rfl, tb_in 61 (by decide +kernel) rfl, by decide +kernel⟩
theorem pyX2_holds : plainName mX2_holds.1.cls = true := by decide +kernel
theorem inX2_holds : Cond.instanceMethod mX2_holds.1 ∈ TB := tb_in 540 (by decide +kernel) rfl
theorem seX2_holds : Cond.selects mX2_holds.1.cls mX2_holds.1 mX2_holds.1 ∈ TB := tb_in 541 (by decide +kernel) rfl
theorem okX3_init : mOK mX3_init 0 := ⟨tb_in 228 (by decide +kernel) rfl, tb_in 60 (by decide +kernel) rfl, by decide +kernel⟩
theorem pyX3_init : plainName mX3_init.1.cls = true := by decide +kernel
theorem inX3_init : Cond.instanceMethod mX3_init.1 ∈ TB := tb_in 227 (by decide +kernel) rfl
theorem okX3_empty : mOK mX3_empty 0 := ⟨tb_in 476 (by decide +kernel) rfl, tb_in 60 (by decide +kernel) rfl, by decide +kernel⟩
theorem pyX3_empty : plainName mX3_empty.1.cls = true := by decide +kernel
theorem inX3_empty : Cond.instanceMethod mX3_empty.1 ∈ TB := tb_in 474 (by decide +kernel) rfl
theorem seX3_empty : Cond.selects mX3_empty.1.cls mX3_empty.1 mX3_empty.1 ∈ TB := tb_in 475 (by decide +kernel) rfl
theorem okX3_put : mOK mX3_put 3 := ⟨tb_in 480 (by decide +kernel) rfl, tb_in 60 (by decide +kernel) rfl, by decide +kernel⟩
theorem pyX3_put : plainName mX3_put.1.cls = true := by decide +kernel
theorem inX3_put : Cond.instanceMethod mX3_put.1 ∈ TB := tb_in 478 (by decide +kernel) rfl
theorem seX3_put : Cond.selects mX3_put.1.cls mX3_put.1 mX3_put.1 ∈ TB := tb_in 479 (by decide +kernel) rfl
theorem okX3_meet : mOK mX3_meet 2 := ⟨tb_in 472 (by decide +kernel) rfl, tb_in 60 (by decide +kernel) rfl, by decide +kernel⟩
theorem pyX3_meet : plainName mX3_meet.1.cls = true := by decide +kernel
theorem inX3_meet : Cond.instanceMethod mX3_meet.1 ∈ TB := tb_in 470 (by decide +kernel) rfl
theorem seX3_meet : Cond.selects mX3_meet.1.cls mX3_meet.1 mX3_meet.1 ∈ TB := tb_in 471 (by decide +kernel) rfl
theorem okX3_cross : mOK mX3_cross 1 := ⟨tb_in 488 (by decide +kernel) rfl, tb_in 60 (by decide +kernel) rfl, by decide +kernel⟩
theorem pyX3_cross : plainName mX3_cross.1.cls = true := by decide +kernel
theorem inX3_cross : Cond.instanceMethod mX3_cross.1 ∈ TB := tb_in 486 (by decide +kernel) rfl
theorem seX3_cross : Cond.selects mX3_cross.1.cls mX3_cross.1 mX3_cross.1 ∈ TB := tb_in 487 (by decide +kernel) rfl
theorem okX3_price : mOK mX3_price 1 := ⟨tb_in 502 (by decide +kernel) rfl, tb_in 60 (by decide +kernel) rfl, by decide +kernel⟩
theorem pyX3_price : plainName mX3_price.1.cls = true := by decide +kernel
theorem inX3_price : Cond.instanceMethod mX3_price.1 ∈ TB := tb_in 501 (by decide +kernel) rfl
theorem seX3_price : Cond.selects mX3_price.1.cls mX3_price.1 mX3_price.1 ∈ TB := tb_in 0 (by decide +kernel) rfl
theorem okX3_trades : mOK mX3_trades 2 := ⟨tb_in 538 (by decide +kernel) rfl, tb_in 60 (by decide +kernel) rfl, by decide +kernel⟩
theorem pyX3_trades : plainName mX3_trades.1.cls = true := by decide +kernel
theorem inX3_trades : Cond.instanceMethod mX3_trades.1 ∈ TB := tb_in 536 (by decide +kernel) rfl
theorem seX3_trades : Cond.selects mX3_trades.1.cls mX3_trades.1 mX3_trades.1 ∈ TB := tb_in 537 (by decide +kernel) rfl
theorem okX4_init : mOK mX4_init 0 := ⟨tb_in 198 (by decide +kernel) rfl, tb_in 59 (by decide +kernel) rfl, by decide +kernel⟩
theorem pyX4_init : plainName mX4_init.1.cls = true := by decide +kernel
theorem inX4_init : Cond.instanceMethod mX4_init.1 ∈ TB := tb_in 197 (by decide +kernel) rfl
theorem okX4_add : mOK mX4_add 4 := ⟨tb_in 600 (by decide +kernel) rfl, tb_in 59 (by decide +kernel) rfl, by decide +kernel⟩
theorem pyX4_add : plainName mX4_add.1.cls = true := by decide +kernel
theorem inX4_add : Cond.instanceMethod mX4_add.1 ∈ TB := tb_in 598 (by decide +kernel) rfl
theorem seX4_add : Cond.selects mX4_add.1.cls mX4_add.1 mX4_add.1 ∈ TB := tb_in 599 (by decide +kernel) rfl
theorem okX4_copy : mOK mX4_copy 1 := ⟨tb_in 717 (by decide +kernel) rfl, tb_in 59 (by decide +kernel) rfl, by decide +kernel⟩
theorem pyX4_copy : plainName mX4_copy.1.cls = true := by decide +kernel
theorem inX4_copy : Cond.instanceMethod mX4_copy.1 ∈ TB := tb_in 715 (by decide +kernel) rfl
theorem seX4_copy : Cond.selects mX4_copy.1.cls mX4_copy.1 mX4_copy.1 ∈ TB := tb_in 716 (by decide +kernel) rfl
theorem okX4_seenOf : mOK mX4_seenOf 2 := ⟨tb_in 669 (by decide +kernel) rfl, tb_in 59 (by decide +kernel) rfl, by decide +kernel⟩
theorem pyX4_seenOf : plainName mX4_seenOf.1.cls = true := by decide +kernel
theorem inX4_seenOf : Cond.instanceMethod mX4_seenOf.1 ∈ TB := tb_in 667 (by decide +kernel) rfl
theorem seX4_seenOf : Cond.selects mX4_seenOf.1.cls mX4_seenOf.1 mX4_seenOf.1 ∈ TB := tb_in 668 (by decide +kernel) rfl
theorem okX4_mayBeBy : mOK mX4_mayBeBy 3 := ⟨tb_in 683 (by decide +kernel) rfl, tb_in 59 (by decide +kernel) rfl, by decide +kernel⟩
theorem pyX4_mayBeBy : plainName mX4_mayBeBy.1.cls = true := by decide +kernel
theorem inX4_mayBeBy : Cond.instanceMethod mX4_mayBeBy.1 ∈ TB := tb_in 681 (by decide +kernel) rfl
theorem seX4_mayBeBy : Cond.selects mX4_mayBeBy.1.cls mX4_mayBeBy.1 mX4_mayBeBy.1 ∈ TB := tb_in 682 (by decide +kernel) rfl
theorem okX5_init : mOK mX5_init 0 := ⟨tb_in 98 (by decide +kernel) rfl, tb_in 57 (by decide +kernel) rfl, by decide +kernel⟩
theorem pyX5_init : plainName mX5_init.1.cls = true := by decide +kernel
theorem inX5_init : Cond.instanceMethod mX5_init.1 ∈ TB := tb_in 97 (by decide +kernel) rfl
theorem okX5_read : mOK mX5_read 2 := ⟨tb_in 434 (by decide +kernel) rfl, tb_in 57 (by decide +kernel) rfl, by decide +kernel⟩
theorem pyX5_read : plainName mX5_read.1.cls = true := by decide +kernel
theorem inX5_read : Cond.instanceMethod mX5_read.1 ∈ TB := tb_in 432 (by decide +kernel) rfl
theorem seX5_read : Cond.selects mX5_read.1.cls mX5_read.1 mX5_read.1 ∈ TB := tb_in 433 (by decide +kernel) rfl
theorem okX5_split : mOK mX5_split 2 := ⟨tb_in 439 (by decide +kernel) rfl, tb_in 57 (by decide +kernel) rfl, by decide +kernel⟩
theorem pyX5_split : plainName mX5_split.1.cls = true := by decide +kernel
theorem inX5_split : Cond.instanceMethod mX5_split.1 ∈ TB := tb_in 437 (by decide +kernel) rfl
theorem seX5_split : Cond.selects mX5_split.1.cls mX5_split.1 mX5_split.1 ∈ TB := tb_in 438 (by decide +kernel) rfl
theorem okX5_take : mOK mX5_take 2 := ⟨tb_in 443 (by decide +kernel) rfl, tb_in 57 (by decide +kernel) rfl, by decide +kernel⟩
theorem pyX5_take : plainName mX5_take.1.cls = true := by decide +kernel
theorem inX5_take : Cond.instanceMethod mX5_take.1 ∈ TB := tb_in 441 (by decide +kernel) rfl
theorem seX5_take : Cond.selects mX5_take.1.cls mX5_take.1 mX5_take.1 ∈ TB := tb_in 442 (by decide +kernel) rfl
theorem okX6_init : mOK mX6_init 0 := ⟨tb_in 114 (by decide +kernel) rfl, tb_in 58 (by decide +kernel) rfl, by decide +kernel⟩
theorem pyX6_init : plainName mX6_init.1.cls = true := by decide +kernel
theorem inX6_init : Cond.instanceMethod mX6_init.1 ∈ TB := tb_in 113 (by decide +kernel) rfl
theorem okX6_empty : mOK mX6_empty 0 := ⟨tb_in 119 (by decide +kernel) rfl, tb_in 58 (by decide +kernel) rfl, by decide +kernel⟩
theorem pyX6_empty : plainName mX6_empty.1.cls = true := by decide +kernel
theorem inX6_empty : Cond.instanceMethod mX6_empty.1 ∈ TB := tb_in 117 (by decide +kernel) rfl
theorem seX6_empty : Cond.selects mX6_empty.1.cls mX6_empty.1 mX6_empty.1 ∈ TB := tb_in 118 (by decide +kernel) rfl
theorem okX6_has : mOK mX6_has 1 := ⟨tb_in 460 (by decide +kernel) rfl, tb_in 58 (by decide +kernel) rfl, by decide +kernel⟩
theorem pyX6_has : plainName mX6_has.1.cls = true := by decide +kernel
theorem inX6_has : Cond.instanceMethod mX6_has.1 ∈ TB := tb_in 458 (by decide +kernel) rfl
theorem seX6_has : Cond.selects mX6_has.1.cls mX6_has.1 mX6_has.1 ∈ TB := tb_in 459 (by decide +kernel) rfl
theorem okX6_addPerson : mOK mX6_addPerson 3 := ⟨tb_in 373 (by decide +kernel) rfl, tb_in 58 (by decide +kernel) rfl, by decide +kernel⟩
theorem pyX6_addPerson : plainName mX6_addPerson.1.cls = true := by decide +kernel
theorem inX6_addPerson : Cond.instanceMethod mX6_addPerson.1 ∈ TB := tb_in 371 (by decide +kernel) rfl
theorem seX6_addPerson : Cond.selects mX6_addPerson.1.cls mX6_addPerson.1 mX6_addPerson.1 ∈ TB := tb_in 372 (by decide +kernel) rfl
theorem okX6_set : mOK mX6_set 2 := ⟨tb_in 448 (by decide +kernel) rfl, tb_in 58 (by decide +kernel) rfl, by decide +kernel⟩
theorem pyX6_set : plainName mX6_set.1.cls = true := by decide +kernel
theorem inX6_set : Cond.instanceMethod mX6_set.1 ∈ TB := tb_in 446 (by decide +kernel) rfl
theorem seX6_set : Cond.selects mX6_set.1.cls mX6_set.1 mX6_set.1 ∈ TB := tb_in 447 (by decide +kernel) rfl
theorem okX7_init : mOK mX7_init 0 := ⟨tb_in 288 (by decide +kernel) rfl, tb_in 62 (by decide +kernel) rfl, by decide +kernel⟩
theorem pyX7_init : plainName mX7_init.1.cls = true := by decide +kernel
theorem inX7_init : Cond.instanceMethod mX7_init.1 ∈ TB := tb_in 287 (by decide +kernel) rfl
theorem okX7_play : mOK mX7_play 4 := ⟨tb_in 557 (by decide +kernel) rfl, tb_in 62 (by decide +kernel) rfl, by decide +kernel⟩
theorem pyX7_play : plainName mX7_play.1.cls = true := by decide +kernel
theorem inX7_play : Cond.instanceMethod mX7_play.1 ∈ TB := tb_in 555 (by decide +kernel) rfl
theorem seX7_play : Cond.selects mX7_play.1.cls mX7_play.1 mX7_play.1 ∈ TB := tb_in 556 (by decide +kernel) rfl
theorem okX7_wanders : mOK mX7_wanders 0 := ⟨tb_in 637 (by decide +kernel) rfl, tb_in 62 (by decide +kernel) rfl, by decide +kernel⟩
theorem pyX7_wanders : plainName mX7_wanders.1.cls = true := by decide +kernel
theorem inX7_wanders : Cond.instanceMethod mX7_wanders.1 ∈ TB := tb_in 635 (by decide +kernel) rfl
theorem seX7_wanders : Cond.selects mX7_wanders.1.cls mX7_wanders.1 mX7_wanders.1 ∈ TB := tb_in 636 (by decide +kernel) rfl
theorem okX7_draw : mOK mX7_draw 2 := ⟨tb_in 565 (by decide +kernel) rfl, tb_in 62 (by decide +kernel) rfl, by decide +kernel⟩
theorem pyX7_draw : plainName mX7_draw.1.cls = true := by decide +kernel
theorem inX7_draw : Cond.instanceMethod mX7_draw.1 ∈ TB := tb_in 564 (by decide +kernel) rfl
theorem seX7_draw : Cond.selects mX7_draw.1.cls mX7_draw.1 mX7_draw.1 ∈ TB := tb_in 4 (by decide +kernel) rfl
theorem okX7_rest : mOK mX7_rest 2 := ⟨tb_in 572 (by decide +kernel) rfl, tb_in 62 (by decide +kernel) rfl, by decide +kernel⟩
theorem pyX7_rest : plainName mX7_rest.1.cls = true := by decide +kernel
theorem stX7_rest : Cond.static mX7_rest.1 ∈ TB := tb_in 571 (by decide +kernel) rfl
theorem okX7_tells : mOK mX7_tells 4 := ⟨tb_in 576 (by decide +kernel) rfl, tb_in 62 (by decide +kernel) rfl, by decide +kernel⟩
theorem pyX7_tells : plainName mX7_tells.1.cls = true := by decide +kernel
theorem inX7_tells : Cond.instanceMethod mX7_tells.1 ∈ TB := tb_in 575 (by decide +kernel) rfl
theorem seX7_tells : Cond.selects mX7_tells.1.cls mX7_tells.1 mX7_tells.1 ∈ TB := tb_in 5 (by decide +kernel) rfl
theorem okX7_trade : mOK mX7_trade 5 := ⟨tb_in 608 (by decide +kernel) rfl, tb_in 62 (by decide +kernel) rfl, by decide +kernel⟩
theorem pyX7_trade : plainName mX7_trade.1.cls = true := by decide +kernel
theorem inX7_trade : Cond.instanceMethod mX7_trade.1 ∈ TB := tb_in 607 (by decide +kernel) rfl
theorem seX7_trade : Cond.selects mX7_trade.1.cls mX7_trade.1 mX7_trade.1 ∈ TB := tb_in 7 (by decide +kernel) rfl
theorem okX7_playShouts : mOK mX7_playShouts 2 := ⟨tb_in 561 (by decide +kernel) rfl, tb_in 62 (by decide +kernel) rfl, by decide +kernel⟩
theorem pyX7_playShouts : plainName mX7_playShouts.1.cls = true := by decide +kernel
theorem inX7_playShouts : Cond.instanceMethod mX7_playShouts.1 ∈ TB := tb_in 560 (by decide +kernel) rfl
theorem seX7_playShouts : Cond.selects mX7_playShouts.1.cls mX7_playShouts.1 mX7_playShouts.1 ∈ TB := tb_in 3 (by decide +kernel) rfl
theorem okX7_hearBid : mOK mX7_hearBid 4 := ⟨tb_in 614 (by decide +kernel) rfl, tb_in 62 (by decide +kernel) rfl, by decide +kernel⟩
theorem pyX7_hearBid : plainName mX7_hearBid.1.cls = true := by decide +kernel
theorem inX7_hearBid : Cond.instanceMethod mX7_hearBid.1 ∈ TB := tb_in 613 (by decide +kernel) rfl
theorem seX7_hearBid : Cond.selects mX7_hearBid.1.cls mX7_hearBid.1 mX7_hearBid.1 ∈ TB := tb_in 8 (by decide +kernel) rfl
theorem okX7_hearOffer : mOK mX7_hearOffer 4 := ⟨tb_in 604 (by decide +kernel) rfl, tb_in 62 (by decide +kernel) rfl, by decide +kernel⟩
theorem pyX7_hearOffer : plainName mX7_hearOffer.1.cls = true := by decide +kernel
theorem inX7_hearOffer : Cond.instanceMethod mX7_hearOffer.1 ∈ TB := tb_in 603 (by decide +kernel) rfl
theorem seX7_hearOffer : Cond.selects mX7_hearOffer.1.cls mX7_hearOffer.1 mX7_hearOffer.1 ∈ TB := tb_in 6 (by decide +kernel) rfl
theorem okX7_playPairs : mOK mX7_playPairs 1 := ⟨tb_in 618 (by decide +kernel) rfl, tb_in 62 (by decide +kernel) rfl, by decide +kernel⟩
theorem pyX7_playPairs : plainName mX7_playPairs.1.cls = true := by decide +kernel
theorem inX7_playPairs : Cond.instanceMethod mX7_playPairs.1 ∈ TB := tb_in 617 (by decide +kernel) rfl
theorem seX7_playPairs : Cond.selects mX7_playPairs.1.cls mX7_playPairs.1 mX7_playPairs.1 ∈ TB := tb_in 9 (by decide +kernel) rfl
theorem okX7_playPosted : mOK mX7_playPosted 1 := ⟨tb_in 622 (by decide +kernel) rfl, tb_in 62 (by decide +kernel) rfl, by decide +kernel⟩
theorem pyX7_playPosted : plainName mX7_playPosted.1.cls = true := by decide +kernel
theorem inX7_playPosted : Cond.instanceMethod mX7_playPosted.1 ∈ TB := tb_in 621 (by decide +kernel) rfl
theorem seX7_playPosted : Cond.selects mX7_playPosted.1.cls mX7_playPosted.1 mX7_playPosted.1 ∈ TB := tb_in 10 (by decide +kernel) rfl
theorem okX7_cheapestLeft : mOK mX7_cheapestLeft 1 := ⟨tb_in 626 (by decide +kernel) rfl, tb_in 62 (by decide +kernel) rfl, by decide +kernel⟩
theorem pyX7_cheapestLeft : plainName mX7_cheapestLeft.1.cls = true := by decide +kernel
theorem inX7_cheapestLeft : Cond.instanceMethod mX7_cheapestLeft.1 ∈ TB := tb_in 625 (by decide +kernel) rfl
theorem seX7_cheapestLeft : Cond.selects mX7_cheapestLeft.1.cls mX7_cheapestLeft.1 mX7_cheapestLeft.1 ∈ TB := tb_in 11 (by decide +kernel) rfl
theorem okX7_playBell : mOK mX7_playBell 1 := ⟨tb_in 630 (by decide +kernel) rfl, tb_in 62 (by decide +kernel) rfl, by decide +kernel⟩
theorem pyX7_playBell : plainName mX7_playBell.1.cls = true := by decide +kernel
theorem inX7_playBell : Cond.instanceMethod mX7_playBell.1 ∈ TB := tb_in 629 (by decide +kernel) rfl
theorem seX7_playBell : Cond.selects mX7_playBell.1.cls mX7_playBell.1 mX7_playBell.1 ∈ TB := tb_in 12 (by decide +kernel) rfl
theorem okX8_init : mOK mX8_init 0 := ⟨tb_in 81 (by decide +kernel) rfl, tb_in 56 (by decide +kernel) rfl, by decide +kernel⟩
theorem pyX8_init : plainName mX8_init.1.cls = true := by decide +kernel
theorem inX8_init : Cond.instanceMethod mX8_init.1 ∈ TB := tb_in 80 (by decide +kernel) rfl
theorem okX8_add : mOK mX8_add 1 := ⟨tb_in 422 (by decide +kernel) rfl, tb_in 56 (by decide +kernel) rfl, by decide +kernel⟩
theorem pyX8_add : plainName mX8_add.1.cls = true := by decide +kernel
theorem inX8_add : Cond.instanceMethod mX8_add.1 ∈ TB := tb_in 420 (by decide +kernel) rfl
theorem seX8_add : Cond.selects mX8_add.1.cls mX8_add.1 mX8_add.1 ∈ TB := tb_in 421 (by decide +kernel) rfl
theorem okX9_span : mOK mX9_span 4 := ⟨tb_in 579 (by decide +kernel) rfl, tb_in 67 (by decide +kernel) rfl, by decide +kernel⟩
theorem pyX9_span : plainName mX9_span.1.cls = true := by decide +kernel
theorem stX9_span : Cond.static mX9_span.1 ∈ TB := tb_in 578 (by decide +kernel) rfl
theorem okX9_by : mOK mX9_by 6 := ⟨tb_in 582 (by decide +kernel) rfl, tb_in 67 (by decide +kernel) rfl, by decide +kernel⟩
theorem pyX9_by : plainName mX9_by.1.cls = true := by decide +kernel
theorem stX9_by : Cond.static mX9_by.1 ∈ TB := tb_in 581 (by decide +kernel) rfl
theorem okX9_near : mOK mX9_near 4 := ⟨tb_in 585 (by decide +kernel) rfl, tb_in 67 (by decide +kernel) rfl, by decide +kernel⟩
theorem pyX9_near : plainName mX9_near.1.cls = true := by decide +kernel
theorem stX9_near : Cond.static mX9_near.1 ∈ TB := tb_in 584 (by decide +kernel) rfl
theorem okX9_share : mOK mX9_share 3 := ⟨tb_in 590 (by decide +kernel) rfl, tb_in 67 (by decide +kernel) rfl, by decide +kernel⟩
theorem pyX9_share : plainName mX9_share.1.cls = true := by decide +kernel
theorem stX9_share : Cond.static mX9_share.1 ∈ TB := tb_in 589 (by decide +kernel) rfl
theorem okX9_underLid : mOK mX9_underLid 3 := ⟨tb_in 593 (by decide +kernel) rfl, tb_in 67 (by decide +kernel) rfl, by decide +kernel⟩
theorem pyX9_underLid : plainName mX9_underLid.1.cls = true := by decide +kernel
theorem stX9_underLid : Cond.static mX9_underLid.1 ∈ TB := tb_in 592 (by decide +kernel) rfl
theorem okX9_isHeard : mOK mX9_isHeard 3 := ⟨tb_in 596 (by decide +kernel) rfl, tb_in 67 (by decide +kernel) rfl, by decide +kernel⟩
theorem pyX9_isHeard : plainName mX9_isHeard.1.cls = true := by decide +kernel
theorem stX9_isHeard : Cond.static mX9_isHeard.1 ∈ TB := tb_in 595 (by decide +kernel) rfl
theorem okX10_init : mOK mX10_init 0 := ⟨tb_in 73 (by decide +kernel) rfl, tb_in 55 (by decide +kernel) rfl, by decide +kernel⟩
theorem pyX10_init : plainName mX10_init.1.cls = true := by decide +kernel
theorem inX10_init : Cond.instanceMethod mX10_init.1 ∈ TB := tb_in 72 (by decide +kernel) rfl
theorem okX10_write : mOK mX10_write 2 := ⟨tb_in 417 (by decide +kernel) rfl, tb_in 55 (by decide +kernel) rfl, by decide +kernel⟩
theorem pyX10_write : plainName mX10_write.1.cls = true := by decide +kernel
theorem inX10_write : Cond.instanceMethod mX10_write.1 ∈ TB := tb_in 415 (by decide +kernel) rfl
theorem seX10_write : Cond.selects mX10_write.1.cls mX10_write.1 mX10_write.1 ∈ TB := tb_in 416 (by decide +kernel) rfl
theorem okX10_wipe : mOK mX10_wipe 0 := ⟨tb_in 426 (by decide +kernel) rfl, tb_in 55 (by decide +kernel) rfl, by decide +kernel⟩
theorem pyX10_wipe : plainName mX10_wipe.1.cls = true := by decide +kernel
theorem inX10_wipe : Cond.instanceMethod mX10_wipe.1 ∈ TB := tb_in 424 (by decide +kernel) rfl
theorem seX10_wipe : Cond.selects mX10_wipe.1.cls mX10_wipe.1 mX10_wipe.1 ∈ TB := tb_in 425 (by decide +kernel) rfl
theorem okX10_fault : mOK mX10_fault 0 := ⟨tb_in 430 (by decide +kernel) rfl, tb_in 55 (by decide +kernel) rfl, by decide +kernel⟩
theorem pyX10_fault : plainName mX10_fault.1.cls = true := by decide +kernel
theorem inX10_fault : Cond.instanceMethod mX10_fault.1 ∈ TB := tb_in 428 (by decide +kernel) rfl
theorem seX10_fault : Cond.selects mX10_fault.1.cls mX10_fault.1 mX10_fault.1 ∈ TB := tb_in 429 (by decide +kernel) rfl
theorem okX10_lay : mOK mX10_lay 0 := ⟨tb_in 452 (by decide +kernel) rfl, tb_in 55 (by decide +kernel) rfl, by decide +kernel⟩
theorem pyX10_lay : plainName mX10_lay.1.cls = true := by decide +kernel
theorem inX10_lay : Cond.instanceMethod mX10_lay.1 ∈ TB := tb_in 450 (by decide +kernel) rfl
theorem seX10_lay : Cond.selects mX10_lay.1.cls mX10_lay.1 mX10_lay.1 ∈ TB := tb_in 451 (by decide +kernel) rfl
theorem okX10_person : mOK mX10_person 2 := ⟨tb_in 456 (by decide +kernel) rfl, tb_in 55 (by decide +kernel) rfl, by decide +kernel⟩
theorem pyX10_person : plainName mX10_person.1.cls = true := by decide +kernel
theorem inX10_person : Cond.instanceMethod mX10_person.1 ∈ TB := tb_in 454 (by decide +kernel) rfl
theorem seX10_person : Cond.selects mX10_person.1.cls mX10_person.1 mX10_person.1 ∈ TB := tb_in 455 (by decide +kernel) rfl
theorem okX10_law : mOK mX10_law 2 := ⟨tb_in 464 (by decide +kernel) rfl, tb_in 55 (by decide +kernel) rfl, by decide +kernel⟩
theorem pyX10_law : plainName mX10_law.1.cls = true := by decide +kernel
theorem inX10_law : Cond.instanceMethod mX10_law.1 ∈ TB := tb_in 462 (by decide +kernel) rfl
theorem seX10_law : Cond.selects mX10_law.1.cls mX10_law.1 mX10_law.1 ∈ TB := tb_in 463 (by decide +kernel) rfl
theorem okX10_lines : mOK mX10_lines 1 := ⟨tb_in 468 (by decide +kernel) rfl, tb_in 55 (by decide +kernel) rfl, by decide +kernel⟩
theorem pyX10_lines : plainName mX10_lines.1.cls = true := by decide +kernel
theorem inX10_lines : Cond.instanceMethod mX10_lines.1 ∈ TB := tb_in 466 (by decide +kernel) rfl
theorem seX10_lines : Cond.selects mX10_lines.1.cls mX10_lines.1 mX10_lines.1 ∈ TB := tb_in 467 (by decide +kernel) rfl
theorem okX10_served : mOK mX10_served 1 := ⟨tb_in 507 (by decide +kernel) rfl, tb_in 55 (by decide +kernel) rfl, by decide +kernel⟩
theorem pyX10_served : plainName mX10_served.1.cls = true := by decide +kernel
theorem inX10_served : Cond.instanceMethod mX10_served.1 ∈ TB := tb_in 505 (by decide +kernel) rfl
theorem seX10_served : Cond.selects mX10_served.1.cls mX10_served.1 mX10_served.1 ∈ TB := tb_in 506 (by decide +kernel) rfl
theorem okX10_pairs : mOK mX10_pairs 1 := ⟨tb_in 517 (by decide +kernel) rfl, tb_in 55 (by decide +kernel) rfl, by decide +kernel⟩
theorem pyX10_pairs : plainName mX10_pairs.1.cls = true := by decide +kernel
theorem inX10_pairs : Cond.instanceMethod mX10_pairs.1 ∈ TB := tb_in 515 (by decide +kernel) rfl
theorem seX10_pairs : Cond.selects mX10_pairs.1.cls mX10_pairs.1 mX10_pairs.1 ∈ TB := tb_in 516 (by decide +kernel) rfl
theorem okX10_bell : mOK mX10_bell 2 := ⟨tb_in 527 (by decide +kernel) rfl, tb_in 55 (by decide +kernel) rfl, by decide +kernel⟩
theorem pyX10_bell : plainName mX10_bell.1.cls = true := by decide +kernel
theorem inX10_bell : Cond.instanceMethod mX10_bell.1 ∈ TB := tb_in 525 (by decide +kernel) rfl
theorem seX10_bell : Cond.selects mX10_bell.1.cls mX10_bell.1 mX10_bell.1 ∈ TB := tb_in 526 (by decide +kernel) rfl
theorem okX10_best : mOK mX10_best 2 := ⟨tb_in 546 (by decide +kernel) rfl, tb_in 55 (by decide +kernel) rfl, by decide +kernel⟩
theorem pyX10_best : plainName mX10_best.1.cls = true := by decide +kernel
theorem inX10_best : Cond.instanceMethod mX10_best.1 ∈ TB := tb_in 544 (by decide +kernel) rfl
theorem seX10_best : Cond.selects mX10_best.1.cls mX10_best.1 mX10_best.1 ∈ TB := tb_in 545 (by decide +kernel) rfl
theorem okX10_round : mOK mX10_round 3 := ⟨tb_in 553 (by decide +kernel) rfl, tb_in 55 (by decide +kernel) rfl, by decide +kernel⟩
theorem pyX10_round : plainName mX10_round.1.cls = true := by decide +kernel
theorem inX10_round : Cond.instanceMethod mX10_round.1 ∈ TB := tb_in 551 (by decide +kernel) rfl
theorem seX10_round : Cond.selects mX10_round.1.cls mX10_round.1 mX10_round.1 ∈ TB := tb_in 552 (by decide +kernel) rfl
theorem okX10_of : mOK mX10_of 3 := ⟨tb_in 641 (by decide +kernel) rfl, tb_in 55 (by decide +kernel) rfl, by decide +kernel⟩
theorem pyX10_of : plainName mX10_of.1.cls = true := by decide +kernel
theorem inX10_of : Cond.instanceMethod mX10_of.1 ∈ TB := tb_in 639 (by decide +kernel) rfl
theorem seX10_of : Cond.selects mX10_of.1.cls mX10_of.1 mX10_of.1 ∈ TB := tb_in 640 (by decide +kernel) rfl
theorem okX10_means : mOK mX10_means 3 := ⟨tb_in 645 (by decide +kernel) rfl, tb_in 55 (by decide +kernel) rfl, by decide +kernel⟩
theorem pyX10_means : plainName mX10_means.1.cls = true := by decide +kernel
theorem inX10_means : Cond.instanceMethod mX10_means.1 ∈ TB := tb_in 643 (by decide +kernel) rfl
theorem seX10_means : Cond.selects mX10_means.1.cls mX10_means.1 mX10_means.1 ∈ TB := tb_in 644 (by decide +kernel) rfl
theorem okX10_rules : mOK mX10_rules 2 := ⟨tb_in 653 (by decide +kernel) rfl, tb_in 55 (by decide +kernel) rfl, by decide +kernel⟩
theorem pyX10_rules : plainName mX10_rules.1.cls = true := by decide +kernel
theorem inX10_rules : Cond.instanceMethod mX10_rules.1 ∈ TB := tb_in 651 (by decide +kernel) rfl
theorem seX10_rules : Cond.selects mX10_rules.1.cls mX10_rules.1 mX10_rules.1 ∈ TB := tb_in 652 (by decide +kernel) rfl
theorem okX10_shout : mOK mX10_shout 2 := ⟨tb_in 661 (by decide +kernel) rfl, tb_in 55 (by decide +kernel) rfl, by decide +kernel⟩
theorem pyX10_shout : plainName mX10_shout.1.cls = true := by decide +kernel
theorem inX10_shout : Cond.instanceMethod mX10_shout.1 ∈ TB := tb_in 659 (by decide +kernel) rfl
theorem seX10_shout : Cond.selects mX10_shout.1.cls mX10_shout.1 mX10_shout.1 ∈ TB := tb_in 660 (by decide +kernel) rfl
theorem okX10_known : mOK mX10_known 1 := ⟨tb_in 665 (by decide +kernel) rfl, tb_in 55 (by decide +kernel) rfl, by decide +kernel⟩
theorem pyX10_known : plainName mX10_known.1.cls = true := by decide +kernel
theorem inX10_known : Cond.instanceMethod mX10_known.1 ∈ TB := tb_in 663 (by decide +kernel) rfl
theorem seX10_known : Cond.selects mX10_known.1.cls mX10_known.1 mX10_known.1 ∈ TB := tb_in 664 (by decide +kernel) rfl
theorem okX10_least : mOK mX10_least 1 := ⟨tb_in 675 (by decide +kernel) rfl, tb_in 55 (by decide +kernel) rfl, by decide +kernel⟩
theorem pyX10_least : plainName mX10_least.1.cls = true := by decide +kernel
theorem inX10_least : Cond.instanceMethod mX10_least.1 ∈ TB := tb_in 673 (by decide +kernel) rfl
theorem seX10_least : Cond.selects mX10_least.1.cls mX10_least.1 mX10_least.1 ∈ TB := tb_in 674 (by decide +kernel) rfl
theorem okX10_laws : mOK mX10_laws 1 := ⟨tb_in 679 (by decide +kernel) rfl, tb_in 55 (by decide +kernel) rfl, by decide +kernel⟩
theorem pyX10_laws : plainName mX10_laws.1.cls = true := by decide +kernel
theorem inX10_laws : Cond.instanceMethod mX10_laws.1 ∈ TB := tb_in 677 (by decide +kernel) rfl
theorem seX10_laws : Cond.selects mX10_laws.1.cls mX10_laws.1 mX10_laws.1 ∈ TB := tb_in 678 (by decide +kernel) rfl
theorem okX10_two : mOK mX10_two 3 := ⟨tb_in 691 (by decide +kernel) rfl, tb_in 55 (by decide +kernel) rfl, by decide +kernel⟩
theorem pyX10_two : plainName mX10_two.1.cls = true := by decide +kernel
theorem inX10_two : Cond.instanceMethod mX10_two.1 ∈ TB := tb_in 689 (by decide +kernel) rfl
theorem seX10_two : Cond.selects mX10_two.1.cls mX10_two.1 mX10_two.1 ∈ TB := tb_in 690 (by decide +kernel) rfl
theorem okX10_keep : mOK mX10_keep 0 := ⟨tb_in 706 (by decide +kernel) rfl, tb_in 55 (by decide +kernel) rfl, by decide +kernel⟩
theorem pyX10_keep : plainName mX10_keep.1.cls = true := by decide +kernel
theorem inX10_keep : Cond.instanceMethod mX10_keep.1 ∈ TB := tb_in 704 (by decide +kernel) rfl
theorem seX10_keep : Cond.selects mX10_keep.1.cls mX10_keep.1 mX10_keep.1 ∈ TB := tb_in 705 (by decide +kernel) rfl
theorem okX10_back : mOK mX10_back 0 := ⟨tb_in 722 (by decide +kernel) rfl, tb_in 55 (by decide +kernel) rfl, by decide +kernel⟩
theorem pyX10_back : plainName mX10_back.1.cls = true := by decide +kernel
theorem inX10_back : Cond.instanceMethod mX10_back.1 ∈ TB := tb_in 720 (by decide +kernel) rfl
theorem seX10_back : Cond.selects mX10_back.1.cls mX10_back.1 mX10_back.1 ∈ TB := tb_in 721 (by decide +kernel) rfl
theorem okX10_count : mOK mX10_count 1 := ⟨tb_in 730 (by decide +kernel) rfl, tb_in 55 (by decide +kernel) rfl, by decide +kernel⟩
theorem pyX10_count : plainName mX10_count.1.cls = true := by decide +kernel
theorem inX10_count : Cond.instanceMethod mX10_count.1 ∈ TB := tb_in 728 (by decide +kernel) rfl
theorem seX10_count : Cond.selects mX10_count.1.cls mX10_count.1 mX10_count.1 ∈ TB := tb_in 729 (by decide +kernel) rfl
theorem okX10_within : mOK mX10_within 3 := ⟨tb_in 376 (by decide +kernel) rfl, tb_in 55 (by decide +kernel) rfl, by decide +kernel⟩
theorem pyX10_within : plainName mX10_within.1.cls = true := by decide +kernel
theorem stX10_within : Cond.static mX10_within.1 ∈ TB := tb_in 375 (by decide +kernel) rfl
theorem okX10_gainOfAllMeetings : mOK mX10_gainOfAllMeetings 0 := ⟨tb_in 522 (by decide +kernel) rfl, tb_in 55 (by decide +kernel) rfl, by decide +kernel⟩
theorem pyX10_gainOfAllMeetings : plainName mX10_gainOfAllMeetings.1.cls = true := by decide +kernel
theorem inX10_gainOfAllMeetings : Cond.instanceMethod mX10_gainOfAllMeetings.1 ∈ TB := tb_in 521 (by decide +kernel) rfl
theorem seX10_gainOfAllMeetings : Cond.selects mX10_gainOfAllMeetings.1.cls mX10_gainOfAllMeetings.1 mX10_gainOfAllMeetings.1 ∈ TB := tb_in 1 (by decide +kernel) rfl
theorem okX10_gainOfTelling : mOK mX10_gainOfTelling 2 := ⟨tb_in 531 (by decide +kernel) rfl, tb_in 55 (by decide +kernel) rfl, by decide +kernel⟩
theorem pyX10_gainOfTelling : plainName mX10_gainOfTelling.1.cls = true := by decide +kernel
theorem inX10_gainOfTelling : Cond.instanceMethod mX10_gainOfTelling.1 ∈ TB := tb_in 530 (by decide +kernel) rfl
theorem seX10_gainOfTelling : Cond.selects mX10_gainOfTelling.1.cls mX10_gainOfTelling.1 mX10_gainOfTelling.1 ∈ TB := tb_in 2 (by decide +kernel) rfl
theorem okX10_sumUp : mOK mX10_sumUp 2 := ⟨tb_in 649 (by decide +kernel) rfl, tb_in 55 (by decide +kernel) rfl, by decide +kernel⟩
theorem pyX10_sumUp : plainName mX10_sumUp.1.cls = true := by decide +kernel
theorem inX10_sumUp : Cond.instanceMethod mX10_sumUp.1 ∈ TB := tb_in 648 (by decide +kernel) rfl
theorem seX10_sumUp : Cond.selects mX10_sumUp.1.cls mX10_sumUp.1 mX10_sumUp.1 ∈ TB := tb_in 13 (by decide +kernel) rfl
theorem okX10_bestBy : mOK mX10_bestBy 1 := ⟨tb_in 657 (by decide +kernel) rfl, tb_in 55 (by decide +kernel) rfl, by decide +kernel⟩
theorem pyX10_bestBy : plainName mX10_bestBy.1.cls = true := by decide +kernel
theorem inX10_bestBy : Cond.instanceMethod mX10_bestBy.1 ∈ TB := tb_in 656 (by decide +kernel) rfl
theorem seX10_bestBy : Cond.selects mX10_bestBy.1.cls mX10_bestBy.1 mX10_bestBy.1 ∈ TB := tb_in 14 (by decide +kernel) rfl
theorem okX11_init : mOK mX11_init 0 := ⟨tb_in 735 (by decide +kernel) rfl, tb_in 65 (by decide +kernel) rfl, by decide +kernel⟩
theorem pyX11_init : plainName mX11_init.1.cls = true := by decide +kernel
theorem inX11_init : Cond.instanceMethod mX11_init.1 ∈ TB := tb_in 734 (by decide +kernel) rfl
theorem okX11_in : mOK mX11_in 3 := ⟨tb_in 851 (by decide +kernel) rfl, tb_in 65 (by decide +kernel) rfl, by decide +kernel⟩
theorem pyX11_in : plainName mX11_in.1.cls = true := by decide +kernel
theorem stX11_in : Cond.static mX11_in.1 ∈ TB := tb_in 850 (by decide +kernel) rfl
theorem okX11_noRoom : mOK mX11_noRoom 1 := ⟨tb_in 740 (by decide +kernel) rfl, tb_in 65 (by decide +kernel) rfl, by decide +kernel⟩
theorem pyX11_noRoom : plainName mX11_noRoom.1.cls = true := by decide +kernel
theorem inX11_noRoom : Cond.instanceMethod mX11_noRoom.1 ∈ TB := tb_in 739 (by decide +kernel) rfl
theorem seX11_noRoom : Cond.selects mX11_noRoom.1.cls mX11_noRoom.1 mX11_noRoom.1 ∈ TB := tb_in 16 (by decide +kernel) rfl
theorem okX11_write : mOK mX11_write 2 := ⟨tb_in 847 (by decide +kernel) rfl, tb_in 65 (by decide +kernel) rfl, by decide +kernel⟩
theorem pyX11_write : plainName mX11_write.1.cls = true := by decide +kernel
theorem inX11_write : Cond.instanceMethod mX11_write.1 ∈ TB := tb_in 845 (by decide +kernel) rfl
theorem seX11_write : Cond.selects mX11_write.1.cls mX11_write.1 mX11_write.1 ∈ TB := tb_in 846 (by decide +kernel) rfl
theorem okX11_wipe : mOK mX11_wipe 0 := ⟨tb_in 856 (by decide +kernel) rfl, tb_in 65 (by decide +kernel) rfl, by decide +kernel⟩
theorem pyX11_wipe : plainName mX11_wipe.1.cls = true := by decide +kernel
theorem inX11_wipe : Cond.instanceMethod mX11_wipe.1 ∈ TB := tb_in 854 (by decide +kernel) rfl
theorem seX11_wipe : Cond.selects mX11_wipe.1.cls mX11_wipe.1 mX11_wipe.1 ∈ TB := tb_in 855 (by decide +kernel) rfl
theorem okX11_byteAt : mOK mX11_byteAt 1 := ⟨tb_in 872 (by decide +kernel) rfl, tb_in 65 (by decide +kernel) rfl, by decide +kernel⟩
theorem pyX11_byteAt : plainName mX11_byteAt.1.cls = true := by decide +kernel
theorem inX11_byteAt : Cond.instanceMethod mX11_byteAt.1 ∈ TB := tb_in 871 (by decide +kernel) rfl
theorem seX11_byteAt : Cond.selects mX11_byteAt.1.cls mX11_byteAt.1 mX11_byteAt.1 ∈ TB := tb_in 19 (by decide +kernel) rfl
theorem okX11_figures : mOK mX11_figures 1 := ⟨tb_in 880 (by decide +kernel) rfl, tb_in 65 (by decide +kernel) rfl, by decide +kernel⟩
theorem pyX11_figures : plainName mX11_figures.1.cls = true := by decide +kernel
theorem inX11_figures : Cond.instanceMethod mX11_figures.1 ∈ TB := tb_in 879 (by decide +kernel) rfl
theorem seX11_figures : Cond.selects mX11_figures.1.cls mX11_figures.1 mX11_figures.1 ∈ TB := tb_in 21 (by decide +kernel) rfl
theorem okX11_readMany : mOK mX11_readMany 1 := ⟨tb_in 887 (by decide +kernel) rfl, tb_in 65 (by decide +kernel) rfl, by decide +kernel⟩
theorem pyX11_readMany : plainName mX11_readMany.1.cls = true := by decide +kernel
theorem inX11_readMany : Cond.instanceMethod mX11_readMany.1 ∈ TB := tb_in 886 (by decide +kernel) rfl
theorem seX11_readMany : Cond.selects mX11_readMany.1.cls mX11_readMany.1 mX11_readMany.1 ∈ TB := tb_in 22 (by decide +kernel) rfl
theorem okX11_personItem : mOK mX11_personItem 1 := ⟨tb_in 876 (by decide +kernel) rfl, tb_in 65 (by decide +kernel) rfl, by decide +kernel⟩
theorem pyX11_personItem : plainName mX11_personItem.1.cls = true := by decide +kernel
theorem inX11_personItem : Cond.instanceMethod mX11_personItem.1 ∈ TB := tb_in 875 (by decide +kernel) rfl
theorem seX11_personItem : Cond.selects mX11_personItem.1.cls mX11_personItem.1 mX11_personItem.1 ∈ TB := tb_in 20 (by decide +kernel) rfl
theorem okX11_numberItem : mOK mX11_numberItem 3 := ⟨tb_in 891 (by decide +kernel) rfl, tb_in 65 (by decide +kernel) rfl, by decide +kernel⟩
theorem pyX11_numberItem : plainName mX11_numberItem.1.cls = true := by decide +kernel
theorem inX11_numberItem : Cond.instanceMethod mX11_numberItem.1 ∈ TB := tb_in 890 (by decide +kernel) rfl
theorem seX11_numberItem : Cond.selects mX11_numberItem.1.cls mX11_numberItem.1 mX11_numberItem.1 ∈ TB := tb_in 23 (by decide +kernel) rfl
theorem okX11_item : mOK mX11_item 0 := ⟨tb_in 868 (by decide +kernel) rfl, tb_in 65 (by decide +kernel) rfl, by decide +kernel⟩
theorem pyX11_item : plainName mX11_item.1.cls = true := by decide +kernel
theorem inX11_item : Cond.instanceMethod mX11_item.1 ∈ TB := tb_in 867 (by decide +kernel) rfl
theorem seX11_item : Cond.selects mX11_item.1.cls mX11_item.1 mX11_item.1 ∈ TB := tb_in 18 (by decide +kernel) rfl
theorem okX11_readAll : mOK mX11_readAll 0 := ⟨tb_in 864 (by decide +kernel) rfl, tb_in 65 (by decide +kernel) rfl, by decide +kernel⟩
theorem pyX11_readAll : plainName mX11_readAll.1.cls = true := by decide +kernel
theorem inX11_readAll : Cond.instanceMethod mX11_readAll.1 ∈ TB := tb_in 863 (by decide +kernel) rfl
theorem seX11_readAll : Cond.selects mX11_readAll.1.cls mX11_readAll.1 mX11_readAll.1 ∈ TB := tb_in 17 (by decide +kernel) rfl
theorem okX11_fault : mOK mX11_fault 0 := ⟨tb_in 860 (by decide +kernel) rfl, tb_in 65 (by decide +kernel) rfl, by decide +kernel⟩
theorem pyX11_fault : plainName mX11_fault.1.cls = true := by decide +kernel
theorem inX11_fault : Cond.instanceMethod mX11_fault.1 ∈ TB := tb_in 858 (by decide +kernel) rfl
theorem seX11_fault : Cond.selects mX11_fault.1.cls mX11_fault.1 mX11_fault.1 ∈ TB := tb_in 859 (by decide +kernel) rfl
theorem okX11_lay : mOK mX11_lay 0 := ⟨tb_in 895 (by decide +kernel) rfl, tb_in 65 (by decide +kernel) rfl, by decide +kernel⟩
theorem pyX11_lay : plainName mX11_lay.1.cls = true := by decide +kernel
theorem inX11_lay : Cond.instanceMethod mX11_lay.1 ∈ TB := tb_in 893 (by decide +kernel) rfl
theorem seX11_lay : Cond.selects mX11_lay.1.cls mX11_lay.1 mX11_lay.1 ∈ TB := tb_in 894 (by decide +kernel) rfl
theorem okX11_isPerson : mOK mX11_isPerson 1 := ⟨tb_in 903 (by decide +kernel) rfl, tb_in 65 (by decide +kernel) rfl, by decide +kernel⟩
theorem pyX11_isPerson : plainName mX11_isPerson.1.cls = true := by decide +kernel
theorem inX11_isPerson : Cond.instanceMethod mX11_isPerson.1 ∈ TB := tb_in 902 (by decide +kernel) rfl
theorem seX11_isPerson : Cond.selects mX11_isPerson.1.cls mX11_isPerson.1 mX11_isPerson.1 ∈ TB := tb_in 24 (by decide +kernel) rfl
theorem okX11_manyOf : mOK mX11_manyOf 1 := ⟨tb_in 959 (by decide +kernel) rfl, tb_in 65 (by decide +kernel) rfl, by decide +kernel⟩
theorem pyX11_manyOf : plainName mX11_manyOf.1.cls = true := by decide +kernel
theorem inX11_manyOf : Cond.instanceMethod mX11_manyOf.1 ∈ TB := tb_in 958 (by decide +kernel) rfl
theorem seX11_manyOf : Cond.selects mX11_manyOf.1.cls mX11_manyOf.1 mX11_manyOf.1 ∈ TB := tb_in 33 (by decide +kernel) rfl
theorem okX11_person : mOK mX11_person 2 := ⟨tb_in 899 (by decide +kernel) rfl, tb_in 65 (by decide +kernel) rfl, by decide +kernel⟩
theorem pyX11_person : plainName mX11_person.1.cls = true := by decide +kernel
theorem inX11_person : Cond.instanceMethod mX11_person.1 ∈ TB := tb_in 897 (by decide +kernel) rfl
theorem seX11_person : Cond.selects mX11_person.1.cls mX11_person.1 mX11_person.1 ∈ TB := tb_in 898 (by decide +kernel) rfl
theorem okX11_law : mOK mX11_law 2 := ⟨tb_in 908 (by decide +kernel) rfl, tb_in 65 (by decide +kernel) rfl, by decide +kernel⟩
theorem pyX11_law : plainName mX11_law.1.cls = true := by decide +kernel
theorem inX11_law : Cond.instanceMethod mX11_law.1 ∈ TB := tb_in 906 (by decide +kernel) rfl
theorem seX11_law : Cond.selects mX11_law.1.cls mX11_law.1 mX11_law.1 ∈ TB := tb_in 907 (by decide +kernel) rfl
theorem okX11_showTrue : mOK mX11_showTrue 0 := ⟨tb_in 918 (by decide +kernel) rfl, tb_in 65 (by decide +kernel) rfl, by decide +kernel⟩
theorem pyX11_showTrue : plainName mX11_showTrue.1.cls = true := by decide +kernel
theorem inX11_showTrue : Cond.instanceMethod mX11_showTrue.1 ∈ TB := tb_in 917 (by decide +kernel) rfl
theorem seX11_showTrue : Cond.selects mX11_showTrue.1.cls mX11_showTrue.1 mX11_showTrue.1 ∈ TB := tb_in 25 (by decide +kernel) rfl
theorem okX11_layLines : mOK mX11_layLines 0 := ⟨tb_in 922 (by decide +kernel) rfl, tb_in 65 (by decide +kernel) rfl, by decide +kernel⟩
theorem pyX11_layLines : plainName mX11_layLines.1.cls = true := by decide +kernel
theorem inX11_layLines : Cond.instanceMethod mX11_layLines.1 ∈ TB := tb_in 921 (by decide +kernel) rfl
theorem seX11_layLines : Cond.selects mX11_layLines.1.cls mX11_layLines.1 mX11_layLines.1 ∈ TB := tb_in 26 (by decide +kernel) rfl
theorem okX11_worth : mOK mX11_worth 1 := ⟨tb_in 930 (by decide +kernel) rfl, tb_in 65 (by decide +kernel) rfl, by decide +kernel⟩
theorem pyX11_worth : plainName mX11_worth.1.cls = true := by decide +kernel
theorem inX11_worth : Cond.instanceMethod mX11_worth.1 ∈ TB := tb_in 929 (by decide +kernel) rfl
theorem seX11_worth : Cond.selects mX11_worth.1.cls mX11_worth.1 mX11_worth.1 ∈ TB := tb_in 28 (by decide +kernel) rfl
theorem okX11_costs : mOK mX11_costs 1 := ⟨tb_in 934 (by decide +kernel) rfl, tb_in 65 (by decide +kernel) rfl, by decide +kernel⟩
theorem pyX11_costs : plainName mX11_costs.1.cls = true := by decide +kernel
theorem inX11_costs : Cond.instanceMethod mX11_costs.1 ∈ TB := tb_in 933 (by decide +kernel) rfl
theorem seX11_costs : Cond.selects mX11_costs.1.cls mX11_costs.1 mX11_costs.1 ∈ TB := tb_in 29 (by decide +kernel) rfl
theorem okX11_quantity : mOK mX11_quantity 1 := ⟨tb_in 926 (by decide +kernel) rfl, tb_in 65 (by decide +kernel) rfl, by decide +kernel⟩
theorem pyX11_quantity : plainName mX11_quantity.1.cls = true := by decide +kernel
theorem inX11_quantity : Cond.instanceMethod mX11_quantity.1 ∈ TB := tb_in 925 (by decide +kernel) rfl
theorem seX11_quantity : Cond.selects mX11_quantity.1.cls mX11_quantity.1 mX11_quantity.1 ∈ TB := tb_in 27 (by decide +kernel) rfl
theorem okX11_gainOf : mOK mX11_gainOf 1 := ⟨tb_in 938 (by decide +kernel) rfl, tb_in 65 (by decide +kernel) rfl, by decide +kernel⟩
theorem pyX11_gainOf : plainName mX11_gainOf.1.cls = true := by decide +kernel
theorem inX11_gainOf : Cond.instanceMethod mX11_gainOf.1 ∈ TB := tb_in 937 (by decide +kernel) rfl
theorem seX11_gainOf : Cond.selects mX11_gainOf.1.cls mX11_gainOf.1 mX11_gainOf.1 ∈ TB := tb_in 30 (by decide +kernel) rfl
theorem okX11_lowest : mOK mX11_lowest 2 := ⟨tb_in 942 (by decide +kernel) rfl, tb_in 65 (by decide +kernel) rfl, by decide +kernel⟩
theorem pyX11_lowest : plainName mX11_lowest.1.cls = true := by decide +kernel
theorem inX11_lowest : Cond.instanceMethod mX11_lowest.1 ∈ TB := tb_in 941 (by decide +kernel) rfl
theorem seX11_lowest : Cond.selects mX11_lowest.1.cls mX11_lowest.1 mX11_lowest.1 ∈ TB := tb_in 31 (by decide +kernel) rfl
theorem okX11_highest : mOK mX11_highest 2 := ⟨tb_in 946 (by decide +kernel) rfl, tb_in 65 (by decide +kernel) rfl, by decide +kernel⟩
theorem pyX11_highest : plainName mX11_highest.1.cls = true := by decide +kernel
theorem inX11_highest : Cond.instanceMethod mX11_highest.1 ∈ TB := tb_in 945 (by decide +kernel) rfl
theorem seX11_highest : Cond.selects mX11_highest.1.cls mX11_highest.1 mX11_highest.1 ∈ TB := tb_in 32 (by decide +kernel) rfl
theorem okX11_lines : mOK mX11_lines 1 := ⟨tb_in 913 (by decide +kernel) rfl, tb_in 65 (by decide +kernel) rfl, by decide +kernel⟩
theorem pyX11_lines : plainName mX11_lines.1.cls = true := by decide +kernel
theorem inX11_lines : Cond.instanceMethod mX11_lines.1 ∈ TB := tb_in 911 (by decide +kernel) rfl
theorem seX11_lines : Cond.selects mX11_lines.1.cls mX11_lines.1 mX11_lines.1 ∈ TB := tb_in 912 (by decide +kernel) rfl
theorem okX11_served : mOK mX11_served 1 := ⟨tb_in 950 (by decide +kernel) rfl, tb_in 65 (by decide +kernel) rfl, by decide +kernel⟩
theorem pyX11_served : plainName mX11_served.1.cls = true := by decide +kernel
theorem inX11_served : Cond.instanceMethod mX11_served.1 ∈ TB := tb_in 948 (by decide +kernel) rfl
theorem seX11_served : Cond.selects mX11_served.1.cls mX11_served.1 mX11_served.1 ∈ TB := tb_in 949 (by decide +kernel) rfl
theorem okX11_common : mOK mX11_common 2 := ⟨tb_in 962 (by decide +kernel) rfl, tb_in 65 (by decide +kernel) rfl, by decide +kernel⟩
theorem pyX11_common : plainName mX11_common.1.cls = true := by decide +kernel
theorem stX11_common : Cond.static mX11_common.1 ∈ TB := tb_in 961 (by decide +kernel) rfl
theorem okX11_pairs : mOK mX11_pairs 1 := ⟨tb_in 954 (by decide +kernel) rfl, tb_in 65 (by decide +kernel) rfl, by decide +kernel⟩
theorem pyX11_pairs : plainName mX11_pairs.1.cls = true := by decide +kernel
theorem inX11_pairs : Cond.instanceMethod mX11_pairs.1 ∈ TB := tb_in 952 (by decide +kernel) rfl
theorem seX11_pairs : Cond.selects mX11_pairs.1.cls mX11_pairs.1 mX11_pairs.1 ∈ TB := tb_in 953 (by decide +kernel) rfl
theorem okX11_isFirst : mOK mX11_isFirst 2 := ⟨tb_in 975 (by decide +kernel) rfl, tb_in 65 (by decide +kernel) rfl, by decide +kernel⟩
theorem pyX11_isFirst : plainName mX11_isFirst.1.cls = true := by decide +kernel
theorem inX11_isFirst : Cond.instanceMethod mX11_isFirst.1 ∈ TB := tb_in 974 (by decide +kernel) rfl
theorem seX11_isFirst : Cond.selects mX11_isFirst.1.cls mX11_isFirst.1 mX11_isFirst.1 ∈ TB := tb_in 35 (by decide +kernel) rfl
theorem okX11_bellOf : mOK mX11_bellOf 2 := ⟨tb_in 971 (by decide +kernel) rfl, tb_in 65 (by decide +kernel) rfl, by decide +kernel⟩
theorem pyX11_bellOf : plainName mX11_bellOf.1.cls = true := by decide +kernel
theorem inX11_bellOf : Cond.instanceMethod mX11_bellOf.1 ∈ TB := tb_in 970 (by decide +kernel) rfl
theorem seX11_bellOf : Cond.selects mX11_bellOf.1.cls mX11_bellOf.1 mX11_bellOf.1 ∈ TB := tb_in 34 (by decide +kernel) rfl
theorem okX11_bell : mOK mX11_bell 2 := ⟨tb_in 966 (by decide +kernel) rfl, tb_in 65 (by decide +kernel) rfl, by decide +kernel⟩
theorem pyX11_bell : plainName mX11_bell.1.cls = true := by decide +kernel
theorem inX11_bell : Cond.instanceMethod mX11_bell.1 ∈ TB := tb_in 964 (by decide +kernel) rfl
theorem seX11_bell : Cond.selects mX11_bell.1.cls mX11_bell.1 mX11_bell.1 ∈ TB := tb_in 965 (by decide +kernel) rfl
theorem okX11_best : mOK mX11_best 2 := ⟨tb_in 979 (by decide +kernel) rfl, tb_in 65 (by decide +kernel) rfl, by decide +kernel⟩
theorem pyX11_best : plainName mX11_best.1.cls = true := by decide +kernel
theorem inX11_best : Cond.instanceMethod mX11_best.1 ∈ TB := tb_in 977 (by decide +kernel) rfl
theorem seX11_best : Cond.selects mX11_best.1.cls mX11_best.1 mX11_best.1 ∈ TB := tb_in 978 (by decide +kernel) rfl
theorem okX11_draw : mOK mX11_draw 2 := ⟨tb_in 999 (by decide +kernel) rfl, tb_in 65 (by decide +kernel) rfl, by decide +kernel⟩
theorem pyX11_draw : plainName mX11_draw.1.cls = true := by decide +kernel
theorem inX11_draw : Cond.instanceMethod mX11_draw.1 ∈ TB := tb_in 998 (by decide +kernel) rfl
theorem seX11_draw : Cond.selects mX11_draw.1.cls mX11_draw.1 mX11_draw.1 ∈ TB := tb_in 38 (by decide +kernel) rfl
theorem okX11_shoutBy : mOK mX11_shoutBy 6 := ⟨tb_in 1011 (by decide +kernel) rfl, tb_in 65 (by decide +kernel) rfl, by decide +kernel⟩
theorem pyX11_shoutBy : plainName mX11_shoutBy.1.cls = true := by decide +kernel
theorem inX11_shoutBy : Cond.instanceMethod mX11_shoutBy.1 ∈ TB := tb_in 1010 (by decide +kernel) rfl
theorem seX11_shoutBy : Cond.selects mX11_shoutBy.1.cls mX11_shoutBy.1 mX11_shoutBy.1 ∈ TB := tb_in 40 (by decide +kernel) rfl
theorem okX11_shoutOf : mOK mX11_shoutOf 4 := ⟨tb_in 1007 (by decide +kernel) rfl, tb_in 65 (by decide +kernel) rfl, by decide +kernel⟩
theorem pyX11_shoutOf : plainName mX11_shoutOf.1.cls = true := by decide +kernel
theorem inX11_shoutOf : Cond.instanceMethod mX11_shoutOf.1 ∈ TB := tb_in 1006 (by decide +kernel) rfl
theorem seX11_shoutOf : Cond.selects mX11_shoutOf.1.cls mX11_shoutOf.1 mX11_shoutOf.1 ∈ TB := tb_in 39 (by decide +kernel) rfl
theorem okX11_trade : mOK mX11_trade 4 := ⟨tb_in 1019 (by decide +kernel) rfl, tb_in 65 (by decide +kernel) rfl, by decide +kernel⟩
theorem pyX11_trade : plainName mX11_trade.1.cls = true := by decide +kernel
theorem inX11_trade : Cond.instanceMethod mX11_trade.1 ∈ TB := tb_in 1018 (by decide +kernel) rfl
theorem seX11_trade : Cond.selects mX11_trade.1.cls mX11_trade.1 mX11_trade.1 ∈ TB := tb_in 42 (by decide +kernel) rfl
theorem okX11_note : mOK mX11_note 3 := ⟨tb_in 1015 (by decide +kernel) rfl, tb_in 65 (by decide +kernel) rfl, by decide +kernel⟩
theorem pyX11_note : plainName mX11_note.1.cls = true := by decide +kernel
theorem inX11_note : Cond.instanceMethod mX11_note.1 ∈ TB := tb_in 1014 (by decide +kernel) rfl
theorem seX11_note : Cond.selects mX11_note.1.cls mX11_note.1 mX11_note.1 ∈ TB := tb_in 41 (by decide +kernel) rfl
theorem okX11_goShouts : mOK mX11_goShouts 0 := ⟨tb_in 995 (by decide +kernel) rfl, tb_in 65 (by decide +kernel) rfl, by decide +kernel⟩
theorem pyX11_goShouts : plainName mX11_goShouts.1.cls = true := by decide +kernel
theorem inX11_goShouts : Cond.instanceMethod mX11_goShouts.1 ∈ TB := tb_in 994 (by decide +kernel) rfl
theorem seX11_goShouts : Cond.selects mX11_goShouts.1.cls mX11_goShouts.1 mX11_goShouts.1 ∈ TB := tb_in 37 (by decide +kernel) rfl
theorem okX11_personOf : mOK mX11_personOf 2 := ⟨tb_in 1027 (by decide +kernel) rfl, tb_in 65 (by decide +kernel) rfl, by decide +kernel⟩
theorem pyX11_personOf : plainName mX11_personOf.1.cls = true := by decide +kernel
theorem inX11_personOf : Cond.instanceMethod mX11_personOf.1 ∈ TB := tb_in 1026 (by decide +kernel) rfl
theorem seX11_personOf : Cond.selects mX11_personOf.1.cls mX11_personOf.1 mX11_personOf.1 ∈ TB := tb_in 44 (by decide +kernel) rfl
theorem okX11_goPairs : mOK mX11_goPairs 0 := ⟨tb_in 1023 (by decide +kernel) rfl, tb_in 65 (by decide +kernel) rfl, by decide +kernel⟩
theorem pyX11_goPairs : plainName mX11_goPairs.1.cls = true := by decide +kernel
theorem inX11_goPairs : Cond.instanceMethod mX11_goPairs.1 ∈ TB := tb_in 1022 (by decide +kernel) rfl
theorem seX11_goPairs : Cond.selects mX11_goPairs.1.cls mX11_goPairs.1 mX11_goPairs.1 ∈ TB := tb_in 43 (by decide +kernel) rfl
theorem okX11_goPosted : mOK mX11_goPosted 0 := ⟨tb_in 1031 (by decide +kernel) rfl, tb_in 65 (by decide +kernel) rfl, by decide +kernel⟩
theorem pyX11_goPosted : plainName mX11_goPosted.1.cls = true := by decide +kernel
theorem inX11_goPosted : Cond.instanceMethod mX11_goPosted.1 ∈ TB := tb_in 1030 (by decide +kernel) rfl
theorem seX11_goPosted : Cond.selects mX11_goPosted.1.cls mX11_goPosted.1 mX11_goPosted.1 ∈ TB := tb_in 45 (by decide +kernel) rfl
theorem okX11_goBell : mOK mX11_goBell 0 := ⟨tb_in 1035 (by decide +kernel) rfl, tb_in 65 (by decide +kernel) rfl, by decide +kernel⟩
theorem pyX11_goBell : plainName mX11_goBell.1.cls = true := by decide +kernel
theorem inX11_goBell : Cond.instanceMethod mX11_goBell.1 ∈ TB := tb_in 1034 (by decide +kernel) rfl
theorem seX11_goBell : Cond.selects mX11_goBell.1.cls mX11_goBell.1 mX11_goBell.1 ∈ TB := tb_in 46 (by decide +kernel) rfl
theorem okX11_goRound : mOK mX11_goRound 3 := ⟨tb_in 991 (by decide +kernel) rfl, tb_in 65 (by decide +kernel) rfl, by decide +kernel⟩
theorem pyX11_goRound : plainName mX11_goRound.1.cls = true := by decide +kernel
theorem inX11_goRound : Cond.instanceMethod mX11_goRound.1 ∈ TB := tb_in 990 (by decide +kernel) rfl
theorem seX11_goRound : Cond.selects mX11_goRound.1.cls mX11_goRound.1 mX11_goRound.1 ∈ TB := tb_in 36 (by decide +kernel) rfl
theorem okX11_isRound : mOK mX11_isRound 2 := ⟨tb_in 986 (by decide +kernel) rfl, tb_in 65 (by decide +kernel) rfl, by decide +kernel⟩
theorem pyX11_isRound : plainName mX11_isRound.1.cls = true := by decide +kernel
theorem stX11_isRound : Cond.static mX11_isRound.1 ∈ TB := tb_in 985 (by decide +kernel) rfl
theorem okX11_round : mOK mX11_round 3 := ⟨tb_in 983 (by decide +kernel) rfl, tb_in 65 (by decide +kernel) rfl, by decide +kernel⟩
theorem pyX11_round : plainName mX11_round.1.cls = true := by decide +kernel
theorem inX11_round : Cond.instanceMethod mX11_round.1 ∈ TB := tb_in 981 (by decide +kernel) rfl
theorem seX11_round : Cond.selects mX11_round.1.cls mX11_round.1 mX11_round.1 ∈ TB := tb_in 982 (by decide +kernel) rfl
theorem okX11_of : mOK mX11_of 3 := ⟨tb_in 1039 (by decide +kernel) rfl, tb_in 65 (by decide +kernel) rfl, by decide +kernel⟩
theorem pyX11_of : plainName mX11_of.1.cls = true := by decide +kernel
theorem inX11_of : Cond.instanceMethod mX11_of.1 ∈ TB := tb_in 1037 (by decide +kernel) rfl
theorem seX11_of : Cond.selects mX11_of.1.cls mX11_of.1 mX11_of.1 ∈ TB := tb_in 1038 (by decide +kernel) rfl
theorem okX11_layMeans : mOK mX11_layMeans 2 := ⟨tb_in 1047 (by decide +kernel) rfl, tb_in 65 (by decide +kernel) rfl, by decide +kernel⟩
theorem pyX11_layMeans : plainName mX11_layMeans.1.cls = true := by decide +kernel
theorem inX11_layMeans : Cond.instanceMethod mX11_layMeans.1 ∈ TB := tb_in 1046 (by decide +kernel) rfl
theorem seX11_layMeans : Cond.selects mX11_layMeans.1.cls mX11_layMeans.1 mX11_layMeans.1 ∈ TB := tb_in 47 (by decide +kernel) rfl
theorem okX11_means : mOK mX11_means 3 := ⟨tb_in 1043 (by decide +kernel) rfl, tb_in 65 (by decide +kernel) rfl, by decide +kernel⟩
theorem pyX11_means : plainName mX11_means.1.cls = true := by decide +kernel
theorem inX11_means : Cond.instanceMethod mX11_means.1 ∈ TB := tb_in 1041 (by decide +kernel) rfl
theorem seX11_means : Cond.selects mX11_means.1.cls mX11_means.1 mX11_means.1 ∈ TB := tb_in 1042 (by decide +kernel) rfl
theorem okX11_bestBy : mOK mX11_bestBy 1 := ⟨tb_in 1055 (by decide +kernel) rfl, tb_in 65 (by decide +kernel) rfl, by decide +kernel⟩
theorem pyX11_bestBy : plainName mX11_bestBy.1.cls = true := by decide +kernel
theorem inX11_bestBy : Cond.instanceMethod mX11_bestBy.1 ∈ TB := tb_in 1054 (by decide +kernel) rfl
theorem seX11_bestBy : Cond.selects mX11_bestBy.1.cls mX11_bestBy.1 mX11_bestBy.1 ∈ TB := tb_in 48 (by decide +kernel) rfl
theorem okX11_rules : mOK mX11_rules 2 := ⟨tb_in 1051 (by decide +kernel) rfl, tb_in 65 (by decide +kernel) rfl, by decide +kernel⟩
theorem pyX11_rules : plainName mX11_rules.1.cls = true := by decide +kernel
theorem inX11_rules : Cond.instanceMethod mX11_rules.1 ∈ TB := tb_in 1049 (by decide +kernel) rfl
theorem seX11_rules : Cond.selects mX11_rules.1.cls mX11_rules.1 mX11_rules.1 ∈ TB := tb_in 1050 (by decide +kernel) rfl
theorem okX11_shout : mOK mX11_shout 2 := ⟨tb_in 1059 (by decide +kernel) rfl, tb_in 65 (by decide +kernel) rfl, by decide +kernel⟩
theorem pyX11_shout : plainName mX11_shout.1.cls = true := by decide +kernel
theorem inX11_shout : Cond.instanceMethod mX11_shout.1 ∈ TB := tb_in 1057 (by decide +kernel) rfl
theorem seX11_shout : Cond.selects mX11_shout.1.cls mX11_shout.1 mX11_shout.1 ∈ TB := tb_in 1058 (by decide +kernel) rfl
theorem okX11_knownOf : mOK mX11_knownOf 1 := ⟨tb_in 1067 (by decide +kernel) rfl, tb_in 65 (by decide +kernel) rfl, by decide +kernel⟩
theorem pyX11_knownOf : plainName mX11_knownOf.1.cls = true := by decide +kernel
theorem inX11_knownOf : Cond.instanceMethod mX11_knownOf.1 ∈ TB := tb_in 1066 (by decide +kernel) rfl
theorem seX11_knownOf : Cond.selects mX11_knownOf.1.cls mX11_knownOf.1 mX11_knownOf.1 ∈ TB := tb_in 49 (by decide +kernel) rfl
theorem okX11_known : mOK mX11_known 1 := ⟨tb_in 1063 (by decide +kernel) rfl, tb_in 65 (by decide +kernel) rfl, by decide +kernel⟩
theorem pyX11_known : plainName mX11_known.1.cls = true := by decide +kernel
theorem inX11_known : Cond.instanceMethod mX11_known.1 ∈ TB := tb_in 1061 (by decide +kernel) rfl
theorem seX11_known : Cond.selects mX11_known.1.cls mX11_known.1 mX11_known.1 ∈ TB := tb_in 1062 (by decide +kernel) rfl
theorem okX11_least : mOK mX11_least 1 := ⟨tb_in 1071 (by decide +kernel) rfl, tb_in 65 (by decide +kernel) rfl, by decide +kernel⟩
theorem pyX11_least : plainName mX11_least.1.cls = true := by decide +kernel
theorem inX11_least : Cond.instanceMethod mX11_least.1 ∈ TB := tb_in 1069 (by decide +kernel) rfl
theorem seX11_least : Cond.selects mX11_least.1.cls mX11_least.1 mX11_least.1 ∈ TB := tb_in 1070 (by decide +kernel) rfl
theorem okX11_mayBe : mOK mX11_mayBe 2 := ⟨tb_in 1079 (by decide +kernel) rfl, tb_in 65 (by decide +kernel) rfl, by decide +kernel⟩
theorem pyX11_mayBe : plainName mX11_mayBe.1.cls = true := by decide +kernel
theorem inX11_mayBe : Cond.instanceMethod mX11_mayBe.1 ∈ TB := tb_in 1078 (by decide +kernel) rfl
theorem seX11_mayBe : Cond.selects mX11_mayBe.1.cls mX11_mayBe.1 mX11_mayBe.1 ∈ TB := tb_in 50 (by decide +kernel) rfl
theorem okX11_laws : mOK mX11_laws 1 := ⟨tb_in 1075 (by decide +kernel) rfl, tb_in 65 (by decide +kernel) rfl, by decide +kernel⟩
theorem pyX11_laws : plainName mX11_laws.1.cls = true := by decide +kernel
theorem inX11_laws : Cond.instanceMethod mX11_laws.1 ∈ TB := tb_in 1073 (by decide +kernel) rfl
theorem seX11_laws : Cond.selects mX11_laws.1.cls mX11_laws.1 mX11_laws.1 ∈ TB := tb_in 1074 (by decide +kernel) rfl
theorem okX11_layRooms : mOK mX11_layRooms 1 := ⟨tb_in 1087 (by decide +kernel) rfl, tb_in 65 (by decide +kernel) rfl, by decide +kernel⟩
theorem pyX11_layRooms : plainName mX11_layRooms.1.cls = true := by decide +kernel
theorem inX11_layRooms : Cond.instanceMethod mX11_layRooms.1 ∈ TB := tb_in 1086 (by decide +kernel) rfl
theorem seX11_layRooms : Cond.selects mX11_layRooms.1.cls mX11_layRooms.1 mX11_layRooms.1 ∈ TB := tb_in 51 (by decide +kernel) rfl
theorem okX11_carried : mOK mX11_carried 2 := ⟨tb_in 1091 (by decide +kernel) rfl, tb_in 65 (by decide +kernel) rfl, by decide +kernel⟩
theorem pyX11_carried : plainName mX11_carried.1.cls = true := by decide +kernel
theorem inX11_carried : Cond.instanceMethod mX11_carried.1 ∈ TB := tb_in 1090 (by decide +kernel) rfl
theorem seX11_carried : Cond.selects mX11_carried.1.cls mX11_carried.1 mX11_carried.1 ∈ TB := tb_in 52 (by decide +kernel) rfl
theorem okX11_two : mOK mX11_two 3 := ⟨tb_in 1083 (by decide +kernel) rfl, tb_in 65 (by decide +kernel) rfl, by decide +kernel⟩
theorem pyX11_two : plainName mX11_two.1.cls = true := by decide +kernel
theorem inX11_two : Cond.instanceMethod mX11_two.1 ∈ TB := tb_in 1081 (by decide +kernel) rfl
theorem seX11_two : Cond.selects mX11_two.1.cls mX11_two.1 mX11_two.1 ∈ TB := tb_in 1082 (by decide +kernel) rfl
theorem okX11_copyLog : mOK mX11_copyLog 2 := ⟨tb_in 1099 (by decide +kernel) rfl, tb_in 65 (by decide +kernel) rfl, by decide +kernel⟩
theorem pyX11_copyLog : plainName mX11_copyLog.1.cls = true := by decide +kernel
theorem inX11_copyLog : Cond.instanceMethod mX11_copyLog.1 ∈ TB := tb_in 1098 (by decide +kernel) rfl
theorem seX11_copyLog : Cond.selects mX11_copyLog.1.cls mX11_copyLog.1 mX11_copyLog.1 ∈ TB := tb_in 53 (by decide +kernel) rfl
theorem okX11_keep : mOK mX11_keep 0 := ⟨tb_in 1095 (by decide +kernel) rfl, tb_in 65 (by decide +kernel) rfl, by decide +kernel⟩
theorem pyX11_keep : plainName mX11_keep.1.cls = true := by decide +kernel
theorem inX11_keep : Cond.instanceMethod mX11_keep.1 ∈ TB := tb_in 1093 (by decide +kernel) rfl
theorem seX11_keep : Cond.selects mX11_keep.1.cls mX11_keep.1 mX11_keep.1 ∈ TB := tb_in 1094 (by decide +kernel) rfl
theorem okX11_back : mOK mX11_back 0 := ⟨tb_in 1103 (by decide +kernel) rfl, tb_in 65 (by decide +kernel) rfl, by decide +kernel⟩
theorem pyX11_back : plainName mX11_back.1.cls = true := by decide +kernel
theorem inX11_back : Cond.instanceMethod mX11_back.1 ∈ TB := tb_in 1101 (by decide +kernel) rfl
theorem seX11_back : Cond.selects mX11_back.1.cls mX11_back.1 mX11_back.1 ∈ TB := tb_in 1102 (by decide +kernel) rfl
theorem okX11_count : mOK mX11_count 1 := ⟨tb_in 1107 (by decide +kernel) rfl, tb_in 65 (by decide +kernel) rfl, by decide +kernel⟩
theorem pyX11_count : plainName mX11_count.1.cls = true := by decide +kernel
theorem inX11_count : Cond.instanceMethod mX11_count.1 ∈ TB := tb_in 1105 (by decide +kernel) rfl
theorem seX11_count : Cond.selects mX11_count.1.cls mX11_count.1 mX11_count.1 ∈ TB := tb_in 1106 (by decide +kernel) rfl
theorem lkL_9 : Cond.methodLink RL 9 mX10_init.1 ∈ TB := tb_in 71 (by decide +kernel) rfl
theorem lkX10_1 : Cond.methodLink RX10 1 objectInit ∈ TB := tb_in 74 (by decide +kernel) rfl
theorem lkX8_3 : Cond.methodLink RX8 3 objectInit ∈ TB := tb_in 82 (by decide +kernel) rfl
theorem lkX5_3 : Cond.methodLink RX5 3 objectInit ∈ TB := tb_in 99 (by decide +kernel) rfl
theorem lkX10_25 : Cond.methodLink RX10 25 mX6_init.1 ∈ TB := tb_in 112 (by decide +kernel) rfl
theorem lkX6_3 : Cond.methodLink RX6 3 objectInit ∈ TB := tb_in 115 (by decide +kernel) rfl
theorem lkX6_28 : Cond.methodLink RX6 28 mX6_empty.1 ∈ TB := tb_in 116 (by decide +kernel) rfl
theorem lkX4_3 : Cond.methodLink RX4 3 objectInit ∈ TB := tb_in 199 (by decide +kernel) rfl
theorem lkX3_3 : Cond.methodLink RX3 3 objectInit ∈ TB := tb_in 229 (by decide +kernel) rfl
theorem lkX3_11 : Cond.methodLink RX3 11 mX2_init.1 ∈ TB := tb_in 232 (by decide +kernel) rfl
theorem lkX2_3 : Cond.methodLink RX2 3 objectInit ∈ TB := tb_in 235 (by decide +kernel) rfl
theorem lkX7_3 : Cond.methodLink RX7 3 objectInit ∈ TB := tb_in 289 (by decide +kernel) rfl
theorem lkX0_1 : Cond.methodLink RX0 1 objectInit ∈ TB := tb_in 344 (by decide +kernel) rfl
theorem lkX1_3 : Cond.methodLink RX1 3 objectInit ∈ TB := tb_in 360 (by decide +kernel) rfl
theorem lkX10_80 : Cond.methodLink RX10 80 mX6_addPerson.1 ∈ TB := tb_in 370 (by decide +kernel) rfl
theorem lkL_15 : Cond.methodLink RL 15 mX10_write.1 ∈ TB := tb_in 414 (by decide +kernel) rfl
theorem lkX10_84 : Cond.methodLink RX10 84 mX10_within.1 ∈ TB := tb_in 418 (by decide +kernel) rfl
theorem lkX10_91 : Cond.methodLink RX10 91 mX8_add.1 ∈ TB := tb_in 419 (by decide +kernel) rfl
theorem lkL_20 : Cond.methodLink RL 20 mX10_wipe.1 ∈ TB := tb_in 423 (by decide +kernel) rfl
theorem lkL_25 : Cond.methodLink RL 25 mX10_fault.1 ∈ TB := tb_in 427 (by decide +kernel) rfl
theorem lkX10_95 : Cond.methodLink RX10 95 mX5_read.1 ∈ TB := tb_in 431 (by decide +kernel) rfl
theorem lkX5_22 : Cond.methodLink RX5 22 mX6_empty.1 ∈ TB := tb_in 435 (by decide +kernel) rfl
theorem lkX5_32 : Cond.methodLink RX5 32 mX5_split.1 ∈ TB := tb_in 436 (by decide +kernel) rfl
theorem lkX5_39 : Cond.methodLink RX5 39 mX5_take.1 ∈ TB := tb_in 440 (by decide +kernel) rfl
theorem lkX5_43 : Cond.methodLink RX5 43 mX6_addPerson.1 ∈ TB := tb_in 444 (by decide +kernel) rfl
theorem lkX5_47 : Cond.methodLink RX5 47 mX6_set.1 ∈ TB := tb_in 445 (by decide +kernel) rfl
theorem lkL_29 : Cond.methodLink RL 29 mX10_lay.1 ∈ TB := tb_in 449 (by decide +kernel) rfl
theorem lkL_33 : Cond.methodLink RL 33 mX10_person.1 ∈ TB := tb_in 453 (by decide +kernel) rfl
theorem lkX10_109 : Cond.methodLink RX10 109 mX6_has.1 ∈ TB := tb_in 457 (by decide +kernel) rfl
theorem lkL_38 : Cond.methodLink RL 38 mX10_law.1 ∈ TB := tb_in 461 (by decide +kernel) rfl
theorem lkL_42 : Cond.methodLink RL 42 mX10_lines.1 ∈ TB := tb_in 465 (by decide +kernel) rfl
theorem lkX10_127 : Cond.methodLink RX10 127 mX3_meet.1 ∈ TB := tb_in 469 (by decide +kernel) rfl
theorem lkX3_37 : Cond.methodLink RX3 37 mX3_empty.1 ∈ TB := tb_in 473 (by decide +kernel) rfl
theorem lkX3_47 : Cond.methodLink RX3 47 mX3_put.1 ∈ TB := tb_in 477 (by decide +kernel) rfl
theorem lkX3_33 : Cond.methodLink RX3 33 mX2_add.1 ∈ TB := tb_in 481 (by decide +kernel) rfl
theorem lkX3_51 : Cond.methodLink RX3 51 mX3_cross.1 ∈ TB := tb_in 485 (by decide +kernel) rfl
theorem lkX3_55 : Cond.methodLink RX3 55 Lib.Math.min.name ∈ TB := tb_in 489 (by decide +kernel) rfl
theorem lkX3_65 : Cond.methodLink RX3 65 mX2_sum.1 ∈ TB := tb_in 492 (by decide +kernel) rfl
theorem lkX2_26 : Cond.methodLink RX2 26 Lib.Math.max.name ∈ TB := tb_in 496 (by decide +kernel) rfl
theorem lkX3_77 : Cond.methodLink RX3 77 mX3_price.1 ∈ TB := tb_in 499 (by decide +kernel) rfl
theorem lkX3_80 : Cond.methodLink RX3 80 Lib.Math.max.name ∈ TB := tb_in 503 (by decide +kernel) rfl
theorem lkL_47 : Cond.methodLink RL 47 mX10_served.1 ∈ TB := tb_in 504 (by decide +kernel) rfl
theorem lkX10_149 : Cond.methodLink RX10 149 mX2_ahead.1 ∈ TB := tb_in 508 (by decide +kernel) rfl
theorem lkX10_157 : Cond.methodLink RX10 157 Lib.Math.min.name ∈ TB := tb_in 512 (by decide +kernel) rfl
theorem lkX10_163 : Cond.methodLink RX10 163 mX2_sum.1 ∈ TB := tb_in 513 (by decide +kernel) rfl
theorem lkL_51 : Cond.methodLink RL 51 mX10_pairs.1 ∈ TB := tb_in 514 (by decide +kernel) rfl
theorem lkX10_168 : Cond.methodLink RX10 168 mX10_gainOfAllMeetings.1 ∈ TB := tb_in 519 (by decide +kernel) rfl
theorem lkX10_172 : Cond.methodLink RX10 172 Lib.Math.max.name ∈ TB := tb_in 523 (by decide +kernel) rfl
theorem lkL_56 : Cond.methodLink RL 56 mX10_bell.1 ∈ TB := tb_in 524 (by decide +kernel) rfl
theorem lkX10_175 : Cond.methodLink RX10 175 mX10_gainOfTelling.1 ∈ TB := tb_in 528 (by decide +kernel) rfl
theorem lkX10_221 : Cond.methodLink RX10 221 mX3_empty.1 ∈ TB := tb_in 532 (by decide +kernel) rfl
theorem lkX10_224 : Cond.methodLink RX10 224 mX3_put.1 ∈ TB := tb_in 533 (by decide +kernel) rfl
theorem lkX10_228 : Cond.methodLink RX10 228 mX3_cross.1 ∈ TB := tb_in 534 (by decide +kernel) rfl
theorem lkX10_259 : Cond.methodLink RX10 259 mX3_trades.1 ∈ TB := tb_in 535 (by decide +kernel) rfl
theorem lkX3_83 : Cond.methodLink RX3 83 mX2_holds.1 ∈ TB := tb_in 539 (by decide +kernel) rfl
theorem lkL_60 : Cond.methodLink RL 60 mX10_best.1 ∈ TB := tb_in 543 (by decide +kernel) rfl
theorem lkX10_178 : Cond.methodLink RX10 178 Lib.Math.abs.name ∈ TB := tb_in 547 (by decide +kernel) rfl
theorem lkL_64 : Cond.methodLink RL 64 mX10_round.1 ∈ TB := tb_in 550 (by decide +kernel) rfl
theorem lkX10_181 : Cond.methodLink RX10 181 mX7_play.1 ∈ TB := tb_in 554 (by decide +kernel) rfl
theorem lkX7_47 : Cond.methodLink RX7 47 mX7_playShouts.1 ∈ TB := tb_in 558 (by decide +kernel) rfl
theorem lkX7_117 : Cond.methodLink RX7 117 mX7_draw.1 ∈ TB := tb_in 562 (by decide +kernel) rfl
theorem lkX7_80 : Cond.methodLink RX7 80 mX7_rest.1 ∈ TB := tb_in 570 (by decide +kernel) rfl
theorem lkX7_123 : Cond.methodLink RX7 123 mX7_tells.1 ∈ TB := tb_in 573 (by decide +kernel) rfl
theorem lkX7_74 : Cond.methodLink RX7 74 mX9_span.1 ∈ TB := tb_in 577 (by decide +kernel) rfl
theorem lkX7_84 : Cond.methodLink RX7 84 mX9_by.1 ∈ TB := tb_in 580 (by decide +kernel) rfl
theorem lkX9_26 : Cond.methodLink RX9 26 mX9_near.1 ∈ TB := tb_in 583 (by decide +kernel) rfl
theorem lkX9_38 : Cond.methodLink RX9 38 Lib.Math.max.name ∈ TB := tb_in 586 (by decide +kernel) rfl
theorem lkX9_44 : Cond.methodLink RX9 44 Lib.Math.min.name ∈ TB := tb_in 587 (by decide +kernel) rfl
theorem lkX9_31 : Cond.methodLink RX9 31 mX9_share.1 ∈ TB := tb_in 588 (by decide +kernel) rfl
theorem lkX7_88 : Cond.methodLink RX7 88 mX9_underLid.1 ∈ TB := tb_in 591 (by decide +kernel) rfl
theorem lkX7_126 : Cond.methodLink RX7 126 mX9_isHeard.1 ∈ TB := tb_in 594 (by decide +kernel) rfl
theorem lkX7_130 : Cond.methodLink RX7 130 mX4_add.1 ∈ TB := tb_in 597 (by decide +kernel) rfl
theorem lkX7_138 : Cond.methodLink RX7 138 mX7_hearOffer.1 ∈ TB := tb_in 601 (by decide +kernel) rfl
theorem lkX7_151 : Cond.methodLink RX7 151 mX7_trade.1 ∈ TB := tb_in 605 (by decide +kernel) rfl
theorem lkX7_92 : Cond.methodLink RX7 92 Lib.Math.min.name ∈ TB := tb_in 609 (by decide +kernel) rfl
theorem lkX7_97 : Cond.methodLink RX7 97 Lib.Math.max.name ∈ TB := tb_in 610 (by decide +kernel) rfl
theorem lkX7_142 : Cond.methodLink RX7 142 mX7_hearBid.1 ∈ TB := tb_in 611 (by decide +kernel) rfl
theorem lkX7_51 : Cond.methodLink RX7 51 mX7_playPairs.1 ∈ TB := tb_in 615 (by decide +kernel) rfl
theorem lkX7_55 : Cond.methodLink RX7 55 mX7_playPosted.1 ∈ TB := tb_in 619 (by decide +kernel) rfl
theorem lkX7_170 : Cond.methodLink RX7 170 mX7_cheapestLeft.1 ∈ TB := tb_in 623 (by decide +kernel) rfl
theorem lkX7_58 : Cond.methodLink RX7 58 mX7_playBell.1 ∈ TB := tb_in 627 (by decide +kernel) rfl
theorem lkX7_174 : Cond.methodLink RX7 174 mX3_empty.1 ∈ TB := tb_in 631 (by decide +kernel) rfl
theorem lkX7_177 : Cond.methodLink RX7 177 mX3_put.1 ∈ TB := tb_in 632 (by decide +kernel) rfl
theorem lkX7_181 : Cond.methodLink RX7 181 mX3_cross.1 ∈ TB := tb_in 633 (by decide +kernel) rfl
theorem lkX10_194 : Cond.methodLink RX10 194 mX7_wanders.1 ∈ TB := tb_in 634 (by decide +kernel) rfl
theorem lkL_69 : Cond.methodLink RL 69 mX10_of.1 ∈ TB := tb_in 638 (by decide +kernel) rfl
theorem lkL_73 : Cond.methodLink RL 73 mX10_means.1 ∈ TB := tb_in 642 (by decide +kernel) rfl
theorem lkX10_200 : Cond.methodLink RX10 200 mX10_sumUp.1 ∈ TB := tb_in 646 (by decide +kernel) rfl
theorem lkL_77 : Cond.methodLink RL 77 mX10_rules.1 ∈ TB := tb_in 650 (by decide +kernel) rfl
theorem lkX10_204 : Cond.methodLink RX10 204 mX10_bestBy.1 ∈ TB := tb_in 654 (by decide +kernel) rfl
theorem lkL_81 : Cond.methodLink RL 81 mX10_shout.1 ∈ TB := tb_in 658 (by decide +kernel) rfl
theorem lkL_85 : Cond.methodLink RL 85 mX10_known.1 ∈ TB := tb_in 662 (by decide +kernel) rfl
theorem lkX10_217 : Cond.methodLink RX10 217 mX4_seenOf.1 ∈ TB := tb_in 666 (by decide +kernel) rfl
theorem lkX4_40 : Cond.methodLink RX4 40 Lib.Math.min.name ∈ TB := tb_in 670 (by decide +kernel) rfl
theorem lkX4_46 : Cond.methodLink RX4 46 Lib.Math.max.name ∈ TB := tb_in 671 (by decide +kernel) rfl
theorem lkL_89 : Cond.methodLink RL 89 mX10_least.1 ∈ TB := tb_in 672 (by decide +kernel) rfl
theorem lkL_93 : Cond.methodLink RL 93 mX10_laws.1 ∈ TB := tb_in 676 (by decide +kernel) rfl
theorem lkX10_231 : Cond.methodLink RX10 231 mX4_mayBeBy.1 ∈ TB := tb_in 680 (by decide +kernel) rfl
theorem lkX4_49 : Cond.methodLink RX4 49 mX9_span.1 ∈ TB := tb_in 684 (by decide +kernel) rfl
theorem lkX4_55 : Cond.methodLink RX4 55 mX9_by.1 ∈ TB := tb_in 685 (by decide +kernel) rfl
theorem lkX4_59 : Cond.methodLink RX4 59 mX9_underLid.1 ∈ TB := tb_in 686 (by decide +kernel) rfl
theorem lkL_97 : Cond.methodLink RL 97 mX10_two.1 ∈ TB := tb_in 688 (by decide +kernel) rfl
theorem lkX10_235 : Cond.methodLink RX10 235 mX0_choose.1 ∈ TB := tb_in 692 (by decide +kernel) rfl
theorem lkX0_36 : Cond.methodLink RX0 36 mX2_sum.1 ∈ TB := tb_in 697 (by decide +kernel) rfl
theorem lkX0_40 : Cond.methodLink RX0 40 Lib.Math.abs.name ∈ TB := tb_in 698 (by decide +kernel) rfl
theorem lkX0_46 : Cond.methodLink RX0 46 mX0_offer.1 ∈ TB := tb_in 699 (by decide +kernel) rfl
theorem lkL_101 : Cond.methodLink RL 101 mX10_keep.1 ∈ TB := tb_in 703 (by decide +kernel) rfl
theorem lkX10_243 : Cond.methodLink RX10 243 mX1_hold.1 ∈ TB := tb_in 707 (by decide +kernel) rfl
theorem lkX1_25 : Cond.methodLink RX1 25 arraycopyName ∈ TB := tb_in 711 (by decide +kernel) rfl
theorem lkX1_31 : Cond.methodLink RX1 31 mX4_copy.1 ∈ TB := tb_in 714 (by decide +kernel) rfl
theorem lkX4_28 : Cond.methodLink RX4 28 arraycopyName ∈ TB := tb_in 718 (by decide +kernel) rfl
theorem lkL_105 : Cond.methodLink RL 105 mX10_back.1 ∈ TB := tb_in 719 (by decide +kernel) rfl
theorem lkX10_247 : Cond.methodLink RX10 247 mX1_giveBack.1 ∈ TB := tb_in 723 (by decide +kernel) rfl
theorem lkL_109 : Cond.methodLink RL 109 mX10_count.1 ∈ TB := tb_in 727 (by decide +kernel) rfl
theorem lkL_12 : Cond.methodLink RL 12 mX11_init.1 ∈ TB := tb_in 733 (by decide +kernel) rfl
theorem lkX11_1 : Cond.methodLink RX11 1 objectInit ∈ TB := tb_in 736 (by decide +kernel) rfl
theorem lkX11_73 : Cond.methodLink RX11 73 mX11_noRoom.1 ∈ TB := tb_in 737 (by decide +kernel) rfl
theorem lkL_19 : Cond.methodLink RL 19 mX11_write.1 ∈ TB := tb_in 844 (by decide +kernel) rfl
theorem lkX11_79 : Cond.methodLink RX11 79 mX11_in.1 ∈ TB := tb_in 849 (by decide +kernel) rfl
theorem lkL_24 : Cond.methodLink RL 24 mX11_wipe.1 ∈ TB := tb_in 853 (by decide +kernel) rfl
theorem lkL_28 : Cond.methodLink RL 28 mX11_fault.1 ∈ TB := tb_in 857 (by decide +kernel) rfl
theorem lkX11_120 : Cond.methodLink RX11 120 mX11_readAll.1 ∈ TB := tb_in 861 (by decide +kernel) rfl
theorem lkX11_116 : Cond.methodLink RX11 116 mX11_item.1 ∈ TB := tb_in 865 (by decide +kernel) rfl
theorem lkX11_92 : Cond.methodLink RX11 92 mX11_byteAt.1 ∈ TB := tb_in 869 (by decide +kernel) rfl
theorem lkX11_109 : Cond.methodLink RX11 109 mX11_personItem.1 ∈ TB := tb_in 873 (by decide +kernel) rfl
theorem lkX11_102 : Cond.methodLink RX11 102 mX11_figures.1 ∈ TB := tb_in 877 (by decide +kernel) rfl
theorem lkX11_106 : Cond.methodLink RX11 106 mX11_readMany.1 ∈ TB := tb_in 884 (by decide +kernel) rfl
theorem lkX11_112 : Cond.methodLink RX11 112 mX11_numberItem.1 ∈ TB := tb_in 888 (by decide +kernel) rfl
theorem lkL_32 : Cond.methodLink RL 32 mX11_lay.1 ∈ TB := tb_in 892 (by decide +kernel) rfl
theorem lkL_37 : Cond.methodLink RL 37 mX11_person.1 ∈ TB := tb_in 896 (by decide +kernel) rfl
theorem lkX11_127 : Cond.methodLink RX11 127 mX11_isPerson.1 ∈ TB := tb_in 900 (by decide +kernel) rfl
theorem lkL_41 : Cond.methodLink RL 41 mX11_law.1 ∈ TB := tb_in 905 (by decide +kernel) rfl
theorem lkL_46 : Cond.methodLink RL 46 mX11_lines.1 ∈ TB := tb_in 910 (by decide +kernel) rfl
theorem lkX11_148 : Cond.methodLink RX11 148 mX11_showTrue.1 ∈ TB := tb_in 915 (by decide +kernel) rfl
theorem lkX11_151 : Cond.methodLink RX11 151 mX11_layLines.1 ∈ TB := tb_in 919 (by decide +kernel) rfl
theorem lkX11_154 : Cond.methodLink RX11 154 mX11_quantity.1 ∈ TB := tb_in 923 (by decide +kernel) rfl
theorem lkX11_140 : Cond.methodLink RX11 140 mX11_worth.1 ∈ TB := tb_in 927 (by decide +kernel) rfl
theorem lkX11_143 : Cond.methodLink RX11 143 mX11_costs.1 ∈ TB := tb_in 931 (by decide +kernel) rfl
theorem lkX11_157 : Cond.methodLink RX11 157 mX11_gainOf.1 ∈ TB := tb_in 935 (by decide +kernel) rfl
theorem lkX11_160 : Cond.methodLink RX11 160 mX11_lowest.1 ∈ TB := tb_in 939 (by decide +kernel) rfl
theorem lkX11_164 : Cond.methodLink RX11 164 mX11_highest.1 ∈ TB := tb_in 943 (by decide +kernel) rfl
theorem lkL_50 : Cond.methodLink RL 50 mX11_served.1 ∈ TB := tb_in 947 (by decide +kernel) rfl
theorem lkL_55 : Cond.methodLink RL 55 mX11_pairs.1 ∈ TB := tb_in 951 (by decide +kernel) rfl
theorem lkX11_169 : Cond.methodLink RX11 169 mX11_manyOf.1 ∈ TB := tb_in 956 (by decide +kernel) rfl
theorem lkX11_172 : Cond.methodLink RX11 172 mX11_common.1 ∈ TB := tb_in 960 (by decide +kernel) rfl
theorem lkL_59 : Cond.methodLink RL 59 mX11_bell.1 ∈ TB := tb_in 963 (by decide +kernel) rfl
theorem lkX11_182 : Cond.methodLink RX11 182 mX11_bellOf.1 ∈ TB := tb_in 968 (by decide +kernel) rfl
theorem lkX11_176 : Cond.methodLink RX11 176 mX11_isFirst.1 ∈ TB := tb_in 972 (by decide +kernel) rfl
theorem lkL_63 : Cond.methodLink RL 63 mX11_best.1 ∈ TB := tb_in 976 (by decide +kernel) rfl
theorem lkL_68 : Cond.methodLink RL 68 mX11_round.1 ∈ TB := tb_in 980 (by decide +kernel) rfl
theorem lkX11_254 : Cond.methodLink RX11 254 mX11_isRound.1 ∈ TB := tb_in 984 (by decide +kernel) rfl
theorem lkX11_257 : Cond.methodLink RX11 257 mX11_goRound.1 ∈ TB := tb_in 988 (by decide +kernel) rfl
theorem lkX11_240 : Cond.methodLink RX11 240 mX11_goShouts.1 ∈ TB := tb_in 992 (by decide +kernel) rfl
theorem lkX11_199 : Cond.methodLink RX11 199 mX11_draw.1 ∈ TB := tb_in 996 (by decide +kernel) rfl
theorem lkX11_225 : Cond.methodLink RX11 225 mX11_shoutOf.1 ∈ TB := tb_in 1004 (by decide +kernel) rfl
theorem lkX11_202 : Cond.methodLink RX11 202 mX11_shoutBy.1 ∈ TB := tb_in 1008 (by decide +kernel) rfl
theorem lkX11_229 : Cond.methodLink RX11 229 mX11_note.1 ∈ TB := tb_in 1012 (by decide +kernel) rfl
theorem lkX11_233 : Cond.methodLink RX11 233 mX11_trade.1 ∈ TB := tb_in 1016 (by decide +kernel) rfl
theorem lkX11_243 : Cond.methodLink RX11 243 mX11_goPairs.1 ∈ TB := tb_in 1020 (by decide +kernel) rfl
theorem lkX11_237 : Cond.methodLink RX11 237 mX11_personOf.1 ∈ TB := tb_in 1024 (by decide +kernel) rfl
theorem lkX11_246 : Cond.methodLink RX11 246 mX11_goPosted.1 ∈ TB := tb_in 1028 (by decide +kernel) rfl
theorem lkX11_249 : Cond.methodLink RX11 249 mX11_goBell.1 ∈ TB := tb_in 1032 (by decide +kernel) rfl
theorem lkL_72 : Cond.methodLink RL 72 mX11_of.1 ∈ TB := tb_in 1036 (by decide +kernel) rfl
theorem lkL_76 : Cond.methodLink RL 76 mX11_means.1 ∈ TB := tb_in 1040 (by decide +kernel) rfl
theorem lkX11_261 : Cond.methodLink RX11 261 mX11_layMeans.1 ∈ TB := tb_in 1044 (by decide +kernel) rfl
theorem lkL_80 : Cond.methodLink RL 80 mX11_rules.1 ∈ TB := tb_in 1048 (by decide +kernel) rfl
theorem lkX11_265 : Cond.methodLink RX11 265 mX11_bestBy.1 ∈ TB := tb_in 1052 (by decide +kernel) rfl
theorem lkL_84 : Cond.methodLink RL 84 mX11_shout.1 ∈ TB := tb_in 1056 (by decide +kernel) rfl
theorem lkL_88 : Cond.methodLink RL 88 mX11_known.1 ∈ TB := tb_in 1060 (by decide +kernel) rfl
theorem lkX11_268 : Cond.methodLink RX11 268 mX11_knownOf.1 ∈ TB := tb_in 1064 (by decide +kernel) rfl
theorem lkL_92 : Cond.methodLink RL 92 mX11_least.1 ∈ TB := tb_in 1068 (by decide +kernel) rfl
theorem lkL_96 : Cond.methodLink RL 96 mX11_laws.1 ∈ TB := tb_in 1072 (by decide +kernel) rfl
theorem lkX11_271 : Cond.methodLink RX11 271 mX11_mayBe.1 ∈ TB := tb_in 1076 (by decide +kernel) rfl
theorem lkL_100 : Cond.methodLink RL 100 mX11_two.1 ∈ TB := tb_in 1080 (by decide +kernel) rfl
theorem lkX11_274 : Cond.methodLink RX11 274 mX11_layRooms.1 ∈ TB := tb_in 1084 (by decide +kernel) rfl
theorem lkX11_277 : Cond.methodLink RX11 277 mX11_carried.1 ∈ TB := tb_in 1088 (by decide +kernel) rfl
theorem lkL_104 : Cond.methodLink RL 104 mX11_keep.1 ∈ TB := tb_in 1092 (by decide +kernel) rfl
theorem lkX11_280 : Cond.methodLink RX11 280 mX11_copyLog.1 ∈ TB := tb_in 1096 (by decide +kernel) rfl
theorem lkL_108 : Cond.methodLink RL 108 mX11_back.1 ∈ TB := tb_in 1100 (by decide +kernel) rfl
theorem lkL_112 : Cond.methodLink RL 112 mX11_count.1 ∈ TB := tb_in 1104 (by decide +kernel) rfl
theorem lnX10_9 : Cond.methodLinkNest RX10 9 mX8_init.1 "ShoutedPrices" ∈ NB := nb_in 79 (by decide +kernel) rfl
theorem lnX10_18 : Cond.methodLinkNest RX10 18 mX5_init.1 "ShoutedPrices" ∈ NB := nb_in 96 (by decide +kernel) rfl
theorem lnX10_35 : Cond.methodLinkNest RX10 35 mX4_init.1 "ShoutedPrices" ∈ NB := nb_in 196 (by decide +kernel) rfl
theorem lnX10_52 : Cond.methodLinkNest RX10 52 mX3_init.1 "ShoutedPrices" ∈ NB := nb_in 226 (by decide +kernel) rfl
theorem lnX10_62 : Cond.methodLinkNest RX10 62 mX7_init.1 "ShoutedPrices" ∈ NB := nb_in 286 (by decide +kernel) rfl
theorem lnX7_20 : Cond.methodLinkNest RX7 20 mX3_init.1 "ShoutedPrices" ∈ NB := nb_in 291 (by decide +kernel) rfl
theorem lnX10_69 : Cond.methodLinkNest RX10 69 mX0_init.1 "ShoutedPrices" ∈ NB := nb_in 341 (by decide +kernel) rfl
theorem lnX10_79 : Cond.methodLinkNest RX10 79 mX1_init.1 "ShoutedPrices" ∈ NB := nb_in 357 (by decide +kernel) rfl
theorem lnX1_17 : Cond.methodLinkNest RX1 17 mX4_init.1 "ShoutedPrices" ∈ NB := nb_in 362 (by decide +kernel) rfl
theorem lnX6_56 : Cond.methodLinkNest RX6 56 mX10_within.1 "ShoutedPrices" ∈ NB := nb_in 374 (by decide +kernel) rfl
theorem lnX4_63 : Cond.methodLinkNest RX4 63 mX10_within.1 "ShoutedPrices" ∈ NB := nb_in 687 (by decide +kernel) rfl
theorem lnX0_30 : Cond.methodLinkNest RX0 30 mX10_within.1 "ShoutedPrices" ∈ NB := nb_in 696 (by decide +kernel) rfl
theorem lfX8_9 : Cond.fieldLink RX8 9 "ShoutedPrices$Text" "bytes" "[I" ∈ TB := tb_in 83 (by decide +kernel) rfl
theorem lfX5_36 : Cond.fieldLink RX5 36 "ShoutedPrices$Text" "bytes" "[I" ∈ TB := tb_in 84 (by decide +kernel) rfl
theorem lfX8_15 : Cond.fieldLink RX8 15 "ShoutedPrices$Text" "size" "I" ∈ TB := tb_in 85 (by decide +kernel) rfl
theorem lfX10_88 : Cond.fieldLink RX10 88 "ShoutedPrices$Text" "size" "I" ∈ TB := tb_in 86 (by decide +kernel) rfl
theorem lfX5_27 : Cond.fieldLink RX5 27 "ShoutedPrices$Text" "size" "I" ∈ TB := tb_in 87 (by decide +kernel) rfl
theorem lfX5_11 : Cond.fieldLink RX5 11 "ShoutedPrices$Reader" "number" "[I" ∈ TB := tb_in 100 (by decide +kernel) rfl
theorem lfX5_15 : Cond.fieldLink RX5 15 "ShoutedPrices$Reader" "numbers" "I" ∈ TB := tb_in 101 (by decide +kernel) rfl
theorem lfX5_19 : Cond.fieldLink RX5 19 "ShoutedPrices$Reader" "behind" "I" ∈ TB := tb_in 102 (by decide +kernel) rfl
theorem lfX6_9 : Cond.fieldLink RX6 9 "ShoutedPrices$Room" "sells" "[Z" ∈ TB := tb_in 120 (by decide +kernel) rfl
theorem lfX9_15 : Cond.fieldLink RX9 15 "ShoutedPrices$Room" "sells" "[Z" ∈ TB := tb_in 121 (by decide +kernel) rfl
theorem lfX3_27 : Cond.fieldLink RX3 27 "ShoutedPrices$Room" "sells" "[Z" ∈ TB := tb_in 122 (by decide +kernel) rfl
theorem lfX4_34 : Cond.fieldLink RX4 34 "ShoutedPrices$Room" "sells" "[Z" ∈ TB := tb_in 123 (by decide +kernel) rfl
theorem lfX10_113 : Cond.fieldLink RX10 113 "ShoutedPrices$Room" "sells" "[Z" ∈ TB := tb_in 124 (by decide +kernel) rfl
theorem lfX7_134 : Cond.fieldLink RX7 134 "ShoutedPrices$Room" "sells" "[Z" ∈ TB := tb_in 125 (by decide +kernel) rfl
theorem lfX6_15 : Cond.fieldLink RX6 15 "ShoutedPrices$Room" "card" "[I" ∈ TB := tb_in 126 (by decide +kernel) rfl
theorem lfX9_19 : Cond.fieldLink RX9 19 "ShoutedPrices$Room" "card" "[I" ∈ TB := tb_in 127 (by decide +kernel) rfl
theorem lfX3_43 : Cond.fieldLink RX3 43 "ShoutedPrices$Room" "card" "[I" ∈ TB := tb_in 128 (by decide +kernel) rfl
theorem lfX10_117 : Cond.fieldLink RX10 117 "ShoutedPrices$Room" "card" "[I" ∈ TB := tb_in 129 (by decide +kernel) rfl
theorem lfX7_100 : Cond.fieldLink RX7 100 "ShoutedPrices$Room" "card" "[I" ∈ TB := tb_in 130 (by decide +kernel) rfl
theorem lfX6_19 : Cond.fieldLink RX6 19 "ShoutedPrices$Room" "law" "[I" ∈ TB := tb_in 131 (by decide +kernel) rfl
theorem lfX1_22 : Cond.fieldLink RX1 22 "ShoutedPrices$Room" "law" "[I" ∈ TB := tb_in 132 (by decide +kernel) rfl
theorem lfX7_69 : Cond.fieldLink RX7 69 "ShoutedPrices$Room" "law" "[I" ∈ TB := tb_in 133 (by decide +kernel) rfl
theorem lfX10_121 : Cond.fieldLink RX10 121 "ShoutedPrices$Room" "law" "[I" ∈ TB := tb_in 134 (by decide +kernel) rfl
theorem lfX6_22 : Cond.fieldLink RX6 22 "ShoutedPrices$Room" "buyer" "[I" ∈ TB := tb_in 135 (by decide +kernel) rfl
theorem lfX7_158 : Cond.fieldLink RX7 158 "ShoutedPrices$Room" "buyer" "[I" ∈ TB := tb_in 136 (by decide +kernel) rfl
theorem lfX10_253 : Cond.fieldLink RX10 253 "ShoutedPrices$Room" "buyer" "[I" ∈ TB := tb_in 137 (by decide +kernel) rfl
theorem lfX6_25 : Cond.fieldLink RX6 25 "ShoutedPrices$Room" "seller" "[I" ∈ TB := tb_in 138 (by decide +kernel) rfl
theorem lfX7_164 : Cond.fieldLink RX7 164 "ShoutedPrices$Room" "seller" "[I" ∈ TB := tb_in 139 (by decide +kernel) rfl
theorem lfX10_256 : Cond.fieldLink RX10 256 "ShoutedPrices$Room" "seller" "[I" ∈ TB := tb_in 140 (by decide +kernel) rfl
theorem lfX6_31 : Cond.fieldLink RX6 31 "ShoutedPrices$Room" "people" "I" ∈ TB := tb_in 141 (by decide +kernel) rfl
theorem lfX3_40 : Cond.fieldLink RX3 40 "ShoutedPrices$Room" "people" "I" ∈ TB := tb_in 142 (by decide +kernel) rfl
theorem lfX10_106 : Cond.fieldLink RX10 106 "ShoutedPrices$Room" "people" "I" ∈ TB := tb_in 143 (by decide +kernel) rfl
theorem lfX7_120 : Cond.fieldLink RX7 120 "ShoutedPrices$Room" "people" "I" ∈ TB := tb_in 144 (by decide +kernel) rfl
theorem lfX6_35 : Cond.fieldLink RX6 35 "ShoutedPrices$Room" "buyers" "I" ∈ TB := tb_in 145 (by decide +kernel) rfl
theorem lfX10_99 : Cond.fieldLink RX10 99 "ShoutedPrices$Room" "buyers" "I" ∈ TB := tb_in 146 (by decide +kernel) rfl
theorem lfX7_161 : Cond.fieldLink RX7 161 "ShoutedPrices$Room" "buyers" "I" ∈ TB := tb_in 147 (by decide +kernel) rfl
theorem lfX6_38 : Cond.fieldLink RX6 38 "ShoutedPrices$Room" "sellers" "I" ∈ TB := tb_in 148 (by decide +kernel) rfl
theorem lfX10_102 : Cond.fieldLink RX10 102 "ShoutedPrices$Room" "sellers" "I" ∈ TB := tb_in 149 (by decide +kernel) rfl
theorem lfX7_167 : Cond.fieldLink RX7 167 "ShoutedPrices$Room" "sellers" "I" ∈ TB := tb_in 150 (by decide +kernel) rfl
theorem lfX6_41 : Cond.fieldLink RX6 41 "ShoutedPrices$Room" "steps" "I" ∈ TB := tb_in 151 (by decide +kernel) rfl
theorem lfX9_23 : Cond.fieldLink RX9 23 "ShoutedPrices$Room" "steps" "I" ∈ TB := tb_in 152 (by decide +kernel) rfl
theorem lfX7_114 : Cond.fieldLink RX7 114 "ShoutedPrices$Room" "steps" "I" ∈ TB := tb_in 153 (by decide +kernel) rfl
theorem lfX10_250 : Cond.fieldLink RX10 250 "ShoutedPrices$Room" "steps" "I" ∈ TB := tb_in 154 (by decide +kernel) rfl
theorem lfX6_44 : Cond.fieldLink RX6 44 "ShoutedPrices$Room" "tax" "I" ∈ TB := tb_in 155 (by decide +kernel) rfl
theorem lfX9_50 : Cond.fieldLink RX9 50 "ShoutedPrices$Room" "tax" "I" ∈ TB := tb_in 156 (by decide +kernel) rfl
theorem lfX10_124 : Cond.fieldLink RX10 124 "ShoutedPrices$Room" "tax" "I" ∈ TB := tb_in 157 (by decide +kernel) rfl
theorem lfX7_148 : Cond.fieldLink RX7 148 "ShoutedPrices$Room" "tax" "I" ∈ TB := tb_in 158 (by decide +kernel) rfl
theorem lfX6_47 : Cond.fieldLink RX6 47 "ShoutedPrices$Room" "lid" "I" ∈ TB := tb_in 159 (by decide +kernel) rfl
theorem lfX9_47 : Cond.fieldLink RX9 47 "ShoutedPrices$Room" "lid" "I" ∈ TB := tb_in 160 (by decide +kernel) rfl
theorem lfX10_143 : Cond.fieldLink RX10 143 "ShoutedPrices$Room" "lid" "I" ∈ TB := tb_in 161 (by decide +kernel) rfl
theorem lfX9_9 : Cond.fieldLink RX9 9 "ShoutedPrices$Room" "near" "I" ∈ TB := tb_in 162 (by decide +kernel) rfl
theorem lfX6_50 : Cond.fieldLink RX6 50 "ShoutedPrices$Room" "near" "I" ∈ TB := tb_in 163 (by decide +kernel) rfl
theorem lfX6_53 : Cond.fieldLink RX6 53 "ShoutedPrices$Room" "hold" "I" ∈ TB := tb_in 164 (by decide +kernel) rfl
theorem lfX9_35 : Cond.fieldLink RX9 35 "ShoutedPrices$Room" "hold" "I" ∈ TB := tb_in 165 (by decide +kernel) rfl
theorem lfX4_9 : Cond.fieldLink RX4 9 "ShoutedPrices$Log" "person" "[I" ∈ TB := tb_in 200 (by decide +kernel) rfl
theorem lfX10_207 : Cond.fieldLink RX10 207 "ShoutedPrices$Log" "person" "[I" ∈ TB := tb_in 201 (by decide +kernel) rfl
theorem lfX4_15 : Cond.fieldLink RX4 15 "ShoutedPrices$Log" "price" "[I" ∈ TB := tb_in 202 (by decide +kernel) rfl
theorem lfX10_210 : Cond.fieldLink RX10 210 "ShoutedPrices$Log" "price" "[I" ∈ TB := tb_in 203 (by decide +kernel) rfl
theorem lfX4_18 : Cond.fieldLink RX4 18 "ShoutedPrices$Log" "step" "[I" ∈ TB := tb_in 204 (by decide +kernel) rfl
theorem lfX10_211 : Cond.fieldLink RX10 211 "ShoutedPrices$Log" "step" "[I" ∈ TB := tb_in 205 (by decide +kernel) rfl
theorem lfX4_21 : Cond.fieldLink RX4 21 "ShoutedPrices$Log" "last" "[I" ∈ TB := tb_in 206 (by decide +kernel) rfl
theorem lfX10_214 : Cond.fieldLink RX10 214 "ShoutedPrices$Log" "last" "[I" ∈ TB := tb_in 207 (by decide +kernel) rfl
theorem lfX4_24 : Cond.fieldLink RX4 24 "ShoutedPrices$Log" "size" "I" ∈ TB := tb_in 208 (by decide +kernel) rfl
theorem lfX10_105 : Cond.fieldLink RX10 105 "ShoutedPrices$Log" "size" "I" ∈ TB := tb_in 209 (by decide +kernel) rfl
theorem lfX7_103 : Cond.fieldLink RX7 103 "ShoutedPrices$Log" "size" "I" ∈ TB := tb_in 210 (by decide +kernel) rfl
theorem lfX2_22 : Cond.fieldLink RX2 22 "ShoutedPrices$Line" "rising" "Z" ∈ TB := tb_in 236 (by decide +kernel) rfl
theorem lfX2_9 : Cond.fieldLink RX2 9 "ShoutedPrices$Line" "whose" "[I" ∈ TB := tb_in 237 (by decide +kernel) rfl
theorem lfX7_191 : Cond.fieldLink RX7 191 "ShoutedPrices$Line" "whose" "[I" ∈ TB := tb_in 238 (by decide +kernel) rfl
theorem lfX2_15 : Cond.fieldLink RX2 15 "ShoutedPrices$Line" "card" "[I" ∈ TB := tb_in 239 (by decide +kernel) rfl
theorem lfX3_64 : Cond.fieldLink RX3 64 "ShoutedPrices$Line" "card" "[I" ∈ TB := tb_in 240 (by decide +kernel) rfl
theorem lfX2_18 : Cond.fieldLink RX2 18 "ShoutedPrices$Line" "size" "I" ∈ TB := tb_in 241 (by decide +kernel) rfl
theorem lfX3_23 : Cond.fieldLink RX3 23 "ShoutedPrices$Line" "size" "I" ∈ TB := tb_in 242 (by decide +kernel) rfl
theorem lfX0_22 : Cond.fieldLink RX0 22 "ShoutedPrices$Line" "size" "I" ∈ TB := tb_in 243 (by decide +kernel) rfl
theorem lfX3_14 : Cond.fieldLink RX3 14 "ShoutedPrices$Lines" "buyers" "LShoutedPrices$Line;" ∈ TB := tb_in 253 (by decide +kernel) rfl
theorem lfX0_16 : Cond.fieldLink RX0 16 "ShoutedPrices$Lines" "buyers" "LShoutedPrices$Line;" ∈ TB := tb_in 254 (by decide +kernel) rfl
theorem lfX10_146 : Cond.fieldLink RX10 146 "ShoutedPrices$Lines" "buyers" "LShoutedPrices$Line;" ∈ TB := tb_in 255 (by decide +kernel) rfl
theorem lfX7_188 : Cond.fieldLink RX7 188 "ShoutedPrices$Lines" "buyers" "LShoutedPrices$Line;" ∈ TB := tb_in 256 (by decide +kernel) rfl
theorem lfX3_20 : Cond.fieldLink RX3 20 "ShoutedPrices$Lines" "sellers" "LShoutedPrices$Line;" ∈ TB := tb_in 257 (by decide +kernel) rfl
theorem lfX0_27 : Cond.fieldLink RX0 27 "ShoutedPrices$Lines" "sellers" "LShoutedPrices$Line;" ∈ TB := tb_in 258 (by decide +kernel) rfl
theorem lfX10_155 : Cond.fieldLink RX10 155 "ShoutedPrices$Lines" "sellers" "LShoutedPrices$Line;" ∈ TB := tb_in 259 (by decide +kernel) rfl
theorem lfX7_196 : Cond.fieldLink RX7 196 "ShoutedPrices$Lines" "sellers" "LShoutedPrices$Line;" ∈ TB := tb_in 260 (by decide +kernel) rfl
theorem lfX3_61 : Cond.fieldLink RX3 61 "ShoutedPrices$Lines" "quantity" "I" ∈ TB := tb_in 261 (by decide +kernel) rfl
theorem lfX10_131 : Cond.fieldLink RX10 131 "ShoutedPrices$Lines" "quantity" "I" ∈ TB := tb_in 262 (by decide +kernel) rfl
theorem lfX7_185 : Cond.fieldLink RX7 185 "ShoutedPrices$Lines" "quantity" "I" ∈ TB := tb_in 263 (by decide +kernel) rfl
theorem lfX3_68 : Cond.fieldLink RX3 68 "ShoutedPrices$Lines" "most" "I" ∈ TB := tb_in 264 (by decide +kernel) rfl
theorem lfX10_134 : Cond.fieldLink RX10 134 "ShoutedPrices$Lines" "most" "I" ∈ TB := tb_in 265 (by decide +kernel) rfl
theorem lfX3_71 : Cond.fieldLink RX3 71 "ShoutedPrices$Lines" "lowest" "I" ∈ TB := tb_in 266 (by decide +kernel) rfl
theorem lfX10_137 : Cond.fieldLink RX10 137 "ShoutedPrices$Lines" "lowest" "I" ∈ TB := tb_in 267 (by decide +kernel) rfl
theorem lfX7_198 : Cond.fieldLink RX7 198 "ShoutedPrices$Lines" "lowest" "I" ∈ TB := tb_in 268 (by decide +kernel) rfl
theorem lfX3_74 : Cond.fieldLink RX3 74 "ShoutedPrices$Lines" "highest" "I" ∈ TB := tb_in 269 (by decide +kernel) rfl
theorem lfX10_140 : Cond.fieldLink RX10 140 "ShoutedPrices$Lines" "highest" "I" ∈ TB := tb_in 270 (by decide +kernel) rfl
theorem lfX7_9 : Cond.fieldLink RX7 9 "ShoutedPrices$Round" "price" "[I" ∈ TB := tb_in 292 (by decide +kernel) rfl
theorem lfX10_197 : Cond.fieldLink RX10 197 "ShoutedPrices$Round" "price" "[I" ∈ TB := tb_in 293 (by decide +kernel) rfl
theorem lfX7_15 : Cond.fieldLink RX7 15 "ShoutedPrices$Round" "posted" "[I" ∈ TB := tb_in 294 (by decide +kernel) rfl
theorem lfX7_21 : Cond.fieldLink RX7 21 "ShoutedPrices$Round" "told" "LShoutedPrices$Lines;" ∈ TB := tb_in 295 (by decide +kernel) rfl
theorem lfX7_25 : Cond.fieldLink RX7 25 "ShoutedPrices$Round" "z" "I" ∈ TB := tb_in 296 (by decide +kernel) rfl
theorem lfX7_29 : Cond.fieldLink RX7 29 "ShoutedPrices$Round" "last" "I" ∈ TB := tb_in 297 (by decide +kernel) rfl
theorem lfX7_32 : Cond.fieldLink RX7 32 "ShoutedPrices$Round" "lowest" "I" ∈ TB := tb_in 298 (by decide +kernel) rfl
theorem lfX7_35 : Cond.fieldLink RX7 35 "ShoutedPrices$Round" "highest" "I" ∈ TB := tb_in 299 (by decide +kernel) rfl
theorem lfX7_38 : Cond.fieldLink RX7 38 "ShoutedPrices$Round" "traded" "I" ∈ TB := tb_in 300 (by decide +kernel) rfl
theorem lfX10_185 : Cond.fieldLink RX10 185 "ShoutedPrices$Round" "traded" "I" ∈ TB := tb_in 301 (by decide +kernel) rfl
theorem lfX7_41 : Cond.fieldLink RX7 41 "ShoutedPrices$Round" "gain" "I" ∈ TB := tb_in 302 (by decide +kernel) rfl
theorem lfX10_188 : Cond.fieldLink RX10 188 "ShoutedPrices$Round" "gain" "I" ∈ TB := tb_in 303 (by decide +kernel) rfl
theorem lfX7_44 : Cond.fieldLink RX7 44 "ShoutedPrices$Round" "soon" "I" ∈ TB := tb_in 304 (by decide +kernel) rfl
theorem lfX10_191 : Cond.fieldLink RX10 191 "ShoutedPrices$Round" "soon" "I" ∈ TB := tb_in 305 (by decide +kernel) rfl
theorem lfX7_108 : Cond.fieldLink RX7 108 "ShoutedPrices$Round" "bidder" "I" ∈ TB := tb_in 306 (by decide +kernel) rfl
theorem lfX7_111 : Cond.fieldLink RX7 111 "ShoutedPrices$Round" "asker" "I" ∈ TB := tb_in 307 (by decide +kernel) rfl
theorem lfX7_155 : Cond.fieldLink RX7 155 "ShoutedPrices$Round" "bid" "I" ∈ TB := tb_in 308 (by decide +kernel) rfl
theorem lfX7_145 : Cond.fieldLink RX7 145 "ShoutedPrices$Round" "offer" "I" ∈ TB := tb_in 309 (by decide +kernel) rfl
theorem lfX0_7 : Cond.fieldLink RX0 7 "ShoutedPrices$Carriers" "gain" "I" ∈ TB := tb_in 345 (by decide +kernel) rfl
theorem lfX10_239 : Cond.fieldLink RX10 239 "ShoutedPrices$Carriers" "gain" "I" ∈ TB := tb_in 346 (by decide +kernel) rfl
theorem lfX0_13 : Cond.fieldLink RX0 13 "ShoutedPrices$Carriers" "carried" "I" ∈ TB := tb_in 347 (by decide +kernel) rfl
theorem lfX10_240 : Cond.fieldLink RX10 240 "ShoutedPrices$Carriers" "carried" "I" ∈ TB := tb_in 348 (by decide +kernel) rfl
theorem lfX1_9 : Cond.fieldLink RX1 9 "ShoutedPrices$Kept" "law" "[I" ∈ TB := tb_in 363 (by decide +kernel) rfl
theorem lfX1_18 : Cond.fieldLink RX1 18 "ShoutedPrices$Kept" "log" "LShoutedPrices$Log;" ∈ TB := tb_in 364 (by decide +kernel) rfl
theorem lfX10_10 : Cond.fieldLink RX10 10 "ShoutedPrices" "text" "LShoutedPrices$Text;" ∈ TB := tb_in 377 (by decide +kernel) rfl
theorem lfX10_19 : Cond.fieldLink RX10 19 "ShoutedPrices" "reader" "LShoutedPrices$Reader;" ∈ TB := tb_in 378 (by decide +kernel) rfl
theorem lfX10_26 : Cond.fieldLink RX10 26 "ShoutedPrices" "room" "LShoutedPrices$Room;" ∈ TB := tb_in 379 (by decide +kernel) rfl
theorem lfX10_30 : Cond.fieldLink RX10 30 "ShoutedPrices" "spare" "LShoutedPrices$Room;" ∈ TB := tb_in 380 (by decide +kernel) rfl
theorem lfX10_36 : Cond.fieldLink RX10 36 "ShoutedPrices" "log" "LShoutedPrices$Log;" ∈ TB := tb_in 381 (by decide +kernel) rfl
theorem lfX10_42 : Cond.fieldLink RX10 42 "ShoutedPrices" "kept" "[LShoutedPrices$Kept;" ∈ TB := tb_in 382 (by decide +kernel) rfl
theorem lfX10_46 : Cond.fieldLink RX10 46 "ShoutedPrices" "keptSize" "I" ∈ TB := tb_in 383 (by decide +kernel) rfl
theorem lfX10_53 : Cond.fieldLink RX10 53 "ShoutedPrices" "lines" "LShoutedPrices$Lines;" ∈ TB := tb_in 384 (by decide +kernel) rfl
theorem lfX10_57 : Cond.fieldLink RX10 57 "ShoutedPrices" "others" "LShoutedPrices$Lines;" ∈ TB := tb_in 385 (by decide +kernel) rfl
theorem lfX10_63 : Cond.fieldLink RX10 63 "ShoutedPrices" "round" "LShoutedPrices$Round;" ∈ TB := tb_in 386 (by decide +kernel) rfl
theorem lfX10_70 : Cond.fieldLink RX10 70 "ShoutedPrices" "carriers" "LShoutedPrices$Carriers;" ∈ TB := tb_in 387 (by decide +kernel) rfl
theorem lfX10_76 : Cond.fieldLink RX10 76 "ShoutedPrices" "sums" "[[I" ∈ TB := tb_in 388 (by decide +kernel) rfl
theorem lfX11_83 : Cond.fieldLink RX11 83 "ShoutedPricesModel" "length" "I" ∈ TB := tb_in 741 (by decide +kernel) rfl
theorem lfX11_7 : Cond.fieldLink RX11 7 "ShoutedPricesModel" "text" "[I" ∈ TB := tb_in 742 (by decide +kernel) rfl
theorem lfX11_13 : Cond.fieldLink RX11 13 "ShoutedPricesModel" "many" "[I" ∈ TB := tb_in 743 (by decide +kernel) rfl
theorem lfX11_16 : Cond.fieldLink RX11 16 "ShoutedPricesModel" "sides" "[I" ∈ TB := tb_in 744 (by decide +kernel) rfl
theorem lfX11_19 : Cond.fieldLink RX11 19 "ShoutedPricesModel" "cards" "[I" ∈ TB := tb_in 745 (by decide +kernel) rfl
theorem lfX11_22 : Cond.fieldLink RX11 22 "ShoutedPricesModel" "laws" "[I" ∈ TB := tb_in 746 (by decide +kernel) rfl
theorem lfX11_25 : Cond.fieldLink RX11 25 "ShoutedPricesModel" "numbers" "[I" ∈ TB := tb_in 747 (by decide +kernel) rfl
theorem lfX11_28 : Cond.fieldLink RX11 28 "ShoutedPricesModel" "logMany" "[I" ∈ TB := tb_in 748 (by decide +kernel) rfl
theorem lfX11_31 : Cond.fieldLink RX11 31 "ShoutedPricesModel" "logPerson" "[I" ∈ TB := tb_in 749 (by decide +kernel) rfl
theorem lfX11_34 : Cond.fieldLink RX11 34 "ShoutedPricesModel" "logPrice" "[I" ∈ TB := tb_in 750 (by decide +kernel) rfl
theorem lfX11_37 : Cond.fieldLink RX11 37 "ShoutedPricesModel" "logStep" "[I" ∈ TB := tb_in 751 (by decide +kernel) rfl
theorem lfX11_40 : Cond.fieldLink RX11 40 "ShoutedPricesModel" "logLast" "[I" ∈ TB := tb_in 752 (by decide +kernel) rfl
theorem lfX11_43 : Cond.fieldLink RX11 43 "ShoutedPricesModel" "keptLaws" "[I" ∈ TB := tb_in 753 (by decide +kernel) rfl
theorem lfX11_124 : Cond.fieldLink RX11 124 "ShoutedPricesModel" "keptMany" "I" ∈ TB := tb_in 754 (by decide +kernel) rfl
theorem lfX11_89 : Cond.fieldLink RX11 89 "ShoutedPricesModel" "place" "I" ∈ TB := tb_in 755 (by decide +kernel) rfl
theorem lfX11_46 : Cond.fieldLink RX11 46 "ShoutedPricesModel" "told" "[I" ∈ TB := tb_in 756 (by decide +kernel) rfl
theorem lfX11_49 : Cond.fieldLink RX11 49 "ShoutedPricesModel" "shown" "[I" ∈ TB := tb_in 757 (by decide +kernel) rfl
theorem lfX11_52 : Cond.fieldLink RX11 52 "ShoutedPricesModel" "buyers" "[I" ∈ TB := tb_in 758 (by decide +kernel) rfl
theorem lfX11_55 : Cond.fieldLink RX11 55 "ShoutedPricesModel" "sellers" "[I" ∈ TB := tb_in 759 (by decide +kernel) rfl
theorem lfX11_134 : Cond.fieldLink RX11 134 "ShoutedPricesModel" "buyerMany" "I" ∈ TB := tb_in 760 (by decide +kernel) rfl
theorem lfX11_137 : Cond.fieldLink RX11 137 "ShoutedPricesModel" "sellerMany" "I" ∈ TB := tb_in 761 (by decide +kernel) rfl
theorem lfX11_187 : Cond.fieldLink RX11 187 "ShoutedPricesModel" "seed" "I" ∈ TB := tb_in 762 (by decide +kernel) rfl
theorem lfX11_196 : Cond.fieldLink RX11 196 "ShoutedPricesModel" "last" "I" ∈ TB := tb_in 763 (by decide +kernel) rfl
theorem lfX11_58 : Cond.fieldLink RX11 58 "ShoutedPricesModel" "paid" "[I" ∈ TB := tb_in 764 (by decide +kernel) rfl
theorem lfX11_209 : Cond.fieldLink RX11 209 "ShoutedPricesModel" "traded" "I" ∈ TB := tb_in 765 (by decide +kernel) rfl
theorem lfX11_206 : Cond.fieldLink RX11 206 "ShoutedPricesModel" "gain" "I" ∈ TB := tb_in 766 (by decide +kernel) rfl
theorem lfX11_218 : Cond.fieldLink RX11 218 "ShoutedPricesModel" "soon" "I" ∈ TB := tb_in 767 (by decide +kernel) rfl
theorem lfX11_212 : Cond.fieldLink RX11 212 "ShoutedPricesModel" "low" "I" ∈ TB := tb_in 768 (by decide +kernel) rfl
theorem lfX11_215 : Cond.fieldLink RX11 215 "ShoutedPricesModel" "high" "I" ∈ TB := tb_in 769 (by decide +kernel) rfl
theorem lfX11_221 : Cond.fieldLink RX11 221 "ShoutedPricesModel" "logs" "Z" ∈ TB := tb_in 770 (by decide +kernel) rfl
theorem lfX11_61 : Cond.fieldLink RX11 61 "ShoutedPricesModel" "posted" "[I" ∈ TB := tb_in 771 (by decide +kernel) rfl
theorem lfX11_64 : Cond.fieldLink RX11 64 "ShoutedPricesModel" "sums" "[I" ∈ TB := tb_in 772 (by decide +kernel) rfl
theorem lfX11_67 : Cond.fieldLink RX11 67 "ShoutedPricesModel" "room" "[I" ∈ TB := tb_in 773 (by decide +kernel) rfl
theorem lfX11_70 : Cond.fieldLink RX11 70 "ShoutedPricesModel" "roomMany" "[I" ∈ TB := tb_in 774 (by decide +kernel) rfl
theorem lcX10_166 : Cond.constantLong RX10 166 (-1 : Int64) ∈ TB := tb_in 518 (by decide +kernel) rfl
theorem lcX7_61 : Cond.constantLong RX7 61 (7919 : Int64) ∈ TB := tb_in 566 (by decide +kernel) rfl
theorem lcX7_63 : Cond.constantLong RX7 63 (6151 : Int64) ∈ TB := tb_in 567 (by decide +kernel) rfl
theorem lcX7_65 : Cond.constantLong RX7 65 (3571 : Int64) ∈ TB := tb_in 568 (by decide +kernel) rfl
theorem lcX7_67 : Cond.constantLong RX7 67 (65521 : Int64) ∈ TB := tb_in 569 (by decide +kernel) rfl
theorem lcX11_77 : Cond.constantLong RX11 77 (8 : Int64) ∈ TB := tb_in 848 (by decide +kernel) rfl
theorem lcX11_87 : Cond.constantLong RX11 87 (255 : Int64) ∈ TB := tb_in 852 (by decide +kernel) rfl
theorem lcX11_96 : Cond.constantLong RX11 96 (48 : Int64) ∈ TB := tb_in 881 (by decide +kernel) rfl
theorem lcX11_98 : Cond.constantLong RX11 98 (57 : Int64) ∈ TB := tb_in 882 (by decide +kernel) rfl
theorem lcX11_100 : Cond.constantLong RX11 100 (3 : Int64) ∈ TB := tb_in 883 (by decide +kernel) rfl
theorem lcX11_130 : Cond.constantLong RX11 130 (2 : Int64) ∈ TB := tb_in 904 (by decide +kernel) rfl
theorem lcX11_132 : Cond.constantLong RX11 132 (5 : Int64) ∈ TB := tb_in 909 (by decide +kernel) rfl
theorem lcX11_146 : Cond.constantLong RX11 146 (4 : Int64) ∈ TB := tb_in 914 (by decide +kernel) rfl
theorem lcX11_167 : Cond.constantLong RX11 167 (-1 : Int64) ∈ TB := tb_in 955 (by decide +kernel) rfl
theorem lcX11_180 : Cond.constantLong RX11 180 (99 : Int64) ∈ TB := tb_in 967 (by decide +kernel) rfl
theorem lcX11_252 : Cond.constantLong RX11 252 (9999 : Int64) ∈ TB := tb_in 987 (by decide +kernel) rfl
theorem lcX11_185 : Cond.constantLong RX11 185 (7919 : Int64) ∈ TB := tb_in 1000 (by decide +kernel) rfl
theorem lcX11_190 : Cond.constantLong RX11 190 (6151 : Int64) ∈ TB := tb_in 1001 (by decide +kernel) rfl
theorem lcX11_192 : Cond.constantLong RX11 192 (3571 : Int64) ∈ TB := tb_in 1002 (by decide +kernel) rfl
theorem lcX11_194 : Cond.constantLong RX11 194 (65521 : Int64) ∈ TB := tb_in 1003 (by decide +kernel) rfl
theorem lcL_13 : Cond.constantLong RL 13 (4294967295 : Int64) ∈ TB := tb_in 1108 (by decide +kernel) rfl
theorem llL_7 : Cond.classLink RL 7 "ShoutedPrices" ∈ TB := tb_in 69 (by decide +kernel) rfl
theorem llX10_7 : Cond.classLink RX10 7 "ShoutedPrices$Text" ∈ TB := tb_in 77 (by decide +kernel) rfl
theorem llX10_16 : Cond.classLink RX10 16 "ShoutedPrices$Reader" ∈ TB := tb_in 94 (by decide +kernel) rfl
theorem llX10_23 : Cond.classLink RX10 23 "ShoutedPrices$Room" ∈ TB := tb_in 110 (by decide +kernel) rfl
theorem llX10_33 : Cond.classLink RX10 33 "ShoutedPrices$Log" ∈ TB := tb_in 194 (by decide +kernel) rfl
theorem llX10_40 : Cond.classLink RX10 40 "ShoutedPrices$Kept" ∈ TB := tb_in 222 (by decide +kernel) rfl
theorem llX10_50 : Cond.classLink RX10 50 "ShoutedPrices$Lines" ∈ TB := tb_in 224 (by decide +kernel) rfl
theorem llX3_9 : Cond.classLink RX3 9 "ShoutedPrices$Line" ∈ TB := tb_in 230 (by decide +kernel) rfl
theorem llX10_60 : Cond.classLink RX10 60 "ShoutedPrices$Round" ∈ TB := tb_in 284 (by decide +kernel) rfl
theorem llX7_18 : Cond.classLink RX7 18 "ShoutedPrices$Lines" ∈ TB := tb_in 290 (by decide +kernel) rfl
theorem llX10_67 : Cond.classLink RX10 67 "ShoutedPrices$Carriers" ∈ TB := tb_in 339 (by decide +kernel) rfl
theorem llX10_74 : Cond.classLink RX10 74 "[[I" ∈ TB := tb_in 354 (by decide +kernel) rfl
theorem llX1_15 : Cond.classLink RX1 15 "ShoutedPrices$Log" ∈ TB := tb_in 361 (by decide +kernel) rfl
theorem llL_10 : Cond.classLink RL 10 "ShoutedPricesModel" ∈ TB := tb_in 731 (by decide +kernel) rfl
theorem iaX10 : Cond.instantiable RX10 12 ∈ TB := tb_in 70 (by decide +kernel) rfl
theorem iaX8 : Cond.instantiable RX8 2 ∈ TB := tb_in 78 (by decide +kernel) rfl
theorem iaX5 : Cond.instantiable RX5 3 ∈ TB := tb_in 95 (by decide +kernel) rfl
theorem iaX6 : Cond.instantiable RX6 13 ∈ TB := tb_in 111 (by decide +kernel) rfl
theorem iaX4 : Cond.instantiable RX4 5 ∈ TB := tb_in 195 (by decide +kernel) rfl
theorem iaX3 : Cond.instantiable RX3 6 ∈ TB := tb_in 225 (by decide +kernel) rfl
theorem iaX2 : Cond.instantiable RX2 4 ∈ TB := tb_in 231 (by decide +kernel) rfl
theorem iaX7 : Cond.instantiable RX7 14 ∈ TB := tb_in 285 (by decide +kernel) rfl
theorem iaX0 : Cond.instantiable RX0 2 ∈ TB := tb_in 340 (by decide +kernel) rfl
theorem iaX1 : Cond.instantiable RX1 2 ∈ TB := tb_in 356 (by decide +kernel) rfl
theorem iaX11 : Cond.instantiable RX11 34 ∈ TB := tb_in 732 (by decide +kernel) rfl
theorem iiX10 : Cond.initialized RX10 ∈ TB := tb_in 55 (by decide +kernel) rfl
theorem iiX8 : Cond.initialized RX8 ∈ TB := tb_in 56 (by decide +kernel) rfl
theorem iiX5 : Cond.initialized RX5 ∈ TB := tb_in 57 (by decide +kernel) rfl
theorem iiX6 : Cond.initialized RX6 ∈ TB := tb_in 58 (by decide +kernel) rfl
theorem iiX4 : Cond.initialized RX4 ∈ TB := tb_in 59 (by decide +kernel) rfl
theorem iiX3 : Cond.initialized RX3 ∈ TB := tb_in 60 (by decide +kernel) rfl
theorem iiX2 : Cond.initialized RX2 ∈ TB := tb_in 61 (by decide +kernel) rfl
theorem iiX7 : Cond.initialized RX7 ∈ TB := tb_in 62 (by decide +kernel) rfl
theorem iiX0 : Cond.initialized RX0 ∈ TB := tb_in 63 (by decide +kernel) rfl
theorem iiX1 : Cond.initialized RX1 ∈ TB := tb_in 64 (by decide +kernel) rfl
theorem iiX11 : Cond.initialized RX11 ∈ TB := tb_in 65 (by decide +kernel) rfl
theorem iiX9 : Cond.initialized RX9 ∈ TB := tb_in 67 (by decide +kernel) rfl
theorem iiMath : Cond.initialized "java/lang/Math" ∈ TB := tb_in 66 (by decide +kernel) rfl
theorem iiSystem : Cond.initialized "java/lang/System" ∈ TB := tb_in 68 (by decide +kernel) rfl
theorem mc_max : Cond.code Lib.Math.max.name Lib.Math.max.code 2 (some .int) ∈ TB := tb_in 498 (by decide +kernel) rfl
theorem ms_max : Cond.static Lib.Math.max.name ∈ TB := tb_in 497 (by decide +kernel) rfl
theorem mc_min : Cond.code Lib.Math.min.name Lib.Math.min.code 2 (some .int) ∈ TB := tb_in 491 (by decide +kernel) rfl
theorem ms_min : Cond.static Lib.Math.min.name ∈ TB := tb_in 490 (by decide +kernel) rfl
theorem mc_abs : Cond.code Lib.Math.abs.name Lib.Math.abs.code 1 (some .int) ∈ TB := tb_in 549 (by decide +kernel) rfl
theorem ms_abs : Cond.static Lib.Math.abs.name ∈ TB := tb_in 548 (by decide +kernel) rfl
theorem oi_code : Cond.code objectInit ⟨#[0xb1]⟩ 1 none ∈ TB := tb_in 76 (by decide +kernel) rfl
theorem oi_inst : Cond.instanceMethod objectInit ∈ TB := tb_in 75 (by decide +kernel) rfl
theorem ac_nat : Cond.native arraycopyName ∈ TB := tb_in 713 (by decide +kernel) rfl
theorem ac_st : Cond.static arraycopyName ∈ TB := tb_in 712 (by decide +kernel) rfl
theorem ay_int : Cond.arrayClass (newarray.typeOf .int) ∈ TB := tb_in 93 (by decide +kernel) rfl
theorem ay_boolean : Cond.arrayClass (newarray.typeOf .boolean) ∈ TB := tb_in 193 (by decide +kernel) rfl
theorem ao_K : Cond.arrayOver (.object RX1) ∈ lw_tbl := List.mem_of_getElem? (i := 223) (by decide +kernel)
theorem ao_I : Cond.arrayOver (.array .int) ∈ lw_tbl := List.mem_of_getElem? (i := 355) (by decide +kernel)
