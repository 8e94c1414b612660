theorem okA2 : ∀ a, a < 250 → okM (callee a) := okA
set_option maxRecDepth 100000 in
theorem ck_Acts_init : chkM i_Acts_init = true := by decide +kernel
set_option maxRecDepth 100000 in
theorem ck_Acts_clear : chkM i_Acts_clear = true := by decide +kernel
set_option maxRecDepth 100000 in
theorem ck_Acts_perform : chkM i_Acts_perform = true := by decide +kernel
set_option maxRecDepth 100000 in
theorem ck_Acts_note : chkM i_Acts_note = true := by decide +kernel
set_option maxRecDepth 100000 in
theorem ck_Acts_begin : chkM i_Acts_begin = true := by decide +kernel
set_option maxRecDepth 100000 in
theorem ck_Eating_init : chkM i_Eating_init = true := by decide +kernel
set_option maxRecDepth 100000 in
theorem ck_Eating_eat : chkM i_Eating_eat = true := by decide +kernel
set_option maxRecDepth 100000 in
theorem ck_Eating_choose : chkM i_Eating_choose = true := by decide +kernel
set_option maxRecDepth 100000 in
theorem ck_Eating_nextEaten : chkM i_Eating_nextEaten = true := by decide +kernel
set_option maxRecDepth 100000 in
theorem ck_Eating_widen : chkM i_Eating_widen = true := by decide +kernel
set_option maxRecDepth 100000 in
theorem ck_Eating_pass : chkM i_Eating_pass = true := by decide +kernel
set_option maxRecDepth 100000 in
theorem ck_Evens_init : chkM i_Evens_init = true := by decide +kernel
set_option maxRecDepth 100000 in
theorem ck_Evens_isTold : chkM i_Evens_isTold = true := by decide +kernel
set_option maxRecDepth 100000 in
theorem ck_Evens_add : chkM i_Evens_add = true := by decide +kernel
set_option maxRecDepth 100000 in
theorem ck_Evens_keepPoints : chkM i_Evens_keepPoints = true := by decide +kernel
set_option maxRecDepth 100000 in
theorem ck_Evens_choose : chkM i_Evens_choose = true := by decide +kernel
set_option maxRecDepth 100000 in
theorem ck_Evens_leastOf : chkM i_Evens_leastOf = true := by decide +kernel
set_option maxRecDepth 100000 in
theorem ck_Giving_init : chkM i_Giving_init = true := by decide +kernel
set_option maxRecDepth 100000 in
theorem ck_Giving_isPart : chkM i_Giving_isPart = true := by decide +kernel
set_option maxRecDepth 100000 in
theorem ck_Giving_clear : chkM i_Giving_clear = true := by decide +kernel
set_option maxRecDepth 100000 in
theorem ck_Giving_become : chkM i_Giving_become = true := by decide +kernel
set_option maxRecDepth 100000 in
theorem ck_Giving_forgetAll : chkM i_Giving_forgetAll = true := by decide +kernel
set_option maxRecDepth 100000 in
theorem ck_Giving_unlist : chkM i_Giving_unlist = true := by decide +kernel
set_option maxRecDepth 100000 in
theorem ck_Giving_append : chkM i_Giving_append = true := by decide +kernel
set_option maxRecDepth 100000 in
theorem ck_Giving_relist : chkM i_Giving_relist = true := by decide +kernel
set_option maxRecDepth 100000 in
theorem ck_Giving_heldOf : chkM i_Giving_heldOf = true := by decide +kernel
set_option maxRecDepth 100000 in
theorem ck_Giving_firstOf : chkM i_Giving_firstOf = true := by decide +kernel
set_option maxRecDepth 100000 in
theorem ck_Giving_partsOfPerson : chkM i_Giving_partsOfPerson = true := by decide +kernel
set_option maxRecDepth 100000 in
theorem ck_Giving_partsOfThing : chkM i_Giving_partsOfThing = true := by decide +kernel
set_option maxRecDepth 100000 in
theorem ck_Giving_barring : chkM i_Giving_barring = true := by decide +kernel
set_option maxRecDepth 100000 in
theorem ck_Giving_hasUnlisted : chkM i_Giving_hasUnlisted = true := by decide +kernel
set_option maxRecDepth 100000 in
theorem ck_Giving_canBeParted : chkM i_Giving_canBeParted = true := by decide +kernel
set_option maxRecDepth 100000 in
theorem ck_Hand_init : chkM i_Hand_init = true := by decide +kernel
set_option maxRecDepth 100000 in
theorem ck_Hand_deal : chkM i_Hand_deal = true := by decide +kernel
set_option maxRecDepth 100000 in
theorem ck_Hand_take : chkM i_Hand_take = true := by decide +kernel
set_option maxRecDepth 100000 in
theorem ck_Hand_countOf : chkM i_Hand_countOf = true := by decide +kernel
set_option maxRecDepth 100000 in
theorem ck_Hand_pointsOf : chkM i_Hand_pointsOf = true := by decide +kernel
set_option maxRecDepth 100000 in
theorem ck_Hand_gapOf : chkM i_Hand_gapOf = true := by decide +kernel
set_option maxRecDepth 100000 in
theorem ck_Parting_init : chkM i_Parting_init = true := by decide +kernel
set_option maxRecDepth 100000 in
theorem ck_Parting_forget : chkM i_Parting_forget = true := by decide +kernel
set_option maxRecDepth 100000 in
theorem ck_Parting_split : chkM i_Parting_split = true := by decide +kernel
set_option maxRecDepth 100000 in
theorem ck_Parting_measure : chkM i_Parting_measure = true := by decide +kernel
set_option maxRecDepth 100000 in
theorem ck_Parting_pickFirst : chkM i_Parting_pickFirst = true := by decide +kernel
set_option maxRecDepth 100000 in
theorem ck_Parting_pickFor : chkM i_Parting_pickFor = true := by decide +kernel
set_option maxRecDepth 100000 in
theorem ck_Parting_canGoOn : chkM i_Parting_canGoOn = true := by decide +kernel
set_option maxRecDepth 100000 in
theorem ck_Parting_mostOff : chkM i_Parting_mostOff = true := by decide +kernel
set_option maxRecDepth 100000 in
theorem ck_Rings_init : chkM i_Rings_init = true := by decide +kernel
set_option maxRecDepth 100000 in
theorem ck_Rings_forget : chkM i_Rings_forget = true := by decide +kernel
set_option maxRecDepth 100000 in
theorem ck_Rings_find : chkM i_Rings_find = true := by decide +kernel
set_option maxRecDepth 100000 in
theorem ck_Rings_findAlone : chkM i_Rings_findAlone = true := by decide +kernel
set_option maxRecDepth 100000 in
theorem ck_Rings_findLeft : chkM i_Rings_findLeft = true := by decide +kernel
set_option maxRecDepth 100000 in
theorem ck_Rings_isBetter : chkM i_Rings_isBetter = true := by decide +kernel
set_option maxRecDepth 100000 in
theorem ck_Rings_addPerson : chkM i_Rings_addPerson = true := by decide +kernel
set_option maxRecDepth 100000 in
theorem ck_Rings_isAmong : chkM i_Rings_isAmong = true := by decide +kernel
set_option maxRecDepth 100000 in
theorem ck_Rings_addThing : chkM i_Rings_addThing = true := by decide +kernel
set_option maxRecDepth 100000 in
theorem ck_Shares_init : chkM i_Shares_init = true := by decide +kernel
set_option maxRecDepth 100000 in
theorem ck_Shares_clear : chkM i_Shares_clear = true := by decide +kernel
set_option maxRecDepth 100000 in
theorem ck_Shares_addOrders : chkM i_Shares_addOrders = true := by decide +kernel
set_option maxRecDepth 100000 in
theorem ck_Shares_addHand : chkM i_Shares_addHand = true := by decide +kernel
set_option maxRecDepth 100000 in
theorem ck_Shares_copyTable : chkM i_Shares_copyTable = true := by decide +kernel
set_option maxRecDepth 100000 in
theorem ck_Shares_mend : chkM i_Shares_mend = true := by decide +kernel
set_option maxRecDepth 100000 in
theorem ck_Shares_dropUnlisted : chkM i_Shares_dropUnlisted = true := by decide +kernel
set_option maxRecDepth 100000 in
theorem ck_Shares_cut : chkM i_Shares_cut = true := by decide +kernel
set_option maxRecDepth 100000 in
theorem ck_Shelf_init : chkM i_Shelf_init = true := by decide +kernel
set_option maxRecDepth 100000 in
theorem ck_Shelf_keepKind : chkM i_Shelf_keepKind = true := by decide +kernel
set_option maxRecDepth 100000 in
theorem ck_Shelf_keepRow : chkM i_Shelf_keepRow = true := by decide +kernel
set_option maxRecDepth 100000 in
theorem ck_Shelf_hasRoom : chkM i_Shelf_hasRoom = true := by decide +kernel
set_option maxRecDepth 100000 in
theorem ck_Shelf_write : chkM i_Shelf_write = true := by decide +kernel
set_option maxRecDepth 100000 in
theorem ck_Tape_init : chkM i_Tape_init = true := by decide +kernel
set_option maxRecDepth 100000 in
theorem ck_Tape_add : chkM i_Tape_add = true := by decide +kernel
set_option maxRecDepth 100000 in
theorem ck_Tape_readGiving : chkM i_Tape_readGiving = true := by decide +kernel
set_option maxRecDepth 100000 in
theorem ck_Tape_readInstead : chkM i_Tape_readInstead = true := by decide +kernel
set_option maxRecDepth 100000 in
theorem ck_Tape_next : chkM i_Tape_next = true := by decide +kernel
set_option maxRecDepth 100000 in
theorem ck_Tape_readThings : chkM i_Tape_readThings = true := by decide +kernel
set_option maxRecDepth 100000 in
theorem ck_Tape_readLists : chkM i_Tape_readLists = true := by decide +kernel
set_option maxRecDepth 100000 in
theorem ck_Tape_readList : chkM i_Tape_readList = true := by decide +kernel
set_option maxRecDepth 100000 in
theorem ck_Tape_readHeld : chkM i_Tape_readHeld = true := by decide +kernel
set_option maxRecDepth 100000 in
theorem ck_Trade_init : chkM i_Trade_init = true := by decide +kernel
set_option maxRecDepth 100000 in
theorem ck_Trade_exchange : chkM i_Trade_exchange = true := by decide +kernel
set_option maxRecDepth 100000 in
theorem ck_Trade_pointAll : chkM i_Trade_pointAll = true := by decide +kernel
set_option maxRecDepth 100000 in
theorem ck_Trade_holderOf : chkM i_Trade_holderOf = true := by decide +kernel
set_option maxRecDepth 100000 in
theorem ck_Trade_closeRing : chkM i_Trade_closeRing = true := by decide +kernel
set_option maxRecDepth 100000 in
theorem ck_Trade_isInRing : chkM i_Trade_isInRing = true := by decide +kernel
set_option maxRecDepth 100000 in
theorem ck_Trade_takeRest : chkM i_Trade_takeRest = true := by decide +kernel
set_option maxRecDepth 100000 in
theorem ck_Trade_leftOf : chkM i_Trade_leftOf = true := by decide +kernel
set_option maxRecDepth 100000 in
theorem ck_X_init : chkM i_X_init = true := by decide +kernel
set_option maxRecDepth 100000 in
theorem ck_X_feed : chkM i_X_feed = true := by decide +kernel
set_option maxRecDepth 100000 in
theorem ck_X_giving : chkM i_X_giving = true := by decide +kernel
set_option maxRecDepth 100000 in
theorem ck_X_of : chkM i_X_of = true := by decide +kernel
set_option maxRecDepth 100000 in
theorem ck_X_rounds : chkM i_X_rounds = true := by decide +kernel
set_option maxRecDepth 100000 in
theorem ck_X_level : chkM i_X_level = true := by decide +kernel
set_option maxRecDepth 100000 in
theorem ck_X_listed : chkM i_X_listed = true := by decide +kernel
set_option maxRecDepth 100000 in
theorem ck_X_takes : chkM i_X_takes = true := by decide +kernel
set_option maxRecDepth 100000 in
theorem ck_X_instead : chkM i_X_instead = true := by decide +kernel
set_option maxRecDepth 100000 in
theorem ck_X_run : chkM i_X_run = true := by decide +kernel
set_option maxRecDepth 100000 in
theorem ck_X_has : chkM i_X_has = true := by decide +kernel
set_option maxRecDepth 100000 in
theorem ck_X_left : chkM i_X_left = true := by decide +kernel
set_option maxRecDepth 100000 in
theorem ck_X_led : chkM i_X_led = true := by decide +kernel
set_option maxRecDepth 100000 in
theorem ck_X_ring : chkM i_X_ring = true := by decide +kernel
set_option maxRecDepth 100000 in
theorem ck_X_way : chkM i_X_way = true := by decide +kernel
set_option maxRecDepth 100000 in
theorem ck_X_kindOf : chkM i_X_kindOf = true := by decide +kernel
set_option maxRecDepth 100000 in
theorem ck_X_share : chkM i_X_share = true := by decide +kernel
set_option maxRecDepth 100000 in
theorem ck_X_stops : chkM i_X_stops = true := by decide +kernel
set_option maxRecDepth 100000 in
theorem ck_X_rather : chkM i_X_rather = true := by decide +kernel
set_option maxRecDepth 100000 in
theorem ck_X_envy : chkM i_X_envy = true := by decide +kernel
set_option maxRecDepth 100000 in
theorem ck_X_wrongly : chkM i_X_wrongly = true := by decide +kernel
set_option maxRecDepth 100000 in
theorem ck_X_gains : chkM i_X_gains = true := by decide +kernel
set_option maxRecDepth 100000 in
theorem ck_X_told : chkM i_X_told = true := by decide +kernel
set_option maxRecDepth 100000 in
theorem ck_X_table : chkM i_X_table = true := by decide +kernel
set_option maxRecDepth 100000 in
theorem ck_X_bars : chkM i_X_bars = true := by decide +kernel
set_option maxRecDepth 100000 in
theorem ck_X_parted : chkM i_X_parted = true := by decide +kernel
set_option maxRecDepth 100000 in
theorem ck_X_order : chkM i_X_order = true := by decide +kernel
set_option maxRecDepth 100000 in
theorem ck_X_even : chkM i_X_even = true := by decide +kernel
set_option maxRecDepth 100000 in
theorem ck_X_evenIs : chkM i_X_evenIs = true := by decide +kernel
set_option maxRecDepth 100000 in
theorem ck_X_swap : chkM i_X_swap = true := by decide +kernel
set_option maxRecDepth 100000 in
theorem ck_X_years : chkM i_X_years = true := by decide +kernel
set_option maxRecDepth 100000 in
theorem ck_X_act : chkM i_X_act = true := by decide +kernel
set_option maxRecDepth 100000 in
theorem ck_X_trace : chkM i_X_trace = true := by decide +kernel
set_option maxRecDepth 100000 in
theorem ck_X_keep : chkM i_X_keep = true := by decide +kernel
set_option maxRecDepth 100000 in
theorem ck_X_row : chkM i_X_row = true := by decide +kernel
set_option maxRecDepth 100000 in
theorem ck_X_put : chkM i_X_put = true := by decide +kernel
set_option maxRecDepth 100000 in
theorem ck_X_element : chkM i_X_element = true := by decide +kernel
set_option maxRecDepth 100000 in
theorem ck_X_shift : chkM i_X_shift = true := by decide +kernel
set_option maxRecDepth 100000 in
theorem ck_X_taken : chkM i_X_taken = true := by decide +kernel
set_option maxRecDepth 100000 in
theorem ck_X_count : chkM i_X_count = true := by decide +kernel
set_option maxRecDepth 100000 in
theorem ck_X_isGiving : chkM i_X_isGiving = true := by decide +kernel
set_option maxRecDepth 100000 in
theorem ck_X_isPerson : chkM i_X_isPerson = true := by decide +kernel
set_option maxRecDepth 100000 in
theorem ck_X_isThing : chkM i_X_isThing = true := by decide +kernel
set_option maxRecDepth 100000 in
theorem ck_X_isCell : chkM i_X_isCell = true := by decide +kernel
set_option maxRecDepth 100000 in
theorem ck_X_isShelf : chkM i_X_isShelf = true := by decide +kernel
set_option maxRecDepth 100000 in
theorem ck_X_isNoSide : chkM i_X_isNoSide = true := by decide +kernel
set_option maxRecDepth 100000 in
theorem ck_X_kindAt : chkM i_X_kindAt = true := by decide +kernel
set_option maxRecDepth 100000 in
theorem ck_X_isToldWrongly : chkM i_X_isToldWrongly = true := by decide +kernel
set_option maxRecDepth 100000 in
theorem ck_X_isUnder : chkM i_X_isUnder = true := by decide +kernel
set_option maxRecDepth 100000 in
theorem ck_X_refusalAt : chkM i_X_refusalAt = true := by decide +kernel
set_option maxRecDepth 100000 in
theorem ck_X_forgetTable : chkM i_X_forgetTable = true := by decide +kernel
set_option maxRecDepth 100000 in
theorem ck_X_sharesOf : chkM i_X_sharesOf = true := by decide +kernel
set_option maxRecDepth 100000 in
theorem ck_X_compareOtherwise : chkM i_X_compareOtherwise = true := by decide +kernel
set_option maxRecDepth 100000 in
theorem ck_X_compareRows : chkM i_X_compareRows = true := by decide +kernel
set_option maxRecDepth 100000 in
theorem ck_X_findSwap : chkM i_X_findSwap = true := by decide +kernel
set_option maxRecDepth 100000 in
theorem ck_X_fewestFirst : chkM i_X_fewestFirst = true := by decide +kernel
set_option maxRecDepth 100000 in
theorem ck_X_readLine : chkM i_X_readLine = true := by decide +kernel
set_option maxRecDepth 100000 in
theorem ck_X_numberOf : chkM i_X_numberOf = true := by decide +kernel
set_option maxRecDepth 100000 in
theorem ck_X_firstLine : chkM i_X_firstLine = true := by decide +kernel
set_option maxRecDepth 100000 in
theorem ck_X_nextLine : chkM i_X_nextLine = true := by decide +kernel
set_option maxRecDepth 100000 in
theorem ck_X_exchange : chkM i_X_exchange = true := by decide +kernel
set_option maxRecDepth 100000 in
theorem ck_X_commonOf : chkM i_X_commonOf = true := by decide +kernel
set_option maxRecDepth 100000 in
theorem ck_M_init : chkM i_M_init = true := by decide +kernel
set_option maxRecDepth 100000 in
theorem ck_M_in : chkM i_M_in = true := by decide +kernel
set_option maxRecDepth 100000 in
theorem ck_M_isGiving : chkM i_M_isGiving = true := by decide +kernel
set_option maxRecDepth 100000 in
theorem ck_M_isPerson : chkM i_M_isPerson = true := by decide +kernel
set_option maxRecDepth 100000 in
theorem ck_M_isThing : chkM i_M_isThing = true := by decide +kernel
set_option maxRecDepth 100000 in
theorem ck_M_feed : chkM i_M_feed = true := by decide +kernel
set_option maxRecDepth 100000 in
theorem ck_M_here : chkM i_M_here = true := by decide +kernel
set_option maxRecDepth 100000 in
theorem ck_M_readsThings : chkM i_M_readsThings = true := by decide +kernel
set_option maxRecDepth 100000 in
theorem ck_M_heldOf : chkM i_M_heldOf = true := by decide +kernel
set_option maxRecDepth 100000 in
theorem ck_M_readsList : chkM i_M_readsList = true := by decide +kernel
set_option maxRecDepth 100000 in
theorem ck_M_readsGiving : chkM i_M_readsGiving = true := by decide +kernel
set_option maxRecDepth 100000 in
theorem ck_M_giving : chkM i_M_giving = true := by decide +kernel
set_option maxRecDepth 100000 in
theorem ck_M_copies : chkM i_M_copies = true := by decide +kernel
set_option maxRecDepth 100000 in
theorem ck_M_instead : chkM i_M_instead = true := by decide +kernel
set_option maxRecDepth 100000 in
theorem ck_M_of : chkM i_M_of = true := by decide +kernel
set_option maxRecDepth 100000 in
theorem ck_M_rounds : chkM i_M_rounds = true := by decide +kernel
set_option maxRecDepth 100000 in
theorem ck_M_level : chkM i_M_level = true := by decide +kernel
set_option maxRecDepth 100000 in
theorem ck_M_listed : chkM i_M_listed = true := by decide +kernel
set_option maxRecDepth 100000 in
theorem ck_M_takes : chkM i_M_takes = true := by decide +kernel
set_option maxRecDepth 100000 in
theorem ck_M_isOrder : chkM i_M_isOrder = true := by decide +kernel
set_option maxRecDepth 100000 in
theorem ck_M_asDigits : chkM i_M_asDigits = true := by decide +kernel
set_option maxRecDepth 100000 in
theorem ck_M_firstLeft : chkM i_M_firstLeft = true := by decide +kernel
set_option maxRecDepth 100000 in
theorem ck_M_runs : chkM i_M_runs = true := by decide +kernel
set_option maxRecDepth 100000 in
theorem ck_M_isWay : chkM i_M_isWay = true := by decide +kernel
set_option maxRecDepth 100000 in
theorem ck_M_run : chkM i_M_run = true := by decide +kernel
set_option maxRecDepth 100000 in
theorem ck_M_has : chkM i_M_has = true := by decide +kernel
set_option maxRecDepth 100000 in
theorem ck_M_left : chkM i_M_left = true := by decide +kernel
set_option maxRecDepth 100000 in
theorem ck_M_led : chkM i_M_led = true := by decide +kernel
set_option maxRecDepth 100000 in
theorem ck_M_levelIn : chkM i_M_levelIn = true := by decide +kernel
set_option maxRecDepth 100000 in
theorem ck_M_wishes : chkM i_M_wishes = true := by decide +kernel
set_option maxRecDepth 100000 in
theorem ck_M_findsOne : chkM i_M_findsOne = true := by decide +kernel
set_option maxRecDepth 100000 in
theorem ck_M_findsThings : chkM i_M_findsThings = true := by decide +kernel
set_option maxRecDepth 100000 in
theorem ck_M_findsPeople : chkM i_M_findsPeople = true := by decide +kernel
set_option maxRecDepth 100000 in
theorem ck_M_findsRing : chkM i_M_findsRing = true := by decide +kernel
set_option maxRecDepth 100000 in
theorem ck_M_ring : chkM i_M_ring = true := by decide +kernel
set_option maxRecDepth 100000 in
theorem ck_M_way : chkM i_M_way = true := by decide +kernel
set_option maxRecDepth 100000 in
theorem ck_M_kindOf : chkM i_M_kindOf = true := by decide +kernel
set_option maxRecDepth 100000 in
theorem ck_M_common : chkM i_M_common = true := by decide +kernel
set_option maxRecDepth 100000 in
theorem ck_M_clears : chkM i_M_clears = true := by decide +kernel
set_option maxRecDepth 100000 in
theorem ck_M_puts : chkM i_M_puts = true := by decide +kernel
set_option maxRecDepth 100000 in
theorem ck_M_nextOrder : chkM i_M_nextOrder = true := by decide +kernel
set_option maxRecDepth 100000 in
theorem ck_M_firstOrder : chkM i_M_firstOrder = true := by decide +kernel
set_option maxRecDepth 100000 in
theorem ck_M_means : chkM i_M_means = true := by decide +kernel
set_option maxRecDepth 100000 in
theorem ck_M_adds : chkM i_M_adds = true := by decide +kernel
set_option maxRecDepth 100000 in
theorem ck_M_firstUneaten : chkM i_M_firstUneaten = true := by decide +kernel
set_option maxRecDepth 100000 in
theorem ck_M_eatNow : chkM i_M_eatNow = true := by decide +kernel
set_option maxRecDepth 100000 in
theorem ck_M_eating : chkM i_M_eating = true := by decide +kernel
set_option maxRecDepth 100000 in
theorem ck_M_pointOf : chkM i_M_pointOf = true := by decide +kernel
set_option maxRecDepth 100000 in
theorem ck_M_endsSome : chkM i_M_endsSome = true := by decide +kernel
set_option maxRecDepth 100000 in
theorem ck_M_endsRing : chkM i_M_endsRing = true := by decide +kernel
set_option maxRecDepth 100000 in
theorem ck_M_trades : chkM i_M_trades = true := by decide +kernel
set_option maxRecDepth 100000 in
theorem ck_M_takesParts : chkM i_M_takesParts = true := by decide +kernel
set_option maxRecDepth 100000 in
theorem ck_M_sumOf : chkM i_M_sumOf = true := by decide +kernel
set_option maxRecDepth 100000 in
theorem ck_M_sumOver : chkM i_M_sumOver = true := by decide +kernel
set_option maxRecDepth 100000 in
theorem ck_M_less : chkM i_M_less = true := by decide +kernel
set_option maxRecDepth 100000 in
theorem ck_M_mends : chkM i_M_mends = true := by decide +kernel
set_option maxRecDepth 100000 in
theorem ck_M_shares : chkM i_M_shares = true := by decide +kernel
set_option maxRecDepth 100000 in
theorem ck_M_share : chkM i_M_share = true := by decide +kernel
set_option maxRecDepth 100000 in
theorem ck_M_stops : chkM i_M_stops = true := by decide +kernel
set_option maxRecDepth 100000 in
theorem ck_M_keepsRow : chkM i_M_keepsRow = true := by decide +kernel
set_option maxRecDepth 100000 in
theorem ck_M_against : chkM i_M_against = true := by decide +kernel
set_option maxRecDepth 100000 in
theorem ck_M_rather : chkM i_M_rather = true := by decide +kernel
set_option maxRecDepth 100000 in
theorem ck_M_envy : chkM i_M_envy = true := by decide +kernel
set_option maxRecDepth 100000 in
theorem ck_M_areDigits : chkM i_M_areDigits = true := by decide +kernel
set_option maxRecDepth 100000 in
theorem ck_M_tries : chkM i_M_tries = true := by decide +kernel
set_option maxRecDepth 100000 in
theorem ck_M_keepsOwn : chkM i_M_keepsOwn = true := by decide +kernel
set_option maxRecDepth 100000 in
theorem ck_M_isLie : chkM i_M_isLie = true := by decide +kernel
set_option maxRecDepth 100000 in
theorem ck_M_wrongly : chkM i_M_wrongly = true := by decide +kernel
set_option maxRecDepth 100000 in
theorem ck_M_triesAll : chkM i_M_triesAll = true := by decide +kernel
set_option maxRecDepth 100000 in
theorem ck_M_gains : chkM i_M_gains = true := by decide +kernel
set_option maxRecDepth 100000 in
theorem ck_M_told : chkM i_M_told = true := by decide +kernel
set_option maxRecDepth 100000 in
theorem ck_M_table : chkM i_M_table = true := by decide +kernel
set_option maxRecDepth 100000 in
theorem ck_M_barsOf : chkM i_M_barsOf = true := by decide +kernel
set_option maxRecDepth 100000 in
theorem ck_M_bars : chkM i_M_bars = true := by decide +kernel
set_option maxRecDepth 100000 in
theorem ck_M_finds : chkM i_M_finds = true := by decide +kernel
set_option maxRecDepth 100000 in
theorem ck_M_most : chkM i_M_most = true := by decide +kernel
set_option maxRecDepth 100000 in
theorem ck_M_parted : chkM i_M_parted = true := by decide +kernel
set_option maxRecDepth 100000 in
theorem ck_M_pointsOf : chkM i_M_pointsOf = true := by decide +kernel
set_option maxRecDepth 100000 in
theorem ck_M_order : chkM i_M_order = true := by decide +kernel
set_option maxRecDepth 100000 in
theorem ck_M_even : chkM i_M_even = true := by decide +kernel
set_option maxRecDepth 100000 in
theorem ck_M_evenIs : chkM i_M_evenIs = true := by decide +kernel
set_option maxRecDepth 100000 in
theorem ck_M_swap : chkM i_M_swap = true := by decide +kernel
set_option maxRecDepth 100000 in
theorem ck_M_years : chkM i_M_years = true := by decide +kernel
set_option maxRecDepth 100000 in
theorem ck_M_begins : chkM i_M_begins = true := by decide +kernel
set_option maxRecDepth 100000 in
theorem ck_M_aboveOf : chkM i_M_aboveOf = true := by decide +kernel
set_option maxRecDepth 100000 in
theorem ck_M_takesFrom : chkM i_M_takesFrom = true := by decide +kernel
set_option maxRecDepth 100000 in
theorem ck_M_leavesFrom : chkM i_M_leavesFrom = true := by decide +kernel
set_option maxRecDepth 100000 in
theorem ck_M_likesFrom : chkM i_M_likesFrom = true := by decide +kernel
set_option maxRecDepth 100000 in
theorem ck_M_tellsFrom : chkM i_M_tellsFrom = true := by decide +kernel
set_option maxRecDepth 100000 in
theorem ck_M_act : chkM i_M_act = true := by decide +kernel
set_option maxRecDepth 100000 in
theorem ck_M_trace : chkM i_M_trace = true := by decide +kernel
set_option maxRecDepth 100000 in
theorem ck_M_isShelf : chkM i_M_isShelf = true := by decide +kernel
set_option maxRecDepth 100000 in
theorem ck_M_keep : chkM i_M_keep = true := by decide +kernel
set_option maxRecDepth 100000 in
theorem ck_M_row : chkM i_M_row = true := by decide +kernel
set_option maxRecDepth 100000 in
theorem ck_M_barred : chkM i_M_barred = true := by decide +kernel
set_option maxRecDepth 100000 in
theorem ck_M_put : chkM i_M_put = true := by decide +kernel
set_option maxRecDepth 100000 in
theorem ck_M_element : chkM i_M_element = true := by decide +kernel
set_option maxRecDepth 100000 in
theorem ck_M_shift : chkM i_M_shift = true := by decide +kernel
set_option maxRecDepth 100000 in
theorem ck_M_taken : chkM i_M_taken = true := by decide +kernel
set_option maxRecDepth 100000 in
theorem ck_M_count : chkM i_M_count = true := by decide +kernel
set_option maxRecDepth 100000 in
theorem ck_Integer_bitCount : chkM i_Integer_bitCount = true := by decide +kernel
set_option maxRecDepth 100000 in
theorem ck_Arrays_fill_J : chkM i_Arrays_fill_J = true := by decide +kernel
set_option maxRecDepth 100000 in
theorem ck_Arrays_fill_I : chkM i_Arrays_fill_I = true := by decide +kernel
