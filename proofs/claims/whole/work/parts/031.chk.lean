/-! The program's tables are the class files' -/
def z_mokb (Tb : List Jvm.Cond) (cl : List vw_C) (tyq : Nat → Nat → FieldType) (P : List z_Me) (PX : List (List Nat)) (me : z_Me) : Bool := plainName me.1.cls && me.2.2.2.2.1.all (fun x => z_chk Tb cl tyq me.1.cls x.1 x.2.1 x.2.2.1 x.2.2.2.1 x.2.2.2.2.1 x.2.2.2.2.2 && z_chkc Tb cl P PX me.1.cls x.2.1 x.2.2.1 x.2.2.2.1 x.2.2.2.2.2 && decide (decode me.2.1 x.1 = .ok (x.2.1, x.2.2.1))) && z_chn me.2.2.2.2.1 && decide (me.2.2.2.1 = none ∨ me.2.2.2.1 = some .int ∨ me.2.2.2.1 = some .long ∨ me.2.2.2.1 = some .boolean)
theorem z_mok_of {Tb : List Jvm.Cond} {cl : List vw_C} {tyq : Nat → Nat → FieldType} {P : List z_Me} {PX : List (List Nat)} {me : z_Me} (h : z_mokb Tb cl tyq P PX me = true) (hl : me.1.cls ≠ z_lawn) : z_mok Tb cl tyq P PX me := by
  unfold z_mokb at h
  simp only [Bool.and_eq_true, decide_eq_true_eq, List.all_eq_true] at h
  obtain ⟨⟨⟨h1, h2⟩, h3⟩, h4⟩ := h
  exact ⟨h1, fun x hx => ⟨(h2 x hx).1.1, (h2 x hx).1.2, (h2 x hx).2⟩, h3, h4, hl⟩
set_option maxRecDepth 100000 in
theorem mk_X0_init : z_mokb lw_tbl vwCl z_tyq z_P z_PX me_X0_init = true := by decide +kernel
set_option maxRecDepth 100000 in
theorem mk_X0_refusal : z_mokb lw_tbl vwCl z_tyq z_P z_PX me_X0_refusal = true := by decide +kernel
set_option maxRecDepth 100000 in
theorem mk_X0_play : z_mokb lw_tbl vwCl z_tyq z_P z_PX me_X0_play = true := by decide +kernel
set_option maxRecDepth 100000 in
theorem mk_X0_serve : z_mokb lw_tbl vwCl z_tyq z_P z_PX me_X0_serve = true := by decide +kernel
set_option maxRecDepth 100000 in
theorem mk_X0_answer : z_mokb lw_tbl vwCl z_tyq z_P z_PX me_X0_answer = true := by decide +kernel
set_option maxRecDepth 100000 in
theorem mk_X0_gatheredOf : z_mokb lw_tbl vwCl z_tyq z_P z_PX me_X0_gatheredOf = true := by decide +kernel
set_option maxRecDepth 100000 in
theorem mk_X0_isSignAct : z_mokb lw_tbl vwCl z_tyq z_P z_PX me_X0_isSignAct = true := by decide +kernel
set_option maxRecDepth 100000 in
theorem mk_X0_isSeatAct : z_mokb lw_tbl vwCl z_tyq z_P z_PX me_X0_isSeatAct = true := by decide +kernel
set_option maxRecDepth 100000 in
theorem mk_X1_init : z_mokb lw_tbl vwCl z_tyq z_P z_PX me_X1_init = true := by decide +kernel
set_option maxRecDepth 100000 in
theorem mk_X1_checkIn : z_mokb lw_tbl vwCl z_tyq z_P z_PX me_X1_checkIn = true := by decide +kernel
set_option maxRecDepth 100000 in
theorem mk_X1_become : z_mokb lw_tbl vwCl z_tyq z_P z_PX me_X1_become = true := by decide +kernel
set_option maxRecDepth 100000 in
theorem mk_X2_init : z_mokb lw_tbl vwCl z_tyq z_P z_PX me_X2_init = true := by decide +kernel
set_option maxRecDepth 100000 in
theorem mk_X2_stands : z_mokb lw_tbl vwCl z_tyq z_P z_PX me_X2_stands = true := by decide +kernel
set_option maxRecDepth 100000 in
theorem mk_X2_clear : z_mokb lw_tbl vwCl z_tyq z_P z_PX me_X2_clear = true := by decide +kernel
set_option maxRecDepth 100000 in
theorem mk_X2_become : z_mokb lw_tbl vwCl z_tyq z_P z_PX me_X2_become = true := by decide +kernel
set_option maxRecDepth 100000 in
theorem mk_X2_weight : z_mokb lw_tbl vwCl z_tyq z_P z_PX me_X2_weight = true := by decide +kernel
set_option maxRecDepth 100000 in
theorem mk_X2_shocks : z_mokb lw_tbl vwCl z_tyq z_P z_PX me_X2_shocks = true := by decide +kernel
set_option maxRecDepth 100000 in
theorem mk_X2_isSoft : z_mokb lw_tbl vwCl z_tyq z_P z_PX me_X2_isSoft = true := by decide +kernel
set_option maxRecDepth 100000 in
theorem mk_X2_lack : z_mokb lw_tbl vwCl z_tyq z_P z_PX me_X2_lack = true := by decide +kernel
set_option maxRecDepth 100000 in
theorem mk_X2_offer : z_mokb lw_tbl vwCl z_tyq z_P z_PX me_X2_offer = true := by decide +kernel
set_option maxRecDepth 100000 in
theorem mk_X2_dawn : z_mokb lw_tbl vwCl z_tyq z_P z_PX me_X2_dawn = true := by decide +kernel
set_option maxRecDepth 100000 in
theorem mk_X2_firstReady : z_mokb lw_tbl vwCl z_tyq z_P z_PX me_X2_firstReady = true := by decide +kernel
set_option maxRecDepth 100000 in
theorem mk_X2_stir : z_mokb lw_tbl vwCl z_tyq z_P z_PX me_X2_stir = true := by decide +kernel
set_option maxRecDepth 100000 in
theorem mk_X2_sleep : z_mokb lw_tbl vwCl z_tyq z_P z_PX me_X2_sleep = true := by decide +kernel
set_option maxRecDepth 100000 in
theorem mk_X2_gatheredByUnknowing : z_mokb lw_tbl vwCl z_tyq z_P z_PX me_X2_gatheredByUnknowing = true := by decide +kernel
set_option maxRecDepth 100000 in
theorem mk_X2_checkOut : z_mokb lw_tbl vwCl z_tyq z_P z_PX me_X2_checkOut = true := by decide +kernel
set_option maxRecDepth 100000 in
theorem mk_X2_knowing : z_mokb lw_tbl vwCl z_tyq z_P z_PX me_X2_knowing = true := by decide +kernel
set_option maxRecDepth 100000 in
theorem mk_X2_shockedOnes : z_mokb lw_tbl vwCl z_tyq z_P z_PX me_X2_shockedOnes = true := by decide +kernel
set_option maxRecDepth 100000 in
theorem mk_X3_init : z_mokb lw_tbl vwCl z_tyq z_P z_PX me_X3_init = true := by decide +kernel
set_option maxRecDepth 100000 in
theorem mk_X3_note : z_mokb lw_tbl vwCl z_tyq z_P z_PX me_X3_note = true := by decide +kernel
set_option maxRecDepth 100000 in
theorem mk_X3_allSo : z_mokb lw_tbl vwCl z_tyq z_P z_PX me_X3_allSo = true := by decide +kernel
set_option maxRecDepth 100000 in
theorem mk_X4_init : z_mokb lw_tbl vwCl z_tyq z_P z_PX me_X4_init = true := by decide +kernel
set_option maxRecDepth 100000 in
theorem mk_X4_renew : z_mokb lw_tbl vwCl z_tyq z_P z_PX me_X4_renew = true := by decide +kernel
set_option maxRecDepth 100000 in
theorem mk_X4_write : z_mokb lw_tbl vwCl z_tyq z_P z_PX me_X4_write = true := by decide +kernel
set_option maxRecDepth 100000 in
theorem mk_X4_faultAs : z_mokb lw_tbl vwCl z_tyq z_P z_PX me_X4_faultAs = true := by decide +kernel
set_option maxRecDepth 100000 in
theorem mk_X4_faultAt : z_mokb lw_tbl vwCl z_tyq z_P z_PX me_X4_faultAt = true := by decide +kernel
set_option maxRecDepth 100000 in
theorem mk_X4_faultOfCells : z_mokb lw_tbl vwCl z_tyq z_P z_PX me_X4_faultOfCells = true := by decide +kernel
set_option maxRecDepth 100000 in
theorem mk_X5_init : z_mokb lw_tbl vwCl z_tyq z_P z_PX me_X5_init = true := by decide +kernel
set_option maxRecDepth 100000 in
theorem mk_X5_fewest : z_mokb lw_tbl vwCl z_tyq z_P z_PX me_X5_fewest = true := by decide +kernel
set_option maxRecDepth 100000 in
theorem mk_X5_signOfRow : z_mokb lw_tbl vwCl z_tyq z_P z_PX me_X5_signOfRow = true := by decide +kernel
set_option maxRecDepth 100000 in
theorem mk_X5_heaviest : z_mokb lw_tbl vwCl z_tyq z_P z_PX me_X5_heaviest = true := by decide +kernel
set_option maxRecDepth 100000 in
theorem mk_X5_firstOfAtLeast : z_mokb lw_tbl vwCl z_tyq z_P z_PX me_X5_firstOfAtLeast = true := by decide +kernel
set_option maxRecDepth 100000 in
theorem mk_X5_thatWeigh : z_mokb lw_tbl vwCl z_tyq z_P z_PX me_X5_thatWeigh = true := by decide +kernel
set_option maxRecDepth 100000 in
theorem mk_X5_waysByOneMore : z_mokb lw_tbl vwCl z_tyq z_P z_PX me_X5_waysByOneMore = true := by decide +kernel
set_option maxRecDepth 100000 in
theorem mk_X6_init : z_mokb lw_tbl vwCl z_tyq z_P z_PX me_X6_init = true := by decide +kernel
set_option maxRecDepth 100000 in
theorem mk_X6_choose : z_mokb lw_tbl vwCl z_tyq z_P z_PX me_X6_choose = true := by decide +kernel
set_option maxRecDepth 100000 in
theorem mk_X6_signFor : z_mokb lw_tbl vwCl z_tyq z_P z_PX me_X6_signFor = true := by decide +kernel
set_option maxRecDepth 100000 in
theorem mk_X6_tryFrom : z_mokb lw_tbl vwCl z_tyq z_P z_PX me_X6_tryFrom = true := by decide +kernel
set_option maxRecDepth 100000 in
theorem mk_X6_keepIfBetter : z_mokb lw_tbl vwCl z_tyq z_P z_PX me_X6_keepIfBetter = true := by decide +kernel
set_option maxRecDepth 100000 in
theorem mk_X7_init : z_mokb lw_tbl vwCl z_tyq z_P z_PX me_X7_init = true := by decide +kernel
set_option maxRecDepth 100000 in
theorem mk_X7_lay : z_mokb lw_tbl vwCl z_tyq z_P z_PX me_X7_lay = true := by decide +kernel
set_option maxRecDepth 100000 in
theorem mk_X7_sitsFrom : z_mokb lw_tbl vwCl z_tyq z_P z_PX me_X7_sitsFrom = true := by decide +kernel
set_option maxRecDepth 100000 in
theorem mk_X7_isFree : z_mokb lw_tbl vwCl z_tyq z_P z_PX me_X7_isFree = true := by decide +kernel
set_option maxRecDepth 100000 in
theorem mk_X7_clash : z_mokb lw_tbl vwCl z_tyq z_P z_PX me_X7_clash = true := by decide +kernel
set_option maxRecDepth 100000 in
theorem mk_X8_init : z_mokb lw_tbl vwCl z_tyq z_P z_PX me_X8_init = true := by decide +kernel
set_option maxRecDepth 100000 in
theorem mk_X8_firstFault : z_mokb lw_tbl vwCl z_tyq z_P z_PX me_X8_firstFault = true := by decide +kernel
set_option maxRecDepth 100000 in
theorem mk_X8_goesOn : z_mokb lw_tbl vwCl z_tyq z_P z_PX me_X8_goesOn = true := by decide +kernel
set_option maxRecDepth 100000 in
theorem mk_X8_nextSign : z_mokb lw_tbl vwCl z_tyq z_P z_PX me_X8_nextSign = true := by decide +kernel
set_option maxRecDepth 100000 in
theorem mk_X8_nextGuest : z_mokb lw_tbl vwCl z_tyq z_P z_PX me_X8_nextGuest = true := by decide +kernel
set_option maxRecDepth 100000 in
theorem mk_X8_letter : z_mokb lw_tbl vwCl z_tyq z_P z_PX me_X8_letter = true := by decide +kernel
set_option maxRecDepth 100000 in
theorem mk_X8_digitOfGuest : z_mokb lw_tbl vwCl z_tyq z_P z_PX me_X8_digitOfGuest = true := by decide +kernel
set_option maxRecDepth 100000 in
theorem mk_X9_init : z_mokb lw_tbl vwCl z_tyq z_P z_PX me_X9_init = true := by decide +kernel
set_option maxRecDepth 100000 in
theorem mk_X9_hotel : z_mokb lw_tbl vwCl z_tyq z_P z_PX me_X9_hotel = true := by decide +kernel
set_option maxRecDepth 100000 in
theorem mk_X9_ofGuest : z_mokb lw_tbl vwCl z_tyq z_P z_PX me_X9_ofGuest = true := by decide +kernel
set_option maxRecDepth 100000 in
theorem mk_X9_hint : z_mokb lw_tbl vwCl z_tyq z_P z_PX me_X9_hint = true := by decide +kernel
set_option maxRecDepth 100000 in
theorem mk_X9_word : z_mokb lw_tbl vwCl z_tyq z_P z_PX me_X9_word = true := by decide +kernel
set_option maxRecDepth 100000 in
theorem mk_X9_weighs : z_mokb lw_tbl vwCl z_tyq z_P z_PX me_X9_weighs = true := by decide +kernel
set_option maxRecDepth 100000 in
theorem mk_X9_seat : z_mokb lw_tbl vwCl z_tyq z_P z_PX me_X9_seat = true := by decide +kernel
set_option maxRecDepth 100000 in
theorem mk_X9_give : z_mokb lw_tbl vwCl z_tyq z_P z_PX me_X9_give = true := by decide +kernel
set_option maxRecDepth 100000 in
theorem mk_X9_nights : z_mokb lw_tbl vwCl z_tyq z_P z_PX me_X9_nights = true := by decide +kernel
set_option maxRecDepth 100000 in
theorem mk_X9_arrive : z_mokb lw_tbl vwCl z_tyq z_P z_PX me_X9_arrive = true := by decide +kernel
set_option maxRecDepth 100000 in
theorem mk_X9_leave : z_mokb lw_tbl vwCl z_tyq z_P z_PX me_X9_leave = true := by decide +kernel
set_option maxRecDepth 100000 in
theorem mk_X9_dinner : z_mokb lw_tbl vwCl z_tyq z_P z_PX me_X9_dinner = true := by decide +kernel
set_option maxRecDepth 100000 in
theorem mk_X9_softly : z_mokb lw_tbl vwCl z_tyq z_P z_PX me_X9_softly = true := by decide +kernel
set_option maxRecDepth 100000 in
theorem mk_X9_just : z_mokb lw_tbl vwCl z_tyq z_P z_PX me_X9_just = true := by decide +kernel
set_option maxRecDepth 100000 in
theorem mk_X9_apart : z_mokb lw_tbl vwCl z_tyq z_P z_PX me_X9_apart = true := by decide +kernel
set_option maxRecDepth 100000 in
theorem mk_X9_best : z_mokb lw_tbl vwCl z_tyq z_P z_PX me_X9_best = true := by decide +kernel
set_option maxRecDepth 100000 in
theorem mk_X9_reading : z_mokb lw_tbl vwCl z_tyq z_P z_PX me_X9_reading = true := by decide +kernel
set_option maxRecDepth 100000 in
theorem mk_X9_back : z_mokb lw_tbl vwCl z_tyq z_P z_PX me_X9_back = true := by decide +kernel
set_option maxRecDepth 100000 in
theorem mk_X9_bearings : z_mokb lw_tbl vwCl z_tyq z_P z_PX me_X9_bearings = true := by decide +kernel
set_option maxRecDepth 100000 in
theorem mk_X9_kinds : z_mokb lw_tbl vwCl z_tyq z_P z_PX me_X9_kinds = true := by decide +kernel
set_option maxRecDepth 100000 in
theorem mk_X9_hintings : z_mokb lw_tbl vwCl z_tyq z_P z_PX me_X9_hintings = true := by decide +kernel
set_option maxRecDepth 100000 in
theorem mk_X9_odds : z_mokb lw_tbl vwCl z_tyq z_P z_PX me_X9_odds = true := by decide +kernel
set_option maxRecDepth 100000 in
theorem mk_X9_sheet : z_mokb lw_tbl vwCl z_tyq z_P z_PX me_X9_sheet = true := by decide +kernel
set_option maxRecDepth 100000 in
theorem mk_X9_lose : z_mokb lw_tbl vwCl z_tyq z_P z_PX me_X9_lose = true := by decide +kernel
set_option maxRecDepth 100000 in
theorem mk_X9_put : z_mokb lw_tbl vwCl z_tyq z_P z_PX me_X9_put = true := by decide +kernel
set_option maxRecDepth 100000 in
theorem mk_X9_cell : z_mokb lw_tbl vwCl z_tyq z_P z_PX me_X9_cell = true := by decide +kernel
set_option maxRecDepth 100000 in
theorem mk_X9_copy : z_mokb lw_tbl vwCl z_tyq z_P z_PX me_X9_copy = true := by decide +kernel
set_option maxRecDepth 100000 in
theorem mk_X9_tell : z_mokb lw_tbl vwCl z_tyq z_P z_PX me_X9_tell = true := by decide +kernel
set_option maxRecDepth 100000 in
theorem mk_X9_bow : z_mokb lw_tbl vwCl z_tyq z_P z_PX me_X9_bow = true := by decide +kernel
set_option maxRecDepth 100000 in
theorem mk_X9_as : z_mokb lw_tbl vwCl z_tyq z_P z_PX me_X9_as = true := by decide +kernel
set_option maxRecDepth 100000 in
theorem mk_X9_trace : z_mokb lw_tbl vwCl z_tyq z_P z_PX me_X9_trace = true := by decide +kernel
set_option maxRecDepth 100000 in
theorem mk_X9_fault : z_mokb lw_tbl vwCl z_tyq z_P z_PX me_X9_fault = true := by decide +kernel
set_option maxRecDepth 100000 in
theorem mk_X9_many : z_mokb lw_tbl vwCl z_tyq z_P z_PX me_X9_many = true := by decide +kernel
set_option maxRecDepth 100000 in
theorem mk_X9_within : z_mokb lw_tbl vwCl z_tyq z_P z_PX me_X9_within = true := by decide +kernel
set_option maxRecDepth 100000 in
theorem mk_X9_isSheet : z_mokb lw_tbl vwCl z_tyq z_P z_PX me_X9_isSheet = true := by decide +kernel
set_option maxRecDepth 100000 in
theorem mk_X9_isSign : z_mokb lw_tbl vwCl z_tyq z_P z_PX me_X9_isSign = true := by decide +kernel
set_option maxRecDepth 100000 in
theorem mk_X9_isGuest : z_mokb lw_tbl vwCl z_tyq z_P z_PX me_X9_isGuest = true := by decide +kernel
set_option maxRecDepth 100000 in
theorem mk_X9_isDinnerQuestion : z_mokb lw_tbl vwCl z_tyq z_P z_PX me_X9_isDinnerQuestion = true := by decide +kernel
set_option maxRecDepth 100000 in
theorem mk_X9_failed : z_mokb lw_tbl vwCl z_tyq z_P z_PX me_X9_failed = true := by decide +kernel
set_option maxRecDepth 100000 in
theorem mk_X9_commonDivisor : z_mokb lw_tbl vwCl z_tyq z_P z_PX me_X9_commonDivisor = true := by decide +kernel
set_option maxRecDepth 100000 in
theorem mk_X9_begin : z_mokb lw_tbl vwCl z_tyq z_P z_PX me_X9_begin = true := by decide +kernel
set_option maxRecDepth 100000 in
theorem mk_X9_missTells : z_mokb lw_tbl vwCl z_tyq z_P z_PX me_X9_missTells = true := by decide +kernel
set_option maxRecDepth 100000 in
theorem mk_X9_colonelTells : z_mokb lw_tbl vwCl z_tyq z_P z_PX me_X9_colonelTells = true := by decide +kernel
set_option maxRecDepth 100000 in
theorem mk_X9_brokerTells : z_mokb lw_tbl vwCl z_tyq z_P z_PX me_X9_brokerTells = true := by decide +kernel
set_option maxRecDepth 100000 in
theorem mk_X10_init : z_mokb lw_tbl vwCl z_tyq z_P z_PX me_X10_init = true := by decide +kernel
set_option maxRecDepth 100000 in
theorem mk_X10_fails : z_mokb lw_tbl vwCl z_tyq z_P z_PX me_X10_fails = true := by decide +kernel
set_option maxRecDepth 100000 in
theorem mk_X10_lost : z_mokb lw_tbl vwCl z_tyq z_P z_PX me_X10_lost = true := by decide +kernel
set_option maxRecDepth 100000 in
theorem mk_X10_within : z_mokb lw_tbl vwCl z_tyq z_P z_PX me_X10_within = true := by decide +kernel
set_option maxRecDepth 100000 in
theorem mk_X10_isSheet : z_mokb lw_tbl vwCl z_tyq z_P z_PX me_X10_isSheet = true := by decide +kernel
set_option maxRecDepth 100000 in
theorem mk_X10_isSort : z_mokb lw_tbl vwCl z_tyq z_P z_PX me_X10_isSort = true := by decide +kernel
set_option maxRecDepth 100000 in
theorem mk_X10_against : z_mokb lw_tbl vwCl z_tyq z_P z_PX me_X10_against = true := by decide +kernel
set_option maxRecDepth 100000 in
theorem mk_X10_isSignOf : z_mokb lw_tbl vwCl z_tyq z_P z_PX me_X10_isSignOf = true := by decide +kernel
set_option maxRecDepth 100000 in
theorem mk_X10_isGuest : z_mokb lw_tbl vwCl z_tyq z_P z_PX me_X10_isGuest = true := by decide +kernel
set_option maxRecDepth 100000 in
theorem mk_X10_isTable : z_mokb lw_tbl vwCl z_tyq z_P z_PX me_X10_isTable = true := by decide +kernel
set_option maxRecDepth 100000 in
theorem mk_X10_isOf : z_mokb lw_tbl vwCl z_tyq z_P z_PX me_X10_isOf = true := by decide +kernel
set_option maxRecDepth 100000 in
theorem mk_X10_size : z_mokb lw_tbl vwCl z_tyq z_P z_PX me_X10_size = true := by decide +kernel
set_option maxRecDepth 100000 in
theorem mk_X10_digit : z_mokb lw_tbl vwCl z_tyq z_P z_PX me_X10_digit = true := by decide +kernel
set_option maxRecDepth 100000 in
theorem mk_X10_isSign : z_mokb lw_tbl vwCl z_tyq z_P z_PX me_X10_isSign = true := by decide +kernel
set_option maxRecDepth 100000 in
theorem mk_X10_hotel : z_mokb lw_tbl vwCl z_tyq z_P z_PX me_X10_hotel = true := by decide +kernel
set_option maxRecDepth 100000 in
theorem mk_X10_takeHotel : z_mokb lw_tbl vwCl z_tyq z_P z_PX me_X10_takeHotel = true := by decide +kernel
set_option maxRecDepth 100000 in
theorem mk_X10_readHotel : z_mokb lw_tbl vwCl z_tyq z_P z_PX me_X10_readHotel = true := by decide +kernel
set_option maxRecDepth 100000 in
theorem mk_X10_readTheSigns : z_mokb lw_tbl vwCl z_tyq z_P z_PX me_X10_readTheSigns = true := by decide +kernel
set_option maxRecDepth 100000 in
theorem mk_X10_readGuest : z_mokb lw_tbl vwCl z_tyq z_P z_PX me_X10_readGuest = true := by decide +kernel
set_option maxRecDepth 100000 in
theorem mk_X10_weighsOf : z_mokb lw_tbl vwCl z_tyq z_P z_PX me_X10_weighsOf = true := by decide +kernel
set_option maxRecDepth 100000 in
theorem mk_X10_ofGuest : z_mokb lw_tbl vwCl z_tyq z_P z_PX me_X10_ofGuest = true := by decide +kernel
set_option maxRecDepth 100000 in
theorem mk_X10_hint : z_mokb lw_tbl vwCl z_tyq z_P z_PX me_X10_hint = true := by decide +kernel
set_option maxRecDepth 100000 in
theorem mk_X10_word : z_mokb lw_tbl vwCl z_tyq z_P z_PX me_X10_word = true := by decide +kernel
set_option maxRecDepth 100000 in
theorem mk_X10_weighs : z_mokb lw_tbl vwCl z_tyq z_P z_PX me_X10_weighs = true := by decide +kernel
set_option maxRecDepth 100000 in
theorem mk_X10_seat : z_mokb lw_tbl vwCl z_tyq z_P z_PX me_X10_seat = true := by decide +kernel
set_option maxRecDepth 100000 in
theorem mk_X10_nextToKnow : z_mokb lw_tbl vwCl z_tyq z_P z_PX me_X10_nextToKnow = true := by decide +kernel
set_option maxRecDepth 100000 in
theorem mk_X10_dawns : z_mokb lw_tbl vwCl z_tyq z_P z_PX me_X10_dawns = true := by decide +kernel
set_option maxRecDepth 100000 in
theorem mk_X10_isGiven : z_mokb lw_tbl vwCl z_tyq z_P z_PX me_X10_isGiven = true := by decide +kernel
set_option maxRecDepth 100000 in
theorem mk_X10_give : z_mokb lw_tbl vwCl z_tyq z_P z_PX me_X10_give = true := by decide +kernel
set_option maxRecDepth 100000 in
theorem mk_X10_oneNight : z_mokb lw_tbl vwCl z_tyq z_P z_PX me_X10_oneNight = true := by decide +kernel
set_option maxRecDepth 100000 in
theorem mk_X10_nights : z_mokb lw_tbl vwCl z_tyq z_P z_PX me_X10_nights = true := by decide +kernel
set_option maxRecDepth 100000 in
theorem mk_X10_arrive : z_mokb lw_tbl vwCl z_tyq z_P z_PX me_X10_arrive = true := by decide +kernel
set_option maxRecDepth 100000 in
theorem mk_X10_without : z_mokb lw_tbl vwCl z_tyq z_P z_PX me_X10_without = true := by decide +kernel
set_option maxRecDepth 100000 in
theorem mk_X10_leave : z_mokb lw_tbl vwCl z_tyq z_P z_PX me_X10_leave = true := by decide +kernel
set_option maxRecDepth 100000 in
theorem mk_X10_keep : z_mokb lw_tbl vwCl z_tyq z_P z_PX me_X10_keep = true := by decide +kernel
set_option maxRecDepth 100000 in
theorem mk_X10_putBack : z_mokb lw_tbl vwCl z_tyq z_P z_PX me_X10_putBack = true := by decide +kernel
set_option maxRecDepth 100000 in
theorem mk_X10_does : z_mokb lw_tbl vwCl z_tyq z_P z_PX me_X10_does = true := by decide +kernel
set_option maxRecDepth 100000 in
theorem mk_X10_goDinner : z_mokb lw_tbl vwCl z_tyq z_P z_PX me_X10_goDinner = true := by decide +kernel
set_option maxRecDepth 100000 in
theorem mk_X10_refusesPair : z_mokb lw_tbl vwCl z_tyq z_P z_PX me_X10_refusesPair = true := by decide +kernel
set_option maxRecDepth 100000 in
theorem mk_X10_dinner : z_mokb lw_tbl vwCl z_tyq z_P z_PX me_X10_dinner = true := by decide +kernel
set_option maxRecDepth 100000 in
theorem mk_X10_tellDinner : z_mokb lw_tbl vwCl z_tyq z_P z_PX me_X10_tellDinner = true := by decide +kernel
set_option maxRecDepth 100000 in
theorem mk_X10_isSoft : z_mokb lw_tbl vwCl z_tyq z_P z_PX me_X10_isSoft = true := by decide +kernel
set_option maxRecDepth 100000 in
theorem mk_X10_heaviest : z_mokb lw_tbl vwCl z_tyq z_P z_PX me_X10_heaviest = true := by decide +kernel
set_option maxRecDepth 100000 in
theorem mk_X10_softly : z_mokb lw_tbl vwCl z_tyq z_P z_PX me_X10_softly = true := by decide +kernel
set_option maxRecDepth 100000 in
theorem mk_X10_just : z_mokb lw_tbl vwCl z_tyq z_P z_PX me_X10_just = true := by decide +kernel
set_option maxRecDepth 100000 in
theorem mk_X10_canSit : z_mokb lw_tbl vwCl z_tyq z_P z_PX me_X10_canSit = true := by decide +kernel
set_option maxRecDepth 100000 in
theorem mk_X10_findTables : z_mokb lw_tbl vwCl z_tyq z_P z_PX me_X10_findTables = true := by decide +kernel
set_option maxRecDepth 100000 in
theorem mk_X10_apart : z_mokb lw_tbl vwCl z_tyq z_P z_PX me_X10_apart = true := by decide +kernel
set_option maxRecDepth 100000 in
theorem mk_X10_canGive : z_mokb lw_tbl vwCl z_tyq z_P z_PX me_X10_canGive = true := by decide +kernel
set_option maxRecDepth 100000 in
theorem mk_X10_tryRow : z_mokb lw_tbl vwCl z_tyq z_P z_PX me_X10_tryRow = true := by decide +kernel
set_option maxRecDepth 100000 in
theorem mk_X10_best : z_mokb lw_tbl vwCl z_tyq z_P z_PX me_X10_best = true := by decide +kernel
set_option maxRecDepth 100000 in
theorem mk_X10_reading : z_mokb lw_tbl vwCl z_tyq z_P z_PX me_X10_reading = true := by decide +kernel
set_option maxRecDepth 100000 in
theorem mk_X10_back : z_mokb lw_tbl vwCl z_tyq z_P z_PX me_X10_back = true := by decide +kernel
set_option maxRecDepth 100000 in
theorem mk_X10_areSo : z_mokb lw_tbl vwCl z_tyq z_P z_PX me_X10_areSo = true := by decide +kernel
set_option maxRecDepth 100000 in
theorem mk_X10_bearings : z_mokb lw_tbl vwCl z_tyq z_P z_PX me_X10_bearings = true := by decide +kernel
set_option maxRecDepth 100000 in
theorem mk_X10_kinds : z_mokb lw_tbl vwCl z_tyq z_P z_PX me_X10_kinds = true := by decide +kernel
set_option maxRecDepth 100000 in
theorem mk_X10_hintings : z_mokb lw_tbl vwCl z_tyq z_P z_PX me_X10_hintings = true := by decide +kernel
set_option maxRecDepth 100000 in
theorem mk_X10_inLeastTerms : z_mokb lw_tbl vwCl z_tyq z_P z_PX me_X10_inLeastTerms = true := by decide +kernel
set_option maxRecDepth 100000 in
theorem mk_X10_odds : z_mokb lw_tbl vwCl z_tyq z_P z_PX me_X10_odds = true := by decide +kernel
set_option maxRecDepth 100000 in
theorem mk_X10_sheet : z_mokb lw_tbl vwCl z_tyq z_P z_PX me_X10_sheet = true := by decide +kernel
set_option maxRecDepth 100000 in
theorem mk_X10_lose : z_mokb lw_tbl vwCl z_tyq z_P z_PX me_X10_lose = true := by decide +kernel
set_option maxRecDepth 100000 in
theorem mk_X10_put : z_mokb lw_tbl vwCl z_tyq z_P z_PX me_X10_put = true := by decide +kernel
set_option maxRecDepth 100000 in
theorem mk_X10_cell : z_mokb lw_tbl vwCl z_tyq z_P z_PX me_X10_cell = true := by decide +kernel
set_option maxRecDepth 100000 in
theorem mk_X10_copy : z_mokb lw_tbl vwCl z_tyq z_P z_PX me_X10_copy = true := by decide +kernel
set_option maxRecDepth 100000 in
theorem mk_X10_begins : z_mokb lw_tbl vwCl z_tyq z_P z_PX me_X10_begins = true := by decide +kernel
set_option maxRecDepth 100000 in
theorem mk_X10_tell : z_mokb lw_tbl vwCl z_tyq z_P z_PX me_X10_tell = true := by decide +kernel
set_option maxRecDepth 100000 in
theorem mk_X10_bow : z_mokb lw_tbl vwCl z_tyq z_P z_PX me_X10_bow = true := by decide +kernel
set_option maxRecDepth 100000 in
theorem mk_X10_as : z_mokb lw_tbl vwCl z_tyq z_P z_PX me_X10_as = true := by decide +kernel
set_option maxRecDepth 100000 in
theorem mk_X10_trace : z_mokb lw_tbl vwCl z_tyq z_P z_PX me_X10_trace = true := by decide +kernel
set_option maxRecDepth 100000 in
theorem mk_X10_fault : z_mokb lw_tbl vwCl z_tyq z_P z_PX me_X10_fault = true := by decide +kernel
set_option maxRecDepth 100000 in
theorem mk_X10_many : z_mokb lw_tbl vwCl z_tyq z_P z_PX me_X10_many = true := by decide +kernel
set_option maxRecDepth 100000 in
theorem mk_Integer_bitCount : z_mokb lw_tbl vwCl z_tyq z_P z_PX me_Integer_bitCount = true := by decide +kernel
def z_mokab (Tb : List Jvm.Cond) (cl : List vw_C) (tyq : Nat → Nat → FieldType) (P : List z_Me) (PX : List (List Nat)) (me : z_Me) : Bool := me.2.2.2.2.1.all (fun x => z_chka Tb cl tyq P PX me.1.cls x.2.1 x.2.2.1 x.2.2.2.1 x.2.2.2.2.2) && decide (me.2.2.2.1 = none) && decide (me.1.name = "<init>") && decide (decode me.2.1 (z_stop me.2.2.2.2.1) = .ok (.return_, 1))
theorem z_moka_of {Tb : List Jvm.Cond} {cl : List vw_C} {tyq : Nat → Nat → FieldType} {P : List z_Me} {PX : List (List Nat)} {me : z_Me} (h0 : z_mokb Tb cl tyq P PX me = true) (h : z_mokab Tb cl tyq P PX me = true) (hl : me.1.cls ≠ z_lawn) : z_moka Tb cl tyq P PX me := by
  obtain ⟨k1, k2, k3, k4, k5⟩ := z_mok_of h0 hl
  unfold z_mokab at h
  simp only [Bool.and_eq_true, decide_eq_true_eq, List.all_eq_true] at h
  obtain ⟨⟨⟨h1, h2⟩, h3⟩, h4⟩ := h
  exact ⟨k1, fun x hx => ⟨k2 x hx, h1 x hx⟩, k3, h2, hl, h3, h4⟩
set_option maxRecDepth 100000 in
theorem mka_X0_init : z_mokab lw_tbl vwCl z_tyq z_P z_PX me_X0_init = true := by decide +kernel
set_option maxRecDepth 100000 in
theorem mka_X1_init : z_mokab lw_tbl vwCl z_tyq z_P z_PX me_X1_init = true := by decide +kernel
set_option maxRecDepth 100000 in
theorem mka_X2_init : z_mokab lw_tbl vwCl z_tyq z_P z_PX me_X2_init = true := by decide +kernel
set_option maxRecDepth 100000 in
theorem mka_X3_init : z_mokab lw_tbl vwCl z_tyq z_P z_PX me_X3_init = true := by decide +kernel
set_option maxRecDepth 100000 in
theorem mka_X4_init : z_mokab lw_tbl vwCl z_tyq z_P z_PX me_X4_init = true := by decide +kernel
set_option maxRecDepth 100000 in
theorem mka_X5_init : z_mokab lw_tbl vwCl z_tyq z_P z_PX me_X5_init = true := by decide +kernel
set_option maxRecDepth 100000 in
theorem mka_X6_init : z_mokab lw_tbl vwCl z_tyq z_P z_PX me_X6_init = true := by decide +kernel
set_option maxRecDepth 100000 in
theorem mka_X7_init : z_mokab lw_tbl vwCl z_tyq z_P z_PX me_X7_init = true := by decide +kernel
set_option maxRecDepth 100000 in
theorem mka_X8_init : z_mokab lw_tbl vwCl z_tyq z_P z_PX me_X8_init = true := by decide +kernel
set_option maxRecDepth 100000 in
theorem mka_X9_init : z_mokab lw_tbl vwCl z_tyq z_P z_PX me_X9_init = true := by decide +kernel
set_option maxRecDepth 100000 in
theorem mka_X10_init : z_mokab lw_tbl vwCl z_tyq z_P z_PX me_X10_init = true := by decide +kernel
def z_lawb (Tb : List Jvm.Cond) (cl : List vw_C) (tyq : Nat → Nat → FieldType) (P : List z_Me) (PX : List (List Nat)) (me : z_Me) (cd : List z_En) : Bool := cd.all (fun x => z_chk Tb cl tyq me.1.cls x.1 x.2.1 x.2.2.1 x.2.2.2.1 x.2.2.2.2.1 x.2.2.2.2.2 && z_chkc Tb cl P PX me.1.cls x.2.1 x.2.2.1 x.2.2.2.1 x.2.2.2.2.2 && decide (decode me.2.1 x.1 = .ok (x.2.1, x.2.2.1)) && z_chka Tb cl tyq P PX me.1.cls x.2.1 x.2.2.1 x.2.2.2.1 x.2.2.2.2.2)
theorem z_law_split (cd : List z_En) (n : Nat) (f : z_En → Bool) (h1 : (cd.take n).all f = true) (h2 : (cd.drop n).all f = true) : cd.all f = true := by
  rw [← List.take_append_drop n cd, List.all_append, h1, h2]
  rfl
set_option maxRecDepth 100000 in
theorem mkl_0 : z_lawb lw_tbl vwCl z_tyq z_P z_PX me_L_law ((cd_L_law.drop 0).take 100) = true := by decide +kernel
set_option maxRecDepth 100000 in
theorem mkl_1 : z_lawb lw_tbl vwCl z_tyq z_P z_PX me_L_law ((cd_L_law.drop 100).take 100) = true := by decide +kernel
set_option maxRecDepth 100000 in
theorem mkl_2 : z_lawb lw_tbl vwCl z_tyq z_P z_PX me_L_law ((cd_L_law.drop 200).take 100) = true := by decide +kernel
set_option maxRecDepth 100000 in
theorem mkl_3 : z_lawb lw_tbl vwCl z_tyq z_P z_PX me_L_law ((cd_L_law.drop 300).take 100) = true := by decide +kernel
set_option maxRecDepth 100000 in
theorem mkl_4 : z_lawb lw_tbl vwCl z_tyq z_P z_PX me_L_law ((cd_L_law.drop 400).take 100) = true := by decide +kernel
set_option maxRecDepth 100000 in
theorem mkl_5 : z_lawb lw_tbl vwCl z_tyq z_P z_PX me_L_law ((cd_L_law.drop 500).take 100) = true := by decide +kernel
set_option maxRecDepth 100000 in
theorem mkl_6 : z_lawb lw_tbl vwCl z_tyq z_P z_PX me_L_law ((cd_L_law.drop 600).take 100) = true := by decide +kernel
set_option maxRecDepth 100000 in
theorem mkl_7 : z_lawb lw_tbl vwCl z_tyq z_P z_PX me_L_law ((cd_L_law.drop 700).take 100) = true := by decide +kernel
set_option maxRecDepth 100000 in
theorem mkl_8 : z_lawb lw_tbl vwCl z_tyq z_P z_PX me_L_law ((cd_L_law.drop 800).take 100) = true := by decide +kernel
theorem mkl_c : z_chn cd_L_law = true := by decide +kernel
