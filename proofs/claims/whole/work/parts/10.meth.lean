def X_Dy_init : q_M := (⟨"WallLottery$Days", "<init>", "()V"⟩, prog_3_method_1_code, 1, none)
def X_Dy_add : q_M := (⟨"WallLottery$Days", "add", "(IIII)Z"⟩, prog_3_method_2_code, 5, (some .boolean))
def X_Dy_carryOut : q_M := (⟨"WallLottery$Days", "carryOut", "(ILWallLottery$Life;LWallLottery$Town;LWallLottery$Dice;)Z"⟩, prog_3_method_3_code, 8, (some .boolean))
def X_Di_init : q_M := (⟨"WallLottery$Dice", "<init>", "()V"⟩, prog_4_method_1_code, 1, none)
def X_Di_below : q_M := (⟨"WallLottery$Dice", "below", "(I)I"⟩, prog_4_method_2_code, 2, (some .int))
def X_Di_shuffle : q_M := (⟨"WallLottery$Dice", "shuffle", "(I)V"⟩, prog_4_method_3_code, 6, none)
def X_La_init : q_M := (⟨"WallLottery$Laws", "<init>", "()V"⟩, prog_5_method_1_code, 1, none)
def X_La_forget : q_M := (⟨"WallLottery$Laws", "forget", "()V"⟩, prog_5_method_2_code, 2, none)
def X_La_placeLaw : q_M := (⟨"WallLottery$Laws", "placeLaw", "(III)V"⟩, prog_5_method_3_code, 4, none)
def X_La_addStep : q_M := (⟨"WallLottery$Laws", "addStep", "(I)V"⟩, prog_5_method_4_code, 2, none)
def X_La_tellFrom : q_M := (⟨"WallLottery$Laws", "tellFrom", "(II)V"⟩, prog_5_method_5_code, 3, none)
def X_La_readChain : q_M := (⟨"WallLottery$Laws", "readChain", "(LWallLottery$Tokens;II)Z"⟩, prog_5_method_6_code, 6, (some .boolean))
def X_La_readTest : q_M := (⟨"WallLottery$Laws", "readTest", "(LWallLottery$Tokens;II)Z"⟩, prog_5_method_7_code, 5, (some .boolean))
def X_La_readSum : q_M := (⟨"WallLottery$Laws", "readSum", "(LWallLottery$Tokens;II)Z"⟩, prog_5_method_8_code, 6, (some .boolean))
def X_La_readProduct : q_M := (⟨"WallLottery$Laws", "readProduct", "(LWallLottery$Tokens;II)Z"⟩, prog_5_method_9_code, 5, (some .boolean))
def X_La_readPart : q_M := (⟨"WallLottery$Laws", "readPart", "(LWallLottery$Tokens;II)Z"⟩, prog_5_method_10_code, 7, (some .boolean))
def X_La_factHere : q_M := (⟨"WallLottery$Laws", "factHere", "(LWallLottery$Tokens;I)I"⟩, prog_5_method_11_code, 2, (some .int))
def X_La_valueOf : q_M := (⟨"WallLottery$Laws", "valueOf", "(IIII)I"⟩, prog_5_method_12_code, 8, (some .int))
def X_La_joined : q_M := (⟨"WallLottery$Laws", "joined", "(III)I"⟩, prog_5_method_13_code, 3, (some .int))
def X_La_push : q_M := (⟨"WallLottery$Laws", "push", "(I)V"⟩, prog_5_method_14_code, 2, none)
def X_La_pop : q_M := (⟨"WallLottery$Laws", "pop", "()I"⟩, prog_5_method_15_code, 1, (some .int))
def X_Li_init : q_M := (⟨"WallLottery$Life", "<init>", "()V"⟩, prog_6_method_1_code, 1, none)
def X_Li_begin : q_M := (⟨"WallLottery$Life", "begin", "(LWallLottery$Town;)V"⟩, prog_6_method_2_code, 3, none)
def X_Li_become : q_M := (⟨"WallLottery$Life", "become", "(LWallLottery$Life;)V"⟩, prog_6_method_3_code, 2, none)
def X_Li_lapsing : q_M := (⟨"WallLottery$Life", "lapsing", "(LWallLottery$Town;II)I"⟩, prog_6_method_4_code, 5, (some .int))
def X_Li_redraw : q_M := (⟨"WallLottery$Life", "redraw", "(LWallLottery$Town;LWallLottery$Dice;)I"⟩, prog_6_method_5_code, 7, (some .int))
def X_Li_changeHouses : q_M := (⟨"WallLottery$Life", "changeHouses", "(II)V"⟩, prog_6_method_6_code, 4, none)
def X_Li_canLend : q_M := (⟨"WallLottery$Life", "canLend", "(LWallLottery$Town;III)Z"⟩, prog_6_method_7_code, 5, (some .boolean))
def X_Li_giveLoan : q_M := (⟨"WallLottery$Life", "giveLoan", "(III)V"⟩, prog_6_method_8_code, 4, none)
def X_Li_canPay : q_M := (⟨"WallLottery$Life", "canPay", "(III)Z"⟩, prog_6_method_9_code, 4, (some .boolean))
def X_Li_payBack : q_M := (⟨"WallLottery$Life", "payBack", "(III)V"⟩, prog_6_method_10_code, 4, none)
def X_Li_liveOn : q_M := (⟨"WallLottery$Life", "liveOn", "(LWallLottery$Town;LWallLottery$Dice;)V"⟩, prog_6_method_11_code, 8, none)
def X_Rd_init : q_M := (⟨"WallLottery$Reader", "<init>", "(LWallLottery$Tokens;)V"⟩, prog_7_method_1_code, 2, none)
def X_Rd_readTown : q_M := (⟨"WallLottery$Reader", "readTown", "(LWallLottery$Town;)I"⟩, prog_7_method_2_code, 4, (some .int))
def X_Rd_readTownLine : q_M := (⟨"WallLottery$Reader", "readTownLine", "(LWallLottery$Town;)Z"⟩, prog_7_method_3_code, 2, (some .boolean))
def X_Rd_readHouse : q_M := (⟨"WallLottery$Reader", "readHouse", "(LWallLottery$Town;)Z"⟩, prog_7_method_4_code, 2, (some .boolean))
def X_Rd_readWall : q_M := (⟨"WallLottery$Reader", "readWall", "(LWallLottery$Town;)Z"⟩, prog_7_method_5_code, 3, (some .boolean))
def X_Rd_readFamily : q_M := (⟨"WallLottery$Reader", "readFamily", "(LWallLottery$Town;)Z"⟩, prog_7_method_6_code, 4, (some .boolean))
def X_Rd_readTrait : q_M := (⟨"WallLottery$Reader", "readTrait", "(LWallLottery$Word;I[II)Z"⟩, prog_7_method_7_code, 5, (some .boolean))
def X_Rd_readOfTwo : q_M := (⟨"WallLottery$Reader", "readOfTwo", "(LWallLottery$Town;[II)Z"⟩, prog_7_method_8_code, 5, (some .boolean))
def X_Rd_readApart : q_M := (⟨"WallLottery$Reader", "readApart", "(LWallLottery$Town;)Z"⟩, prog_7_method_9_code, 2, (some .boolean))
def X_Rd_readBeside : q_M := (⟨"WallLottery$Reader", "readBeside", "(LWallLottery$Town;)Z"⟩, prog_7_method_10_code, 2, (some .boolean))
def X_Rd_readCustom : q_M := (⟨"WallLottery$Reader", "readCustom", "(LWallLottery$Town;II)Z"⟩, prog_7_method_11_code, 4, (some .boolean))
def X_Rd_readLaw : q_M := (⟨"WallLottery$Reader", "readLaw", "(LWallLottery$Town;I)Z"⟩, prog_7_method_12_code, 4, (some .boolean))
def X_Rd_readDays : q_M := (⟨"WallLottery$Reader", "readDays", "(LWallLottery$Town;LWallLottery$Days;)I"⟩, prog_7_method_13_code, 5, (some .int))
def X_Rd_readDaysLine : q_M := (⟨"WallLottery$Reader", "readDaysLine", "(LWallLottery$Town;LWallLottery$Days;)Z"⟩, prog_7_method_14_code, 4, (some .boolean))
def X_Rd_actHere : q_M := (⟨"WallLottery$Reader", "actHere", "()I"⟩, prog_7_method_15_code, 1, (some .int))
def X_Rd_isNewName : q_M := (⟨"WallLottery$Reader", "isNewName", "(LWallLottery$Town;)Z"⟩, prog_7_method_16_code, 3, (some .boolean))
def X_Rd_readTwo : q_M := (⟨"WallLottery$Reader", "readTwo", "(LWallLottery$Town;Z)Z"⟩, prog_7_method_17_code, 3, (some .boolean))
def X_Rd_toldHere : q_M := (⟨"WallLottery$Reader", "toldHere", "(LWallLottery$Town;Z)I"⟩, prog_7_method_18_code, 4, (some .int))
def X_Tl_init : q_M := (⟨"WallLottery$Tales", "<init>", "()V"⟩, prog_8_method_1_code, 1, none)
def X_Tl_forget : q_M := (⟨"WallLottery$Tales", "forget", "()V"⟩, prog_8_method_2_code, 1, none)
def X_Tl_become : q_M := (⟨"WallLottery$Tales", "become", "(LWallLottery$Tales;)V"⟩, prog_8_method_3_code, 2, none)
def X_Tl_add : q_M := (⟨"WallLottery$Tales", "add", "(JZ)V"⟩, prog_8_method_4_code, 4, none)
def X_Tl_agreeWith : q_M := (⟨"WallLottery$Tales", "agreeWith", "(J)Z"⟩, prog_8_method_5_code, 3, (some .boolean))
def X_Tp_init : q_M := (⟨"WallLottery$Tape", "<init>", "()V"⟩, prog_9_method_1_code, 1, none)
def X_Tp_addBytes : q_M := (⟨"WallLottery$Tape", "addBytes", "(J)V"⟩, prog_9_method_2_code, 4, none)
def X_Tp_add : q_M := (⟨"WallLottery$Tape", "add", "(I)V"⟩, prog_9_method_3_code, 3, none)
def X_Tk_init : q_M := (⟨"WallLottery$Tokens", "<init>", "(LWallLottery$Tape;)V"⟩, prog_10_method_1_code, 2, none)
def X_Tk_start : q_M := (⟨"WallLottery$Tokens", "start", "()V"⟩, prog_10_method_2_code, 1, none)
def X_Tk_advance : q_M := (⟨"WallLottery$Tokens", "advance", "()V"⟩, prog_10_method_3_code, 2, none)
def X_Tk_readWord : q_M := (⟨"WallLottery$Tokens", "readWord", "()V"⟩, prog_10_method_4_code, 2, none)
def X_Tk_readNumber : q_M := (⟨"WallLottery$Tokens", "readNumber", "()V"⟩, prog_10_method_5_code, 1, none)
def X_Tk_readSign : q_M := (⟨"WallLottery$Tokens", "readSign", "(C)V"⟩, prog_10_method_6_code, 2, none)
def X_Tk_refuse : q_M := (⟨"WallLottery$Tokens", "refuse", "(I)Z"⟩, prog_10_method_7_code, 2, (some .boolean))
def X_Tk_isName : q_M := (⟨"WallLottery$Tokens", "isName", "()Z"⟩, prog_10_method_8_code, 1, (some .boolean))
def X_Tk_isWord : q_M := (⟨"WallLottery$Tokens", "isWord", "(LWallLottery$Word;)Z"⟩, prog_10_method_9_code, 2, (some .boolean))
def X_Tk_isSign : q_M := (⟨"WallLottery$Tokens", "isSign", "(C)Z"⟩, prog_10_method_10_code, 2, (some .boolean))
def X_Tk_takeWord : q_M := (⟨"WallLottery$Tokens", "takeWord", "(LWallLottery$Word;)Z"⟩, prog_10_method_11_code, 2, (some .boolean))
def X_Tk_takeSign : q_M := (⟨"WallLottery$Tokens", "takeSign", "(C)Z"⟩, prog_10_method_12_code, 2, (some .boolean))
def X_Tk_takeNumber : q_M := (⟨"WallLottery$Tokens", "takeNumber", "(II)Z"⟩, prog_10_method_13_code, 3, (some .boolean))
def X_Tk_kindHere : q_M := (⟨"WallLottery$Tokens", "kindHere", "()I"⟩, prog_10_method_14_code, 1, (some .int))
def X_Tw_init : q_M := (⟨"WallLottery$Town", "<init>", "()V"⟩, prog_11_method_1_code, 1, none)
def X_Tw_forget : q_M := (⟨"WallLottery$Town", "forget", "()V"⟩, prog_11_method_2_code, 2, none)
def X_Tw_houseNamed : q_M := (⟨"WallLottery$Town", "houseNamed", "(J)I"⟩, prog_11_method_3_code, 4, (some .int))
def X_Tw_familyNamed : q_M := (⟨"WallLottery$Town", "familyNamed", "(J)I"⟩, prog_11_method_4_code, 4, (some .int))
def X_Tw_loudness : q_M := (⟨"WallLottery$Town", "loudness", "(I)I"⟩, prog_11_method_5_code, 2, (some .int))
def X_Tw_hearing : q_M := (⟨"WallLottery$Town", "hearing", "(I)I"⟩, prog_11_method_6_code, 2, (some .int))
def X_Tw_fondness : q_M := (⟨"WallLottery$Town", "fondness", "(II)I"⟩, prog_11_method_7_code, 4, (some .int))
def X_Tw_listen : q_M := (⟨"WallLottery$Town", "listen", "()V"⟩, prog_11_method_8_code, 5, none)
def X_Tw_heardPlace : q_M := (⟨"WallLottery$Town", "heardPlace", "(III)I"⟩, prog_11_method_9_code, 3, (some .int))
def X_Tw_housePairs : q_M := (⟨"WallLottery$Town", "housePairs", "()I"⟩, prog_11_method_10_code, 1, (some .int))
def X_Tw_familyIn : q_M := (⟨"WallLottery$Town", "familyIn", "([II)I"⟩, prog_11_method_11_code, 4, (some .int))
def X_Tw_thickBetween : q_M := (⟨"WallLottery$Town", "thickBetween", "([III)I"⟩, prog_11_method_12_code, 4, (some .int))
def X_Tw_areNeighbours : q_M := (⟨"WallLottery$Town", "areNeighbours", "([III)Z"⟩, prog_11_method_13_code, 4, (some .boolean))
def X_Tw_neighbourBits : q_M := (⟨"WallLottery$Town", "neighbourBits", "([II)I"⟩, prog_11_method_14_code, 5, (some .int))
def X_Tw_pairsOf : q_M := (⟨"WallLottery$Town", "pairsOf", "([I)J"⟩, prog_11_method_15_code, 6, (some .long))
def X_Tw_brokenBy : q_M := (⟨"WallLottery$Town", "brokenBy", "(J)I"⟩, prog_11_method_16_code, 5, (some .int))
def X_Tw_feltBy : q_M := (⟨"WallLottery$Town", "feltBy", "([II)I"⟩, prog_11_method_17_code, 6, (some .int))
def X_Tw_joyOf : q_M := (⟨"WallLottery$Town", "joyOf", "([II)I"⟩, prog_11_method_18_code, 6, (some .int))
def X_Tw_contentBits : q_M := (⟨"WallLottery$Town", "contentBits", "([I)I"⟩, prog_11_method_19_code, 4, (some .int))
def X_Tw_isAtRest : q_M := (⟨"WallLottery$Town", "isAtRest", "(III)Z"⟩, prog_11_method_20_code, 6, (some .boolean))
def X_Tw_hedge : q_M := (⟨"WallLottery$Town", "hedge", "(IIII)I"⟩, prog_11_method_21_code, 5, (some .int))
def X_Wy_init : q_M := (⟨"WallLottery$Ways", "<init>", "()V"⟩, prog_12_method_1_code, 1, none)
def X_Wy_learn : q_M := (⟨"WallLottery$Ways", "learn", "(LWallLottery$Town;)V"⟩, prog_12_method_2_code, 3, none)
def X_Wy_settle : q_M := (⟨"WallLottery$Ways", "settle", "(LWallLottery$Town;II)V"⟩, prog_12_method_3_code, 5, none)
def X_Wy_note : q_M := (⟨"WallLottery$Ways", "note", "(LWallLottery$Town;)V"⟩, prog_12_method_4_code, 8, none)
def X_Wy_isWay : q_M := (⟨"WallLottery$Ways", "isWay", "(I)Z"⟩, prog_12_method_5_code, 2, (some .boolean))
def X_Wy_houseOf : q_M := (⟨"WallLottery$Ways", "houseOf", "(II)I"⟩, prog_12_method_6_code, 3, (some .int))
def X_Wy_feltBy : q_M := (⟨"WallLottery$Ways", "feltBy", "(II)I"⟩, prog_12_method_7_code, 3, (some .int))
def X_Wy_feltByAll : q_M := (⟨"WallLottery$Ways", "feltByAll", "(I)I"⟩, prog_12_method_8_code, 4, (some .int))
def X_Wy_contentIn : q_M := (⟨"WallLottery$Ways", "contentIn", "(I)I"⟩, prog_12_method_9_code, 2, (some .int))
def X_Wy_swapsTo : q_M := (⟨"WallLottery$Ways", "swapsTo", "(ILWallLottery$Town;[I)I"⟩, prog_12_method_10_code, 6, (some .int))
def X_Wy_leadsRing : q_M := (⟨"WallLottery$Ways", "leadsRing", "(ILWallLottery$Town;[II)Z"⟩, prog_12_method_11_code, 7, (some .boolean))
def X_Wy_firstMending : q_M := (⟨"WallLottery$Ways", "firstMending", "(LWallLottery$Town;[I)I"⟩, prog_12_method_12_code, 7, (some .int))
def X_Wy_firstPleasing : q_M := (⟨"WallLottery$Ways", "firstPleasing", "(LWallLottery$Town;[I)I"⟩, prog_12_method_13_code, 8, (some .int))
def X_Wy_firstQuiet : q_M := (⟨"WallLottery$Ways", "firstQuiet", "()I"⟩, prog_12_method_14_code, 3, (some .int))
def X_Wy_agreeing : q_M := (⟨"WallLottery$Ways", "agreeing", "(LWallLottery$Tales;J)I"⟩, prog_12_method_15_code, 6, (some .int))
def X_W_init : q_M := (⟨"WallLottery", "<init>", "()V"⟩, prog_1_method_1_code, 2, none)
def X_W_feed : q_M := (⟨"WallLottery", "feed", "(JJJ)I"⟩, prog_1_method_2_code, 7, (some .int))
def X_W_town : q_M := (⟨"WallLottery", "town", "()I"⟩, prog_1_method_3_code, 3, (some .int))
def X_W_days : q_M := (⟨"WallLottery", "days", "()I"⟩, prog_1_method_4_code, 3, (some .int))
def X_W_house : q_M := (⟨"WallLottery", "house", "(I)I"⟩, prog_1_method_5_code, 2, (some .int))
def X_W_wall : q_M := (⟨"WallLottery", "wall", "(II)I"⟩, prog_1_method_6_code, 4, (some .int))
def X_W_family : q_M := (⟨"WallLottery", "family", "(II)I"⟩, prog_1_method_7_code, 3, (some .int))
def X_W_joy : q_M := (⟨"WallLottery", "joy", "(I)I"⟩, prog_1_method_8_code, 2, (some .int))
def X_W_owes : q_M := (⟨"WallLottery", "owes", "(II)I"⟩, prog_1_method_9_code, 3, (some .int))
def X_W_draw : q_M := (⟨"WallLottery", "draw", "(I)I"⟩, prog_1_method_10_code, 2, (some .int))
def X_W_swap : q_M := (⟨"WallLottery", "swap", "(II)Z"⟩, prog_1_method_11_code, 3, (some .boolean))
def X_W_lend : q_M := (⟨"WallLottery", "lend", "(III)Z"⟩, prog_1_method_12_code, 4, (some .boolean))
def X_W_pay : q_M := (⟨"WallLottery", "pay", "(III)Z"⟩, prog_1_method_13_code, 4, (some .boolean))
def X_W_undo : q_M := (⟨"WallLottery", "undo", "()Z"⟩, prog_1_method_14_code, 1, (some .boolean))
def X_W_judged : q_M := (⟨"WallLottery", "judged", "(I)I"⟩, prog_1_method_15_code, 5, (some .int))
def X_W_broken : q_M := (⟨"WallLottery", "broken", "()I"⟩, prog_1_method_16_code, 1, (some .int))
def X_W_odds : q_M := (⟨"WallLottery", "odds", "(II)I"⟩, prog_1_method_17_code, 4, (some .int))
def X_W_peace : q_M := (⟨"WallLottery", "peace", "(II)I"⟩, prog_1_method_18_code, 5, (some .int))
def X_W_hope : q_M := (⟨"WallLottery", "hope", "(I)I"⟩, prog_1_method_19_code, 2, (some .int))
def X_W_mend : q_M := (⟨"WallLottery", "mend", "(I)I"⟩, prog_1_method_20_code, 3, (some .int))
def X_W_please : q_M := (⟨"WallLottery", "please", "(I)I"⟩, prog_1_method_21_code, 4, (some .int))
def X_W_quiet : q_M := (⟨"WallLottery", "quiet", "(I)I"⟩, prog_1_method_22_code, 3, (some .int))
def X_W_rests : q_M := (⟨"WallLottery", "rests", "(III)I"⟩, prog_1_method_23_code, 6, (some .int))
def X_W_tale : q_M := (⟨"WallLottery", "tale", "(IIZ)Z"⟩, prog_1_method_24_code, 4, (some .boolean))
def X_W_how : q_M := (⟨"WallLottery", "how", "()I"⟩, prog_1_method_25_code, 1, (some .int))
def X_W_were : q_M := (⟨"WallLottery", "were", "(II)I"⟩, prog_1_method_26_code, 5, (some .int))
def X_W_ask : q_M := (⟨"WallLottery", "ask", "()I"⟩, prog_1_method_27_code, 8, (some .int))
def X_W_gains : q_M := (⟨"WallLottery", "gains", "(I)I"⟩, prog_1_method_28_code, 4, (some .int))
def X_W_tampered : q_M := (⟨"WallLottery", "tampered", "(IIII)I"⟩, prog_1_method_29_code, 11, (some .int))
def X_W_centuries : q_M := (⟨"WallLottery", "centuries", "(III)I"⟩, prog_1_method_30_code, 7, (some .int))
def X_W_mark : q_M := (⟨"WallLottery", "mark", "(IZ)Z"⟩, prog_1_method_31_code, 3, (some .boolean))
def X_W_count : q_M := (⟨"WallLottery", "count", "(I)I"⟩, prog_1_method_32_code, 2, (some .int))
def X_W_startAnew : q_M := (⟨"WallLottery", "startAnew", "()V"⟩, prog_1_method_33_code, 2, none)
def X_W_remember : q_M := (⟨"WallLottery", "remember", "()V"⟩, prog_1_method_34_code, 1, none)
def X_W_isHouse : q_M := (⟨"WallLottery", "isHouse", "(I)Z"⟩, prog_1_method_35_code, 2, (some .boolean))
def X_W_isFamily : q_M := (⟨"WallLottery", "isFamily", "(I)Z"⟩, prog_1_method_36_code, 2, (some .boolean))
def X_W_areTwo : q_M := (⟨"WallLottery", "areTwo", "(II)Z"⟩, prog_1_method_37_code, 3, (some .boolean))
def X_W_isSeed : q_M := (⟨"WallLottery", "isSeed", "(I)Z"⟩, prog_1_method_38_code, 1, (some .boolean))
def X_W_isSum : q_M := (⟨"WallLottery", "isSum", "(I)Z"⟩, prog_1_method_39_code, 1, (some .boolean))
def X_W_within : q_M := (⟨"WallLottery", "within", "(III)I"⟩, prog_1_method_40_code, 3, (some .int))
def X_W_sum : q_M := (⟨"WallLottery", "sum", "([I)I"⟩, prog_1_method_41_code, 3, (some .int))
def X_W_pairBit : q_M := (⟨"WallLottery", "pairBit", "(II)J"⟩, prog_1_method_42_code, 2, (some .long))
def X_W_power : q_M := (⟨"WallLottery", "power", "(II)J"⟩, prog_1_method_43_code, 5, (some .long))
def X_W_choose : q_M := (⟨"WallLottery", "choose", "(II)J"⟩, prog_1_method_44_code, 5, (some .long))
def X_M_thrown : q_M := (⟨"WallLotteryModel", "thrown", "()I"⟩, prog_15_method_1_code, 1, (some .int))
def X_M_feed : q_M := (⟨"WallLotteryModel", "feed", "(JJJ)I"⟩, prog_15_method_2_code, 7, (some .int))
def X_M_lay : q_M := (⟨"WallLotteryModel", "lay", "(J)V"⟩, prog_15_method_3_code, 5, none)
def X_M_init : q_M := (⟨"WallLotteryModel", "<init>", "()V"⟩, prog_15_method_4_code, 1, none)
def X_M_isLetter : q_M := (⟨"WallLotteryModel", "isLetter", "(I)Z"⟩, prog_15_method_5_code, 1, (some .boolean))
def X_M_isDigit : q_M := (⟨"WallLotteryModel", "isDigit", "(I)Z"⟩, prog_15_method_6_code, 1, (some .boolean))
def X_M_rank : q_M := (⟨"WallLotteryModel", "rank", "(I)I"⟩, prog_15_method_7_code, 1, (some .int))
def X_M_isSignOf : q_M := (⟨"WallLotteryModel", "isSignOf", "(I)Z"⟩, prog_15_method_8_code, 1, (some .boolean))
def X_M_cutAll : q_M := (⟨"WallLotteryModel", "cutAll", "()V"⟩, prog_15_method_9_code, 7, none)
def X_M_wrong : q_M := (⟨"WallLotteryModel", "wrong", "(I)V"⟩, prog_15_method_10_code, 2, none)
def X_M_isSign : q_M := (⟨"WallLotteryModel", "isSign", "(I)Z"⟩, prog_15_method_11_code, 2, (some .boolean))
def X_M_isWord : q_M := (⟨"WallLotteryModel", "isWord", "(I)Z"⟩, prog_15_method_12_code, 2, (some .boolean))
def X_M_takeSign : q_M := (⟨"WallLotteryModel", "takeSign", "(I)V"⟩, prog_15_method_13_code, 2, none)
def X_M_hasSign : q_M := (⟨"WallLotteryModel", "hasSign", "(I)Z"⟩, prog_15_method_14_code, 3, (some .boolean))
def X_M_hasWord : q_M := (⟨"WallLotteryModel", "hasWord", "(I)Z"⟩, prog_15_method_15_code, 3, (some .boolean))
def X_M_takeWord : q_M := (⟨"WallLotteryModel", "takeWord", "(I)V"⟩, prog_15_method_16_code, 2, none)
def X_M_within : q_M := (⟨"WallLotteryModel", "within", "(III)Z"⟩, prog_15_method_17_code, 3, (some .boolean))
def X_M_standsAsAlways : q_M := (⟨"WallLotteryModel", "standsAsAlways", "(I)V"⟩, prog_15_method_18_code, 3, none)
def X_M_takeNumber : q_M := (⟨"WallLotteryModel", "takeNumber", "(II)I"⟩, prog_15_method_19_code, 3, (some .int))
def X_M_takeAfter : q_M := (⟨"WallLotteryModel", "takeAfter", "(III)I"⟩, prog_15_method_20_code, 4, (some .int))
def X_M_wordHere : q_M := (⟨"WallLotteryModel", "wordHere", "(II)I"⟩, prog_15_method_21_code, 5, (some .int))
def X_M_takeOne : q_M := (⟨"WallLotteryModel", "takeOne", "(II)I"⟩, prog_15_method_22_code, 4, (some .int))
def X_M_isName : q_M := (⟨"WallLotteryModel", "isName", "()Z"⟩, prog_15_method_23_code, 1, (some .boolean))
def X_M_find : q_M := (⟨"WallLotteryModel", "find", "(Z)I"⟩, prog_15_method_24_code, 3, (some .int))
def X_M_toldHere : q_M := (⟨"WallLotteryModel", "toldHere", "(ZI)I"⟩, prog_15_method_25_code, 4, (some .int))
def X_M_takeTold : q_M := (⟨"WallLotteryModel", "takeTold", "(ZI)I"⟩, prog_15_method_26_code, 4, (some .int))
def X_M_town : q_M := (⟨"WallLotteryModel", "town", "()I"⟩, prog_15_method_27_code, 2, (some .int))
def X_M_readLine : q_M := (⟨"WallLotteryModel", "readLine", "()V"⟩, prog_15_method_28_code, 1, none)
def X_M_readName : q_M := (⟨"WallLotteryModel", "readName", "(I)V"⟩, prog_15_method_29_code, 2, none)
def X_M_readHouse : q_M := (⟨"WallLotteryModel", "readHouse", "()V"⟩, prog_15_method_30_code, 2, none)
def X_M_readWall : q_M := (⟨"WallLotteryModel", "readWall", "()V"⟩, prog_15_method_31_code, 4, none)
def X_M_readFamily : q_M := (⟨"WallLotteryModel", "readFamily", "()V"⟩, prog_15_method_32_code, 3, none)
def X_M_readLiking : q_M := (⟨"WallLotteryModel", "readLiking", "(I)V"⟩, prog_15_method_33_code, 6, none)
def X_M_readCustom : q_M := (⟨"WallLotteryModel", "readCustom", "(I)V"⟩, prog_15_method_34_code, 6, none)
def X_M_readLaw : q_M := (⟨"WallLotteryModel", "readLaw", "()V"⟩, prog_15_method_35_code, 2, none)
def X_M_days : q_M := (⟨"WallLotteryModel", "days", "()I"⟩, prog_15_method_36_code, 3, (some .int))
def X_M_readDay : q_M := (⟨"WallLotteryModel", "readDay", "(II)V"⟩, prog_15_method_37_code, 3, none)
def X_M_emit : q_M := (⟨"WallLotteryModel", "emit", "(II)V"⟩, prog_15_method_38_code, 3, none)
def X_M_all : q_M := (⟨"WallLotteryModel", "all", "(I)V"⟩, prog_15_method_39_code, 3, none)
def X_M_test : q_M := (⟨"WallLotteryModel", "test", "(I)V"⟩, prog_15_method_40_code, 3, none)
def X_M_sums : q_M := (⟨"WallLotteryModel", "sums", "(I)V"⟩, prog_15_method_41_code, 3, none)
def X_M_products : q_M := (⟨"WallLotteryModel", "products", "(I)V"⟩, prog_15_method_42_code, 2, none)
def X_M_takePart : q_M := (⟨"WallLotteryModel", "takePart", "(I)V"⟩, prog_15_method_43_code, 4, none)
def X_M_worthAt : q_M := (⟨"WallLotteryModel", "worthAt", "(I)I"⟩, prog_15_method_44_code, 5, (some .int))
def X_M_both : q_M := (⟨"WallLotteryModel", "both", "(III)I"⟩, prog_15_method_45_code, 3, (some .int))
def X_M_copies : q_M := (⟨"WallLotteryModel", "copies", "(III)V"⟩, prog_15_method_46_code, 5, none)
def X_M_starts : q_M := (⟨"WallLotteryModel", "starts", "(I)V"⟩, prog_15_method_47_code, 3, none)
def X_M_begins : q_M := (⟨"WallLotteryModel", "begins", "()V"⟩, prog_15_method_48_code, 2, none)
def X_M_keeps : q_M := (⟨"WallLotteryModel", "keeps", "()V"⟩, prog_15_method_49_code, 2, none)
def X_M_houses : q_M := (⟨"WallLotteryModel", "houses", "()I"⟩, prog_15_method_50_code, 1, (some .int))
def X_M_families : q_M := (⟨"WallLotteryModel", "families", "()I"⟩, prog_15_method_51_code, 1, (some .int))
def X_M_familyOf : q_M := (⟨"WallLotteryModel", "familyOf", "(II)I"⟩, prog_15_method_52_code, 3, (some .int))
def X_M_isHouse : q_M := (⟨"WallLotteryModel", "isHouse", "(I)Z"⟩, prog_15_method_53_code, 2, (some .boolean))
def X_M_isFamily : q_M := (⟨"WallLotteryModel", "isFamily", "(I)Z"⟩, prog_15_method_54_code, 2, (some .boolean))
def X_M_areTwo : q_M := (⟨"WallLotteryModel", "areTwo", "(II)Z"⟩, prog_15_method_55_code, 3, (some .boolean))
def X_M_loudOf : q_M := (⟨"WallLotteryModel", "loudOf", "(I)I"⟩, prog_15_method_56_code, 2, (some .int))
def X_M_hearingOf : q_M := (⟨"WallLotteryModel", "hearingOf", "(I)I"⟩, prog_15_method_57_code, 2, (some .int))
def X_M_laysNoises : q_M := (⟨"WallLotteryModel", "laysNoises", "()V"⟩, prog_15_method_58_code, 5, none)
def X_M_wallBy : q_M := (⟨"WallLotteryModel", "wallBy", "(III)I"⟩, prog_15_method_59_code, 4, (some .int))
def X_M_feltBy : q_M := (⟨"WallLotteryModel", "feltBy", "(II)I"⟩, prog_15_method_60_code, 6, (some .int))
def X_M_likes : q_M := (⟨"WallLotteryModel", "likes", "(II)I"⟩, prog_15_method_61_code, 3, (some .int))
def X_M_joyBy : q_M := (⟨"WallLotteryModel", "joyBy", "(II)I"⟩, prog_15_method_62_code, 5, (some .int))
def X_M_contentBy : q_M := (⟨"WallLotteryModel", "contentBy", "(I)I"⟩, prog_15_method_63_code, 4, (some .int))
def X_M_brokenBy : q_M := (⟨"WallLotteryModel", "brokenBy", "(I)I"⟩, prog_15_method_64_code, 7, (some .int))
def X_M_bits : q_M := (⟨"WallLotteryModel", "bits", "(I)I"⟩, prog_15_method_65_code, 3, (some .int))
def X_M_house : q_M := (⟨"WallLotteryModel", "house", "(I)I"⟩, prog_15_method_66_code, 4, (some .int))
def X_M_wall : q_M := (⟨"WallLotteryModel", "wall", "(II)I"⟩, prog_15_method_67_code, 4, (some .int))
def X_M_nearOf : q_M := (⟨"WallLotteryModel", "nearOf", "(I)I"⟩, prog_15_method_68_code, 4, (some .int))
def X_M_family : q_M := (⟨"WallLotteryModel", "family", "(II)I"⟩, prog_15_method_69_code, 3, (some .int))
def X_M_joy : q_M := (⟨"WallLotteryModel", "joy", "(I)I"⟩, prog_15_method_70_code, 2, (some .int))
def X_M_owes : q_M := (⟨"WallLotteryModel", "owes", "(II)I"⟩, prog_15_method_71_code, 3, (some .int))
def X_M_drawBelow : q_M := (⟨"WallLotteryModel", "drawBelow", "(I)I"⟩, prog_15_method_72_code, 2, (some .int))
def X_M_lapses : q_M := (⟨"WallLotteryModel", "lapses", "(III)Z"⟩, prog_15_method_73_code, 4, (some .boolean))
def X_M_draws : q_M := (⟨"WallLotteryModel", "draws", "(I)I"⟩, prog_15_method_74_code, 6, (some .int))
def X_M_draw : q_M := (⟨"WallLotteryModel", "draw", "(I)I"⟩, prog_15_method_75_code, 2, (some .int))
def X_M_swaps : q_M := (⟨"WallLotteryModel", "swaps", "(III)V"⟩, prog_15_method_76_code, 5, none)
def X_M_swap : q_M := (⟨"WallLotteryModel", "swap", "(II)Z"⟩, prog_15_method_77_code, 3, (some .boolean))
def X_M_mayLend : q_M := (⟨"WallLotteryModel", "mayLend", "(IIII)Z"⟩, prog_15_method_78_code, 5, (some .boolean))
def X_M_moves : q_M := (⟨"WallLotteryModel", "moves", "(IIII)V"⟩, prog_15_method_79_code, 5, none)
def X_M_lends : q_M := (⟨"WallLotteryModel", "lends", "(IIII)V"⟩, prog_15_method_80_code, 5, none)
def X_M_lend : q_M := (⟨"WallLotteryModel", "lend", "(III)Z"⟩, prog_15_method_81_code, 4, (some .boolean))
def X_M_mayPay : q_M := (⟨"WallLotteryModel", "mayPay", "(IIII)Z"⟩, prog_15_method_82_code, 5, (some .boolean))
def X_M_pays : q_M := (⟨"WallLotteryModel", "pays", "(IIII)V"⟩, prog_15_method_83_code, 5, none)
def X_M_pay : q_M := (⟨"WallLotteryModel", "pay", "(III)Z"⟩, prog_15_method_84_code, 4, (some .boolean))
def X_M_undo : q_M := (⟨"WallLotteryModel", "undo", "()Z"⟩, prog_15_method_85_code, 1, (some .boolean))
def X_M_does : q_M := (⟨"WallLotteryModel", "does", "(I)Z"⟩, prog_15_method_86_code, 7, (some .boolean))
def X_M_judged : q_M := (⟨"WallLotteryModel", "judged", "(I)I"⟩, prog_15_method_87_code, 6, (some .int))
def X_M_broken : q_M := (⟨"WallLotteryModel", "broken", "()I"⟩, prog_15_method_88_code, 1, (some .int))
def X_M_findWays : q_M := (⟨"WallLotteryModel", "findWays", "()V"⟩, prog_15_method_89_code, 1, none)
def X_M_lives : q_M := (⟨"WallLotteryModel", "lives", "(II)V"⟩, prog_15_method_90_code, 4, none)
def X_M_laysWay : q_M := (⟨"WallLotteryModel", "laysWay", "(I)V"⟩, prog_15_method_91_code, 3, none)
def X_M_waysNear : q_M := (⟨"WallLotteryModel", "waysNear", "(II)I"⟩, prog_15_method_92_code, 5, (some .int))
def X_M_odds : q_M := (⟨"WallLotteryModel", "odds", "(II)I"⟩, prog_15_method_93_code, 3, (some .int))
def X_M_peace : q_M := (⟨"WallLotteryModel", "peace", "(II)I"⟩, prog_15_method_94_code, 5, (some .int))
def X_M_hope : q_M := (⟨"WallLotteryModel", "hope", "(I)I"⟩, prog_15_method_95_code, 5, (some .int))
def X_M_whoLives : q_M := (⟨"WallLotteryModel", "whoLives", "(II)I"⟩, prog_15_method_96_code, 5, (some .int))
def X_M_swapsTo : q_M := (⟨"WallLotteryModel", "swapsTo", "()I"⟩, prog_15_method_97_code, 7, (some .int))
def X_M_takesWay : q_M := (⟨"WallLotteryModel", "takesWay", "(II)V"⟩, prog_15_method_98_code, 4, none)
def X_M_mend : q_M := (⟨"WallLotteryModel", "mend", "(I)I"⟩, prog_15_method_99_code, 4, (some .int))
def X_M_please : q_M := (⟨"WallLotteryModel", "please", "(I)I"⟩, prog_15_method_100_code, 5, (some .int))
def X_M_quiet : q_M := (⟨"WallLotteryModel", "quiet", "(I)I"⟩, prog_15_method_101_code, 5, (some .int))
def X_M_getsBy : q_M := (⟨"WallLotteryModel", "getsBy", "(IIII)I"⟩, prog_15_method_102_code, 6, (some .int))
def X_M_rests : q_M := (⟨"WallLotteryModel", "rests", "(III)I"⟩, prog_15_method_103_code, 11, (some .int))
def X_M_tale : q_M := (⟨"WallLotteryModel", "tale", "(IIZ)Z"⟩, prog_15_method_104_code, 5, (some .boolean))
def X_M_isAsTold : q_M := (⟨"WallLotteryModel", "isAsTold", "()Z"⟩, prog_15_method_105_code, 4, (some .boolean))
def X_M_findFitting : q_M := (⟨"WallLotteryModel", "findFitting", "()V"⟩, prog_15_method_106_code, 2, none)
def X_M_countsNear : q_M := (⟨"WallLotteryModel", "countsNear", "()V"⟩, prog_15_method_107_code, 3, none)
def X_M_how : q_M := (⟨"WallLotteryModel", "how", "()I"⟩, prog_15_method_108_code, 1, (some .int))
def X_M_were : q_M := (⟨"WallLotteryModel", "were", "(II)I"⟩, prog_15_method_109_code, 4, (some .int))
def X_M_ask : q_M := (⟨"WallLotteryModel", "ask", "()I"⟩, prog_15_method_110_code, 7, (some .int))
def X_M_gains : q_M := (⟨"WallLotteryModel", "gains", "(I)I"⟩, prog_15_method_111_code, 4, (some .int))
def X_M_tampered : q_M := (⟨"WallLotteryModel", "tampered", "(IIII)I"⟩, prog_15_method_112_code, 15, (some .int))
def X_M_drawsYears : q_M := (⟨"WallLotteryModel", "drawsYears", "()V"⟩, prog_15_method_113_code, 5, none)
def X_M_centuries : q_M := (⟨"WallLotteryModel", "centuries", "(III)I"⟩, prog_15_method_114_code, 7, (some .int))
def X_M_mark : q_M := (⟨"WallLotteryModel", "mark", "(IZ)Z"⟩, prog_15_method_115_code, 3, (some .boolean))
def X_M_coinsOfAll : q_M := (⟨"WallLotteryModel", "coinsOfAll", "()I"⟩, prog_15_method_116_code, 3, (some .int))
def X_M_debtsOfAll : q_M := (⟨"WallLotteryModel", "debtsOfAll", "()I"⟩, prog_15_method_117_code, 3, (some .int))
def X_M_count : q_M := (⟨"WallLotteryModel", "count", "(I)I"⟩, prog_15_method_118_code, 2, (some .int))
def X_JE_ordinal : q_M := (⟨"java/lang/Enum", "ordinal", "()I"⟩, prog_20_method_2_code, 1, (some .int))
def X_JI_bitCount : q_M := (⟨"java/lang/Integer", "bitCount", "(I)I"⟩, prog_22_method_49_code, 1, (some .int))
def X_JS_length : q_M := (⟨"java/lang/String", "length", "()I"⟩, prog_25_method_54_code, 1, (some .int))
def X_JS_indexOf : q_M := (⟨"java/lang/String", "indexOf", "(I)I"⟩, prog_25_method_79_code, 2, (some .int))
def X_JS_indexOf_5 : q_M := (⟨"java/lang/String", "indexOf", "(II)I"⟩, prog_25_method_80_code, 3, (some .int))
def X_JS_coder : q_M := (⟨"java/lang/String", "coder", "()B"⟩, prog_25_method_152_code, 1, (some .byte))
def X_JS_isLatin1 : q_M := (⟨"java/lang/String", "isLatin1", "()Z"⟩, prog_25_method_154_code, 1, (some .boolean))
def X_JS_checkBoundsBeginEnd : q_M := (⟨"java/lang/String", "checkBoundsBeginEnd", "(III)V"⟩, prog_25_method_158_code, 3, none)
def X_JL_canEncode : q_M := (⟨"java/lang/StringLatin1", "canEncode", "(I)Z"⟩, prog_26_method_4_code, 1, (some .boolean))
def X_JL_indexOf : q_M := (⟨"java/lang/StringLatin1", "indexOf", "([BIII)I"⟩, prog_26_method_22_code, 4, (some .int))
def X_JL_indexOfChar : q_M := (⟨"java/lang/StringLatin1", "indexOfChar", "([BIII)I"⟩, prog_26_method_23_code, 6, (some .int))
def X_L_joy : q_M := (⟨"WallLotteryLaw", "joy", "(LWallLottery;I[J)I"⟩, method_3_code, 4, (some .int))
def X_L_hope : q_M := (⟨"WallLotteryLaw", "hope", "(LWallLottery;I[J)I"⟩, method_4_code, 4, (some .int))
def X_L_rests : q_M := (⟨"WallLotteryLaw", "rests", "(LWallLottery;III[J)I"⟩, method_5_code, 6, (some .int))
def X_L_gains : q_M := (⟨"WallLotteryLaw", "gains", "(LWallLottery;I[J)I"⟩, method_6_code, 4, (some .int))
def X_L_law : q_M := (⟨"WallLotteryLaw", "law", "([I)Z"⟩, code, 7, (some .boolean))
theorem cb_Dy_init : q_CB X_Dy_init 0 := ⟨q_in2 (i := 104) rfl rfl, q_in1 (i := 13) rfl rfl, ⟨by decide +kernel, by decide +kernel⟩, by decide +kernel, by decide⟩
theorem cb_Dy_add : q_CB X_Dy_add 4 := ⟨q_in4 (i := 71) rfl rfl, q_in1 (i := 13) rfl rfl, ⟨by decide +kernel, by decide +kernel⟩, by decide +kernel, by decide⟩
theorem cb_Dy_carryOut : q_CB X_Dy_carryOut 4 := ⟨q_in4 (i := 214) rfl rfl, q_in1 (i := 13) rfl rfl, ⟨by decide +kernel, by decide +kernel⟩, by decide +kernel, by decide⟩
theorem cb_Di_init : q_CB X_Di_init 0 := ⟨q_in1 (i := 159) rfl rfl, q_in1 (i := 8) rfl rfl, ⟨by decide +kernel, by decide +kernel⟩, by decide +kernel, by decide⟩
theorem cb_Di_below : q_CB X_Di_below 1 := ⟨q_in4 (i := 163) rfl rfl, q_in1 (i := 8) rfl rfl, ⟨by decide +kernel, by decide +kernel⟩, by decide +kernel, by decide⟩
theorem cb_Di_shuffle : q_CB X_Di_shuffle 1 := ⟨q_in4 (i := 158) rfl rfl, q_in1 (i := 8) rfl rfl, ⟨by decide +kernel, by decide +kernel⟩, by decide +kernel, by decide⟩
theorem cb_La_init : q_CB X_La_init 0 := ⟨q_in1 (i := 227) rfl rfl, q_in1 (i := 12) rfl rfl, ⟨by decide +kernel, by decide +kernel⟩, by decide +kernel, by decide⟩
theorem cb_La_forget : q_CB X_La_forget 0 := ⟨q_in2 (i := 206) rfl rfl, q_in1 (i := 12) rfl rfl, ⟨by decide +kernel, by decide +kernel⟩, by decide +kernel, by decide⟩
theorem cb_La_placeLaw : q_CB X_La_placeLaw 3 := ⟨q_in2 (i := 216) rfl rfl, q_in1 (i := 12) rfl rfl, ⟨by decide +kernel, by decide +kernel⟩, by decide +kernel, by decide⟩
theorem cb_La_addStep : q_CB X_La_addStep 1 := ⟨q_in2 (i := 212) rfl rfl, q_in1 (i := 12) rfl rfl, ⟨by decide +kernel, by decide +kernel⟩, by decide +kernel, by decide⟩
theorem cb_La_tellFrom : q_CB X_La_tellFrom 2 := ⟨q_in4 (i := 1) rfl rfl, q_in1 (i := 12) rfl rfl, ⟨by decide +kernel, by decide +kernel⟩, by decide +kernel, by decide⟩
theorem cb_La_readChain : q_CB X_La_readChain 3 := ⟨q_in3 (i := 197) rfl rfl, q_in1 (i := 12) rfl rfl, ⟨by decide +kernel, by decide +kernel⟩, by decide +kernel, by decide⟩
theorem cb_La_readTest : q_CB X_La_readTest 3 := ⟨q_in3 (i := 201) rfl rfl, q_in1 (i := 12) rfl rfl, ⟨by decide +kernel, by decide +kernel⟩, by decide +kernel, by decide⟩
theorem cb_La_readSum : q_CB X_La_readSum 3 := ⟨q_in3 (i := 205) rfl rfl, q_in1 (i := 12) rfl rfl, ⟨by decide +kernel, by decide +kernel⟩, by decide +kernel, by decide⟩
theorem cb_La_readProduct : q_CB X_La_readProduct 3 := ⟨q_in3 (i := 209) rfl rfl, q_in1 (i := 12) rfl rfl, ⟨by decide +kernel, by decide +kernel⟩, by decide +kernel, by decide⟩
theorem cb_La_readPart : q_CB X_La_readPart 3 := ⟨q_in3 (i := 213) rfl rfl, q_in1 (i := 12) rfl rfl, ⟨by decide +kernel, by decide +kernel⟩, by decide +kernel, by decide⟩
theorem cb_La_factHere : q_CB X_La_factHere 2 := ⟨q_in3 (i := 216) rfl rfl, q_in1 (i := 12) rfl rfl, ⟨by decide +kernel, by decide +kernel⟩, by decide +kernel, by decide⟩
theorem cb_La_valueOf : q_CB X_La_valueOf 4 := ⟨q_in4 (i := 18) rfl rfl, q_in1 (i := 12) rfl rfl, ⟨by decide +kernel, by decide +kernel⟩, by decide +kernel, by decide⟩
theorem cb_La_joined : q_CB X_La_joined 3 := ⟨q_in4 (i := 29) rfl rfl, q_in1 (i := 12) rfl rfl, ⟨by decide +kernel, by decide +kernel⟩, by decide +kernel, by decide⟩
theorem cb_La_push : q_CB X_La_push 1 := ⟨q_in4 (i := 22) rfl rfl, q_in1 (i := 12) rfl rfl, ⟨by decide +kernel, by decide +kernel⟩, by decide +kernel, by decide⟩
theorem cb_La_pop : q_CB X_La_pop 0 := ⟨q_in4 (i := 26) rfl rfl, q_in1 (i := 12) rfl rfl, ⟨by decide +kernel, by decide +kernel⟩, by decide +kernel, by decide⟩
theorem cb_Li_init : q_CB X_Li_init 0 := ⟨q_in1 (i := 192) rfl rfl, q_in1 (i := 10) rfl rfl, ⟨by decide +kernel, by decide +kernel⟩, by decide +kernel, by decide⟩
theorem cb_Li_begin : q_CB X_Li_begin 1 := ⟨q_in4 (i := 43) rfl rfl, q_in1 (i := 10) rfl rfl, ⟨by decide +kernel, by decide +kernel⟩, by decide +kernel, by decide⟩
theorem cb_Li_become : q_CB X_Li_become 1 := ⟨q_in4 (i := 145) rfl rfl, q_in1 (i := 10) rfl rfl, ⟨by decide +kernel, by decide +kernel⟩, by decide +kernel, by decide⟩
theorem cb_Li_lapsing : q_CB X_Li_lapsing 3 := ⟨q_in4 (i := 153) rfl rfl, q_in1 (i := 10) rfl rfl, ⟨by decide +kernel, by decide +kernel⟩, by decide +kernel, by decide⟩
theorem cb_Li_redraw : q_CB X_Li_redraw 2 := ⟨q_in4 (i := 149) rfl rfl, q_in1 (i := 10) rfl rfl, ⟨by decide +kernel, by decide +kernel⟩, by decide +kernel, by decide⟩
theorem cb_Li_changeHouses : q_CB X_Li_changeHouses 2 := ⟨q_in4 (i := 175) rfl rfl, q_in1 (i := 10) rfl rfl, ⟨by decide +kernel, by decide +kernel⟩, by decide +kernel, by decide⟩
theorem cb_Li_canLend : q_CB X_Li_canLend 4 := ⟨q_in4 (i := 186) rfl rfl, q_in1 (i := 10) rfl rfl, ⟨by decide +kernel, by decide +kernel⟩, by decide +kernel, by decide⟩
theorem cb_Li_giveLoan : q_CB X_Li_giveLoan 3 := ⟨q_in4 (i := 190) rfl rfl, q_in1 (i := 10) rfl rfl, ⟨by decide +kernel, by decide +kernel⟩, by decide +kernel, by decide⟩
theorem cb_Li_canPay : q_CB X_Li_canPay 3 := ⟨q_in4 (i := 198) rfl rfl, q_in1 (i := 10) rfl rfl, ⟨by decide +kernel, by decide +kernel⟩, by decide +kernel, by decide⟩
theorem cb_Li_payBack : q_CB X_Li_payBack 3 := ⟨q_in4 (i := 202) rfl rfl, q_in1 (i := 10) rfl rfl, ⟨by decide +kernel, by decide +kernel⟩, by decide +kernel, by decide⟩
theorem cb_Li_liveOn : q_CB X_Li_liveOn 2 := ⟨q_in5 (i := 129) rfl rfl, q_in1 (i := 10) rfl rfl, ⟨by decide +kernel, by decide +kernel⟩, by decide +kernel, by decide⟩
theorem cb_Rd_init : q_CB X_Rd_init 1 := ⟨q_in1 (i := 104) rfl rfl, q_in1 (i := 6) rfl rfl, ⟨by decide +kernel, by decide +kernel⟩, by decide +kernel, by decide⟩
theorem cb_Rd_readTown : q_CB X_Rd_readTown 1 := ⟨q_in2 (i := 198) rfl rfl, q_in1 (i := 6) rfl rfl, ⟨by decide +kernel, by decide +kernel⟩, by decide +kernel, by decide⟩
theorem cb_Rd_readTownLine : q_CB X_Rd_readTownLine 1 := ⟨q_in3 (i := 90) rfl rfl, q_in1 (i := 6) rfl rfl, ⟨by decide +kernel, by decide +kernel⟩, by decide +kernel, by decide⟩
theorem cb_Rd_readHouse : q_CB X_Rd_readHouse 1 := ⟨q_in3 (i := 106) rfl rfl, q_in1 (i := 6) rfl rfl, ⟨by decide +kernel, by decide +kernel⟩, by decide +kernel, by decide⟩
theorem cb_Rd_readWall : q_CB X_Rd_readWall 1 := ⟨q_in3 (i := 127) rfl rfl, q_in1 (i := 6) rfl rfl, ⟨by decide +kernel, by decide +kernel⟩, by decide +kernel, by decide⟩
theorem cb_Rd_readFamily : q_CB X_Rd_readFamily 1 := ⟨q_in3 (i := 144) rfl rfl, q_in1 (i := 6) rfl rfl, ⟨by decide +kernel, by decide +kernel⟩, by decide +kernel, by decide⟩
theorem cb_Rd_readTrait : q_CB X_Rd_readTrait 4 := ⟨q_in3 (i := 156) rfl rfl, q_in1 (i := 6) rfl rfl, ⟨by decide +kernel, by decide +kernel⟩, by decide +kernel, by decide⟩
theorem cb_Rd_readOfTwo : q_CB X_Rd_readOfTwo 3 := ⟨q_in3 (i := 172) rfl rfl, q_in1 (i := 6) rfl rfl, ⟨by decide +kernel, by decide +kernel⟩, by decide +kernel, by decide⟩
theorem cb_Rd_readApart : q_CB X_Rd_readApart 1 := ⟨q_in3 (i := 176) rfl rfl, q_in1 (i := 6) rfl rfl, ⟨by decide +kernel, by decide +kernel⟩, by decide +kernel, by decide⟩
theorem cb_Rd_readBeside : q_CB X_Rd_readBeside 1 := ⟨q_in3 (i := 189) rfl rfl, q_in1 (i := 6) rfl rfl, ⟨by decide +kernel, by decide +kernel⟩, by decide +kernel, by decide⟩
theorem cb_Rd_readCustom : q_CB X_Rd_readCustom 3 := ⟨q_in3 (i := 180) rfl rfl, q_in1 (i := 6) rfl rfl, ⟨by decide +kernel, by decide +kernel⟩, by decide +kernel, by decide⟩
theorem cb_Rd_readLaw : q_CB X_Rd_readLaw 2 := ⟨q_in3 (i := 193) rfl rfl, q_in1 (i := 6) rfl rfl, ⟨by decide +kernel, by decide +kernel⟩, by decide +kernel, by decide⟩
theorem cb_Rd_readDays : q_CB X_Rd_readDays 2 := ⟨q_in4 (i := 59) rfl rfl, q_in1 (i := 6) rfl rfl, ⟨by decide +kernel, by decide +kernel⟩, by decide +kernel, by decide⟩
theorem cb_Rd_readDaysLine : q_CB X_Rd_readDaysLine 2 := ⟨q_in4 (i := 63) rfl rfl, q_in1 (i := 6) rfl rfl, ⟨by decide +kernel, by decide +kernel⟩, by decide +kernel, by decide⟩
theorem cb_Rd_actHere : q_CB X_Rd_actHere 0 := ⟨q_in4 (i := 67) rfl rfl, q_in1 (i := 6) rfl rfl, ⟨by decide +kernel, by decide +kernel⟩, by decide +kernel, by decide⟩
theorem cb_Rd_isNewName : q_CB X_Rd_isNewName 1 := ⟨q_in3 (i := 111) rfl rfl, q_in1 (i := 6) rfl rfl, ⟨by decide +kernel, by decide +kernel⟩, by decide +kernel, by decide⟩
theorem cb_Rd_readTwo : q_CB X_Rd_readTwo 2 := ⟨q_in3 (i := 131) rfl rfl, q_in1 (i := 6) rfl rfl, ⟨by decide +kernel, by decide +kernel⟩, by decide +kernel, by decide⟩
theorem cb_Rd_toldHere : q_CB X_Rd_toldHere 2 := ⟨q_in3 (i := 135) rfl rfl, q_in1 (i := 6) rfl rfl, ⟨by decide +kernel, by decide +kernel⟩, by decide +kernel, by decide⟩
theorem cb_Tl_init : q_CB X_Tl_init 0 := ⟨q_in1 (i := 175) rfl rfl, q_in1 (i := 9) rfl rfl, ⟨by decide +kernel, by decide +kernel⟩, by decide +kernel, by decide⟩
theorem cb_Tl_forget : q_CB X_Tl_forget 0 := ⟨q_in4 (i := 50) rfl rfl, q_in1 (i := 9) rfl rfl, ⟨by decide +kernel, by decide +kernel⟩, by decide +kernel, by decide⟩
theorem cb_Tl_become : q_CB X_Tl_become 1 := ⟨q_in5 (i := 152) rfl rfl, q_in1 (i := 9) rfl rfl, ⟨by decide +kernel, by decide +kernel⟩, by decide +kernel, by decide⟩
theorem cb_Tl_add : q_CB X_Tl_add 2 := ⟨q_in5 (i := 91) rfl rfl, q_in1 (i := 9) rfl rfl, ⟨by decide +kernel, by decide +kernel⟩, by decide +kernel, by decide⟩
theorem cb_Tl_agreeWith : q_CB X_Tl_agreeWith 1 := ⟨q_in5 (i := 103) rfl rfl, q_in1 (i := 9) rfl rfl, ⟨by decide +kernel, by decide +kernel⟩, by decide +kernel, by decide⟩
theorem cb_Tp_init : q_CB X_Tp_init 0 := ⟨q_in1 (i := 40) rfl rfl, q_in1 (i := 2) rfl rfl, ⟨by decide +kernel, by decide +kernel⟩, by decide +kernel, by decide⟩
theorem cb_Tp_addBytes : q_CB X_Tp_addBytes 1 := ⟨q_in2 (i := 186) rfl rfl, q_in1 (i := 2) rfl rfl, ⟨by decide +kernel, by decide +kernel⟩, by decide +kernel, by decide⟩
theorem cb_Tp_add : q_CB X_Tp_add 1 := ⟨q_in2 (i := 190) rfl rfl, q_in1 (i := 2) rfl rfl, ⟨by decide +kernel, by decide +kernel⟩, by decide +kernel, by decide⟩
theorem cb_Tk_init : q_CB X_Tk_init 1 := ⟨q_in1 (i := 57) rfl rfl, q_in1 (i := 3) rfl rfl, ⟨by decide +kernel, by decide +kernel⟩, by decide +kernel, by decide⟩
theorem cb_Tk_start : q_CB X_Tk_start 0 := ⟨q_in2 (i := 220) rfl rfl, q_in1 (i := 3) rfl rfl, ⟨by decide +kernel, by decide +kernel⟩, by decide +kernel, by decide⟩
theorem cb_Tk_advance : q_CB X_Tk_advance 0 := ⟨q_in2 (i := 224) rfl rfl, q_in1 (i := 3) rfl rfl, ⟨by decide +kernel, by decide +kernel⟩, by decide +kernel, by decide⟩
theorem cb_Tk_readWord : q_CB X_Tk_readWord 0 := ⟨q_in2 (i := 228) rfl rfl, q_in1 (i := 3) rfl rfl, ⟨by decide +kernel, by decide +kernel⟩, by decide +kernel, by decide⟩
theorem cb_Tk_readNumber : q_CB X_Tk_readNumber 0 := ⟨q_in2 (i := 235) rfl rfl, q_in1 (i := 3) rfl rfl, ⟨by decide +kernel, by decide +kernel⟩, by decide +kernel, by decide⟩
theorem cb_Tk_readSign : q_CB X_Tk_readSign 1 := ⟨q_in2 (i := 239) rfl rfl, q_in1 (i := 3) rfl rfl, ⟨by decide +kernel, by decide +kernel⟩, by decide +kernel, by decide⟩
theorem cb_Tk_refuse : q_CB X_Tk_refuse 1 := ⟨q_in3 (i := 94) rfl rfl, q_in1 (i := 3) rfl rfl, ⟨by decide +kernel, by decide +kernel⟩, by decide +kernel, by decide⟩
theorem cb_Tk_isName : q_CB X_Tk_isName 0 := ⟨q_in3 (i := 115) rfl rfl, q_in1 (i := 3) rfl rfl, ⟨by decide +kernel, by decide +kernel⟩, by decide +kernel, by decide⟩
theorem cb_Tk_isWord : q_CB X_Tk_isWord 1 := ⟨q_in3 (i := 164) rfl rfl, q_in1 (i := 3) rfl rfl, ⟨by decide +kernel, by decide +kernel⟩, by decide +kernel, by decide⟩
theorem cb_Tk_isSign : q_CB X_Tk_isSign 1 := ⟨q_in3 (i := 225) rfl rfl, q_in1 (i := 3) rfl rfl, ⟨by decide +kernel, by decide +kernel⟩, by decide +kernel, by decide⟩
theorem cb_Tk_takeWord : q_CB X_Tk_takeWord 1 := ⟨q_in3 (i := 160) rfl rfl, q_in1 (i := 3) rfl rfl, ⟨by decide +kernel, by decide +kernel⟩, by decide +kernel, by decide⟩
theorem cb_Tk_takeSign : q_CB X_Tk_takeSign 1 := ⟨q_in3 (i := 232) rfl rfl, q_in1 (i := 3) rfl rfl, ⟨by decide +kernel, by decide +kernel⟩, by decide +kernel, by decide⟩
theorem cb_Tk_takeNumber : q_CB X_Tk_takeNumber 2 := ⟨q_in3 (i := 139) rfl rfl, q_in1 (i := 3) rfl rfl, ⟨by decide +kernel, by decide +kernel⟩, by decide +kernel, by decide⟩
theorem cb_Tk_kindHere : q_CB X_Tk_kindHere 0 := ⟨q_in3 (i := 148) rfl rfl, q_in1 (i := 3) rfl rfl, ⟨by decide +kernel, by decide +kernel⟩, by decide +kernel, by decide⟩
theorem cb_Tw_init : q_CB X_Tw_init 0 := ⟨q_in1 (i := 221) rfl rfl, q_in1 (i := 11) rfl rfl, ⟨by decide +kernel, by decide +kernel⟩, by decide +kernel, by decide⟩
theorem cb_Tw_forget : q_CB X_Tw_forget 0 := ⟨q_in2 (i := 202) rfl rfl, q_in1 (i := 11) rfl rfl, ⟨by decide +kernel, by decide +kernel⟩, by decide +kernel, by decide⟩
theorem cb_Tw_houseNamed : q_CB X_Tw_houseNamed 1 := ⟨q_in3 (i := 119) rfl rfl, q_in1 (i := 11) rfl rfl, ⟨by decide +kernel, by decide +kernel⟩, by decide +kernel, by decide⟩
theorem cb_Tw_familyNamed : q_CB X_Tw_familyNamed 1 := ⟨q_in3 (i := 123) rfl rfl, q_in1 (i := 11) rfl rfl, ⟨by decide +kernel, by decide +kernel⟩, by decide +kernel, by decide⟩
theorem cb_Tw_loudness : q_CB X_Tw_loudness 1 := ⟨q_in4 (i := 10) rfl rfl, q_in1 (i := 11) rfl rfl, ⟨by decide +kernel, by decide +kernel⟩, by decide +kernel, by decide⟩
theorem cb_Tw_hearing : q_CB X_Tw_hearing 1 := ⟨q_in4 (i := 14) rfl rfl, q_in1 (i := 11) rfl rfl, ⟨by decide +kernel, by decide +kernel⟩, by decide +kernel, by decide⟩
theorem cb_Tw_fondness : q_CB X_Tw_fondness 2 := ⟨q_in4 (i := 121) rfl rfl, q_in1 (i := 11) rfl rfl, ⟨by decide +kernel, by decide +kernel⟩, by decide +kernel, by decide⟩
theorem cb_Tw_listen : q_CB X_Tw_listen 0 := ⟨q_in4 (i := 6) rfl rfl, q_in1 (i := 11) rfl rfl, ⟨by decide +kernel, by decide +kernel⟩, by decide +kernel, by decide⟩
theorem cb_Tw_heardPlace : q_CB X_Tw_heardPlace 3 := ⟨q_in4 (i := 32) rfl rfl, q_in1 (i := 11) rfl rfl, ⟨by decide +kernel, by decide +kernel⟩, by decide +kernel, by decide⟩
theorem cb_Tw_housePairs : q_CB X_Tw_housePairs 0 := ⟨q_in5 (i := 1) rfl rfl, q_in1 (i := 11) rfl rfl, ⟨by decide +kernel, by decide +kernel⟩, by decide +kernel, by decide⟩
theorem cb_Tw_familyIn : q_CB X_Tw_familyIn 2 := ⟨q_in4 (i := 79) rfl rfl, q_in1 (i := 11) rfl rfl, ⟨by decide +kernel, by decide +kernel⟩, by decide +kernel, by decide⟩
theorem cb_Tw_thickBetween : q_CB X_Tw_thickBetween 3 := ⟨q_in4 (i := 109) rfl rfl, q_in1 (i := 11) rfl rfl, ⟨by decide +kernel, by decide +kernel⟩, by decide +kernel, by decide⟩
theorem cb_Tw_areNeighbours : q_CB X_Tw_areNeighbours 3 := ⟨q_in4 (i := 105) rfl rfl, q_in1 (i := 11) rfl rfl, ⟨by decide +kernel, by decide +kernel⟩, by decide +kernel, by decide⟩
theorem cb_Tw_neighbourBits : q_CB X_Tw_neighbourBits 2 := ⟨q_in4 (i := 101) rfl rfl, q_in1 (i := 11) rfl rfl, ⟨by decide +kernel, by decide +kernel⟩, by decide +kernel, by decide⟩
theorem cb_Tw_pairsOf : q_CB X_Tw_pairsOf 1 := ⟨q_in4 (i := 224) rfl rfl, q_in1 (i := 11) rfl rfl, ⟨by decide +kernel, by decide +kernel⟩, by decide +kernel, by decide⟩
theorem cb_Tw_brokenBy : q_CB X_Tw_brokenBy 1 := ⟨q_in4 (i := 229) rfl rfl, q_in1 (i := 11) rfl rfl, ⟨by decide +kernel, by decide +kernel⟩, by decide +kernel, by decide⟩
theorem cb_Tw_feltBy : q_CB X_Tw_feltBy 2 := ⟨q_in4 (i := 113) rfl rfl, q_in1 (i := 11) rfl rfl, ⟨by decide +kernel, by decide +kernel⟩, by decide +kernel, by decide⟩
theorem cb_Tw_joyOf : q_CB X_Tw_joyOf 2 := ⟨q_in4 (i := 117) rfl rfl, q_in1 (i := 11) rfl rfl, ⟨by decide +kernel, by decide +kernel⟩, by decide +kernel, by decide⟩
theorem cb_Tw_contentBits : q_CB X_Tw_contentBits 1 := ⟨q_in5 (i := 137) rfl rfl, q_in1 (i := 11) rfl rfl, ⟨by decide +kernel, by decide +kernel⟩, by decide +kernel, by decide⟩
theorem cb_Tw_isAtRest : q_CB X_Tw_isAtRest 3 := ⟨q_in6 (i := 8) rfl rfl, q_in1 (i := 11) rfl rfl, ⟨by decide +kernel, by decide +kernel⟩, by decide +kernel, by decide⟩
theorem cb_Tw_hedge : q_CB X_Tw_hedge 4 := ⟨q_in6 (i := 12) rfl rfl, q_in1 (i := 11) rfl rfl, ⟨by decide +kernel, by decide +kernel⟩, by decide +kernel, by decide⟩
theorem cb_Wy_init : q_CB X_Wy_init 0 := ⟨q_in1 (i := 120) rfl rfl, q_in1 (i := 7) rfl rfl, ⟨by decide +kernel, by decide +kernel⟩, by decide +kernel, by decide⟩
theorem cb_Wy_learn : q_CB X_Wy_learn 1 := ⟨q_in5 (i := 10) rfl rfl, q_in1 (i := 7) rfl rfl, ⟨by decide +kernel, by decide +kernel⟩, by decide +kernel, by decide⟩
theorem cb_Wy_settle : q_CB X_Wy_settle 3 := ⟨q_in5 (i := 14) rfl rfl, q_in1 (i := 7) rfl rfl, ⟨by decide +kernel, by decide +kernel⟩, by decide +kernel, by decide⟩
theorem cb_Wy_note : q_CB X_Wy_note 1 := ⟨q_in5 (i := 18) rfl rfl, q_in1 (i := 7) rfl rfl, ⟨by decide +kernel, by decide +kernel⟩, by decide +kernel, by decide⟩
theorem cb_Wy_isWay : q_CB X_Wy_isWay 1 := ⟨q_in5 (i := 29) rfl rfl, q_in1 (i := 7) rfl rfl, ⟨by decide +kernel, by decide +kernel⟩, by decide +kernel, by decide⟩
theorem cb_Wy_houseOf : q_CB X_Wy_houseOf 2 := ⟨q_in5 (i := 48) rfl rfl, q_in1 (i := 7) rfl rfl, ⟨by decide +kernel, by decide +kernel⟩, by decide +kernel, by decide⟩
theorem cb_Wy_feltBy : q_CB X_Wy_feltBy 2 := ⟨q_in5 (i := 25) rfl rfl, q_in1 (i := 7) rfl rfl, ⟨by decide +kernel, by decide +kernel⟩, by decide +kernel, by decide⟩
theorem cb_Wy_feltByAll : q_CB X_Wy_feltByAll 1 := ⟨q_in5 (i := 80) rfl rfl, q_in1 (i := 7) rfl rfl, ⟨by decide +kernel, by decide +kernel⟩, by decide +kernel, by decide⟩
theorem cb_Wy_contentIn : q_CB X_Wy_contentIn 1 := ⟨q_in5 (i := 67) rfl rfl, q_in1 (i := 7) rfl rfl, ⟨by decide +kernel, by decide +kernel⟩, by decide +kernel, by decide⟩
theorem cb_Wy_swapsTo : q_CB X_Wy_swapsTo 3 := ⟨q_in5 (i := 44) rfl rfl, q_in1 (i := 7) rfl rfl, ⟨by decide +kernel, by decide +kernel⟩, by decide +kernel, by decide⟩
theorem cb_Wy_leadsRing : q_CB X_Wy_leadsRing 4 := ⟨q_in5 (i := 52) rfl rfl, q_in1 (i := 7) rfl rfl, ⟨by decide +kernel, by decide +kernel⟩, by decide +kernel, by decide⟩
theorem cb_Wy_firstMending : q_CB X_Wy_firstMending 2 := ⟨q_in5 (i := 39) rfl rfl, q_in1 (i := 7) rfl rfl, ⟨by decide +kernel, by decide +kernel⟩, by decide +kernel, by decide⟩
theorem cb_Wy_firstPleasing : q_CB X_Wy_firstPleasing 2 := ⟨q_in5 (i := 63) rfl rfl, q_in1 (i := 7) rfl rfl, ⟨by decide +kernel, by decide +kernel⟩, by decide +kernel, by decide⟩
theorem cb_Wy_firstQuiet : q_CB X_Wy_firstQuiet 0 := ⟨q_in5 (i := 76) rfl rfl, q_in1 (i := 7) rfl rfl, ⟨by decide +kernel, by decide +kernel⟩, by decide +kernel, by decide⟩
theorem cb_Wy_agreeing : q_CB X_Wy_agreeing 2 := ⟨q_in5 (i := 99) rfl rfl, q_in1 (i := 7) rfl rfl, ⟨by decide +kernel, by decide +kernel⟩, by decide +kernel, by decide⟩
theorem cb_W_init : q_CB X_W_init 0 := ⟨q_in1 (i := 32) rfl rfl, q_in1 (i := 1) rfl rfl, ⟨by decide +kernel, by decide +kernel⟩, by decide +kernel, by decide⟩
theorem cb_W_feed : q_CB X_W_feed 3 := ⟨q_in2 (i := 182) rfl rfl, q_in1 (i := 1) rfl rfl, ⟨by decide +kernel, by decide +kernel⟩, by decide +kernel, by decide⟩
theorem cb_W_town : q_CB X_W_town 0 := ⟨q_in2 (i := 194) rfl rfl, q_in1 (i := 1) rfl rfl, ⟨by decide +kernel, by decide +kernel⟩, by decide +kernel, by decide⟩
theorem cb_W_days : q_CB X_W_days 0 := ⟨q_in4 (i := 55) rfl rfl, q_in1 (i := 1) rfl rfl, ⟨by decide +kernel, by decide +kernel⟩, by decide +kernel, by decide⟩
theorem cb_W_house : q_CB X_W_house 1 := ⟨q_in4 (i := 75) rfl rfl, q_in1 (i := 1) rfl rfl, ⟨by decide +kernel, by decide +kernel⟩, by decide +kernel, by decide⟩
theorem cb_W_wall : q_CB X_W_wall 2 := ⟨q_in4 (i := 83) rfl rfl, q_in1 (i := 1) rfl rfl, ⟨by decide +kernel, by decide +kernel⟩, by decide +kernel, by decide⟩
theorem cb_W_family : q_CB X_W_family 2 := ⟨q_in4 (i := 91) rfl rfl, q_in1 (i := 1) rfl rfl, ⟨by decide +kernel, by decide +kernel⟩, by decide +kernel, by decide⟩
theorem cb_W_joy : q_CB X_W_joy 1 := ⟨q_in5 (i := 167) rfl rfl, q_in1 (i := 1) rfl rfl, ⟨by decide +kernel, by decide +kernel⟩, by decide +kernel, by decide⟩
theorem cb_W_owes : q_CB X_W_owes 2 := ⟨q_in4 (i := 126) rfl rfl, q_in1 (i := 1) rfl rfl, ⟨by decide +kernel, by decide +kernel⟩, by decide +kernel, by decide⟩
theorem cb_W_draw : q_CB X_W_draw 1 := ⟨q_in4 (i := 134) rfl rfl, q_in1 (i := 1) rfl rfl, ⟨by decide +kernel, by decide +kernel⟩, by decide +kernel, by decide⟩
theorem cb_W_swap : q_CB X_W_swap 2 := ⟨q_in4 (i := 171) rfl rfl, q_in1 (i := 1) rfl rfl, ⟨by decide +kernel, by decide +kernel⟩, by decide +kernel, by decide⟩
theorem cb_W_lend : q_CB X_W_lend 3 := ⟨q_in4 (i := 179) rfl rfl, q_in1 (i := 1) rfl rfl, ⟨by decide +kernel, by decide +kernel⟩, by decide +kernel, by decide⟩
theorem cb_W_pay : q_CB X_W_pay 3 := ⟨q_in4 (i := 194) rfl rfl, q_in1 (i := 1) rfl rfl, ⟨by decide +kernel, by decide +kernel⟩, by decide +kernel, by decide⟩
theorem cb_W_undo : q_CB X_W_undo 0 := ⟨q_in4 (i := 206) rfl rfl, q_in1 (i := 1) rfl rfl, ⟨by decide +kernel, by decide +kernel⟩, by decide +kernel, by decide⟩
theorem cb_W_judged : q_CB X_W_judged 1 := ⟨q_in4 (i := 210) rfl rfl, q_in1 (i := 1) rfl rfl, ⟨by decide +kernel, by decide +kernel⟩, by decide +kernel, by decide⟩
theorem cb_W_broken : q_CB X_W_broken 0 := ⟨q_in4 (i := 233) rfl rfl, q_in1 (i := 1) rfl rfl, ⟨by decide +kernel, by decide +kernel⟩, by decide +kernel, by decide⟩
theorem cb_W_odds : q_CB X_W_odds 2 := ⟨q_in4 (i := 237) rfl rfl, q_in1 (i := 1) rfl rfl, ⟨by decide +kernel, by decide +kernel⟩, by decide +kernel, by decide⟩
theorem cb_W_peace : q_CB X_W_peace 2 := ⟨q_in5 (i := 6) rfl rfl, q_in1 (i := 1) rfl rfl, ⟨by decide +kernel, by decide +kernel⟩, by decide +kernel, by decide⟩
theorem cb_W_hope : q_CB X_W_hope 1 := ⟨q_in5 (i := 235) rfl rfl, q_in1 (i := 1) rfl rfl, ⟨by decide +kernel, by decide +kernel⟩, by decide +kernel, by decide⟩
theorem cb_W_mend : q_CB X_W_mend 1 := ⟨q_in5 (i := 35) rfl rfl, q_in1 (i := 1) rfl rfl, ⟨by decide +kernel, by decide +kernel⟩, by decide +kernel, by decide⟩
theorem cb_W_please : q_CB X_W_please 1 := ⟨q_in5 (i := 59) rfl rfl, q_in1 (i := 1) rfl rfl, ⟨by decide +kernel, by decide +kernel⟩, by decide +kernel, by decide⟩
theorem cb_W_quiet : q_CB X_W_quiet 1 := ⟨q_in5 (i := 72) rfl rfl, q_in1 (i := 1) rfl rfl, ⟨by decide +kernel, by decide +kernel⟩, by decide +kernel, by decide⟩
theorem cb_W_rests : q_CB X_W_rests 3 := ⟨q_in6 (i := 3) rfl rfl, q_in1 (i := 1) rfl rfl, ⟨by decide +kernel, by decide +kernel⟩, by decide +kernel, by decide⟩
theorem cb_W_tale : q_CB X_W_tale 3 := ⟨q_in5 (i := 86) rfl rfl, q_in1 (i := 1) rfl rfl, ⟨by decide +kernel, by decide +kernel⟩, by decide +kernel, by decide⟩
theorem cb_W_how : q_CB X_W_how 0 := ⟨q_in5 (i := 95) rfl rfl, q_in1 (i := 1) rfl rfl, ⟨by decide +kernel, by decide +kernel⟩, by decide +kernel, by decide⟩
theorem cb_W_were : q_CB X_W_were 2 := ⟨q_in5 (i := 107) rfl rfl, q_in1 (i := 1) rfl rfl, ⟨by decide +kernel, by decide +kernel⟩, by decide +kernel, by decide⟩
theorem cb_W_ask : q_CB X_W_ask 0 := ⟨q_in5 (i := 111) rfl rfl, q_in1 (i := 1) rfl rfl, ⟨by decide +kernel, by decide +kernel⟩, by decide +kernel, by decide⟩
theorem cb_W_gains : q_CB X_W_gains 1 := ⟨q_in6 (i := 19) rfl rfl, q_in1 (i := 1) rfl rfl, ⟨by decide +kernel, by decide +kernel⟩, by decide +kernel, by decide⟩
theorem cb_W_tampered : q_CB X_W_tampered 4 := ⟨q_in5 (i := 115) rfl rfl, q_in1 (i := 1) rfl rfl, ⟨by decide +kernel, by decide +kernel⟩, by decide +kernel, by decide⟩
theorem cb_W_centuries : q_CB X_W_centuries 3 := ⟨q_in5 (i := 125) rfl rfl, q_in1 (i := 1) rfl rfl, ⟨by decide +kernel, by decide +kernel⟩, by decide +kernel, by decide⟩
theorem cb_W_mark : q_CB X_W_mark 2 := ⟨q_in5 (i := 148) rfl rfl, q_in1 (i := 1) rfl rfl, ⟨by decide +kernel, by decide +kernel⟩, by decide +kernel, by decide⟩
theorem cb_W_count : q_CB X_W_count 1 := ⟨q_in5 (i := 156) rfl rfl, q_in1 (i := 1) rfl rfl, ⟨by decide +kernel, by decide +kernel⟩, by decide +kernel, by decide⟩
theorem cb_W_startAnew : q_CB X_W_startAnew 0 := ⟨q_in4 (i := 39) rfl rfl, q_in1 (i := 1) rfl rfl, ⟨by decide +kernel, by decide +kernel⟩, by decide +kernel, by decide⟩
theorem cb_W_remember : q_CB X_W_remember 0 := ⟨q_in4 (i := 141) rfl rfl, q_in1 (i := 1) rfl rfl, ⟨by decide +kernel, by decide +kernel⟩, by decide +kernel, by decide⟩
theorem cb_W_isHouse : q_CB X_W_isHouse 1 := ⟨q_in4 (i := 87) rfl rfl, q_in1 (i := 1) rfl rfl, ⟨by decide +kernel, by decide +kernel⟩, by decide +kernel, by decide⟩
theorem cb_W_isFamily : q_CB X_W_isFamily 1 := ⟨q_in4 (i := 95) rfl rfl, q_in1 (i := 1) rfl rfl, ⟨by decide +kernel, by decide +kernel⟩, by decide +kernel, by decide⟩
theorem cb_W_areTwo : q_CB X_W_areTwo 2 := ⟨q_in4 (i := 130) rfl rfl, q_in1 (i := 1) rfl rfl, ⟨by decide +kernel, by decide +kernel⟩, by decide +kernel, by decide⟩
theorem cb_W_isSeed : q_CB X_W_isSeed 1 := ⟨q_in4 (i := 137) rfl rfl, q_in1 (i := 1) rfl rfl, ⟨by decide +kernel, by decide +kernel⟩, by decide +kernel, by decide⟩
theorem cb_W_isSum : q_CB X_W_isSum 1 := ⟨q_in4 (i := 182) rfl rfl, q_in1 (i := 1) rfl rfl, ⟨by decide +kernel, by decide +kernel⟩, by decide +kernel, by decide⟩
theorem cb_W_within : q_CB X_W_within 3 := ⟨q_in4 (i := 35) rfl rfl, q_in1 (i := 1) rfl rfl, ⟨by decide +kernel, by decide +kernel⟩, by decide +kernel, by decide⟩
theorem cb_W_sum : q_CB X_W_sum 1 := ⟨q_in5 (i := 159) rfl rfl, q_in1 (i := 1) rfl rfl, ⟨by decide +kernel, by decide +kernel⟩, by decide +kernel, by decide⟩
theorem cb_W_pairBit : q_CB X_W_pairBit 2 := ⟨q_in3 (i := 183) rfl rfl, q_in1 (i := 1) rfl rfl, ⟨by decide +kernel, by decide +kernel⟩, by decide +kernel, by decide⟩
theorem cb_W_power : q_CB X_W_power 2 := ⟨q_in5 (i := 121) rfl rfl, q_in1 (i := 1) rfl rfl, ⟨by decide +kernel, by decide +kernel⟩, by decide +kernel, by decide⟩
theorem cb_W_choose : q_CB X_W_choose 2 := ⟨q_in5 (i := 118) rfl rfl, q_in1 (i := 1) rfl rfl, ⟨by decide +kernel, by decide +kernel⟩, by decide +kernel, by decide⟩
theorem cb_M_thrown : q_CB X_M_thrown 0 := ⟨q_in6 (i := 24) rfl rfl, q_in1 (i := 14) rfl rfl, ⟨by decide +kernel, by decide +kernel⟩, by decide +kernel, by decide⟩
theorem cb_M_feed : q_CB X_M_feed 3 := ⟨q_in6 (i := 28) rfl rfl, q_in1 (i := 14) rfl rfl, ⟨by decide +kernel, by decide +kernel⟩, by decide +kernel, by decide⟩
theorem cb_M_lay : q_CB X_M_lay 1 := ⟨q_in6 (i := 33) rfl rfl, q_in1 (i := 14) rfl rfl, ⟨by decide +kernel, by decide +kernel⟩, by decide +kernel, by decide⟩
theorem cb_M_init : q_CB X_M_init 0 := ⟨q_in6 (i := 37) rfl rfl, q_in1 (i := 14) rfl rfl, ⟨by decide +kernel, by decide +kernel⟩, by decide +kernel, by decide⟩
theorem cb_M_isLetter : q_CB X_M_isLetter 1 := ⟨q_in6 (i := 233) rfl rfl, q_in1 (i := 14) rfl rfl, ⟨by decide +kernel, by decide +kernel⟩, by decide +kernel, by decide⟩
theorem cb_M_isDigit : q_CB X_M_isDigit 1 := ⟨q_in7 (i := 0) rfl rfl, q_in1 (i := 14) rfl rfl, ⟨by decide +kernel, by decide +kernel⟩, by decide +kernel, by decide⟩
theorem cb_M_rank : q_CB X_M_rank 1 := ⟨q_in6 (i := 237) rfl rfl, q_in1 (i := 14) rfl rfl, ⟨by decide +kernel, by decide +kernel⟩, by decide +kernel, by decide⟩
theorem cb_M_isSignOf : q_CB X_M_isSignOf 1 := ⟨q_in7 (i := 5) rfl rfl, q_in1 (i := 14) rfl rfl, ⟨by decide +kernel, by decide +kernel⟩, by decide +kernel, by decide⟩
theorem cb_M_cutAll : q_CB X_M_cutAll 0 := ⟨q_in6 (i := 230) rfl rfl, q_in1 (i := 14) rfl rfl, ⟨by decide +kernel, by decide +kernel⟩, by decide +kernel, by decide⟩
theorem cb_M_wrong : q_CB X_M_wrong 1 := ⟨q_in7 (i := 21) rfl rfl, q_in1 (i := 14) rfl rfl, ⟨by decide +kernel, by decide +kernel⟩, by decide +kernel, by decide⟩
theorem cb_M_isSign : q_CB X_M_isSign 1 := ⟨q_in7 (i := 112) rfl rfl, q_in1 (i := 14) rfl rfl, ⟨by decide +kernel, by decide +kernel⟩, by decide +kernel, by decide⟩
theorem cb_M_isWord : q_CB X_M_isWord 1 := ⟨q_in7 (i := 13) rfl rfl, q_in1 (i := 14) rfl rfl, ⟨by decide +kernel, by decide +kernel⟩, by decide +kernel, by decide⟩
theorem cb_M_takeSign : q_CB X_M_takeSign 1 := ⟨q_in7 (i := 124) rfl rfl, q_in1 (i := 14) rfl rfl, ⟨by decide +kernel, by decide +kernel⟩, by decide +kernel, by decide⟩
theorem cb_M_hasSign : q_CB X_M_hasSign 1 := ⟨q_in7 (i := 120) rfl rfl, q_in1 (i := 14) rfl rfl, ⟨by decide +kernel, by decide +kernel⟩, by decide +kernel, by decide⟩
theorem cb_M_hasWord : q_CB X_M_hasWord 1 := ⟨q_in7 (i := 76) rfl rfl, q_in1 (i := 14) rfl rfl, ⟨by decide +kernel, by decide +kernel⟩, by decide +kernel, by decide⟩
theorem cb_M_takeWord : q_CB X_M_takeWord 1 := ⟨q_in7 (i := 72) rfl rfl, q_in1 (i := 14) rfl rfl, ⟨by decide +kernel, by decide +kernel⟩, by decide +kernel, by decide⟩
theorem cb_M_within : q_CB X_M_within 3 := ⟨q_in7 (i := 52) rfl rfl, q_in1 (i := 14) rfl rfl, ⟨by decide +kernel, by decide +kernel⟩, by decide +kernel, by decide⟩
theorem cb_M_standsAsAlways : q_CB X_M_standsAsAlways 1 := ⟨q_in6 (i := 75) rfl rfl, q_in1 (i := 14) rfl rfl, ⟨by decide +kernel, by decide +kernel⟩, by decide +kernel, by decide⟩
theorem cb_M_takeNumber : q_CB X_M_takeNumber 2 := ⟨q_in7 (i := 56) rfl rfl, q_in1 (i := 14) rfl rfl, ⟨by decide +kernel, by decide +kernel⟩, by decide +kernel, by decide⟩
theorem cb_M_takeAfter : q_CB X_M_takeAfter 3 := ⟨q_in7 (i := 68) rfl rfl, q_in1 (i := 14) rfl rfl, ⟨by decide +kernel, by decide +kernel⟩, by decide +kernel, by decide⟩
theorem cb_M_wordHere : q_CB X_M_wordHere 2 := ⟨q_in7 (i := 33) rfl rfl, q_in1 (i := 14) rfl rfl, ⟨by decide +kernel, by decide +kernel⟩, by decide +kernel, by decide⟩
theorem cb_M_takeOne : q_CB X_M_takeOne 2 := ⟨q_in7 (i := 64) rfl rfl, q_in1 (i := 14) rfl rfl, ⟨by decide +kernel, by decide +kernel⟩, by decide +kernel, by decide⟩
theorem cb_M_isName : q_CB X_M_isName 0 := ⟨q_in7 (i := 29) rfl rfl, q_in1 (i := 14) rfl rfl, ⟨by decide +kernel, by decide +kernel⟩, by decide +kernel, by decide⟩
theorem cb_M_find : q_CB X_M_find 1 := ⟨q_in7 (i := 37) rfl rfl, q_in1 (i := 14) rfl rfl, ⟨by decide +kernel, by decide +kernel⟩, by decide +kernel, by decide⟩
theorem cb_M_toldHere : q_CB X_M_toldHere 2 := ⟨q_in7 (i := 49) rfl rfl, q_in1 (i := 14) rfl rfl, ⟨by decide +kernel, by decide +kernel⟩, by decide +kernel, by decide⟩
theorem cb_M_takeTold : q_CB X_M_takeTold 2 := ⟨q_in7 (i := 45) rfl rfl, q_in1 (i := 14) rfl rfl, ⟨by decide +kernel, by decide +kernel⟩, by decide +kernel, by decide⟩
theorem cb_M_town : q_CB X_M_town 0 := ⟨q_in6 (i := 226) rfl rfl, q_in1 (i := 14) rfl rfl, ⟨by decide +kernel, by decide +kernel⟩, by decide +kernel, by decide⟩
theorem cb_M_readLine : q_CB X_M_readLine 0 := ⟨q_in7 (i := 9) rfl rfl, q_in1 (i := 14) rfl rfl, ⟨by decide +kernel, by decide +kernel⟩, by decide +kernel, by decide⟩
theorem cb_M_readName : q_CB X_M_readName 1 := ⟨q_in7 (i := 25) rfl rfl, q_in1 (i := 14) rfl rfl, ⟨by decide +kernel, by decide +kernel⟩, by decide +kernel, by decide⟩
theorem cb_M_readHouse : q_CB X_M_readHouse 0 := ⟨q_in7 (i := 17) rfl rfl, q_in1 (i := 14) rfl rfl, ⟨by decide +kernel, by decide +kernel⟩, by decide +kernel, by decide⟩
theorem cb_M_readWall : q_CB X_M_readWall 0 := ⟨q_in7 (i := 41) rfl rfl, q_in1 (i := 14) rfl rfl, ⟨by decide +kernel, by decide +kernel⟩, by decide +kernel, by decide⟩
theorem cb_M_readFamily : q_CB X_M_readFamily 0 := ⟨q_in7 (i := 60) rfl rfl, q_in1 (i := 14) rfl rfl, ⟨by decide +kernel, by decide +kernel⟩, by decide +kernel, by decide⟩
theorem cb_M_readLiking : q_CB X_M_readLiking 1 := ⟨q_in7 (i := 80) rfl rfl, q_in1 (i := 14) rfl rfl, ⟨by decide +kernel, by decide +kernel⟩, by decide +kernel, by decide⟩
theorem cb_M_readCustom : q_CB X_M_readCustom 1 := ⟨q_in7 (i := 84) rfl rfl, q_in1 (i := 14) rfl rfl, ⟨by decide +kernel, by decide +kernel⟩, by decide +kernel, by decide⟩
theorem cb_M_readLaw : q_CB X_M_readLaw 0 := ⟨q_in7 (i := 88) rfl rfl, q_in1 (i := 14) rfl rfl, ⟨by decide +kernel, by decide +kernel⟩, by decide +kernel, by decide⟩
theorem cb_M_days : q_CB X_M_days 0 := ⟨q_in7 (i := 128) rfl rfl, q_in1 (i := 14) rfl rfl, ⟨by decide +kernel, by decide +kernel⟩, by decide +kernel, by decide⟩
theorem cb_M_readDay : q_CB X_M_readDay 2 := ⟨q_in7 (i := 132) rfl rfl, q_in1 (i := 14) rfl rfl, ⟨by decide +kernel, by decide +kernel⟩, by decide +kernel, by decide⟩
theorem cb_M_emit : q_CB X_M_emit 2 := ⟨q_in7 (i := 116) rfl rfl, q_in1 (i := 14) rfl rfl, ⟨by decide +kernel, by decide +kernel⟩, by decide +kernel, by decide⟩
theorem cb_M_all : q_CB X_M_all 1 := ⟨q_in7 (i := 92) rfl rfl, q_in1 (i := 14) rfl rfl, ⟨by decide +kernel, by decide +kernel⟩, by decide +kernel, by decide⟩
theorem cb_M_test : q_CB X_M_test 1 := ⟨q_in7 (i := 96) rfl rfl, q_in1 (i := 14) rfl rfl, ⟨by decide +kernel, by decide +kernel⟩, by decide +kernel, by decide⟩
theorem cb_M_sums : q_CB X_M_sums 1 := ⟨q_in7 (i := 100) rfl rfl, q_in1 (i := 14) rfl rfl, ⟨by decide +kernel, by decide +kernel⟩, by decide +kernel, by decide⟩
theorem cb_M_products : q_CB X_M_products 1 := ⟨q_in7 (i := 104) rfl rfl, q_in1 (i := 14) rfl rfl, ⟨by decide +kernel, by decide +kernel⟩, by decide +kernel, by decide⟩
theorem cb_M_takePart : q_CB X_M_takePart 1 := ⟨q_in7 (i := 108) rfl rfl, q_in1 (i := 14) rfl rfl, ⟨by decide +kernel, by decide +kernel⟩, by decide +kernel, by decide⟩
theorem cb_M_worthAt : q_CB X_M_worthAt 1 := ⟨q_in6 (i := 103) rfl rfl, q_in1 (i := 14) rfl rfl, ⟨by decide +kernel, by decide +kernel⟩, by decide +kernel, by decide⟩
theorem cb_M_both : q_CB X_M_both 3 := ⟨q_in6 (i := 106) rfl rfl, q_in1 (i := 14) rfl rfl, ⟨by decide +kernel, by decide +kernel⟩, by decide +kernel, by decide⟩
theorem cb_M_copies : q_CB X_M_copies 3 := ⟨q_in7 (i := 200) rfl rfl, q_in1 (i := 14) rfl rfl, ⟨by decide +kernel, by decide +kernel⟩, by decide +kernel, by decide⟩
theorem cb_M_starts : q_CB X_M_starts 1 := ⟨q_in6 (i := 110) rfl rfl, q_in1 (i := 14) rfl rfl, ⟨by decide +kernel, by decide +kernel⟩, by decide +kernel, by decide⟩
theorem cb_M_begins : q_CB X_M_begins 0 := ⟨q_in6 (i := 79) rfl rfl, q_in1 (i := 14) rfl rfl, ⟨by decide +kernel, by decide +kernel⟩, by decide +kernel, by decide⟩
theorem cb_M_keeps : q_CB X_M_keeps 0 := ⟨q_in7 (i := 196) rfl rfl, q_in1 (i := 14) rfl rfl, ⟨by decide +kernel, by decide +kernel⟩, by decide +kernel, by decide⟩
theorem cb_M_houses : q_CB X_M_houses 0 := ⟨q_in7 (i := 144) rfl rfl, q_in1 (i := 14) rfl rfl, ⟨by decide +kernel, by decide +kernel⟩, by decide +kernel, by decide⟩
theorem cb_M_families : q_CB X_M_families 0 := ⟨q_in6 (i := 87) rfl rfl, q_in1 (i := 14) rfl rfl, ⟨by decide +kernel, by decide +kernel⟩, by decide +kernel, by decide⟩
theorem cb_M_familyOf : q_CB X_M_familyOf 2 := ⟨q_in6 (i := 95) rfl rfl, q_in1 (i := 14) rfl rfl, ⟨by decide +kernel, by decide +kernel⟩, by decide +kernel, by decide⟩
theorem cb_M_isHouse : q_CB X_M_isHouse 1 := ⟨q_in7 (i := 140) rfl rfl, q_in1 (i := 14) rfl rfl, ⟨by decide +kernel, by decide +kernel⟩, by decide +kernel, by decide⟩
theorem cb_M_isFamily : q_CB X_M_isFamily 1 := ⟨q_in7 (i := 156) rfl rfl, q_in1 (i := 14) rfl rfl, ⟨by decide +kernel, by decide +kernel⟩, by decide +kernel, by decide⟩
theorem cb_M_areTwo : q_CB X_M_areTwo 2 := ⟨q_in7 (i := 188) rfl rfl, q_in1 (i := 14) rfl rfl, ⟨by decide +kernel, by decide +kernel⟩, by decide +kernel, by decide⟩
theorem cb_M_loudOf : q_CB X_M_loudOf 1 := ⟨q_in6 (i := 91) rfl rfl, q_in1 (i := 14) rfl rfl, ⟨by decide +kernel, by decide +kernel⟩, by decide +kernel, by decide⟩
theorem cb_M_hearingOf : q_CB X_M_hearingOf 1 := ⟨q_in6 (i := 99) rfl rfl, q_in1 (i := 14) rfl rfl, ⟨by decide +kernel, by decide +kernel⟩, by decide +kernel, by decide⟩
theorem cb_M_laysNoises : q_CB X_M_laysNoises 0 := ⟨q_in6 (i := 83) rfl rfl, q_in1 (i := 14) rfl rfl, ⟨by decide +kernel, by decide +kernel⟩, by decide +kernel, by decide⟩
theorem cb_M_wallBy : q_CB X_M_wallBy 3 := ⟨q_in7 (i := 164) rfl rfl, q_in1 (i := 14) rfl rfl, ⟨by decide +kernel, by decide +kernel⟩, by decide +kernel, by decide⟩
theorem cb_M_feltBy : q_CB X_M_feltBy 2 := ⟨q_in7 (i := 168) rfl rfl, q_in1 (i := 14) rfl rfl, ⟨by decide +kernel, by decide +kernel⟩, by decide +kernel, by decide⟩
theorem cb_M_likes : q_CB X_M_likes 2 := ⟨q_in7 (i := 176) rfl rfl, q_in1 (i := 14) rfl rfl, ⟨by decide +kernel, by decide +kernel⟩, by decide +kernel, by decide⟩
theorem cb_M_joyBy : q_CB X_M_joyBy 2 := ⟨q_in7 (i := 172) rfl rfl, q_in1 (i := 14) rfl rfl, ⟨by decide +kernel, by decide +kernel⟩, by decide +kernel, by decide⟩
theorem cb_M_contentBy : q_CB X_M_contentBy 1 := ⟨q_in8 (i := 86) rfl rfl, q_in1 (i := 14) rfl rfl, ⟨by decide +kernel, by decide +kernel⟩, by decide +kernel, by decide⟩
theorem cb_M_brokenBy : q_CB X_M_brokenBy 1 := ⟨q_in8 (i := 28) rfl rfl, q_in1 (i := 14) rfl rfl, ⟨by decide +kernel, by decide +kernel⟩, by decide +kernel, by decide⟩
theorem cb_M_bits : q_CB X_M_bits 1 := ⟨q_in8 (i := 145) rfl rfl, q_in1 (i := 14) rfl rfl, ⟨by decide +kernel, by decide +kernel⟩, by decide +kernel, by decide⟩
theorem cb_M_house : q_CB X_M_house 1 := ⟨q_in7 (i := 136) rfl rfl, q_in1 (i := 14) rfl rfl, ⟨by decide +kernel, by decide +kernel⟩, by decide +kernel, by decide⟩
theorem cb_M_wall : q_CB X_M_wall 2 := ⟨q_in7 (i := 148) rfl rfl, q_in1 (i := 14) rfl rfl, ⟨by decide +kernel, by decide +kernel⟩, by decide +kernel, by decide⟩
theorem cb_M_nearOf : q_CB X_M_nearOf 1 := ⟨q_in7 (i := 160) rfl rfl, q_in1 (i := 14) rfl rfl, ⟨by decide +kernel, by decide +kernel⟩, by decide +kernel, by decide⟩
theorem cb_M_family : q_CB X_M_family 2 := ⟨q_in7 (i := 152) rfl rfl, q_in1 (i := 14) rfl rfl, ⟨by decide +kernel, by decide +kernel⟩, by decide +kernel, by decide⟩
theorem cb_M_joy : q_CB X_M_joy 1 := ⟨q_in7 (i := 180) rfl rfl, q_in1 (i := 14) rfl rfl, ⟨by decide +kernel, by decide +kernel⟩, by decide +kernel, by decide⟩
theorem cb_M_owes : q_CB X_M_owes 2 := ⟨q_in7 (i := 184) rfl rfl, q_in1 (i := 14) rfl rfl, ⟨by decide +kernel, by decide +kernel⟩, by decide +kernel, by decide⟩
theorem cb_M_drawBelow : q_CB X_M_drawBelow 1 := ⟨q_in7 (i := 212) rfl rfl, q_in1 (i := 14) rfl rfl, ⟨by decide +kernel, by decide +kernel⟩, by decide +kernel, by decide⟩
theorem cb_M_lapses : q_CB X_M_lapses 3 := ⟨q_in7 (i := 208) rfl rfl, q_in1 (i := 14) rfl rfl, ⟨by decide +kernel, by decide +kernel⟩, by decide +kernel, by decide⟩
theorem cb_M_draws : q_CB X_M_draws 1 := ⟨q_in7 (i := 204) rfl rfl, q_in1 (i := 14) rfl rfl, ⟨by decide +kernel, by decide +kernel⟩, by decide +kernel, by decide⟩
theorem cb_M_draw : q_CB X_M_draw 1 := ⟨q_in7 (i := 192) rfl rfl, q_in1 (i := 14) rfl rfl, ⟨by decide +kernel, by decide +kernel⟩, by decide +kernel, by decide⟩
theorem cb_M_swaps : q_CB X_M_swaps 3 := ⟨q_in7 (i := 224) rfl rfl, q_in1 (i := 14) rfl rfl, ⟨by decide +kernel, by decide +kernel⟩, by decide +kernel, by decide⟩
theorem cb_M_swap : q_CB X_M_swap 2 := ⟨q_in7 (i := 220) rfl rfl, q_in1 (i := 14) rfl rfl, ⟨by decide +kernel, by decide +kernel⟩, by decide +kernel, by decide⟩
theorem cb_M_mayLend : q_CB X_M_mayLend 4 := ⟨q_in7 (i := 232) rfl rfl, q_in1 (i := 14) rfl rfl, ⟨by decide +kernel, by decide +kernel⟩, by decide +kernel, by decide⟩
theorem cb_M_moves : q_CB X_M_moves 4 := ⟨q_in8 (i := 0) rfl rfl, q_in1 (i := 14) rfl rfl, ⟨by decide +kernel, by decide +kernel⟩, by decide +kernel, by decide⟩
theorem cb_M_lends : q_CB X_M_lends 4 := ⟨q_in7 (i := 236) rfl rfl, q_in1 (i := 14) rfl rfl, ⟨by decide +kernel, by decide +kernel⟩, by decide +kernel, by decide⟩
theorem cb_M_lend : q_CB X_M_lend 3 := ⟨q_in7 (i := 228) rfl rfl, q_in1 (i := 14) rfl rfl, ⟨by decide +kernel, by decide +kernel⟩, by decide +kernel, by decide⟩
theorem cb_M_mayPay : q_CB X_M_mayPay 4 := ⟨q_in8 (i := 8) rfl rfl, q_in1 (i := 14) rfl rfl, ⟨by decide +kernel, by decide +kernel⟩, by decide +kernel, by decide⟩
theorem cb_M_pays : q_CB X_M_pays 4 := ⟨q_in8 (i := 12) rfl rfl, q_in1 (i := 14) rfl rfl, ⟨by decide +kernel, by decide +kernel⟩, by decide +kernel, by decide⟩
theorem cb_M_pay : q_CB X_M_pay 3 := ⟨q_in8 (i := 4) rfl rfl, q_in1 (i := 14) rfl rfl, ⟨by decide +kernel, by decide +kernel⟩, by decide +kernel, by decide⟩
theorem cb_M_undo : q_CB X_M_undo 0 := ⟨q_in8 (i := 16) rfl rfl, q_in1 (i := 14) rfl rfl, ⟨by decide +kernel, by decide +kernel⟩, by decide +kernel, by decide⟩
theorem cb_M_does : q_CB X_M_does 1 := ⟨q_in8 (i := 24) rfl rfl, q_in1 (i := 14) rfl rfl, ⟨by decide +kernel, by decide +kernel⟩, by decide +kernel, by decide⟩
theorem cb_M_judged : q_CB X_M_judged 1 := ⟨q_in8 (i := 20) rfl rfl, q_in1 (i := 14) rfl rfl, ⟨by decide +kernel, by decide +kernel⟩, by decide +kernel, by decide⟩
theorem cb_M_broken : q_CB X_M_broken 0 := ⟨q_in8 (i := 32) rfl rfl, q_in1 (i := 14) rfl rfl, ⟨by decide +kernel, by decide +kernel⟩, by decide +kernel, by decide⟩
theorem cb_M_findWays : q_CB X_M_findWays 0 := ⟨q_in8 (i := 40) rfl rfl, q_in1 (i := 14) rfl rfl, ⟨by decide +kernel, by decide +kernel⟩, by decide +kernel, by decide⟩
theorem cb_M_lives : q_CB X_M_lives 2 := ⟨q_in8 (i := 44) rfl rfl, q_in1 (i := 14) rfl rfl, ⟨by decide +kernel, by decide +kernel⟩, by decide +kernel, by decide⟩
theorem cb_M_laysWay : q_CB X_M_laysWay 1 := ⟨q_in8 (i := 52) rfl rfl, q_in1 (i := 14) rfl rfl, ⟨by decide +kernel, by decide +kernel⟩, by decide +kernel, by decide⟩
theorem cb_M_waysNear : q_CB X_M_waysNear 2 := ⟨q_in8 (i := 48) rfl rfl, q_in1 (i := 14) rfl rfl, ⟨by decide +kernel, by decide +kernel⟩, by decide +kernel, by decide⟩
theorem cb_M_odds : q_CB X_M_odds 2 := ⟨q_in8 (i := 36) rfl rfl, q_in1 (i := 14) rfl rfl, ⟨by decide +kernel, by decide +kernel⟩, by decide +kernel, by decide⟩
theorem cb_M_peace : q_CB X_M_peace 2 := ⟨q_in8 (i := 57) rfl rfl, q_in1 (i := 14) rfl rfl, ⟨by decide +kernel, by decide +kernel⟩, by decide +kernel, by decide⟩
theorem cb_M_hope : q_CB X_M_hope 1 := ⟨q_in8 (i := 61) rfl rfl, q_in1 (i := 14) rfl rfl, ⟨by decide +kernel, by decide +kernel⟩, by decide +kernel, by decide⟩
theorem cb_M_whoLives : q_CB X_M_whoLives 2 := ⟨q_in8 (i := 74) rfl rfl, q_in1 (i := 14) rfl rfl, ⟨by decide +kernel, by decide +kernel⟩, by decide +kernel, by decide⟩
theorem cb_M_swapsTo : q_CB X_M_swapsTo 0 := ⟨q_in8 (i := 70) rfl rfl, q_in1 (i := 14) rfl rfl, ⟨by decide +kernel, by decide +kernel⟩, by decide +kernel, by decide⟩
theorem cb_M_takesWay : q_CB X_M_takesWay 2 := ⟨q_in8 (i := 78) rfl rfl, q_in1 (i := 14) rfl rfl, ⟨by decide +kernel, by decide +kernel⟩, by decide +kernel, by decide⟩
theorem cb_M_mend : q_CB X_M_mend 1 := ⟨q_in8 (i := 66) rfl rfl, q_in1 (i := 14) rfl rfl, ⟨by decide +kernel, by decide +kernel⟩, by decide +kernel, by decide⟩
theorem cb_M_please : q_CB X_M_please 1 := ⟨q_in8 (i := 82) rfl rfl, q_in1 (i := 14) rfl rfl, ⟨by decide +kernel, by decide +kernel⟩, by decide +kernel, by decide⟩
theorem cb_M_quiet : q_CB X_M_quiet 1 := ⟨q_in8 (i := 90) rfl rfl, q_in1 (i := 14) rfl rfl, ⟨by decide +kernel, by decide +kernel⟩, by decide +kernel, by decide⟩
theorem cb_M_getsBy : q_CB X_M_getsBy 4 := ⟨q_in8 (i := 98) rfl rfl, q_in1 (i := 14) rfl rfl, ⟨by decide +kernel, by decide +kernel⟩, by decide +kernel, by decide⟩
theorem cb_M_rests : q_CB X_M_rests 3 := ⟨q_in8 (i := 94) rfl rfl, q_in1 (i := 14) rfl rfl, ⟨by decide +kernel, by decide +kernel⟩, by decide +kernel, by decide⟩
theorem cb_M_tale : q_CB X_M_tale 3 := ⟨q_in8 (i := 102) rfl rfl, q_in1 (i := 14) rfl rfl, ⟨by decide +kernel, by decide +kernel⟩, by decide +kernel, by decide⟩
theorem cb_M_isAsTold : q_CB X_M_isAsTold 0 := ⟨q_in8 (i := 114) rfl rfl, q_in1 (i := 14) rfl rfl, ⟨by decide +kernel, by decide +kernel⟩, by decide +kernel, by decide⟩
theorem cb_M_findFitting : q_CB X_M_findFitting 0 := ⟨q_in8 (i := 110) rfl rfl, q_in1 (i := 14) rfl rfl, ⟨by decide +kernel, by decide +kernel⟩, by decide +kernel, by decide⟩
theorem cb_M_countsNear : q_CB X_M_countsNear 0 := ⟨q_in8 (i := 118) rfl rfl, q_in1 (i := 14) rfl rfl, ⟨by decide +kernel, by decide +kernel⟩, by decide +kernel, by decide⟩
theorem cb_M_how : q_CB X_M_how 0 := ⟨q_in8 (i := 106) rfl rfl, q_in1 (i := 14) rfl rfl, ⟨by decide +kernel, by decide +kernel⟩, by decide +kernel, by decide⟩
theorem cb_M_were : q_CB X_M_were 2 := ⟨q_in8 (i := 122) rfl rfl, q_in1 (i := 14) rfl rfl, ⟨by decide +kernel, by decide +kernel⟩, by decide +kernel, by decide⟩
theorem cb_M_ask : q_CB X_M_ask 0 := ⟨q_in8 (i := 126) rfl rfl, q_in1 (i := 14) rfl rfl, ⟨by decide +kernel, by decide +kernel⟩, by decide +kernel, by decide⟩
theorem cb_M_gains : q_CB X_M_gains 1 := ⟨q_in8 (i := 130) rfl rfl, q_in1 (i := 14) rfl rfl, ⟨by decide +kernel, by decide +kernel⟩, by decide +kernel, by decide⟩
theorem cb_M_tampered : q_CB X_M_tampered 4 := ⟨q_in8 (i := 134) rfl rfl, q_in1 (i := 14) rfl rfl, ⟨by decide +kernel, by decide +kernel⟩, by decide +kernel, by decide⟩
theorem cb_M_drawsYears : q_CB X_M_drawsYears 0 := ⟨q_in8 (i := 142) rfl rfl, q_in1 (i := 14) rfl rfl, ⟨by decide +kernel, by decide +kernel⟩, by decide +kernel, by decide⟩
theorem cb_M_centuries : q_CB X_M_centuries 3 := ⟨q_in8 (i := 138) rfl rfl, q_in1 (i := 14) rfl rfl, ⟨by decide +kernel, by decide +kernel⟩, by decide +kernel, by decide⟩
theorem cb_M_mark : q_CB X_M_mark 2 := ⟨q_in8 (i := 149) rfl rfl, q_in1 (i := 14) rfl rfl, ⟨by decide +kernel, by decide +kernel⟩, by decide +kernel, by decide⟩
theorem cb_M_coinsOfAll : q_CB X_M_coinsOfAll 0 := ⟨q_in8 (i := 157) rfl rfl, q_in1 (i := 14) rfl rfl, ⟨by decide +kernel, by decide +kernel⟩, by decide +kernel, by decide⟩
theorem cb_M_debtsOfAll : q_CB X_M_debtsOfAll 0 := ⟨q_in8 (i := 161) rfl rfl, q_in1 (i := 14) rfl rfl, ⟨by decide +kernel, by decide +kernel⟩, by decide +kernel, by decide⟩
theorem cb_M_count : q_CB X_M_count 1 := ⟨q_in8 (i := 153) rfl rfl, q_in1 (i := 14) rfl rfl, ⟨by decide +kernel, by decide +kernel⟩, by decide +kernel, by decide⟩
theorem cb_JE_ordinal : q_CB X_JE_ordinal 0 := ⟨q_in3 (i := 102) rfl rfl, q_in1 (i := 4) rfl rfl, ⟨by decide +kernel, by decide +kernel⟩, by decide +kernel, by decide⟩
theorem cb_JI_bitCount : q_CB X_JI_bitCount 1 := ⟨q_in5 (i := 141) rfl rfl, q_in1 (i := 27) rfl rfl, ⟨by decide +kernel, by decide +kernel⟩, by decide +kernel, by decide⟩
theorem cb_JS_length : q_CB X_JS_length 0 := ⟨q_in3 (i := 18) rfl rfl, q_in1 (i := 15) rfl rfl, ⟨by decide +kernel, by decide +kernel⟩, by decide +kernel, by decide⟩
theorem cb_JS_indexOf : q_CB X_JS_indexOf 1 := ⟨q_in3 (i := 4) rfl rfl, q_in1 (i := 15) rfl rfl, ⟨by decide +kernel, by decide +kernel⟩, by decide +kernel, by decide⟩
theorem cb_JS_indexOf_5 : q_CB X_JS_indexOf_5 2 := ⟨q_in3 (i := 8) rfl rfl, q_in1 (i := 15) rfl rfl, ⟨by decide +kernel, by decide +kernel⟩, by decide +kernel, by decide⟩
theorem cb_JS_coder : q_CB X_JS_coder 0 := ⟨q_in3 (i := 22) rfl rfl, q_in1 (i := 15) rfl rfl, ⟨by decide +kernel, by decide +kernel⟩, by decide +kernel, by decide⟩
theorem cb_JS_isLatin1 : q_CB X_JS_isLatin1 0 := ⟨q_in3 (i := 12) rfl rfl, q_in1 (i := 15) rfl rfl, ⟨by decide +kernel, by decide +kernel⟩, by decide +kernel, by decide⟩
theorem cb_JS_checkBoundsBeginEnd : q_CB X_JS_checkBoundsBeginEnd 3 := ⟨q_in3 (i := 55) rfl rfl, q_in1 (i := 15) rfl rfl, ⟨by decide +kernel, by decide +kernel⟩, by decide +kernel, by decide⟩
theorem cb_JL_canEncode : q_CB X_JL_canEncode 1 := ⟨q_in3 (i := 28) rfl rfl, q_in1 (i := 16) rfl rfl, ⟨by decide +kernel, by decide +kernel⟩, by decide +kernel, by decide⟩
theorem cb_JL_indexOf : q_CB X_JL_indexOf 4 := ⟨q_in3 (i := 25) rfl rfl, q_in1 (i := 16) rfl rfl, ⟨by decide +kernel, by decide +kernel⟩, by decide +kernel, by decide⟩
theorem cb_JL_indexOfChar : q_CB X_JL_indexOfChar 4 := ⟨q_in3 (i := 37) rfl rfl, q_in1 (i := 16) rfl rfl, ⟨by decide +kernel, by decide +kernel⟩, by decide +kernel, by decide⟩
theorem k_Dy_3 : Cond.methodLink "WallLottery$Days" 3 Lib.objectInit ∈ q_GT := q_in2 (i := 105) rfl rfl
theorem f_Dy_9 : q_F "WallLottery$Days" 9 0 0 2 := ⟨q_N0, q_T0, 5, rfl, by decide, q_in2 (i := 106) rfl rfl, rfl, q_Tw0⟩
theorem fp_Dy_9 : q_FP "WallLottery$Days" 9 0 0 2 (.array .int) true := ⟨q_N0, q_T0, 5, q_Y0, rfl, by decide, q_in2 (i := 106) rfl rfl, rfl, q_Tw0, q_Ty0, q_Tn0, by decide +kernel, rfl, fun h => by first | rfl | cases h⟩
theorem f_Dy_15 : q_F "WallLottery$Days" 15 0 1 2 := ⟨q_N0, q_T0, 5, rfl, by decide, q_in2 (i := 107) rfl rfl, rfl, q_Tw0⟩
theorem fp_Dy_15 : q_FP "WallLottery$Days" 15 0 1 2 (.array .int) true := ⟨q_N0, q_T0, 5, q_Y0, rfl, by decide, q_in2 (i := 107) rfl rfl, rfl, q_Tw0, q_Ty0, q_Tn0, by decide +kernel, rfl, fun h => by first | rfl | cases h⟩
theorem f_Dy_18 : q_F "WallLottery$Days" 18 0 2 2 := ⟨q_N0, q_T0, 5, rfl, by decide, q_in2 (i := 108) rfl rfl, rfl, q_Tw0⟩
theorem fp_Dy_18 : q_FP "WallLottery$Days" 18 0 2 2 (.array .int) true := ⟨q_N0, q_T0, 5, q_Y0, rfl, by decide, q_in2 (i := 108) rfl rfl, rfl, q_Tw0, q_Ty0, q_Tn0, by decide +kernel, rfl, fun h => by first | rfl | cases h⟩
theorem f_Dy_21 : q_F "WallLottery$Days" 21 0 3 2 := ⟨q_N0, q_T0, 5, rfl, by decide, q_in2 (i := 109) rfl rfl, rfl, q_Tw0⟩
theorem fp_Dy_21 : q_FP "WallLottery$Days" 21 0 3 2 (.array .int) true := ⟨q_N0, q_T0, 5, q_Y0, rfl, by decide, q_in2 (i := 109) rfl rfl, rfl, q_Tw0, q_Ty0, q_Tn0, by decide +kernel, rfl, fun h => by first | rfl | cases h⟩
theorem f_Dy_24 : q_F "WallLottery$Days" 24 0 4 0 := ⟨q_N0, q_T0, 5, rfl, by decide, q_in2 (i := 110) rfl rfl, rfl, q_Tw0⟩
theorem fp_Dy_24 : q_FP "WallLottery$Days" 24 0 4 0 .int false := ⟨q_N0, q_T0, 5, q_Y0, rfl, by decide, q_in2 (i := 110) rfl rfl, rfl, q_Tw0, q_Ty0, q_Tn0, by decide +kernel, rfl, fun h => by first | rfl | cases h⟩
theorem f_Dy_28 : q_F "WallLottery$Days" 28 1 1 1 := ⟨q_N1, q_T1, 2, rfl, by decide, q_in1 (i := 164) rfl rfl, rfl, q_Tw1⟩
theorem fp_Dy_28 : q_FP "WallLottery$Days" 28 1 1 1 .long false := ⟨q_N1, q_T1, 2, q_Y1, rfl, by decide, q_in1 (i := 164) rfl rfl, rfl, q_Tw1, q_Ty1, q_Tn1, by decide +kernel, rfl, fun h => by first | rfl | cases h⟩
theorem k_Dy_34 : q_CV "WallLottery$Days" 34 X_Li_redraw 2 3 := ⟨cb_Li_redraw, .inl (q_in4 (i := 215) rfl rfl), q_in4 (i := 147) rfl rfl, q_in4 (i := 148) rfl rfl, q_T3, 5, rfl⟩
theorem k_Dy_40 : q_CV "WallLottery$Days" 40 X_Li_changeHouses 2 3 := ⟨cb_Li_changeHouses, .inl (q_in4 (i := 216) rfl rfl), q_in4 (i := 173) rfl rfl, q_in4 (i := 174) rfl rfl, q_T3, 5, rfl⟩
theorem k_Dy_44 : q_CV "WallLottery$Days" 44 X_Li_canLend 4 3 := ⟨cb_Li_canLend, .inl (q_in4 (i := 217) rfl rfl), q_in4 (i := 184) rfl rfl, q_in4 (i := 185) rfl rfl, q_T3, 5, rfl⟩
theorem k_Dy_48 : q_CV "WallLottery$Days" 48 X_Li_giveLoan 3 3 := ⟨cb_Li_giveLoan, .inl (q_in4 (i := 218) rfl rfl), q_in4 (i := 188) rfl rfl, q_in4 (i := 189) rfl rfl, q_T3, 5, rfl⟩
theorem k_Dy_52 : q_CV "WallLottery$Days" 52 X_Li_canPay 3 3 := ⟨cb_Li_canPay, .inl (q_in4 (i := 219) rfl rfl), q_in4 (i := 196) rfl rfl, q_in4 (i := 197) rfl rfl, q_T3, 5, rfl⟩
theorem k_Dy_56 : q_CV "WallLottery$Days" 56 X_Li_payBack 3 3 := ⟨cb_Li_payBack, .inl (q_in4 (i := 220) rfl rfl), q_in4 (i := 200) rfl rfl, q_in4 (i := 201) rfl rfl, q_T3, 5, rfl⟩
theorem k_Di_3 : Cond.methodLink "WallLottery$Dice" 3 Lib.objectInit ∈ q_GT := q_in1 (i := 160) rfl rfl
theorem f_Di_9 : q_F "WallLottery$Dice" 9 1 0 2 := ⟨q_N1, q_T1, 2, rfl, by decide, q_in1 (i := 161) rfl rfl, rfl, q_Tw1⟩
theorem fp_Di_9 : q_FP "WallLottery$Dice" 9 1 0 2 (.array .int) true := ⟨q_N1, q_T1, 2, q_Y1, rfl, by decide, q_in1 (i := 161) rfl rfl, rfl, q_Tw1, q_Ty1, q_Tn1, by decide +kernel, rfl, fun h => by first | rfl | cases h⟩
theorem f_Di_15 : q_F "WallLottery$Dice" 15 1 1 1 := ⟨q_N1, q_T1, 2, rfl, by decide, q_in1 (i := 163) rfl rfl, rfl, q_Tw1⟩
theorem n_Di_19 : Cond.constantLong "WallLottery$Dice" 19 (1103515245) ∈ q_GT := q_in4 (i := 164) rfl rfl
theorem n_Di_21 : Cond.constantLong "WallLottery$Dice" 21 (12345) ∈ q_GT := q_in4 (i := 165) rfl rfl
theorem n_Di_23 : Cond.constantLong "WallLottery$Dice" 23 (2147483648) ∈ q_GT := q_in4 (i := 166) rfl rfl
theorem fp_Di_15 : q_FP "WallLottery$Dice" 15 1 1 1 .long false := ⟨q_N1, q_T1, 2, q_Y1, rfl, by decide, q_in1 (i := 163) rfl rfl, rfl, q_Tw1, q_Ty1, q_Tn1, by decide +kernel, rfl, fun h => by first | rfl | cases h⟩
theorem n_Di_25 : Cond.constantLong "WallLottery$Dice" 25 (65536) ∈ q_GT := q_in4 (i := 167) rfl rfl
theorem k_Di_27 : Cond.methodLink "WallLottery$Dice" 27 Lib.Math.min.name ∈ q_GT := q_in4 (i := 159) rfl rfl
theorem k_Di_33 : q_CV "WallLottery$Dice" 33 X_Di_below 1 1 := ⟨cb_Di_below, .inl (q_in4 (i := 160) rfl rfl), q_in4 (i := 161) rfl rfl, q_in4 (i := 162) rfl rfl, q_T1, 2, rfl⟩
theorem k_La_3 : Cond.methodLink "WallLottery$Laws" 3 Lib.objectInit ∈ q_GT := q_in1 (i := 228) rfl rfl
theorem f_La_11 : q_F "WallLottery$Laws" 11 2 0 2 := ⟨q_N2, q_T2, 7, rfl, by decide, q_in1 (i := 229) rfl rfl, rfl, q_Tw2⟩
theorem fp_La_11 : q_FP "WallLottery$Laws" 11 2 0 2 (.array .int) true := ⟨q_N2, q_T2, 7, q_Y2, rfl, by decide, q_in1 (i := 229) rfl rfl, rfl, q_Tw2, q_Ty2, q_Tn2, by decide +kernel, rfl, fun h => by first | rfl | cases h⟩
theorem f_La_15 : q_F "WallLottery$Laws" 15 2 1 2 := ⟨q_N2, q_T2, 7, rfl, by decide, q_in1 (i := 230) rfl rfl, rfl, q_Tw2⟩
theorem fp_La_15 : q_FP "WallLottery$Laws" 15 2 1 2 (.array .int) true := ⟨q_N2, q_T2, 7, q_Y2, rfl, by decide, q_in1 (i := 230) rfl rfl, rfl, q_Tw2, q_Ty2, q_Tn2, by decide +kernel, rfl, fun h => by first | rfl | cases h⟩
theorem f_La_18 : q_F "WallLottery$Laws" 18 2 2 2 := ⟨q_N2, q_T2, 7, rfl, by decide, q_in1 (i := 231) rfl rfl, rfl, q_Tw2⟩
theorem fp_La_18 : q_FP "WallLottery$Laws" 18 2 2 2 (.array .int) true := ⟨q_N2, q_T2, 7, q_Y2, rfl, by decide, q_in1 (i := 231) rfl rfl, rfl, q_Tw2, q_Ty2, q_Tn2, by decide +kernel, rfl, fun h => by first | rfl | cases h⟩
theorem f_La_21 : q_F "WallLottery$Laws" 21 2 3 2 := ⟨q_N2, q_T2, 7, rfl, by decide, q_in1 (i := 232) rfl rfl, rfl, q_Tw2⟩
theorem fp_La_21 : q_FP "WallLottery$Laws" 21 2 3 2 (.array .boolean) true := ⟨q_N2, q_T2, 7, q_Y2, rfl, by decide, q_in1 (i := 232) rfl rfl, rfl, q_Tw2, q_Ty2, q_Tn2, by decide +kernel, rfl, fun h => by first | rfl | cases h⟩
theorem f_La_25 : q_F "WallLottery$Laws" 25 2 4 2 := ⟨q_N2, q_T2, 7, rfl, by decide, q_in1 (i := 234) rfl rfl, rfl, q_Tw2⟩
theorem fp_La_25 : q_FP "WallLottery$Laws" 25 2 4 2 (.array .int) true := ⟨q_N2, q_T2, 7, q_Y2, rfl, by decide, q_in1 (i := 234) rfl rfl, rfl, q_Tw2, q_Ty2, q_Tn2, by decide +kernel, rfl, fun h => by first | rfl | cases h⟩
theorem f_La_28 : q_F "WallLottery$Laws" 28 2 5 0 := ⟨q_N2, q_T2, 7, rfl, by decide, q_in1 (i := 235) rfl rfl, rfl, q_Tw2⟩
theorem fp_La_28 : q_FP "WallLottery$Laws" 28 2 5 0 .int false := ⟨q_N2, q_T2, 7, q_Y2, rfl, by decide, q_in1 (i := 235) rfl rfl, rfl, q_Tw2, q_Ty2, q_Tn2, by decide +kernel, rfl, fun h => by first | rfl | cases h⟩
theorem s_La_32 : Cond.fieldLink "WallLottery$Laws" 32 "WallLottery$Laws" "UNTOLD" "[I" ∈ q_GT ∨ ∃ host, Cond.fieldLinkNest "WallLottery$Laws" 32 "WallLottery$Laws" "UNTOLD" "[I" host ∈ q_nest := .inl (q_in2 (i := 207) rfl rfl)
theorem k_La_35 : q_CV "WallLottery$Laws" 35 X_La_addStep 1 2 := ⟨cb_La_addStep, .inl (q_in2 (i := 209) rfl rfl), q_in2 (i := 211) rfl rfl, q_inP1 (i := 1) rfl, q_T2, 7, rfl⟩
theorem k_La_39 : q_CV "WallLottery$Laws" 39 X_La_placeLaw 3 2 := ⟨cb_La_placeLaw, .inl (q_in2 (i := 213) rfl rfl), q_in2 (i := 215) rfl rfl, q_inP1 (i := 2) rfl, q_T2, 7, rfl⟩
theorem k_La_43 : q_CV "WallLottery$Laws" 43 X_La_readTest 3 2 := ⟨cb_La_readTest, .inl (q_in3 (i := 198) rfl rfl), q_in3 (i := 200) rfl rfl, q_inP2 (i := 4) rfl, q_T2, 7, rfl⟩
theorem s_La_47 : Cond.fieldLink "WallLottery$Laws" 47 "WallLottery$Word" "AND" "LWallLottery$Word;" ∈ q_GT ∨ ∃ host, Cond.fieldLinkNest "WallLottery$Laws" 47 "WallLottery$Word" "AND" "LWallLottery$Word;" host ∈ q_nest := .inl (q_in3 (i := 234) rfl rfl)
theorem k_La_53 : q_CV "WallLottery$Laws" 53 X_Tk_isWord 1 7 := ⟨cb_Tk_isWord, .inl (q_in3 (i := 221) rfl rfl), q_in3 (i := 162) rfl rfl, q_in3 (i := 163) rfl rfl, q_T7, 10, rfl⟩
theorem s_La_59 : Cond.fieldLink "WallLottery$Laws" 59 "WallLottery$Word" "OR" "LWallLottery$Word;" ∈ q_GT ∨ ∃ host, Cond.fieldLinkNest "WallLottery$Laws" 59 "WallLottery$Word" "OR" "LWallLottery$Word;" host ∈ q_nest := .inl (q_in3 (i := 236) rfl rfl)
theorem k_La_62 : q_CV "WallLottery$Laws" 62 X_Tk_advance 0 7 := ⟨cb_Tk_advance, .inl (q_in3 (i := 227) rfl rfl), q_in2 (i := 222) rfl rfl, q_in2 (i := 223) rfl rfl, q_T7, 10, rfl⟩
theorem k_La_65 : q_CV "WallLottery$Laws" 65 X_La_readSum 3 2 := ⟨cb_La_readSum, .inl (q_in3 (i := 202) rfl rfl), q_in3 (i := 204) rfl rfl, q_inP2 (i := 5) rfl, q_T2, 7, rfl⟩
theorem k_La_68 : q_CV "WallLottery$Laws" 68 X_Tk_isSign 1 7 := ⟨cb_Tk_isSign, .inl (q_in3 (i := 222) rfl rfl), q_in3 (i := 223) rfl rfl, q_in3 (i := 224) rfl rfl, q_T7, 10, rfl⟩
theorem k_La_72 : q_CV "WallLottery$Laws" 72 X_La_readProduct 3 2 := ⟨cb_La_readProduct, .inl (q_in3 (i := 206) rfl rfl), q_in3 (i := 208) rfl rfl, q_inP2 (i := 6) rfl, q_T2, 7, rfl⟩
theorem k_La_75 : q_CV "WallLottery$Laws" 75 X_La_readPart 3 2 := ⟨cb_La_readPart, .inl (q_in3 (i := 210) rfl rfl), q_in3 (i := 212) rfl rfl, q_inP2 (i := 7) rfl, q_T2, 7, rfl⟩
theorem k_La_78 : q_CS "WallLottery$Laws" 78 X_La_factHere 2 := ⟨cb_La_factHere, q_in3 (i := 215) rfl rfl, .inl (q_in3 (i := 214) rfl rfl)⟩
theorem f_La_82 : q_F "WallLottery$Laws" 82 7 1 0 := ⟨q_N7, q_T7, 10, rfl, by decide, q_in1 (i := 64) rfl rfl, rfl, q_Tw7⟩
theorem s_La_85 : Cond.fieldLink "WallLottery$Laws" 85 "WallLottery$Word" "NOT" "LWallLottery$Word;" ∈ q_GT ∨ ∃ host, Cond.fieldLinkNest "WallLottery$Laws" 85 "WallLottery$Word" "NOT" "LWallLottery$Word;" host ∈ q_nest := .inl (q_in3 (i := 219) rfl rfl)
theorem k_La_88 : q_CV "WallLottery$Laws" 88 X_Tk_refuse 1 7 := ⟨cb_Tk_refuse, .inl (q_in3 (i := 226) rfl rfl), q_in3 (i := 92) rfl rfl, q_in3 (i := 93) rfl rfl, q_T7, 10, rfl⟩
theorem f_La_92 : q_F "WallLottery$Laws" 92 7 6 0 := ⟨q_N7, q_T7, 10, rfl, by decide, q_in1 (i := 73) rfl rfl, rfl, q_Tw7⟩
theorem k_La_95 : q_CV "WallLottery$Laws" 95 X_La_readChain 3 2 := ⟨cb_La_readChain, .inl (q_in3 (i := 228) rfl rfl), q_in3 (i := 196) rfl rfl, q_inP2 (i := 3) rfl, q_T2, 7, rfl⟩
theorem k_La_98 : q_CV "WallLottery$Laws" 98 X_Tk_takeSign 1 7 := ⟨cb_Tk_takeSign, .inl (q_in3 (i := 229) rfl rfl), q_in3 (i := 230) rfl rfl, q_in3 (i := 231) rfl rfl, q_T7, 10, rfl⟩
theorem s_La_101 : Cond.fieldLink "WallLottery$Laws" 101 "WallLottery$1" "$SwitchMap$WallLottery$Word" "[I" ∈ q_GT ∨ ∃ host, Cond.fieldLinkNest "WallLottery$Laws" 101 "WallLottery$1" "$SwitchMap$WallLottery$Word" "[I" host ∈ q_nest := .inl (q_in3 (i := 217) rfl rfl)
theorem f_La_106 : q_F "WallLottery$Laws" 106 7 4 2 := ⟨q_N7, q_T7, 10, rfl, by decide, q_in1 (i := 69) rfl rfl, rfl, q_Tw7⟩
theorem k_La_109 : q_CU "WallLottery$Laws" 109 ⟨"WallLottery$Word", "ordinal", "()I"⟩ X_JE_ordinal "WallLottery$Word" := ⟨cb_JE_ordinal, q_in3 (i := 218) rfl rfl, q_in3 (i := 98) rfl rfl, q_in3 (i := 100) rfl rfl, q_in3 (i := 101) rfl rfl, rfl, by decide +kernel⟩
theorem f_La_113 : q_F "WallLottery$Laws" 113 2 6 0 := ⟨q_N2, q_T2, 7, rfl, by decide, q_in1 (i := 237) rfl rfl, rfl, q_Tw2⟩
theorem fp_La_113 : q_FP "WallLottery$Laws" 113 2 6 0 .int false := ⟨q_N2, q_T2, 7, q_Y2, rfl, by decide, q_in1 (i := 237) rfl rfl, rfl, q_Tw2, q_Ty2, q_Tn2, by decide +kernel, rfl, fun h => by first | rfl | cases h⟩
theorem k_La_116 : q_CV "WallLottery$Laws" 116 X_La_push 1 2 := ⟨cb_La_push, .inl (q_in4 (i := 19) rfl rfl), q_in4 (i := 21) rfl rfl, q_inP2 (i := 8) rfl, q_T2, 7, rfl⟩
theorem k_La_119 : q_CV "WallLottery$Laws" 119 X_La_pop 0 2 := ⟨cb_La_pop, .inl (q_in4 (i := 23) rfl rfl), q_in4 (i := 25) rfl rfl, q_inP2 (i := 9) rfl, q_T2, 7, rfl⟩
theorem k_La_122 : q_CS "WallLottery$Laws" 122 X_La_joined 3 := ⟨cb_La_joined, q_in4 (i := 28) rfl rfl, .inl (q_in4 (i := 27) rfl rfl)⟩
theorem k_Li_3 : Cond.methodLink "WallLottery$Life" 3 Lib.objectInit ∈ q_GT := q_in1 (i := 193) rfl rfl
theorem f_Li_9 : q_F "WallLottery$Life" 9 3 0 2 := ⟨q_N3, q_T3, 5, rfl, by decide, q_in1 (i := 194) rfl rfl, rfl, q_Tw3⟩
theorem fp_Li_9 : q_FP "WallLottery$Life" 9 3 0 2 (.array .int) true := ⟨q_N3, q_T3, 5, q_Y3, rfl, by decide, q_in1 (i := 194) rfl rfl, rfl, q_Tw3, q_Ty3, q_Tn3, by decide +kernel, rfl, fun h => by first | rfl | cases h⟩
theorem f_Li_15 : q_F "WallLottery$Life" 15 3 1 2 := ⟨q_N3, q_T3, 5, rfl, by decide, q_in1 (i := 196) rfl rfl, rfl, q_Tw3⟩
theorem fp_Li_15 : q_FP "WallLottery$Life" 15 3 1 2 (.array .int) true := ⟨q_N3, q_T3, 5, q_Y3, rfl, by decide, q_in1 (i := 196) rfl rfl, rfl, q_Tw3, q_Ty3, q_Tn3, by decide +kernel, rfl, fun h => by first | rfl | cases h⟩
theorem f_Li_18 : q_F "WallLottery$Life" 18 3 2 2 := ⟨q_N3, q_T3, 5, rfl, by decide, q_in1 (i := 198) rfl rfl, rfl, q_Tw3⟩
theorem fp_Li_18 : q_FP "WallLottery$Life" 18 3 2 2 (.array .int) true := ⟨q_N3, q_T3, 5, q_Y3, rfl, by decide, q_in1 (i := 198) rfl rfl, rfl, q_Tw3, q_Ty3, q_Tn3, by decide +kernel, rfl, fun h => by first | rfl | cases h⟩
theorem f_Li_21 : q_F "WallLottery$Life" 21 8 14 0 := ⟨q_N8, q_T8, 18, rfl, by decide, q_in2 (i := 51) rfl rfl, rfl, q_Tw8⟩
theorem f_Li_27 : q_F "WallLottery$Life" 27 8 5 2 := ⟨q_N8, q_T8, 18, rfl, by decide, q_in2 (i := 27) rfl rfl, rfl, q_Tw8⟩
theorem f_Li_28 : q_F "WallLottery$Life" 28 8 9 2 := ⟨q_N8, q_T8, 18, rfl, by decide, q_in2 (i := 37) rfl rfl, rfl, q_Tw8⟩
theorem k_Li_29 : Cond.methodLink "WallLottery$Life" 29 arraycopyName ∈ q_GT := q_in4 (i := 44) rfl rfl
theorem f_Li_35 : q_F "WallLottery$Life" 35 3 3 0 := ⟨q_N3, q_T3, 5, rfl, by decide, q_in1 (i := 200) rfl rfl, rfl, q_Tw3⟩
theorem fp_Li_35 : q_FP "WallLottery$Life" 35 3 3 0 .int false := ⟨q_N3, q_T3, 5, q_Y3, rfl, by decide, q_in1 (i := 200) rfl rfl, rfl, q_Tw3, q_Ty3, q_Tn3, by decide +kernel, rfl, fun h => by first | rfl | cases h⟩
theorem f_Li_38 : q_F "WallLottery$Life" 38 3 4 0 := ⟨q_N3, q_T3, 5, rfl, by decide, q_in1 (i := 202) rfl rfl, rfl, q_Tw3⟩
theorem fp_Li_38 : q_FP "WallLottery$Life" 38 3 4 0 .int false := ⟨q_N3, q_T3, 5, q_Y3, rfl, by decide, q_in1 (i := 202) rfl rfl, rfl, q_Tw3, q_Ty3, q_Tn3, by decide +kernel, rfl, fun h => by first | rfl | cases h⟩
theorem f_Li_41 : q_F "WallLottery$Life" 41 8 2 2 := ⟨q_N8, q_T8, 18, rfl, by decide, q_in2 (i := 19) rfl rfl, rfl, q_Tw8⟩
theorem k_Li_44 : q_CV "WallLottery$Life" 44 X_Tw_areNeighbours 3 8 := ⟨cb_Tw_areNeighbours, .inl (q_in4 (i := 154) rfl rfl), q_in4 (i := 103) rfl rfl, q_in4 (i := 104) rfl rfl, q_T8, 18, rfl⟩
theorem k_Li_48 : q_CV "WallLottery$Life" 48 X_Li_lapsing 3 3 := ⟨cb_Li_lapsing, .inl (q_in4 (i := 150) rfl rfl), q_in4 (i := 151) rfl rfl, q_in4 (i := 152) rfl rfl, q_T3, 5, rfl⟩
theorem f_Li_52 : q_F "WallLottery$Life" 52 8 13 0 := ⟨q_N8, q_T8, 18, rfl, by decide, q_in2 (i := 47) rfl rfl, rfl, q_Tw8⟩
theorem k_Li_55 : q_CV "WallLottery$Life" 55 X_Di_shuffle 1 1 := ⟨cb_Di_shuffle, .inl (q_in4 (i := 155) rfl rfl), q_in4 (i := 156) rfl rfl, q_in4 (i := 157) rfl rfl, q_T1, 2, rfl⟩
theorem f_Li_61 : q_F "WallLottery$Life" 61 1 0 2 := ⟨q_N1, q_T1, 2, rfl, by decide, q_in1 (i := 162) rfl rfl, rfl, q_Tw1⟩
theorem k_Li_64 : q_CV "WallLottery$Life" 64 X_Di_below 1 1 := ⟨cb_Di_below, .inl (q_in5 (i := 130) rfl rfl), q_in4 (i := 161) rfl rfl, q_in4 (i := 162) rfl rfl, q_T1, 2, rfl⟩
theorem k_Li_68 : q_CV "WallLottery$Life" 68 X_Li_canLend 4 3 := ⟨cb_Li_canLend, .inl (q_in5 (i := 131) rfl rfl), q_in4 (i := 184) rfl rfl, q_in4 (i := 185) rfl rfl, q_T3, 5, rfl⟩
theorem k_Li_72 : q_CV "WallLottery$Life" 72 X_Li_giveLoan 3 3 := ⟨cb_Li_giveLoan, .inl (q_in5 (i := 132) rfl rfl), q_in4 (i := 188) rfl rfl, q_in4 (i := 189) rfl rfl, q_T3, 5, rfl⟩
theorem k_Li_76 : q_CV "WallLottery$Life" 76 X_Li_changeHouses 2 3 := ⟨cb_Li_changeHouses, .inl (q_in5 (i := 133) rfl rfl), q_in4 (i := 173) rfl rfl, q_in4 (i := 174) rfl rfl, q_T3, 5, rfl⟩
theorem k_Rd_3 : Cond.methodLink "WallLottery$Reader" 3 Lib.objectInit ∈ q_GT := q_in1 (i := 105) rfl rfl
theorem f_Rd_9 : q_F "WallLottery$Reader" 9 4 0 2 := ⟨q_N4, q_T4, 3, rfl, by decide, q_in1 (i := 106) rfl rfl, rfl, q_Tw4⟩
theorem fp_Rd_9 : q_FP "WallLottery$Reader" 9 4 0 2 (.object "WallLottery$Tokens") true := ⟨q_N4, q_T4, 3, q_Y4, rfl, by decide, q_in1 (i := 106) rfl rfl, rfl, q_Tw4, q_Ty4, q_Tn4, by decide +kernel, rfl, fun h => by first | rfl | cases h⟩
theorem k_Rd_15 : q_CV "WallLottery$Reader" 15 X_Tw_forget 0 8 := ⟨cb_Tw_forget, .inl (q_in2 (i := 199) rfl rfl), q_in2 (i := 200) rfl rfl, q_in2 (i := 201) rfl rfl, q_T8, 18, rfl⟩
theorem k_Rd_20 : q_CV "WallLottery$Reader" 20 X_Tk_start 0 7 := ⟨cb_Tk_start, .inl (q_in2 (i := 217) rfl rfl), q_in2 (i := 218) rfl rfl, q_in2 (i := 219) rfl rfl, q_T7, 10, rfl⟩
theorem f_Rd_25 : q_F "WallLottery$Reader" 25 7 1 0 := ⟨q_N7, q_T7, 10, rfl, by decide, q_in1 (i := 62) rfl rfl, rfl, q_Tw7⟩
theorem k_Rd_29 : q_CV "WallLottery$Reader" 29 X_Rd_readTownLine 1 4 := ⟨cb_Rd_readTownLine, .inl (q_in3 (i := 87) rfl rfl), q_in3 (i := 89) rfl rfl, q_inP1 (i := 6) rfl, q_T4, 3, rfl⟩
theorem k_Rd_33 : q_CV "WallLottery$Reader" 33 X_Tk_takeSign 1 7 := ⟨cb_Tk_takeSign, .inl (q_in4 (i := 2) rfl rfl), q_in3 (i := 230) rfl rfl, q_in3 (i := 231) rfl rfl, q_T7, 10, rfl⟩
theorem k_Rd_37 : q_CV "WallLottery$Reader" 37 X_Tw_listen 0 8 := ⟨cb_Tw_listen, .inl (q_in4 (i := 3) rfl rfl), q_in4 (i := 4) rfl rfl, q_in4 (i := 5) rfl rfl, q_T8, 18, rfl⟩
theorem f_Rd_40 : q_F "WallLottery$Reader" 40 7 9 0 := ⟨q_N7, q_T7, 10, rfl, by decide, q_in1 (i := 78) rfl rfl, rfl, q_Tw7⟩
theorem k_Rd_43 : q_CV "WallLottery$Reader" 43 X_Tk_refuse 1 7 := ⟨cb_Tk_refuse, .inl (q_in3 (i := 91) rfl rfl), q_in3 (i := 92) rfl rfl, q_in3 (i := 93) rfl rfl, q_T7, 10, rfl⟩
theorem s_Rd_47 : Cond.fieldLink "WallLottery$Reader" 47 "WallLottery$1" "$SwitchMap$WallLottery$Word" "[I" ∈ q_GT ∨ ∃ host, Cond.fieldLinkNest "WallLottery$Reader" 47 "WallLottery$1" "$SwitchMap$WallLottery$Word" "[I" host ∈ q_nest := .inl (q_in3 (i := 95) rfl rfl)
theorem f_Rd_53 : q_F "WallLottery$Reader" 53 7 4 2 := ⟨q_N7, q_T7, 10, rfl, by decide, q_in1 (i := 68) rfl rfl, rfl, q_Tw7⟩
theorem k_Rd_57 : q_CU "WallLottery$Reader" 57 ⟨"WallLottery$Word", "ordinal", "()I"⟩ X_JE_ordinal "WallLottery$Word" := ⟨cb_JE_ordinal, q_in3 (i := 97) rfl rfl, q_in3 (i := 98) rfl rfl, q_in3 (i := 100) rfl rfl, q_in3 (i := 101) rfl rfl, rfl, by decide +kernel⟩
theorem k_Rd_63 : q_CV "WallLottery$Reader" 63 X_Rd_readHouse 1 4 := ⟨cb_Rd_readHouse, .inl (q_in3 (i := 103) rfl rfl), q_in3 (i := 105) rfl rfl, q_inP1 (i := 7) rfl, q_T4, 3, rfl⟩
theorem k_Rd_66 : q_CV "WallLottery$Reader" 66 X_Rd_readWall 1 4 := ⟨cb_Rd_readWall, .inl (q_in3 (i := 124) rfl rfl), q_in3 (i := 126) rfl rfl, q_inP1 (i := 9) rfl, q_T4, 3, rfl⟩
theorem k_Rd_69 : q_CV "WallLottery$Reader" 69 X_Rd_readFamily 1 4 := ⟨cb_Rd_readFamily, .inl (q_in3 (i := 141) rfl rfl), q_in3 (i := 143) rfl rfl, q_inP1 (i := 12) rfl, q_T4, 3, rfl⟩
theorem f_Rd_72 : q_F "WallLottery$Reader" 72 8 7 2 := ⟨q_N8, q_T8, 18, rfl, by decide, q_in2 (i := 33) rfl rfl, rfl, q_Tw8⟩
theorem k_Rd_75 : q_CV "WallLottery$Reader" 75 X_Rd_readOfTwo 3 4 := ⟨cb_Rd_readOfTwo, .inl (q_in3 (i := 169) rfl rfl), q_in3 (i := 171) rfl rfl, q_inP1 (i := 14) rfl, q_T4, 3, rfl⟩
theorem f_Rd_79 : q_F "WallLottery$Reader" 79 8 8 2 := ⟨q_N8, q_T8, 18, rfl, by decide, q_in2 (i := 35) rfl rfl, rfl, q_Tw8⟩
theorem f_Rd_82 : q_F "WallLottery$Reader" 82 8 9 2 := ⟨q_N8, q_T8, 18, rfl, by decide, q_in2 (i := 38) rfl rfl, rfl, q_Tw8⟩
theorem k_Rd_85 : q_CV "WallLottery$Reader" 85 X_Rd_readApart 1 4 := ⟨cb_Rd_readApart, .inl (q_in3 (i := 173) rfl rfl), q_in3 (i := 175) rfl rfl, q_inP1 (i := 15) rfl, q_T4, 3, rfl⟩
theorem k_Rd_88 : q_CV "WallLottery$Reader" 88 X_Rd_readBeside 1 4 := ⟨cb_Rd_readBeside, .inl (q_in3 (i := 186) rfl rfl), q_in3 (i := 188) rfl rfl, q_inP2 (i := 1) rfl, q_T4, 3, rfl⟩
theorem k_Rd_93 : q_CV "WallLottery$Reader" 93 X_Rd_readLaw 2 4 := ⟨cb_Rd_readLaw, .inl (q_in3 (i := 190) rfl rfl), q_in3 (i := 192) rfl rfl, q_inP2 (i := 2) rfl, q_T4, 3, rfl⟩
theorem f_Rd_97 : q_F "WallLottery$Reader" 97 8 13 0 := ⟨q_N8, q_T8, 18, rfl, by decide, q_in2 (i := 46) rfl rfl, rfl, q_Tw8⟩
theorem k_Rd_100 : q_CV "WallLottery$Reader" 100 X_Tk_advance 0 7 := ⟨cb_Tk_advance, .inl (q_in3 (i := 107) rfl rfl), q_in2 (i := 222) rfl rfl, q_in2 (i := 223) rfl rfl, q_T7, 10, rfl⟩
theorem k_Rd_103 : q_CV "WallLottery$Reader" 103 X_Rd_isNewName 1 4 := ⟨cb_Rd_isNewName, .inl (q_in3 (i := 108) rfl rfl), q_in3 (i := 110) rfl rfl, q_inP1 (i := 8) rfl, q_T4, 3, rfl⟩
theorem f_Rd_106 : q_F "WallLottery$Reader" 106 8 0 2 := ⟨q_N8, q_T8, 18, rfl, by decide, q_in2 (i := 15) rfl rfl, rfl, q_Tw8⟩
theorem f_Rd_110 : q_F "WallLottery$Reader" 110 7 5 1 := ⟨q_N7, q_T7, 10, rfl, by decide, q_in1 (i := 71) rfl rfl, rfl, q_Tw7⟩
theorem fp_Rd_97 : q_FP "WallLottery$Reader" 97 8 13 0 .int false := ⟨q_N8, q_T8, 18, q_Y8, rfl, by decide, q_in2 (i := 46) rfl rfl, rfl, q_Tw8, q_Ty8, q_Tn8, by decide +kernel, rfl, fun h => by first | rfl | cases h⟩
theorem k_Rd_114 : q_CV "WallLottery$Reader" 114 X_Rd_readTwo 2 4 := ⟨cb_Rd_readTwo, .inl (q_in3 (i := 128) rfl rfl), q_in3 (i := 130) rfl rfl, q_inP1 (i := 10) rfl, q_T4, 3, rfl⟩
theorem f_Rd_118 : q_F "WallLottery$Reader" 118 4 1 0 := ⟨q_N4, q_T4, 3, rfl, by decide, q_in1 (i := 107) rfl rfl, rfl, q_Tw4⟩
theorem f_Rd_121 : q_F "WallLottery$Reader" 121 4 2 0 := ⟨q_N4, q_T4, 3, rfl, by decide, q_in1 (i := 108) rfl rfl, rfl, q_Tw4⟩
theorem f_Rd_124 : q_F "WallLottery$Reader" 124 8 6 2 := ⟨q_N8, q_T8, 18, rfl, by decide, q_in2 (i := 30) rfl rfl, rfl, q_Tw8⟩
theorem k_Rd_127 : q_CV "WallLottery$Reader" 127 X_Tk_takeNumber 2 7 := ⟨cb_Tk_takeNumber, .inl (q_in3 (i := 136) rfl rfl), q_in3 (i := 137) rfl rfl, q_in3 (i := 138) rfl rfl, q_T7, 10, rfl⟩
theorem f_Rd_131 : q_F "WallLottery$Reader" 131 7 8 0 := ⟨q_N7, q_T7, 10, rfl, by decide, q_in1 (i := 75) rfl rfl, rfl, q_Tw7⟩
theorem f_Rd_134 : q_F "WallLottery$Reader" 134 8 15 0 := ⟨q_N8, q_T8, 18, rfl, by decide, q_in2 (i := 55) rfl rfl, rfl, q_Tw8⟩
theorem fp_Rd_134 : q_FP "WallLottery$Reader" 134 8 15 0 .int false := ⟨q_N8, q_T8, 18, q_Y8, rfl, by decide, q_in2 (i := 55) rfl rfl, rfl, q_Tw8, q_Ty8, q_Tn8, by decide +kernel, rfl, fun h => by first | rfl | cases h⟩
theorem f_Rd_137 : q_F "WallLottery$Reader" 137 8 14 0 := ⟨q_N8, q_T8, 18, rfl, by decide, q_in2 (i := 52) rfl rfl, rfl, q_Tw8⟩
theorem f_Rd_140 : q_F "WallLottery$Reader" 140 8 1 2 := ⟨q_N8, q_T8, 18, rfl, by decide, q_in2 (i := 17) rfl rfl, rfl, q_Tw8⟩
theorem k_Rd_143 : q_CV "WallLottery$Reader" 143 X_Tk_kindHere 0 7 := ⟨cb_Tk_kindHere, .inl (q_in3 (i := 145) rfl rfl), q_in3 (i := 146) rfl rfl, q_in3 (i := 147) rfl rfl, q_T7, 10, rfl⟩
theorem f_Rd_146 : q_F "WallLottery$Reader" 146 8 2 2 := ⟨q_N8, q_T8, 18, rfl, by decide, q_in2 (i := 20) rfl rfl, rfl, q_Tw8⟩
theorem s_Rd_149 : Cond.fieldLink "WallLottery$Reader" 149 "WallLottery$Word" "LOUD" "LWallLottery$Word;" ∈ q_GT ∨ ∃ host, Cond.fieldLinkNest "WallLottery$Reader" 149 "WallLottery$Word" "LOUD" "LWallLottery$Word;" host ∈ q_nest := .inl (q_in3 (i := 151) rfl rfl)
theorem f_Rd_152 : q_F "WallLottery$Reader" 152 8 3 2 := ⟨q_N8, q_T8, 18, rfl, by decide, q_in2 (i := 23) rfl rfl, rfl, q_Tw8⟩
theorem k_Rd_155 : q_CV "WallLottery$Reader" 155 X_Rd_readTrait 4 4 := ⟨cb_Rd_readTrait, .inl (q_in3 (i := 153) rfl rfl), q_in3 (i := 155) rfl rfl, q_inP1 (i := 13) rfl, q_T4, 3, rfl⟩
theorem s_Rd_159 : Cond.fieldLink "WallLottery$Reader" 159 "WallLottery$Word" "EARS" "LWallLottery$Word;" ∈ q_GT ∨ ∃ host, Cond.fieldLinkNest "WallLottery$Reader" 159 "WallLottery$Word" "EARS" "LWallLottery$Word;" host ∈ q_nest := .inl (q_in3 (i := 165) rfl rfl)
theorem f_Rd_162 : q_F "WallLottery$Reader" 162 8 4 2 := ⟨q_N8, q_T8, 18, rfl, by decide, q_in2 (i := 25) rfl rfl, rfl, q_Tw8⟩
theorem s_Rd_165 : Cond.fieldLink "WallLottery$Reader" 165 "WallLottery$Word" "COINS" "LWallLottery$Word;" ∈ q_GT ∨ ∃ host, Cond.fieldLinkNest "WallLottery$Reader" 165 "WallLottery$Word" "COINS" "LWallLottery$Word;" host ∈ q_nest := .inl (q_in3 (i := 167) rfl rfl)
theorem f_Rd_168 : q_F "WallLottery$Reader" 168 8 5 2 := ⟨q_N8, q_T8, 18, rfl, by decide, q_in2 (i := 28) rfl rfl, rfl, q_Tw8⟩
theorem fp_Rd_137 : q_FP "WallLottery$Reader" 137 8 14 0 .int false := ⟨q_N8, q_T8, 18, q_Y8, rfl, by decide, q_in2 (i := 52) rfl rfl, rfl, q_Tw8, q_Ty8, q_Tn8, by decide +kernel, rfl, fun h => by first | rfl | cases h⟩
theorem k_Rd_171 : q_CV "WallLottery$Reader" 171 X_Tk_takeWord 1 7 := ⟨cb_Tk_takeWord, .inl (q_in3 (i := 157) rfl rfl), q_in3 (i := 158) rfl rfl, q_in3 (i := 159) rfl rfl, q_T7, 10, rfl⟩
theorem f_Rd_175 : q_F "WallLottery$Reader" 175 8 16 0 := ⟨q_N8, q_T8, 18, rfl, by decide, q_in2 (i := 58) rfl rfl, rfl, q_Tw8⟩
theorem k_Rd_178 : q_CV "WallLottery$Reader" 178 X_Rd_readCustom 3 4 := ⟨cb_Rd_readCustom, .inl (q_in3 (i := 177) rfl rfl), q_in3 (i := 179) rfl rfl, q_inP2 (i := 0) rfl, q_T4, 3, rfl⟩
theorem fp_Rd_175 : q_FP "WallLottery$Reader" 175 8 16 0 .int false := ⟨q_N8, q_T8, 18, q_Y8, rfl, by decide, q_in2 (i := 58) rfl rfl, rfl, q_Tw8, q_Ty8, q_Tn8, by decide +kernel, rfl, fun h => by first | rfl | cases h⟩
theorem f_Rd_182 : q_F "WallLottery$Reader" 182 8 17 0 := ⟨q_N8, q_T8, 18, rfl, by decide, q_in2 (i := 61) rfl rfl, rfl, q_Tw8⟩
theorem fp_Rd_182 : q_FP "WallLottery$Reader" 182 8 17 0 .int false := ⟨q_N8, q_T8, 18, q_Y8, rfl, by decide, q_in2 (i := 61) rfl rfl, rfl, q_Tw8, q_Ty8, q_Tn8, by decide +kernel, rfl, fun h => by first | rfl | cases h⟩
theorem f_Rd_185 : q_F "WallLottery$Reader" 185 8 10 2 := ⟨q_N8, q_T8, 18, rfl, by decide, q_in2 (i := 40) rfl rfl, rfl, q_Tw8⟩
theorem k_Rd_188 : q_CS "WallLottery$Reader" 188 X_W_pairBit 2 := ⟨cb_W_pairBit, q_in3 (i := 182) rfl rfl, .inr ⟨"WallLottery", (List.mem_filter.mpr ⟨q_mm3 (i := 181) rfl, rfl⟩)⟩⟩
theorem f_Rd_192 : q_F "WallLottery$Reader" 192 8 12 2 := ⟨q_N8, q_T8, 18, rfl, by decide, q_in2 (i := 43) rfl rfl, rfl, q_Tw8⟩
theorem f_Rd_196 : q_F "WallLottery$Reader" 196 2 3 2 := ⟨q_N2, q_T2, 7, rfl, by decide, q_in1 (i := 233) rfl rfl, rfl, q_Tw2⟩
theorem f_Rd_200 : q_F "WallLottery$Reader" 200 2 5 0 := ⟨q_N2, q_T2, 7, rfl, by decide, q_in1 (i := 236) rfl rfl, rfl, q_Tw2⟩
theorem k_Rd_203 : q_CV "WallLottery$Reader" 203 X_La_readChain 3 2 := ⟨cb_La_readChain, .inr ⟨"WallLottery", (List.mem_filter.mpr ⟨q_mm3 (i := 194) rfl, rfl⟩)⟩, q_in3 (i := 196) rfl rfl, q_inP2 (i := 3) rfl, q_T2, 7, rfl⟩
theorem k_Rd_207 : q_CV "WallLottery$Reader" 207 X_La_tellFrom 2 2 := ⟨cb_La_tellFrom, .inl (q_in3 (i := 238) rfl rfl), q_in3 (i := 239) rfl rfl, q_in4 (i := 0) rfl rfl, q_T2, 7, rfl⟩
theorem f_Rd_211 : q_F "WallLottery$Reader" 211 0 4 0 := ⟨q_N0, q_T0, 5, rfl, by decide, q_in2 (i := 111) rfl rfl, rfl, q_Tw0⟩
theorem fp_Rd_211 : q_FP "WallLottery$Reader" 211 0 4 0 .int false := ⟨q_N0, q_T0, 5, q_Y0, rfl, by decide, q_in2 (i := 111) rfl rfl, rfl, q_Tw0, q_Ty0, q_Tn0, by decide +kernel, rfl, fun h => by first | rfl | cases h⟩
theorem k_Rd_216 : q_CV "WallLottery$Reader" 216 X_Rd_readDaysLine 2 4 := ⟨cb_Rd_readDaysLine, .inl (q_in4 (i := 60) rfl rfl), q_in4 (i := 62) rfl rfl, q_inP2 (i := 11) rfl, q_T4, 3, rfl⟩
theorem k_Rd_220 : q_CV "WallLottery$Reader" 220 X_Rd_actHere 0 4 := ⟨cb_Rd_actHere, .inl (q_in4 (i := 64) rfl rfl), q_in4 (i := 66) rfl rfl, q_inP2 (i := 12) rfl, q_T4, 3, rfl⟩
theorem k_Rd_223 : q_CV "WallLottery$Reader" 223 X_Dy_add 4 0 := ⟨cb_Dy_add, .inl (q_in4 (i := 68) rfl rfl), q_in4 (i := 69) rfl rfl, q_in4 (i := 70) rfl rfl, q_T0, 5, rfl⟩
theorem k_Rd_227 : q_CV "WallLottery$Reader" 227 X_Tk_isName 0 7 := ⟨cb_Tk_isName, .inl (q_in3 (i := 112) rfl rfl), q_in3 (i := 113) rfl rfl, q_in3 (i := 114) rfl rfl, q_T7, 10, rfl⟩
theorem k_Rd_231 : q_CV "WallLottery$Reader" 231 X_Tw_houseNamed 1 8 := ⟨cb_Tw_houseNamed, .inl (q_in3 (i := 116) rfl rfl), q_in3 (i := 117) rfl rfl, q_in3 (i := 118) rfl rfl, q_T8, 18, rfl⟩
theorem k_Rd_235 : q_CV "WallLottery$Reader" 235 X_Tw_familyNamed 1 8 := ⟨cb_Tw_familyNamed, .inl (q_in3 (i := 120) rfl rfl), q_in3 (i := 121) rfl rfl, q_in3 (i := 122) rfl rfl, q_T8, 18, rfl⟩
theorem k_Rd_238 : q_CV "WallLottery$Reader" 238 X_Rd_toldHere 2 4 := ⟨cb_Rd_toldHere, .inl (q_in3 (i := 132) rfl rfl), q_in3 (i := 134) rfl rfl, q_inP1 (i := 11) rfl, q_T4, 3, rfl⟩
theorem fp_Rd_118 : q_FP "WallLottery$Reader" 118 4 1 0 .int false := ⟨q_N4, q_T4, 3, q_Y4, rfl, by decide, q_in1 (i := 107) rfl rfl, rfl, q_Tw4, q_Ty4, q_Tn4, by decide +kernel, rfl, fun h => by first | rfl | cases h⟩
theorem fp_Rd_121 : q_FP "WallLottery$Reader" 121 4 2 0 .int false := ⟨q_N4, q_T4, 3, q_Y4, rfl, by decide, q_in1 (i := 108) rfl rfl, rfl, q_Tw4, q_Ty4, q_Tn4, by decide +kernel, rfl, fun h => by first | rfl | cases h⟩
theorem k_Tl_1 : Cond.methodLink "WallLottery$Tales" 1 Lib.objectInit ∈ q_GT := q_in1 (i := 176) rfl rfl
theorem f_Tl_7 : q_F "WallLottery$Tales" 7 5 0 1 := ⟨q_N5, q_T5, 3, rfl, by decide, q_in1 (i := 177) rfl rfl, rfl, q_Tw5⟩
theorem fp_Tl_7 : q_FP "WallLottery$Tales" 7 5 0 1 .long false := ⟨q_N5, q_T5, 3, q_Y5, rfl, by decide, q_in1 (i := 177) rfl rfl, rfl, q_Tw5, q_Ty5, q_Tn5, by decide +kernel, rfl, fun h => by first | rfl | cases h⟩
theorem f_Tl_13 : q_F "WallLottery$Tales" 13 5 1 1 := ⟨q_N5, q_T5, 3, rfl, by decide, q_in1 (i := 178) rfl rfl, rfl, q_Tw5⟩
theorem fp_Tl_13 : q_FP "WallLottery$Tales" 13 5 1 1 .long false := ⟨q_N5, q_T5, 3, q_Y5, rfl, by decide, q_in1 (i := 178) rfl rfl, rfl, q_Tw5, q_Ty5, q_Tn5, by decide +kernel, rfl, fun h => by first | rfl | cases h⟩
theorem f_Tl_16 : q_F "WallLottery$Tales" 16 5 2 0 := ⟨q_N5, q_T5, 3, rfl, by decide, q_in1 (i := 179) rfl rfl, rfl, q_Tw5⟩
theorem fp_Tl_16 : q_FP "WallLottery$Tales" 16 5 2 0 .int false := ⟨q_N5, q_T5, 3, q_Y5, rfl, by decide, q_in1 (i := 179) rfl rfl, rfl, q_Tw5, q_Ty5, q_Tn5, by decide +kernel, rfl, fun h => by first | rfl | cases h⟩
theorem k_Tp_3 : Cond.methodLink "WallLottery$Tape" 3 Lib.objectInit ∈ q_GT := q_in1 (i := 41) rfl rfl
theorem f_Tp_9 : q_F "WallLottery$Tape" 9 6 0 2 := ⟨q_N6, q_T6, 2, rfl, by decide, q_in1 (i := 42) rfl rfl, rfl, q_Tw6⟩
theorem fp_Tp_9 : q_FP "WallLottery$Tape" 9 6 0 2 (.array .char) true := ⟨q_N6, q_T6, 2, q_Y6, rfl, by decide, q_in1 (i := 42) rfl rfl, rfl, q_Tw6, q_Ty6, q_Tn6, by decide +kernel, rfl, fun h => by first | rfl | cases h⟩
theorem k_Tp_15 : q_CV "WallLottery$Tape" 15 X_Tp_add 1 6 := ⟨cb_Tp_add, .inl (q_in2 (i := 187) rfl rfl), q_in2 (i := 189) rfl rfl, q_inP1 (i := 0) rfl, q_T6, 2, rfl⟩
theorem f_Tp_19 : q_F "WallLottery$Tape" 19 6 1 0 := ⟨q_N6, q_T6, 2, rfl, by decide, q_in1 (i := 46) rfl rfl, rfl, q_Tw6⟩
theorem fp_Tp_19 : q_FP "WallLottery$Tape" 19 6 1 0 .int false := ⟨q_N6, q_T6, 2, q_Y6, rfl, by decide, q_in1 (i := 46) rfl rfl, rfl, q_Tw6, q_Ty6, q_Tn6, by decide +kernel, rfl, fun h => by first | rfl | cases h⟩
theorem k_Tk_3 : Cond.methodLink "WallLottery$Tokens" 3 Lib.objectInit ∈ q_GT := q_in1 (i := 58) rfl rfl
theorem s_Tk_9 : Cond.fieldLink "WallLottery$Tokens" 9 "WallLottery$Word" "FREE" "LWallLottery$Word;" ∈ q_GT ∨ ∃ host, Cond.fieldLinkNest "WallLottery$Tokens" 9 "WallLottery$Word" "FREE" "LWallLottery$Word;" host ∈ q_nest := .inl (q_in1 (i := 59) rfl rfl)
theorem f_Tk_15 : q_F "WallLottery$Tokens" 15 7 4 2 := ⟨q_N7, q_T7, 10, rfl, by decide, q_in1 (i := 67) rfl rfl, rfl, q_Tw7⟩
theorem fp_Tk_15 : q_FP "WallLottery$Tokens" 15 7 4 2 (.object "WallLottery$Word") false := ⟨q_N7, q_T7, 10, q_Y7, rfl, by decide, q_in1 (i := 67) rfl rfl, rfl, q_Tw7, q_Ty7, q_Tn7, by decide +kernel, rfl, fun h => by first | rfl | cases h⟩
theorem f_Tk_20 : q_F "WallLottery$Tokens" 20 7 0 2 := ⟨q_N7, q_T7, 10, rfl, by decide, q_in1 (i := 61) rfl rfl, rfl, q_Tw7⟩
theorem fp_Tk_20 : q_FP "WallLottery$Tokens" 20 7 0 2 (.object "WallLottery$Tape") true := ⟨q_N7, q_T7, 10, q_Y7, rfl, by decide, q_in1 (i := 61) rfl rfl, rfl, q_Tw7, q_Ty7, q_Tn7, by decide +kernel, rfl, fun h => by first | rfl | cases h⟩
theorem f_Tk_24 : q_F "WallLottery$Tokens" 24 7 3 0 := ⟨q_N7, q_T7, 10, rfl, by decide, q_in1 (i := 66) rfl rfl, rfl, q_Tw7⟩
theorem fp_Tk_24 : q_FP "WallLottery$Tokens" 24 7 3 0 .int false := ⟨q_N7, q_T7, 10, q_Y7, rfl, by decide, q_in1 (i := 66) rfl rfl, rfl, q_Tw7, q_Ty7, q_Tn7, by decide +kernel, rfl, fun h => by first | rfl | cases h⟩
theorem f_Tk_28 : q_F "WallLottery$Tokens" 28 7 9 0 := ⟨q_N7, q_T7, 10, rfl, by decide, q_in1 (i := 77) rfl rfl, rfl, q_Tw7⟩
theorem fp_Tk_28 : q_FP "WallLottery$Tokens" 28 7 9 0 .int false := ⟨q_N7, q_T7, 10, q_Y7, rfl, by decide, q_in1 (i := 77) rfl rfl, rfl, q_Tw7, q_Ty7, q_Tn7, by decide +kernel, rfl, fun h => by first | rfl | cases h⟩
theorem k_Tk_31 : q_CV "WallLottery$Tokens" 31 X_Tk_advance 0 7 := ⟨cb_Tk_advance, .inl (q_in2 (i := 221) rfl rfl), q_in2 (i := 222) rfl rfl, q_in2 (i := 223) rfl rfl, q_T7, 10, rfl⟩
theorem f_Tk_34 : q_F "WallLottery$Tokens" 34 6 1 0 := ⟨q_N6, q_T6, 2, rfl, by decide, q_in1 (i := 45) rfl rfl, rfl, q_Tw6⟩
theorem f_Tk_39 : q_F "WallLottery$Tokens" 39 6 0 2 := ⟨q_N6, q_T6, 2, rfl, by decide, q_in1 (i := 43) rfl rfl, rfl, q_Tw6⟩
theorem f_Tk_43 : q_F "WallLottery$Tokens" 43 7 2 0 := ⟨q_N7, q_T7, 10, rfl, by decide, q_in1 (i := 65) rfl rfl, rfl, q_Tw7⟩
theorem fp_Tk_43 : q_FP "WallLottery$Tokens" 43 7 2 0 .int false := ⟨q_N7, q_T7, 10, q_Y7, rfl, by decide, q_in1 (i := 65) rfl rfl, rfl, q_Tw7, q_Ty7, q_Tn7, by decide +kernel, rfl, fun h => by first | rfl | cases h⟩
theorem f_Tk_46 : q_F "WallLottery$Tokens" 46 7 1 0 := ⟨q_N7, q_T7, 10, rfl, by decide, q_in1 (i := 63) rfl rfl, rfl, q_Tw7⟩
theorem fp_Tk_46 : q_FP "WallLottery$Tokens" 46 7 1 0 .int false := ⟨q_N7, q_T7, 10, q_Y7, rfl, by decide, q_in1 (i := 63) rfl rfl, rfl, q_Tw7, q_Ty7, q_Tn7, by decide +kernel, rfl, fun h => by first | rfl | cases h⟩
theorem k_Tk_49 : q_CV "WallLottery$Tokens" 49 X_Tk_readWord 0 7 := ⟨cb_Tk_readWord, .inl (q_in2 (i := 225) rfl rfl), q_in2 (i := 227) rfl rfl, q_inP1 (i := 3) rfl, q_T7, 10, rfl⟩
theorem k_Tk_52 : q_CV "WallLottery$Tokens" 52 X_Tk_readNumber 0 7 := ⟨cb_Tk_readNumber, .inl (q_in2 (i := 232) rfl rfl), q_in2 (i := 234) rfl rfl, q_inP1 (i := 4) rfl, q_T7, 10, rfl⟩
theorem k_Tk_55 : q_CV "WallLottery$Tokens" 55 X_Tk_readSign 1 7 := ⟨cb_Tk_readSign, .inl (q_in2 (i := 236) rfl rfl), q_in2 (i := 238) rfl rfl, q_inP1 (i := 5) rfl, q_T7, 10, rfl⟩
theorem f_Tk_59 : q_F "WallLottery$Tokens" 59 7 5 1 := ⟨q_N7, q_T7, 10, rfl, by decide, q_in1 (i := 70) rfl rfl, rfl, q_Tw7⟩
theorem fp_Tk_59 : q_FP "WallLottery$Tokens" 59 7 5 1 .long false := ⟨q_N7, q_T7, 10, q_Y7, rfl, by decide, q_in1 (i := 70) rfl rfl, rfl, q_Tw7, q_Ty7, q_Tn7, by decide +kernel, rfl, fun h => by first | rfl | cases h⟩
theorem n_Tk_63 : Cond.constantLong "WallLottery$Tokens" 63 (32) ∈ q_GT := q_in2 (i := 229) rfl rfl
theorem s_Tk_65 : Cond.fieldLink "WallLottery$Tokens" 65 "WallLottery" "WORDS" "[LWallLottery$Word;" ∈ q_GT ∨ ∃ host, Cond.fieldLinkNest "WallLottery$Tokens" 65 "WallLottery" "WORDS" "[LWallLottery$Word;" host ∈ q_nest := .inr ⟨"WallLottery", (List.mem_filter.mpr ⟨q_mm2 (i := 230) rfl, rfl⟩)⟩
theorem f_Tk_70 : q_F "WallLottery$Tokens" 70 7 6 0 := ⟨q_N7, q_T7, 10, rfl, by decide, q_in1 (i := 72) rfl rfl, rfl, q_Tw7⟩
theorem fp_Tk_70 : q_FP "WallLottery$Tokens" 70 7 6 0 .int false := ⟨q_N7, q_T7, 10, q_Y7, rfl, by decide, q_in1 (i := 72) rfl rfl, rfl, q_Tw7, q_Ty7, q_Tn7, by decide +kernel, rfl, fun h => by first | rfl | cases h⟩
theorem f_Tk_73 : q_F "WallLottery$Tokens" 73 7 7 0 := ⟨q_N7, q_T7, 10, rfl, by decide, q_in1 (i := 74) rfl rfl, rfl, q_Tw7⟩
theorem fp_Tk_73 : q_FP "WallLottery$Tokens" 73 7 7 0 .char false := ⟨q_N7, q_T7, 10, q_Y7, rfl, by decide, q_in1 (i := 74) rfl rfl, rfl, q_Tw7, q_Ty7, q_Tn7, by decide +kernel, rfl, fun h => by first | rfl | cases h⟩
theorem k_Tk_79 : q_CW "WallLottery$Tokens" 79 X_JS_indexOf 1 := ⟨cb_JS_indexOf, q_in3 (i := 1) rfl rfl, q_in3 (i := 2) rfl rfl, q_in3 (i := 3) rfl rfl⟩
theorem k_Tk_89 : q_CV "WallLottery$Tokens" 89 X_Tk_isWord 1 7 := ⟨cb_Tk_isWord, .inl (q_in3 (i := 161) rfl rfl), q_in3 (i := 162) rfl rfl, q_in3 (i := 163) rfl rfl, q_T7, 10, rfl⟩
theorem k_Tk_93 : q_CV "WallLottery$Tokens" 93 X_Tk_refuse 1 7 := ⟨cb_Tk_refuse, .inl (q_in3 (i := 140) rfl rfl), q_in3 (i := 92) rfl rfl, q_in3 (i := 93) rfl rfl, q_T7, 10, rfl⟩
theorem k_Tk_97 : q_CV "WallLottery$Tokens" 97 X_Tk_isSign 1 7 := ⟨cb_Tk_isSign, .inl (q_in3 (i := 233) rfl rfl), q_in3 (i := 223) rfl rfl, q_in3 (i := 224) rfl rfl, q_T7, 10, rfl⟩
theorem f_Tk_101 : q_F "WallLottery$Tokens" 101 7 8 0 := ⟨q_N7, q_T7, 10, rfl, by decide, q_in1 (i := 76) rfl rfl, rfl, q_Tw7⟩
theorem fp_Tk_101 : q_FP "WallLottery$Tokens" 101 7 8 0 .int false := ⟨q_N7, q_T7, 10, q_Y7, rfl, by decide, q_in1 (i := 76) rfl rfl, rfl, q_Tw7, q_Ty7, q_Tn7, by decide +kernel, rfl, fun h => by first | rfl | cases h⟩
theorem s_Tk_104 : Cond.fieldLink "WallLottery$Tokens" 104 "WallLottery$1" "$SwitchMap$WallLottery$Word" "[I" ∈ q_GT ∨ ∃ host, Cond.fieldLinkNest "WallLottery$Tokens" 104 "WallLottery$1" "$SwitchMap$WallLottery$Word" "[I" host ∈ q_nest := .inl (q_in3 (i := 149) rfl rfl)
theorem k_Tk_110 : q_CU "WallLottery$Tokens" 110 ⟨"WallLottery$Word", "ordinal", "()I"⟩ X_JE_ordinal "WallLottery$Word" := ⟨cb_JE_ordinal, q_in3 (i := 150) rfl rfl, q_in3 (i := 98) rfl rfl, q_in3 (i := 100) rfl rfl, q_in3 (i := 101) rfl rfl, rfl, by decide +kernel⟩
theorem k_Tw_3 : Cond.methodLink "WallLottery$Town" 3 Lib.objectInit ∈ q_GT := q_in1 (i := 222) rfl rfl
theorem f_Tw_9 : q_F "WallLottery$Town" 9 8 0 2 := ⟨q_N8, q_T8, 18, rfl, by decide, q_in2 (i := 14) rfl rfl, rfl, q_Tw8⟩
theorem fp_Tw_9 : q_FP "WallLottery$Town" 9 8 0 2 (.array .long) true := ⟨q_N8, q_T8, 18, q_Y8, rfl, by decide, q_in2 (i := 14) rfl rfl, rfl, q_Tw8, q_Ty8, q_Tn8, by decide +kernel, rfl, fun h => by first | rfl | cases h⟩
theorem f_Tw_15 : q_F "WallLottery$Town" 15 8 1 2 := ⟨q_N8, q_T8, 18, rfl, by decide, q_in2 (i := 16) rfl rfl, rfl, q_Tw8⟩
theorem fp_Tw_15 : q_FP "WallLottery$Town" 15 8 1 2 (.array .long) true := ⟨q_N8, q_T8, 18, q_Y8, rfl, by decide, q_in2 (i := 16) rfl rfl, rfl, q_Tw8, q_Ty8, q_Tn8, by decide +kernel, rfl, fun h => by first | rfl | cases h⟩
theorem f_Tw_18 : q_F "WallLottery$Town" 18 8 2 2 := ⟨q_N8, q_T8, 18, rfl, by decide, q_in2 (i := 18) rfl rfl, rfl, q_Tw8⟩
theorem fp_Tw_18 : q_FP "WallLottery$Town" 18 8 2 2 (.array .int) true := ⟨q_N8, q_T8, 18, q_Y8, rfl, by decide, q_in2 (i := 18) rfl rfl, rfl, q_Tw8, q_Ty8, q_Tn8, by decide +kernel, rfl, fun h => by first | rfl | cases h⟩
theorem f_Tw_22 : q_F "WallLottery$Town" 22 8 3 2 := ⟨q_N8, q_T8, 18, rfl, by decide, q_in2 (i := 22) rfl rfl, rfl, q_Tw8⟩
theorem fp_Tw_22 : q_FP "WallLottery$Town" 22 8 3 2 (.array .int) true := ⟨q_N8, q_T8, 18, q_Y8, rfl, by decide, q_in2 (i := 22) rfl rfl, rfl, q_Tw8, q_Ty8, q_Tn8, by decide +kernel, rfl, fun h => by first | rfl | cases h⟩
theorem f_Tw_25 : q_F "WallLottery$Town" 25 8 4 2 := ⟨q_N8, q_T8, 18, rfl, by decide, q_in2 (i := 24) rfl rfl, rfl, q_Tw8⟩
theorem fp_Tw_25 : q_FP "WallLottery$Town" 25 8 4 2 (.array .int) true := ⟨q_N8, q_T8, 18, q_Y8, rfl, by decide, q_in2 (i := 24) rfl rfl, rfl, q_Tw8, q_Ty8, q_Tn8, by decide +kernel, rfl, fun h => by first | rfl | cases h⟩
theorem f_Tw_28 : q_F "WallLottery$Town" 28 8 5 2 := ⟨q_N8, q_T8, 18, rfl, by decide, q_in2 (i := 26) rfl rfl, rfl, q_Tw8⟩
theorem fp_Tw_28 : q_FP "WallLottery$Town" 28 8 5 2 (.array .int) true := ⟨q_N8, q_T8, 18, q_Y8, rfl, by decide, q_in2 (i := 26) rfl rfl, rfl, q_Tw8, q_Ty8, q_Tn8, by decide +kernel, rfl, fun h => by first | rfl | cases h⟩
theorem f_Tw_31 : q_F "WallLottery$Town" 31 8 6 2 := ⟨q_N8, q_T8, 18, rfl, by decide, q_in2 (i := 29) rfl rfl, rfl, q_Tw8⟩
theorem fp_Tw_31 : q_FP "WallLottery$Town" 31 8 6 2 (.array .int) true := ⟨q_N8, q_T8, 18, q_Y8, rfl, by decide, q_in2 (i := 29) rfl rfl, rfl, q_Tw8, q_Ty8, q_Tn8, by decide +kernel, rfl, fun h => by first | rfl | cases h⟩
theorem f_Tw_34 : q_F "WallLottery$Town" 34 8 7 2 := ⟨q_N8, q_T8, 18, rfl, by decide, q_in2 (i := 32) rfl rfl, rfl, q_Tw8⟩
theorem fp_Tw_34 : q_FP "WallLottery$Town" 34 8 7 2 (.array .int) true := ⟨q_N8, q_T8, 18, q_Y8, rfl, by decide, q_in2 (i := 32) rfl rfl, rfl, q_Tw8, q_Ty8, q_Tn8, by decide +kernel, rfl, fun h => by first | rfl | cases h⟩
theorem f_Tw_37 : q_F "WallLottery$Town" 37 8 8 2 := ⟨q_N8, q_T8, 18, rfl, by decide, q_in2 (i := 34) rfl rfl, rfl, q_Tw8⟩
theorem fp_Tw_37 : q_FP "WallLottery$Town" 37 8 8 2 (.array .int) true := ⟨q_N8, q_T8, 18, q_Y8, rfl, by decide, q_in2 (i := 34) rfl rfl, rfl, q_Tw8, q_Ty8, q_Tn8, by decide +kernel, rfl, fun h => by first | rfl | cases h⟩
theorem f_Tw_40 : q_F "WallLottery$Town" 40 8 9 2 := ⟨q_N8, q_T8, 18, rfl, by decide, q_in2 (i := 36) rfl rfl, rfl, q_Tw8⟩
theorem fp_Tw_40 : q_FP "WallLottery$Town" 40 8 9 2 (.array .int) true := ⟨q_N8, q_T8, 18, q_Y8, rfl, by decide, q_in2 (i := 36) rfl rfl, rfl, q_Tw8, q_Ty8, q_Tn8, by decide +kernel, rfl, fun h => by first | rfl | cases h⟩
theorem f_Tw_43 : q_F "WallLottery$Town" 43 8 10 2 := ⟨q_N8, q_T8, 18, rfl, by decide, q_in2 (i := 39) rfl rfl, rfl, q_Tw8⟩
theorem fp_Tw_43 : q_FP "WallLottery$Town" 43 8 10 2 (.array .long) true := ⟨q_N8, q_T8, 18, q_Y8, rfl, by decide, q_in2 (i := 39) rfl rfl, rfl, q_Tw8, q_Ty8, q_Tn8, by decide +kernel, rfl, fun h => by first | rfl | cases h⟩
theorem f_Tw_46 : q_F "WallLottery$Town" 46 8 11 2 := ⟨q_N8, q_T8, 18, rfl, by decide, q_in2 (i := 41) rfl rfl, rfl, q_Tw8⟩
theorem fp_Tw_46 : q_FP "WallLottery$Town" 46 8 11 2 (.array .int) true := ⟨q_N8, q_T8, 18, q_Y8, rfl, by decide, q_in2 (i := 41) rfl rfl, rfl, q_Tw8, q_Ty8, q_Tn8, by decide +kernel, rfl, fun h => by first | rfl | cases h⟩
theorem k_Tw_51 : q_CI "WallLottery$Town" 51 X_La_init 0 := ⟨cb_La_init, rfl, rfl, q_in1 (i := 226) rfl rfl, .inr ⟨"WallLottery", (List.mem_filter.mpr ⟨q_mm1 (i := 225) rfl, rfl⟩)⟩⟩
theorem f_Tw_52 : q_F "WallLottery$Town" 52 8 12 2 := ⟨q_N8, q_T8, 18, rfl, by decide, q_in2 (i := 42) rfl rfl, rfl, q_Tw8⟩
theorem fp_Tw_52 : q_FP "WallLottery$Town" 52 8 12 2 (.object "WallLottery$Laws") true := ⟨q_N8, q_T8, 18, q_Y8, rfl, by decide, q_in2 (i := 42) rfl rfl, rfl, q_Tw8, q_Ty8, q_Tn8, by decide +kernel, rfl, fun h => by first | rfl | cases h⟩
theorem f_Tw_56 : q_F "WallLottery$Town" 56 8 13 0 := ⟨q_N8, q_T8, 18, rfl, by decide, q_in2 (i := 44) rfl rfl, rfl, q_Tw8⟩
theorem fp_Tw_56 : q_FP "WallLottery$Town" 56 8 13 0 .int false := ⟨q_N8, q_T8, 18, q_Y8, rfl, by decide, q_in2 (i := 44) rfl rfl, rfl, q_Tw8, q_Ty8, q_Tn8, by decide +kernel, rfl, fun h => by first | rfl | cases h⟩
theorem f_Tw_60 : q_F "WallLottery$Town" 60 8 14 0 := ⟨q_N8, q_T8, 18, rfl, by decide, q_in2 (i := 49) rfl rfl, rfl, q_Tw8⟩
theorem fp_Tw_60 : q_FP "WallLottery$Town" 60 8 14 0 .int false := ⟨q_N8, q_T8, 18, q_Y8, rfl, by decide, q_in2 (i := 49) rfl rfl, rfl, q_Tw8, q_Ty8, q_Tn8, by decide +kernel, rfl, fun h => by first | rfl | cases h⟩
theorem f_Tw_63 : q_F "WallLottery$Town" 63 8 15 0 := ⟨q_N8, q_T8, 18, rfl, by decide, q_in2 (i := 54) rfl rfl, rfl, q_Tw8⟩
theorem fp_Tw_63 : q_FP "WallLottery$Town" 63 8 15 0 .int false := ⟨q_N8, q_T8, 18, q_Y8, rfl, by decide, q_in2 (i := 54) rfl rfl, rfl, q_Tw8, q_Ty8, q_Tn8, by decide +kernel, rfl, fun h => by first | rfl | cases h⟩
theorem f_Tw_66 : q_F "WallLottery$Town" 66 8 16 0 := ⟨q_N8, q_T8, 18, rfl, by decide, q_in2 (i := 57) rfl rfl, rfl, q_Tw8⟩
theorem fp_Tw_66 : q_FP "WallLottery$Town" 66 8 16 0 .int false := ⟨q_N8, q_T8, 18, q_Y8, rfl, by decide, q_in2 (i := 57) rfl rfl, rfl, q_Tw8, q_Ty8, q_Tn8, by decide +kernel, rfl, fun h => by first | rfl | cases h⟩
theorem f_Tw_69 : q_F "WallLottery$Town" 69 8 17 0 := ⟨q_N8, q_T8, 18, rfl, by decide, q_in2 (i := 60) rfl rfl, rfl, q_Tw8⟩
theorem fp_Tw_69 : q_FP "WallLottery$Town" 69 8 17 0 .int false := ⟨q_N8, q_T8, 18, q_Y8, rfl, by decide, q_in2 (i := 60) rfl rfl, rfl, q_Tw8, q_Ty8, q_Tn8, by decide +kernel, rfl, fun h => by first | rfl | cases h⟩
theorem k_Tw_72 : q_CV "WallLottery$Town" 72 X_La_forget 0 2 := ⟨cb_La_forget, .inl (q_in2 (i := 203) rfl rfl), q_in2 (i := 204) rfl rfl, q_in2 (i := 205) rfl rfl, q_T2, 7, rfl⟩
theorem k_Tw_75 : q_CV "WallLottery$Town" 75 X_Tw_loudness 1 8 := ⟨cb_Tw_loudness, .inl (q_in4 (i := 7) rfl rfl), q_in4 (i := 8) rfl rfl, q_in4 (i := 9) rfl rfl, q_T8, 18, rfl⟩
theorem k_Tw_79 : q_CV "WallLottery$Town" 79 X_Tw_hearing 1 8 := ⟨cb_Tw_hearing, .inl (q_in4 (i := 11) rfl rfl), q_in4 (i := 12) rfl rfl, q_in4 (i := 13) rfl rfl, q_T8, 18, rfl⟩
theorem k_Tw_82 : q_CV "WallLottery$Town" 82 X_La_valueOf 4 2 := ⟨cb_La_valueOf, .inl (q_in4 (i := 15) rfl rfl), q_in4 (i := 16) rfl rfl, q_in4 (i := 17) rfl rfl, q_T2, 7, rfl⟩
theorem k_Tw_86 : q_CS "WallLottery$Town" 86 X_Tw_heardPlace 3 := ⟨cb_Tw_heardPlace, q_in4 (i := 31) rfl rfl, .inl (q_in4 (i := 30) rfl rfl)⟩
theorem k_Tw_90 : q_CS "WallLottery$Town" 90 X_W_within 3 := ⟨cb_W_within, q_in4 (i := 34) rfl rfl, .inr ⟨"WallLottery", (List.mem_filter.mpr ⟨q_mm4 (i := 33) rfl, rfl⟩)⟩⟩
theorem k_Tw_93 : q_CV "WallLottery$Town" 93 X_Tw_thickBetween 3 8 := ⟨cb_Tw_thickBetween, .inl (q_in4 (i := 106) rfl rfl), q_in4 (i := 107) rfl rfl, q_in4 (i := 108) rfl rfl, q_T8, 18, rfl⟩
theorem k_Tw_97 : q_CV "WallLottery$Town" 97 X_Tw_areNeighbours 3 8 := ⟨cb_Tw_areNeighbours, .inl (q_in4 (i := 102) rfl rfl), q_in4 (i := 103) rfl rfl, q_in4 (i := 104) rfl rfl, q_T8, 18, rfl⟩
theorem k_Tw_101 : q_CS "WallLottery$Town" 101 X_W_pairBit 2 := ⟨cb_W_pairBit, q_in3 (i := 182) rfl rfl, .inr ⟨"WallLottery", (List.mem_filter.mpr ⟨q_mm4 (i := 225) rfl, rfl⟩)⟩⟩
theorem k_Tw_105 : q_CV "WallLottery$Town" 105 X_Tw_fondness 2 8 := ⟨cb_Tw_fondness, .inl (q_in4 (i := 118) rfl rfl), q_in4 (i := 119) rfl rfl, q_in4 (i := 120) rfl rfl, q_T8, 18, rfl⟩
theorem k_Tw_109 : q_CV "WallLottery$Town" 109 X_Tw_feltBy 2 8 := ⟨cb_Tw_feltBy, .inl (q_in4 (i := 122) rfl rfl), q_in4 (i := 111) rfl rfl, q_in4 (i := 112) rfl rfl, q_T8, 18, rfl⟩
theorem k_Tw_113 : q_CV "WallLottery$Town" 113 X_Tw_joyOf 2 8 := ⟨cb_Tw_joyOf, .inl (q_in5 (i := 138) rfl rfl), q_in4 (i := 115) rfl rfl, q_in4 (i := 116) rfl rfl, q_T8, 18, rfl⟩
theorem k_Tw_116 : q_CV "WallLottery$Town" 116 X_Tw_hedge 4 8 := ⟨cb_Tw_hedge, .inl (q_in6 (i := 9) rfl rfl), q_in6 (i := 11) rfl rfl, q_inP3 (i := 6) rfl, q_T8, 18, rfl⟩
theorem k_Wy_3 : Cond.methodLink "WallLottery$Ways" 3 Lib.objectInit ∈ q_GT := q_in1 (i := 121) rfl rfl
theorem f_Wy_9 : q_F "WallLottery$Ways" 9 9 0 2 := ⟨q_N9, q_T9, 9, rfl, by decide, q_in1 (i := 122) rfl rfl, rfl, q_Tw9⟩
theorem fp_Wy_9 : q_FP "WallLottery$Ways" 9 9 0 2 (.array .int) true := ⟨q_N9, q_T9, 9, q_Y9, rfl, by decide, q_in1 (i := 122) rfl rfl, rfl, q_Tw9, q_Ty9, q_Tn9, by decide +kernel, rfl, fun h => by first | rfl | cases h⟩
theorem f_Wy_15 : q_F "WallLottery$Ways" 15 9 1 2 := ⟨q_N9, q_T9, 9, rfl, by decide, q_in1 (i := 123) rfl rfl, rfl, q_Tw9⟩
theorem fp_Wy_15 : q_FP "WallLottery$Ways" 15 9 1 2 (.array .long) true := ⟨q_N9, q_T9, 9, q_Y9, rfl, by decide, q_in1 (i := 123) rfl rfl, rfl, q_Tw9, q_Ty9, q_Tn9, by decide +kernel, rfl, fun h => by first | rfl | cases h⟩
theorem f_Wy_19 : q_F "WallLottery$Ways" 19 9 2 2 := ⟨q_N9, q_T9, 9, rfl, by decide, q_in1 (i := 124) rfl rfl, rfl, q_Tw9⟩
theorem fp_Wy_19 : q_FP "WallLottery$Ways" 19 9 2 2 (.array .long) true := ⟨q_N9, q_T9, 9, q_Y9, rfl, by decide, q_in1 (i := 124) rfl rfl, rfl, q_Tw9, q_Ty9, q_Tn9, by decide +kernel, rfl, fun h => by first | rfl | cases h⟩
theorem f_Wy_22 : q_F "WallLottery$Ways" 22 9 3 2 := ⟨q_N9, q_T9, 9, rfl, by decide, q_in1 (i := 125) rfl rfl, rfl, q_Tw9⟩
theorem fp_Wy_22 : q_FP "WallLottery$Ways" 22 9 3 2 (.array .int) true := ⟨q_N9, q_T9, 9, q_Y9, rfl, by decide, q_in1 (i := 125) rfl rfl, rfl, q_Tw9, q_Ty9, q_Tn9, by decide +kernel, rfl, fun h => by first | rfl | cases h⟩
theorem f_Wy_25 : q_F "WallLottery$Ways" 25 9 4 2 := ⟨q_N9, q_T9, 9, rfl, by decide, q_in1 (i := 126) rfl rfl, rfl, q_Tw9⟩
theorem fp_Wy_25 : q_FP "WallLottery$Ways" 25 9 4 2 (.array .int) true := ⟨q_N9, q_T9, 9, q_Y9, rfl, by decide, q_in1 (i := 126) rfl rfl, rfl, q_Tw9, q_Ty9, q_Tn9, by decide +kernel, rfl, fun h => by first | rfl | cases h⟩
theorem f_Wy_28 : q_F "WallLottery$Ways" 28 9 5 2 := ⟨q_N9, q_T9, 9, rfl, by decide, q_in1 (i := 128) rfl rfl, rfl, q_Tw9⟩
theorem fp_Wy_28 : q_FP "WallLottery$Ways" 28 9 5 2 (.array .int) true := ⟨q_N9, q_T9, 9, q_Y9, rfl, by decide, q_in1 (i := 128) rfl rfl, rfl, q_Tw9, q_Ty9, q_Tn9, by decide +kernel, rfl, fun h => by first | rfl | cases h⟩
theorem f_Wy_31 : q_F "WallLottery$Ways" 31 9 8 0 := ⟨q_N9, q_T9, 9, rfl, by decide, q_in1 (i := 132) rfl rfl, rfl, q_Tw9⟩
theorem fp_Wy_31 : q_FP "WallLottery$Ways" 31 9 8 0 .boolean false := ⟨q_N9, q_T9, 9, q_Y9, rfl, by decide, q_in1 (i := 132) rfl rfl, rfl, q_Tw9, q_Ty9, q_Tn9, by decide +kernel, rfl, fun h => by first | rfl | cases h⟩
theorem f_Wy_35 : q_F "WallLottery$Ways" 35 9 7 0 := ⟨q_N9, q_T9, 9, rfl, by decide, q_in1 (i := 130) rfl rfl, rfl, q_Tw9⟩
theorem fp_Wy_35 : q_FP "WallLottery$Ways" 35 9 7 0 .int false := ⟨q_N9, q_T9, 9, q_Y9, rfl, by decide, q_in1 (i := 130) rfl rfl, rfl, q_Tw9, q_Ty9, q_Tn9, by decide +kernel, rfl, fun h => by first | rfl | cases h⟩
theorem f_Wy_39 : q_F "WallLottery$Ways" 39 8 14 0 := ⟨q_N8, q_T8, 18, rfl, by decide, q_in2 (i := 50) rfl rfl, rfl, q_Tw8⟩
theorem f_Wy_44 : q_F "WallLottery$Ways" 44 9 6 0 := ⟨q_N9, q_T9, 9, rfl, by decide, q_in1 (i := 129) rfl rfl, rfl, q_Tw9⟩
theorem fp_Wy_44 : q_FP "WallLottery$Ways" 44 9 6 0 .int false := ⟨q_N9, q_T9, 9, q_Y9, rfl, by decide, q_in1 (i := 129) rfl rfl, rfl, q_Tw9, q_Ty9, q_Tn9, by decide +kernel, rfl, fun h => by first | rfl | cases h⟩
theorem k_Wy_45 : q_CV "WallLottery$Ways" 45 X_Wy_settle 3 9 := ⟨cb_Wy_settle, .inl (q_in5 (i := 11) rfl rfl), q_in5 (i := 13) rfl rfl, q_inP3 (i := 1) rfl, q_T9, 9, rfl⟩
theorem k_Wy_49 : q_CV "WallLottery$Ways" 49 X_Wy_note 1 9 := ⟨cb_Wy_note, .inl (q_in5 (i := 15) rfl rfl), q_in5 (i := 17) rfl rfl, q_inP3 (i := 2) rfl, q_T9, 9, rfl⟩
theorem f_Wy_53 : q_F "WallLottery$Ways" 53 8 13 0 := ⟨q_N8, q_T8, 18, rfl, by decide, q_in2 (i := 45) rfl rfl, rfl, q_Tw8⟩
theorem k_Wy_56 : q_CV "WallLottery$Ways" 56 X_Tw_joyOf 2 8 := ⟨cb_Tw_joyOf, .inl (q_in5 (i := 19) rfl rfl), q_in4 (i := 115) rfl rfl, q_in4 (i := 116) rfl rfl, q_T8, 18, rfl⟩
theorem k_Wy_60 : q_CV "WallLottery$Ways" 60 X_Tw_feltBy 2 8 := ⟨cb_Tw_feltBy, .inl (q_in5 (i := 20) rfl rfl), q_in4 (i := 111) rfl rfl, q_in4 (i := 112) rfl rfl, q_T8, 18, rfl⟩
theorem k_Wy_63 : q_CV "WallLottery$Ways" 63 X_Tw_pairsOf 1 8 := ⟨cb_Tw_pairsOf, .inl (q_in5 (i := 21) rfl rfl), q_in4 (i := 222) rfl rfl, q_in4 (i := 223) rfl rfl, q_T8, 18, rfl⟩
theorem k_Wy_67 : q_CV "WallLottery$Ways" 67 X_Wy_isWay 1 9 := ⟨cb_Wy_isWay, .inl (q_in5 (i := 26) rfl rfl), q_in5 (i := 28) rfl rfl, q_inP3 (i := 3) rfl, q_T9, 9, rfl⟩
theorem n_Wy_71 : Cond.constantLong "WallLottery$Ways" 71 (511) ∈ q_GT := q_in5 (i := 30) rfl rfl
theorem k_Wy_73 : q_CV "WallLottery$Ways" 73 X_Wy_feltBy 2 9 := ⟨cb_Wy_feltBy, .inl (q_in5 (i := 81) rfl rfl), q_in5 (i := 23) rfl rfl, q_in5 (i := 24) rfl rfl, q_T9, 9, rfl⟩
theorem k_Wy_76 : q_CV "WallLottery$Ways" 76 X_Wy_houseOf 2 9 := ⟨cb_Wy_houseOf, .inl (q_in5 (i := 45) rfl rfl), q_in5 (i := 46) rfl rfl, q_in5 (i := 47) rfl rfl, q_T9, 9, rfl⟩
theorem k_Wy_79 : q_CV "WallLottery$Ways" 79 X_Wy_leadsRing 4 9 := ⟨cb_Wy_leadsRing, .inl (q_in5 (i := 49) rfl rfl), q_in5 (i := 51) rfl rfl, q_inP3 (i := 4) rfl, q_T9, 9, rfl⟩
theorem k_Wy_83 : q_CV "WallLottery$Ways" 83 X_Tw_familyIn 2 8 := ⟨cb_Tw_familyIn, .inl (q_in5 (i := 53) rfl rfl), q_in4 (i := 77) rfl rfl, q_in4 (i := 78) rfl rfl, q_T8, 18, rfl⟩
theorem k_Wy_86 : q_CV "WallLottery$Ways" 86 X_Tw_brokenBy 1 8 := ⟨cb_Tw_brokenBy, .inl (q_in5 (i := 40) rfl rfl), q_in4 (i := 227) rfl rfl, q_in4 (i := 228) rfl rfl, q_T8, 18, rfl⟩
theorem k_Wy_90 : q_CV "WallLottery$Ways" 90 X_Wy_swapsTo 3 9 := ⟨cb_Wy_swapsTo, .inl (q_in5 (i := 41) rfl rfl), q_in5 (i := 42) rfl rfl, q_in5 (i := 43) rfl rfl, q_T9, 9, rfl⟩
theorem k_Wy_94 : q_CV "WallLottery$Ways" 94 X_Wy_contentIn 1 9 := ⟨cb_Wy_contentIn, .inl (q_in5 (i := 64) rfl rfl), q_in5 (i := 65) rfl rfl, q_in5 (i := 66) rfl rfl, q_T9, 9, rfl⟩
theorem k_Wy_98 : q_CV "WallLottery$Ways" 98 X_Wy_feltByAll 1 9 := ⟨cb_Wy_feltByAll, .inl (q_in5 (i := 77) rfl rfl), q_in5 (i := 78) rfl rfl, q_in5 (i := 79) rfl rfl, q_T9, 9, rfl⟩
theorem k_Wy_101 : q_CV "WallLottery$Ways" 101 X_Tl_agreeWith 1 5 := ⟨cb_Tl_agreeWith, .inl (q_in5 (i := 100) rfl rfl), q_in5 (i := 101) rfl rfl, q_in5 (i := 102) rfl rfl, q_T5, 3, rfl⟩
theorem k_W_1 : Cond.methodLink "WallLottery" 1 Lib.objectInit ∈ q_GT := q_in1 (i := 33) rfl rfl
theorem k_W_9 : q_CI "WallLottery" 9 X_Tp_init 0 := ⟨cb_Tp_init, rfl, rfl, q_in1 (i := 39) rfl rfl, .inr ⟨"WallLottery", (List.mem_filter.mpr ⟨q_mm1 (i := 38) rfl, rfl⟩)⟩⟩
theorem f_W_10 : q_F "WallLottery" 10 10 0 2 := ⟨q_N10, q_T10, 18, rfl, by decide, q_in2 (i := 124) rfl rfl, rfl, q_Tw10⟩
theorem fp_W_10 : q_FP "WallLottery" 10 10 0 2 (.object "WallLottery$Tape") true := ⟨q_N10, q_T10, 18, q_Y10, rfl, by decide, q_in2 (i := 124) rfl rfl, rfl, q_Tw10, q_Ty10, q_Tn10, by decide +kernel, rfl, fun h => by first | rfl | cases h⟩
theorem k_W_18 : q_CI "WallLottery" 18 X_Tk_init 1 := ⟨cb_Tk_init, rfl, rfl, q_in1 (i := 56) rfl rfl, .inl (q_in1 (i := 55) rfl rfl)⟩
theorem f_W_21 : q_F "WallLottery" 21 10 1 2 := ⟨q_N10, q_T10, 18, rfl, by decide, q_in2 (i := 125) rfl rfl, rfl, q_Tw10⟩
theorem fp_W_21 : q_FP "WallLottery" 21 10 1 2 (.object "WallLottery$Tokens") true := ⟨q_N10, q_T10, 18, q_Y10, rfl, by decide, q_in2 (i := 125) rfl rfl, rfl, q_Tw10, q_Ty10, q_Tn10, by decide +kernel, rfl, fun h => by first | rfl | cases h⟩
theorem k_W_27 : q_CI "WallLottery" 27 X_Rd_init 1 := ⟨cb_Rd_init, rfl, rfl, q_in1 (i := 103) rfl rfl, .inl (q_in1 (i := 102) rfl rfl)⟩
theorem f_W_30 : q_F "WallLottery" 30 10 2 2 := ⟨q_N10, q_T10, 18, rfl, by decide, q_in2 (i := 126) rfl rfl, rfl, q_Tw10⟩
theorem fp_W_30 : q_FP "WallLottery" 30 10 2 2 (.object "WallLottery$Reader") true := ⟨q_N10, q_T10, 18, q_Y10, rfl, by decide, q_in2 (i := 126) rfl rfl, rfl, q_Tw10, q_Ty10, q_Tn10, by decide +kernel, rfl, fun h => by first | rfl | cases h⟩
theorem k_W_36 : q_CI "WallLottery" 36 X_Wy_init 0 := ⟨cb_Wy_init, rfl, rfl, q_in1 (i := 119) rfl rfl, .inr ⟨"WallLottery", (List.mem_filter.mpr ⟨q_mm1 (i := 118) rfl, rfl⟩)⟩⟩
theorem f_W_37 : q_F "WallLottery" 37 10 3 2 := ⟨q_N10, q_T10, 18, rfl, by decide, q_in2 (i := 127) rfl rfl, rfl, q_Tw10⟩
theorem fp_W_37 : q_FP "WallLottery" 37 10 3 2 (.object "WallLottery$Ways") true := ⟨q_N10, q_T10, 18, q_Y10, rfl, by decide, q_in2 (i := 127) rfl rfl, rfl, q_Tw10, q_Ty10, q_Tn10, by decide +kernel, rfl, fun h => by first | rfl | cases h⟩
theorem k_W_43 : q_CI "WallLottery" 43 X_Di_init 0 := ⟨cb_Di_init, rfl, rfl, q_in1 (i := 158) rfl rfl, .inr ⟨"WallLottery", (List.mem_filter.mpr ⟨q_mm1 (i := 157) rfl, rfl⟩)⟩⟩
theorem f_W_44 : q_F "WallLottery" 44 10 4 2 := ⟨q_N10, q_T10, 18, rfl, by decide, q_in2 (i := 128) rfl rfl, rfl, q_Tw10⟩
theorem fp_W_44 : q_FP "WallLottery" 44 10 4 2 (.object "WallLottery$Dice") true := ⟨q_N10, q_T10, 18, q_Y10, rfl, by decide, q_in2 (i := 128) rfl rfl, rfl, q_Tw10, q_Ty10, q_Tn10, by decide +kernel, rfl, fun h => by first | rfl | cases h⟩
theorem k_W_50 : q_CI "WallLottery" 50 X_Tl_init 0 := ⟨cb_Tl_init, rfl, rfl, q_in1 (i := 174) rfl rfl, .inr ⟨"WallLottery", (List.mem_filter.mpr ⟨q_mm1 (i := 173) rfl, rfl⟩)⟩⟩
theorem f_W_51 : q_F "WallLottery" 51 10 5 2 := ⟨q_N10, q_T10, 18, rfl, by decide, q_in2 (i := 129) rfl rfl, rfl, q_Tw10⟩
theorem fp_W_51 : q_FP "WallLottery" 51 10 5 2 (.object "WallLottery$Tales") true := ⟨q_N10, q_T10, 18, q_Y10, rfl, by decide, q_in2 (i := 129) rfl rfl, rfl, q_Tw10, q_Ty10, q_Tn10, by decide +kernel, rfl, fun h => by first | rfl | cases h⟩
theorem k_W_57 : q_CI "WallLottery" 57 X_Li_init 0 := ⟨cb_Li_init, rfl, rfl, q_in1 (i := 191) rfl rfl, .inr ⟨"WallLottery", (List.mem_filter.mpr ⟨q_mm1 (i := 190) rfl, rfl⟩)⟩⟩
theorem f_W_58 : q_F "WallLottery" 58 10 6 2 := ⟨q_N10, q_T10, 18, rfl, by decide, q_in2 (i := 130) rfl rfl, rfl, q_Tw10⟩
theorem fp_W_58 : q_FP "WallLottery" 58 10 6 2 (.object "WallLottery$Life") true := ⟨q_N10, q_T10, 18, q_Y10, rfl, by decide, q_in2 (i := 130) rfl rfl, rfl, q_Tw10, q_Ty10, q_Tn10, by decide +kernel, rfl, fun h => by first | rfl | cases h⟩
theorem f_W_62 : q_F "WallLottery" 62 10 7 2 := ⟨q_N10, q_T10, 18, rfl, by decide, q_in2 (i := 131) rfl rfl, rfl, q_Tw10⟩
theorem fp_W_62 : q_FP "WallLottery" 62 10 7 2 (.object "WallLottery$Life") true := ⟨q_N10, q_T10, 18, q_Y10, rfl, by decide, q_in2 (i := 131) rfl rfl, rfl, q_Tw10, q_Ty10, q_Tn10, by decide +kernel, rfl, fun h => by first | rfl | cases h⟩
theorem f_W_65 : q_F "WallLottery" 65 10 8 2 := ⟨q_N10, q_T10, 18, rfl, by decide, q_in2 (i := 132) rfl rfl, rfl, q_Tw10⟩
theorem fp_W_65 : q_FP "WallLottery" 65 10 8 2 (.array (.object "WallLottery$Life")) true := ⟨q_N10, q_T10, 18, q_Y10, rfl, by decide, q_in2 (i := 132) rfl rfl, rfl, q_Tw10, q_Ty10, q_Tn10, by decide +kernel, rfl, fun h => by first | rfl | cases h⟩
theorem f_W_69 : q_F "WallLottery" 69 10 9 2 := ⟨q_N10, q_T10, 18, rfl, by decide, q_in2 (i := 133) rfl rfl, rfl, q_Tw10⟩
theorem fp_W_69 : q_FP "WallLottery" 69 10 9 2 (.array (.object "WallLottery$Life")) true := ⟨q_N10, q_T10, 18, q_Y10, rfl, by decide, q_in2 (i := 133) rfl rfl, rfl, q_Tw10, q_Ty10, q_Tn10, by decide +kernel, rfl, fun h => by first | rfl | cases h⟩
theorem f_W_72 : q_F "WallLottery" 72 10 10 2 := ⟨q_N10, q_T10, 18, rfl, by decide, q_in2 (i := 134) rfl rfl, rfl, q_Tw10⟩
theorem fp_W_72 : q_FP "WallLottery" 72 10 10 2 (.array (.object "WallLottery$Tales")) true := ⟨q_N10, q_T10, 18, q_Y10, rfl, by decide, q_in2 (i := 134) rfl rfl, rfl, q_Tw10, q_Ty10, q_Tn10, by decide +kernel, rfl, fun h => by first | rfl | cases h⟩
theorem f_W_76 : q_F "WallLottery" 76 10 11 2 := ⟨q_N10, q_T10, 18, rfl, by decide, q_in2 (i := 135) rfl rfl, rfl, q_Tw10⟩
theorem fp_W_76 : q_FP "WallLottery" 76 10 11 2 (.array .boolean) true := ⟨q_N10, q_T10, 18, q_Y10, rfl, by decide, q_in2 (i := 135) rfl rfl, rfl, q_Tw10, q_Ty10, q_Tn10, by decide +kernel, rfl, fun h => by first | rfl | cases h⟩
theorem k_W_82 : q_CI "WallLottery" 82 X_Tw_init 0 := ⟨cb_Tw_init, rfl, rfl, q_in1 (i := 220) rfl rfl, .inr ⟨"WallLottery", (List.mem_filter.mpr ⟨q_mm1 (i := 219) rfl, rfl⟩)⟩⟩
theorem f_W_83 : q_F "WallLottery" 83 10 12 2 := ⟨q_N10, q_T10, 18, rfl, by decide, q_in2 (i := 136) rfl rfl, rfl, q_Tw10⟩
theorem fp_W_83 : q_FP "WallLottery" 83 10 12 2 (.object "WallLottery$Town") false := ⟨q_N10, q_T10, 18, q_Y10, rfl, by decide, q_in2 (i := 136) rfl rfl, rfl, q_Tw10, q_Ty10, q_Tn10, by decide +kernel, rfl, fun h => by first | rfl | cases h⟩
theorem f_W_87 : q_F "WallLottery" 87 10 13 2 := ⟨q_N10, q_T10, 18, rfl, by decide, q_in2 (i := 137) rfl rfl, rfl, q_Tw10⟩
theorem fp_W_87 : q_FP "WallLottery" 87 10 13 2 (.object "WallLottery$Town") false := ⟨q_N10, q_T10, 18, q_Y10, rfl, by decide, q_in2 (i := 137) rfl rfl, rfl, q_Tw10, q_Ty10, q_Tn10, by decide +kernel, rfl, fun h => by first | rfl | cases h⟩
theorem k_W_92 : q_CI "WallLottery" 92 X_Dy_init 0 := ⟨cb_Dy_init, rfl, rfl, q_in2 (i := 103) rfl rfl, .inr ⟨"WallLottery", (List.mem_filter.mpr ⟨q_mm2 (i := 102) rfl, rfl⟩)⟩⟩
theorem f_W_93 : q_F "WallLottery" 93 10 14 2 := ⟨q_N10, q_T10, 18, rfl, by decide, q_in2 (i := 138) rfl rfl, rfl, q_Tw10⟩
theorem fp_W_93 : q_FP "WallLottery" 93 10 14 2 (.object "WallLottery$Days") false := ⟨q_N10, q_T10, 18, q_Y10, rfl, by decide, q_in2 (i := 138) rfl rfl, rfl, q_Tw10, q_Ty10, q_Tn10, by decide +kernel, rfl, fun h => by first | rfl | cases h⟩
theorem f_W_97 : q_F "WallLottery" 97 10 15 2 := ⟨q_N10, q_T10, 18, rfl, by decide, q_in2 (i := 139) rfl rfl, rfl, q_Tw10⟩
theorem fp_W_97 : q_FP "WallLottery" 97 10 15 2 (.object "WallLottery$Days") false := ⟨q_N10, q_T10, 18, q_Y10, rfl, by decide, q_in2 (i := 139) rfl rfl, rfl, q_Tw10, q_Ty10, q_Tn10, by decide +kernel, rfl, fun h => by first | rfl | cases h⟩
theorem k_W_100 : q_CV "WallLottery" 100 X_Tp_addBytes 1 6 := ⟨cb_Tp_addBytes, .inl (q_in2 (i := 183) rfl rfl), q_in2 (i := 184) rfl rfl, q_in2 (i := 185) rfl rfl, q_T6, 2, rfl⟩
theorem f_W_104 : q_F "WallLottery" 104 6 1 0 := ⟨q_N6, q_T6, 2, rfl, by decide, q_in1 (i := 44) rfl rfl, rfl, q_Tw6⟩
theorem k_W_108 : q_CV "WallLottery" 108 X_Rd_readTown 1 4 := ⟨cb_Rd_readTown, .inl (q_in2 (i := 195) rfl rfl), q_in2 (i := 196) rfl rfl, q_in2 (i := 197) rfl rfl, q_T4, 3, rfl⟩
theorem fp_W_104 : q_FP "WallLottery" 104 6 1 0 .int false := ⟨q_N6, q_T6, 2, q_Y6, rfl, by decide, q_in1 (i := 44) rfl rfl, rfl, q_Tw6, q_Ty6, q_Tn6, by decide +kernel, rfl, fun h => by first | rfl | cases h⟩
theorem k_W_112 : q_CV "WallLottery" 112 X_W_startAnew 0 10 := ⟨cb_W_startAnew, .inl (q_in4 (i := 36) rfl rfl), q_in4 (i := 38) rfl rfl, q_inP2 (i := 10) rfl, q_T10, 18, rfl⟩
theorem k_W_115 : q_CV "WallLottery" 115 X_Rd_readDays 2 4 := ⟨cb_Rd_readDays, .inl (q_in4 (i := 56) rfl rfl), q_in4 (i := 57) rfl rfl, q_in4 (i := 58) rfl rfl, q_T4, 3, rfl⟩
theorem f_W_119 : q_F "WallLottery" 119 3 0 2 := ⟨q_N3, q_T3, 5, rfl, by decide, q_in1 (i := 195) rfl rfl, rfl, q_Tw3⟩
theorem k_W_123 : q_CV "WallLottery" 123 X_Tw_familyIn 2 8 := ⟨cb_Tw_familyIn, .inl (q_in4 (i := 76) rfl rfl), q_in4 (i := 77) rfl rfl, q_in4 (i := 78) rfl rfl, q_T8, 18, rfl⟩
theorem k_W_127 : q_CV "WallLottery" 127 X_W_isHouse 1 10 := ⟨cb_W_isHouse, .inl (q_in4 (i := 84) rfl rfl), q_in4 (i := 86) rfl rfl, q_inP2 (i := 13) rfl, q_T10, 18, rfl⟩
theorem f_W_131 : q_F "WallLottery" 131 8 6 2 := ⟨q_N8, q_T8, 18, rfl, by decide, q_in2 (i := 31) rfl rfl, rfl, q_Tw8⟩
theorem k_W_134 : q_CV "WallLottery" 134 X_W_isFamily 1 10 := ⟨cb_W_isFamily, .inl (q_in4 (i := 92) rfl rfl), q_in4 (i := 94) rfl rfl, q_inP2 (i := 14) rfl, q_T10, 18, rfl⟩
theorem f_W_137 : q_F "WallLottery" 137 8 2 2 := ⟨q_N8, q_T8, 18, rfl, by decide, q_in2 (i := 21) rfl rfl, rfl, q_Tw8⟩
theorem k_W_140 : q_CV "WallLottery" 140 X_Tw_loudness 1 8 := ⟨cb_Tw_loudness, .inl (q_in4 (i := 96) rfl rfl), q_in4 (i := 8) rfl rfl, q_in4 (i := 9) rfl rfl, q_T8, 18, rfl⟩
theorem k_W_144 : q_CV "WallLottery" 144 X_Tw_hearing 1 8 := ⟨cb_Tw_hearing, .inl (q_in4 (i := 97) rfl rfl), q_in4 (i := 12) rfl rfl, q_in4 (i := 13) rfl rfl, q_T8, 18, rfl⟩
theorem f_W_147 : q_F "WallLottery" 147 3 1 2 := ⟨q_N3, q_T3, 5, rfl, by decide, q_in1 (i := 197) rfl rfl, rfl, q_Tw3⟩
theorem k_W_150 : q_CV "WallLottery" 150 X_Tw_neighbourBits 2 8 := ⟨cb_Tw_neighbourBits, .inl (q_in4 (i := 98) rfl rfl), q_in4 (i := 99) rfl rfl, q_in4 (i := 100) rfl rfl, q_T8, 18, rfl⟩
theorem k_W_153 : q_CV "WallLottery" 153 X_Tw_feltBy 2 8 := ⟨cb_Tw_feltBy, .inl (q_in4 (i := 110) rfl rfl), q_in4 (i := 111) rfl rfl, q_in4 (i := 112) rfl rfl, q_T8, 18, rfl⟩
theorem k_W_156 : q_CV "WallLottery" 156 X_Tw_joyOf 2 8 := ⟨cb_Tw_joyOf, .inl (q_in4 (i := 114) rfl rfl), q_in4 (i := 115) rfl rfl, q_in4 (i := 116) rfl rfl, q_T8, 18, rfl⟩
theorem k_W_162 : q_CV "WallLottery" 162 X_W_areTwo 2 10 := ⟨cb_W_areTwo, .inl (q_in4 (i := 127) rfl rfl), q_in4 (i := 129) rfl rfl, q_inP2 (i := 15) rfl, q_T10, 18, rfl⟩
theorem f_W_166 : q_F "WallLottery" 166 3 2 2 := ⟨q_N3, q_T3, 5, rfl, by decide, q_in1 (i := 199) rfl rfl, rfl, q_Tw3⟩
theorem k_W_169 : q_CS "WallLottery" 169 X_W_isSeed 1 := ⟨cb_W_isSeed, q_in4 (i := 136) rfl rfl, .inl (q_in4 (i := 135) rfl rfl)⟩
theorem k_W_172 : q_CV "WallLottery" 172 X_W_remember 0 10 := ⟨cb_W_remember, .inl (q_in4 (i := 138) rfl rfl), q_in4 (i := 140) rfl rfl, q_inP3 (i := 0) rfl, q_T10, 18, rfl⟩
theorem f_W_175 : q_F "WallLottery" 175 1 1 1 := ⟨q_N1, q_T1, 2, rfl, by decide, q_in1 (i := 165) rfl rfl, rfl, q_Tw1⟩
theorem fp_W_175 : q_FP "WallLottery" 175 1 1 1 .long false := ⟨q_N1, q_T1, 2, q_Y1, rfl, by decide, q_in1 (i := 165) rfl rfl, rfl, q_Tw1, q_Ty1, q_Tn1, by decide +kernel, rfl, fun h => by first | rfl | cases h⟩
theorem k_W_179 : q_CV "WallLottery" 179 X_Li_redraw 2 3 := ⟨cb_Li_redraw, .inl (q_in4 (i := 146) rfl rfl), q_in4 (i := 147) rfl rfl, q_in4 (i := 148) rfl rfl, q_T3, 5, rfl⟩
theorem k_W_183 : q_CV "WallLottery" 183 X_Li_changeHouses 2 3 := ⟨cb_Li_changeHouses, .inl (q_in4 (i := 172) rfl rfl), q_in4 (i := 173) rfl rfl, q_in4 (i := 174) rfl rfl, q_T3, 5, rfl⟩
theorem k_W_187 : q_CS "WallLottery" 187 X_W_isSum 1 := ⟨cb_W_isSum, q_in4 (i := 181) rfl rfl, .inl (q_in4 (i := 180) rfl rfl)⟩
theorem k_W_190 : q_CV "WallLottery" 190 X_Li_canLend 4 3 := ⟨cb_Li_canLend, .inl (q_in4 (i := 183) rfl rfl), q_in4 (i := 184) rfl rfl, q_in4 (i := 185) rfl rfl, q_T3, 5, rfl⟩
theorem k_W_194 : q_CV "WallLottery" 194 X_Li_giveLoan 3 3 := ⟨cb_Li_giveLoan, .inl (q_in4 (i := 187) rfl rfl), q_in4 (i := 188) rfl rfl, q_in4 (i := 189) rfl rfl, q_T3, 5, rfl⟩
theorem k_W_198 : q_CV "WallLottery" 198 X_Li_canPay 3 3 := ⟨cb_Li_canPay, .inl (q_in4 (i := 195) rfl rfl), q_in4 (i := 196) rfl rfl, q_in4 (i := 197) rfl rfl, q_T3, 5, rfl⟩
theorem k_W_202 : q_CV "WallLottery" 202 X_Li_payBack 3 3 := ⟨cb_Li_payBack, .inl (q_in4 (i := 199) rfl rfl), q_in4 (i := 200) rfl rfl, q_in4 (i := 201) rfl rfl, q_T3, 5, rfl⟩
theorem f_W_205 : q_F "WallLottery" 205 10 17 0 := ⟨q_N10, q_T10, 18, rfl, by decide, q_in2 (i := 141) rfl rfl, rfl, q_Tw10⟩
theorem fp_W_205 : q_FP "WallLottery" 205 10 17 0 .int false := ⟨q_N10, q_T10, 18, q_Y10, rfl, by decide, q_in2 (i := 141) rfl rfl, rfl, q_Tw10, q_Ty10, q_Tn10, by decide +kernel, rfl, fun h => by first | rfl | cases h⟩
theorem f_W_208 : q_F "WallLottery" 208 10 16 0 := ⟨q_N10, q_T10, 18, rfl, by decide, q_in2 (i := 140) rfl rfl, rfl, q_Tw10⟩
theorem fp_W_208 : q_FP "WallLottery" 208 10 16 0 .int false := ⟨q_N10, q_T10, 18, q_Y10, rfl, by decide, q_in2 (i := 140) rfl rfl, rfl, q_Tw10, q_Ty10, q_Tn10, by decide +kernel, rfl, fun h => by first | rfl | cases h⟩
theorem k_W_211 : q_CV "WallLottery" 211 X_Li_become 1 3 := ⟨cb_Li_become, .inl (q_in4 (i := 142) rfl rfl), q_in4 (i := 143) rfl rfl, q_in4 (i := 144) rfl rfl, q_T3, 5, rfl⟩
theorem k_W_215 : q_CV "WallLottery" 215 X_Li_begin 1 3 := ⟨cb_Li_begin, .inl (q_in4 (i := 40) rfl rfl), q_in4 (i := 41) rfl rfl, q_in4 (i := 42) rfl rfl, q_T3, 5, rfl⟩
theorem f_W_219 : q_F "WallLottery" 219 0 4 0 := ⟨q_N0, q_T0, 5, rfl, by decide, q_in2 (i := 112) rfl rfl, rfl, q_Tw0⟩
theorem k_W_222 : q_CV "WallLottery" 222 X_Dy_carryOut 4 0 := ⟨cb_Dy_carryOut, .inl (q_in4 (i := 211) rfl rfl), q_in4 (i := 212) rfl rfl, q_in4 (i := 213) rfl rfl, q_T0, 5, rfl⟩
theorem k_W_226 : q_CV "WallLottery" 226 X_Tw_pairsOf 1 8 := ⟨cb_Tw_pairsOf, .inl (q_in4 (i := 221) rfl rfl), q_in4 (i := 222) rfl rfl, q_in4 (i := 223) rfl rfl, q_T8, 18, rfl⟩
theorem k_W_230 : q_CV "WallLottery" 230 X_Tw_brokenBy 1 8 := ⟨cb_Tw_brokenBy, .inl (q_in4 (i := 226) rfl rfl), q_in4 (i := 227) rfl rfl, q_in4 (i := 228) rfl rfl, q_T8, 18, rfl⟩
theorem f_W_234 : q_F "WallLottery" 234 3 4 0 := ⟨q_N3, q_T3, 5, rfl, by decide, q_in1 (i := 203) rfl rfl, rfl, q_Tw3⟩
theorem k_W_237 : q_CV "WallLottery" 237 X_Tw_housePairs 0 8 := ⟨cb_Tw_housePairs, .inl (q_in4 (i := 238) rfl rfl), q_in4 (i := 239) rfl rfl, q_in5 (i := 0) rfl rfl, q_T8, 18, rfl⟩
theorem f_W_241 : q_F "WallLottery" 241 8 15 0 := ⟨q_N8, q_T8, 18, rfl, by decide, q_in2 (i := 56) rfl rfl, rfl, q_Tw8⟩
theorem n_W_244 : Cond.constant "WallLottery" 244 (1000000) ∈ q_GT := q_in5 (i := 2) rfl rfl
theorem k_W_245 : q_CV "WallLottery" 245 X_Wy_learn 1 9 := ⟨cb_Wy_learn, .inl (q_in5 (i := 7) rfl rfl), q_in5 (i := 8) rfl rfl, q_in5 (i := 9) rfl rfl, q_T9, 9, rfl⟩
theorem f_W_248 : q_F "WallLottery" 248 9 7 0 := ⟨q_N9, q_T9, 9, rfl, by decide, q_in1 (i := 131) rfl rfl, rfl, q_Tw9⟩
theorem k_W_251 : q_CV "WallLottery" 251 X_Wy_feltBy 2 9 := ⟨cb_Wy_feltBy, .inl (q_in5 (i := 22) rfl rfl), q_in5 (i := 23) rfl rfl, q_in5 (i := 24) rfl rfl, q_T9, 9, rfl⟩
theorem n_W_254 : Cond.constantLong "WallLottery" 254 (1000000) ∈ q_GT := q_in5 (i := 31) rfl rfl
theorem f_W_256 : q_F "WallLottery" 256 9 4 2 := ⟨q_N9, q_T9, 9, rfl, by decide, q_in1 (i := 127) rfl rfl, rfl, q_Tw9⟩
theorem n_W_259 : Cond.constantLong "WallLottery" 259 (1000) ∈ q_GT := q_in5 (i := 236) rfl rfl
theorem k_W_261 : q_CV "WallLottery" 261 X_Wy_firstMending 2 9 := ⟨cb_Wy_firstMending, .inl (q_in5 (i := 36) rfl rfl), q_in5 (i := 37) rfl rfl, q_in5 (i := 38) rfl rfl, q_T9, 9, rfl⟩
theorem k_W_265 : q_CV "WallLottery" 265 X_Wy_swapsTo 3 9 := ⟨cb_Wy_swapsTo, .inl (q_in5 (i := 54) rfl rfl), q_in5 (i := 42) rfl rfl, q_in5 (i := 43) rfl rfl, q_T9, 9, rfl⟩
theorem k_W_269 : q_CV "WallLottery" 269 X_Wy_houseOf 2 9 := ⟨cb_Wy_houseOf, .inl (q_in5 (i := 55) rfl rfl), q_in5 (i := 46) rfl rfl, q_in5 (i := 47) rfl rfl, q_T9, 9, rfl⟩
theorem k_W_272 : q_CV "WallLottery" 272 X_Wy_firstPleasing 2 9 := ⟨cb_Wy_firstPleasing, .inl (q_in5 (i := 60) rfl rfl), q_in5 (i := 61) rfl rfl, q_in5 (i := 62) rfl rfl, q_T9, 9, rfl⟩
theorem k_W_275 : q_CV "WallLottery" 275 X_Wy_contentIn 1 9 := ⟨cb_Wy_contentIn, .inl (q_in5 (i := 68) rfl rfl), q_in5 (i := 65) rfl rfl, q_in5 (i := 66) rfl rfl, q_T9, 9, rfl⟩
theorem k_W_278 : q_CV "WallLottery" 278 X_Wy_firstQuiet 0 9 := ⟨cb_Wy_firstQuiet, .inl (q_in5 (i := 73) rfl rfl), q_in5 (i := 74) rfl rfl, q_in5 (i := 75) rfl rfl, q_T9, 9, rfl⟩
theorem k_W_281 : q_CV "WallLottery" 281 X_Wy_feltByAll 1 9 := ⟨cb_Wy_feltByAll, .inl (q_in5 (i := 82) rfl rfl), q_in5 (i := 78) rfl rfl, q_in5 (i := 79) rfl rfl, q_T9, 9, rfl⟩
theorem k_W_284 : q_CV "WallLottery" 284 X_Tw_areNeighbours 3 8 := ⟨cb_Tw_areNeighbours, .inl (q_in6 (i := 4) rfl rfl), q_in4 (i := 103) rfl rfl, q_in4 (i := 104) rfl rfl, q_T8, 18, rfl⟩
theorem k_W_288 : q_CV "WallLottery" 288 X_Tw_isAtRest 3 8 := ⟨cb_Tw_isAtRest, .inl (q_in6 (i := 5) rfl rfl), q_in6 (i := 6) rfl rfl, q_in6 (i := 7) rfl rfl, q_T8, 18, rfl⟩
theorem f_W_291 : q_F "WallLottery" 291 5 2 0 := ⟨q_N5, q_T5, 3, rfl, by decide, q_in1 (i := 180) rfl rfl, rfl, q_Tw5⟩
theorem k_W_294 : q_CS "WallLottery" 294 X_W_pairBit 2 := ⟨cb_W_pairBit, q_in3 (i := 182) rfl rfl, .inl (q_in5 (i := 87) rfl rfl)⟩
theorem k_W_298 : q_CV "WallLottery" 298 X_Tl_add 2 5 := ⟨cb_Tl_add, .inl (q_in5 (i := 88) rfl rfl), q_in5 (i := 89) rfl rfl, q_in5 (i := 90) rfl rfl, q_T5, 3, rfl⟩
theorem k_W_302 : q_CV "WallLottery" 302 X_Wy_agreeing 2 9 := ⟨cb_Wy_agreeing, .inl (q_in5 (i := 96) rfl rfl), q_in5 (i := 97) rfl rfl, q_in5 (i := 98) rfl rfl, q_T9, 9, rfl⟩
theorem f_W_306 : q_F "WallLottery" 306 8 14 0 := ⟨q_N8, q_T8, 18, rfl, by decide, q_in2 (i := 53) rfl rfl, rfl, q_Tw8⟩
theorem k_W_309 : Cond.methodLink "WallLottery" 309 Lib.Math.max.name ∈ q_GT := q_in3 (i := 185) rfl rfl
theorem k_W_314 : q_CV "WallLottery" 314 X_Li_lapsing 3 3 := ⟨cb_Li_lapsing, .inl (q_in6 (i := 20) rfl rfl), q_in4 (i := 151) rfl rfl, q_in4 (i := 152) rfl rfl, q_T3, 5, rfl⟩
theorem k_W_318 : q_CS "WallLottery" 318 X_W_choose 2 := ⟨cb_W_choose, q_in5 (i := 117) rfl rfl, .inl (q_in5 (i := 116) rfl rfl)⟩
theorem k_W_321 : q_CS "WallLottery" 321 X_W_power 2 := ⟨cb_W_power, q_in5 (i := 120) rfl rfl, .inl (q_in5 (i := 119) rfl rfl)⟩
theorem fp_W_234 : q_FP "WallLottery" 234 3 4 0 .int false := ⟨q_N3, q_T3, 5, q_Y3, rfl, by decide, q_in1 (i := 203) rfl rfl, rfl, q_Tw3, q_Ty3, q_Tn3, by decide +kernel, rfl, fun h => by first | rfl | cases h⟩
theorem k_W_324 : q_CV "WallLottery" 324 X_Li_liveOn 2 3 := ⟨cb_Li_liveOn, .inl (q_in5 (i := 126) rfl rfl), q_in5 (i := 127) rfl rfl, q_in5 (i := 128) rfl rfl, q_T3, 5, rfl⟩
theorem k_W_328 : q_CV "WallLottery" 328 X_Tw_contentBits 1 8 := ⟨cb_Tw_contentBits, .inl (q_in5 (i := 134) rfl rfl), q_in5 (i := 135) rfl rfl, q_in5 (i := 136) rfl rfl, q_T8, 18, rfl⟩
theorem k_W_332 : q_CS "WallLottery" 332 X_JI_bitCount 1 := ⟨cb_JI_bitCount, q_in5 (i := 140) rfl rfl, .inl (q_in5 (i := 139) rfl rfl)⟩
theorem k_W_337 : q_CV "WallLottery" 337 X_Tl_become 1 5 := ⟨cb_Tl_become, .inl (q_in5 (i := 149) rfl rfl), q_in5 (i := 150) rfl rfl, q_in5 (i := 151) rfl rfl, q_T5, 3, rfl⟩
theorem f_W_340 : q_F "WallLottery" 340 8 13 0 := ⟨q_N8, q_T8, 18, rfl, by decide, q_in2 (i := 48) rfl rfl, rfl, q_Tw8⟩
theorem f_W_343 : q_F "WallLottery" 343 8 16 0 := ⟨q_N8, q_T8, 18, rfl, by decide, q_in2 (i := 59) rfl rfl, rfl, q_Tw8⟩
theorem f_W_346 : q_F "WallLottery" 346 8 17 0 := ⟨q_N8, q_T8, 18, rfl, by decide, q_in2 (i := 62) rfl rfl, rfl, q_Tw8⟩
theorem f_W_349 : q_F "WallLottery" 349 3 3 0 := ⟨q_N3, q_T3, 5, rfl, by decide, q_in1 (i := 201) rfl rfl, rfl, q_Tw3⟩
theorem k_W_352 : q_CS "WallLottery" 352 X_W_sum 1 := ⟨cb_W_sum, q_in5 (i := 158) rfl rfl, .inl (q_in5 (i := 157) rfl rfl)⟩
theorem fp_W_219 : q_FP "WallLottery" 219 0 4 0 .int false := ⟨q_N0, q_T0, 5, q_Y0, rfl, by decide, q_in2 (i := 112) rfl rfl, rfl, q_Tw0, q_Ty0, q_Tn0, by decide +kernel, rfl, fun h => by first | rfl | cases h⟩
theorem k_W_355 : q_CV "WallLottery" 355 X_Tl_forget 0 5 := ⟨cb_Tl_forget, .inl (q_in4 (i := 47) rfl rfl), q_in4 (i := 48) rfl rfl, q_in4 (i := 49) rfl rfl, q_T5, 3, rfl⟩
theorem f_W_358 : q_F "WallLottery" 358 9 8 0 := ⟨q_N9, q_T9, 9, rfl, by decide, q_in1 (i := 133) rfl rfl, rfl, q_Tw9⟩
theorem fp_W_358 : q_FP "WallLottery" 358 9 8 0 .boolean false := ⟨q_N9, q_T9, 9, q_Y9, rfl, by decide, q_in1 (i := 133) rfl rfl, rfl, q_Tw9, q_Ty9, q_Tn9, by decide +kernel, rfl, fun h => by first | rfl | cases h⟩
theorem k_W_362 : Cond.methodLink "WallLottery" 362 Lib.Math.min.name ∈ q_GT := q_in3 (i := 184) rfl rfl
theorem f_M_1 : q_F "WallLotteryModel" 1 11 0 0 := ⟨q_N11, q_T11, 37, rfl, by decide, q_in6 (i := 111) rfl rfl, rfl, q_Tw11⟩
theorem fp_M_1 : q_FP "WallLotteryModel" 1 11 0 0 .int false := ⟨q_N11, q_T11, 37, q_Y11, rfl, by decide, q_in6 (i := 111) rfl rfl, rfl, q_Tw11, q_Ty11, q_Tn11, by decide +kernel, rfl, fun h => by first | rfl | cases h⟩
theorem k_M_7 : q_CV "WallLotteryModel" 7 X_M_lay 1 11 := ⟨cb_M_lay, .inl (q_in6 (i := 29) rfl rfl), q_in6 (i := 31) rfl rfl, q_inP3 (i := 7) rfl, q_T11, 37, rfl⟩
theorem f_M_11 : q_F "WallLotteryModel" 11 11 2 0 := ⟨q_N11, q_T11, 37, rfl, by decide, q_in6 (i := 113) rfl rfl, rfl, q_Tw11⟩
theorem f_M_14 : q_F "WallLotteryModel" 14 11 1 2 := ⟨q_N11, q_T11, 37, rfl, by decide, q_in6 (i := 112) rfl rfl, rfl, q_Tw11⟩
theorem fp_M_11 : q_FP "WallLotteryModel" 11 11 2 0 .int false := ⟨q_N11, q_T11, 37, q_Y11, rfl, by decide, q_in6 (i := 113) rfl rfl, rfl, q_Tw11, q_Ty11, q_Tn11, by decide +kernel, rfl, fun h => by first | rfl | cases h⟩
theorem k_M_18 : Cond.methodLink "WallLotteryModel" 18 Lib.objectInit ∈ q_GT := q_in6 (i := 38) rfl rfl
theorem fp_M_14 : q_FP "WallLotteryModel" 14 11 1 2 (.array .int) true := ⟨q_N11, q_T11, 37, q_Y11, rfl, by decide, q_in6 (i := 112) rfl rfl, rfl, q_Tw11, q_Ty11, q_Tn11, by decide +kernel, rfl, fun h => by first | rfl | cases h⟩
theorem f_M_24 : q_F "WallLotteryModel" 24 11 4 2 := ⟨q_N11, q_T11, 37, rfl, by decide, q_in6 (i := 115) rfl rfl, rfl, q_Tw11⟩
theorem fp_M_24 : q_FP "WallLotteryModel" 24 11 4 2 (.array .int) true := ⟨q_N11, q_T11, 37, q_Y11, rfl, by decide, q_in6 (i := 115) rfl rfl, rfl, q_Tw11, q_Ty11, q_Tn11, by decide +kernel, rfl, fun h => by first | rfl | cases h⟩
theorem f_M_27 : q_F "WallLotteryModel" 27 11 5 2 := ⟨q_N11, q_T11, 37, rfl, by decide, q_in6 (i := 116) rfl rfl, rfl, q_Tw11⟩
theorem fp_M_27 : q_FP "WallLotteryModel" 27 11 5 2 (.array .int) true := ⟨q_N11, q_T11, 37, q_Y11, rfl, by decide, q_in6 (i := 116) rfl rfl, rfl, q_Tw11, q_Ty11, q_Tn11, by decide +kernel, rfl, fun h => by first | rfl | cases h⟩
theorem f_M_30 : q_F "WallLotteryModel" 30 11 6 2 := ⟨q_N11, q_T11, 37, rfl, by decide, q_in6 (i := 117) rfl rfl, rfl, q_Tw11⟩
theorem fp_M_30 : q_FP "WallLotteryModel" 30 11 6 2 (.array .long) true := ⟨q_N11, q_T11, 37, q_Y11, rfl, by decide, q_in6 (i := 117) rfl rfl, rfl, q_Tw11, q_Ty11, q_Tn11, by decide +kernel, rfl, fun h => by first | rfl | cases h⟩
theorem n_M_34 : Cond.constantLong "WallLotteryModel" 34 (15782540) ∈ q_GT := q_in6 (i := 39) rfl rfl
theorem n_M_36 : Cond.constantLong "WallLotteryModel" 36 (1166844) ∈ q_GT := q_in6 (i := 40) rfl rfl
theorem n_M_38 : Cond.constantLong "WallLotteryModel" 38 (418609182) ∈ q_GT := q_in6 (i := 41) rfl rfl
theorem n_M_40 : Cond.constantLong "WallLotteryModel" 40 (629152) ∈ q_GT := q_in6 (i := 42) rfl rfl
theorem n_M_42 : Cond.constantLong "WallLotteryModel" 42 (255319) ∈ q_GT := q_in6 (i := 43) rfl rfl
theorem n_M_44 : Cond.constantLong "WallLotteryModel" 44 (6395136) ∈ q_GT := q_in6 (i := 44) rfl rfl
theorem n_M_46 : Cond.constantLong "WallLotteryModel" 46 (620569) ∈ q_GT := q_in6 (i := 45) rfl rfl
theorem n_M_48 : Cond.constantLong "WallLotteryModel" 48 (407338) ∈ q_GT := q_in6 (i := 46) rfl rfl
theorem n_M_50 : Cond.constantLong "WallLotteryModel" 50 (791486) ∈ q_GT := q_in6 (i := 47) rfl rfl
theorem n_M_52 : Cond.constantLong "WallLotteryModel" 52 (2686664) ∈ q_GT := q_in6 (i := 48) rfl rfl
theorem n_M_54 : Cond.constantLong "WallLotteryModel" 54 (149033600) ∈ q_GT := q_in6 (i := 49) rfl rfl
theorem n_M_56 : Cond.constantLong "WallLotteryModel" 56 (27011078) ∈ q_GT := q_in6 (i := 50) rfl rfl
theorem n_M_58 : Cond.constantLong "WallLotteryModel" 58 (14270) ∈ q_GT := q_in6 (i := 51) rfl rfl
theorem n_M_60 : Cond.constantLong "WallLotteryModel" 60 (15252293) ∈ q_GT := q_in6 (i := 52) rfl rfl
theorem n_M_62 : Cond.constantLong "WallLotteryModel" 62 (227314) ∈ q_GT := q_in6 (i := 53) rfl rfl
theorem n_M_64 : Cond.constantLong "WallLotteryModel" 64 (993947) ∈ q_GT := q_in6 (i := 54) rfl rfl
theorem n_M_66 : Cond.constantLong "WallLotteryModel" 66 (615203) ∈ q_GT := q_in6 (i := 55) rfl rfl
theorem n_M_68 : Cond.constantLong "WallLotteryModel" 68 (21966) ∈ q_GT := q_in6 (i := 56) rfl rfl
theorem n_M_70 : Cond.constantLong "WallLotteryModel" 70 (30596128) ∈ q_GT := q_in6 (i := 57) rfl rfl
theorem n_M_72 : Cond.constantLong "WallLotteryModel" 72 (16026169954) ∈ q_GT := q_in6 (i := 58) rfl rfl
theorem n_M_74 : Cond.constantLong "WallLotteryModel" 74 (49590575432) ∈ q_GT := q_in6 (i := 59) rfl rfl
theorem n_M_76 : Cond.constantLong "WallLotteryModel" 76 (835201092) ∈ q_GT := q_in6 (i := 60) rfl rfl
theorem n_M_78 : Cond.constantLong "WallLotteryModel" 78 (19741) ∈ q_GT := q_in6 (i := 61) rfl rfl
theorem n_M_80 : Cond.constantLong "WallLotteryModel" 80 (1891) ∈ q_GT := q_in6 (i := 62) rfl rfl
theorem n_M_82 : Cond.constantLong "WallLotteryModel" 82 (573) ∈ q_GT := q_in6 (i := 63) rfl rfl
theorem n_M_84 : Cond.constantLong "WallLotteryModel" 84 (1179132858181) ∈ q_GT := q_in6 (i := 64) rfl rfl
theorem n_M_86 : Cond.constantLong "WallLotteryModel" 86 (20875329818) ∈ q_GT := q_in6 (i := 65) rfl rfl
theorem n_M_88 : Cond.constantLong "WallLotteryModel" 88 (4672519) ∈ q_GT := q_in6 (i := 66) rfl rfl
theorem n_M_90 : Cond.constantLong "WallLotteryModel" 90 (324975) ∈ q_GT := q_in6 (i := 67) rfl rfl
theorem n_M_92 : Cond.constantLong "WallLotteryModel" 92 (311227) ∈ q_GT := q_in6 (i := 68) rfl rfl
theorem n_M_94 : Cond.constantLong "WallLotteryModel" 94 (716042) ∈ q_GT := q_in6 (i := 69) rfl rfl
theorem n_M_96 : Cond.constantLong "WallLotteryModel" 96 (671333) ∈ q_GT := q_in6 (i := 70) rfl rfl
theorem n_M_98 : Cond.constantLong "WallLotteryModel" 98 (11304) ∈ q_GT := q_in6 (i := 71) rfl rfl
theorem f_M_100 : q_F "WallLotteryModel" 100 11 9 2 := ⟨q_N11, q_T11, 37, rfl, by decide, q_in6 (i := 120) rfl rfl, rfl, q_Tw11⟩
theorem fp_M_100 : q_FP "WallLotteryModel" 100 11 9 2 (.array .long) true := ⟨q_N11, q_T11, 37, q_Y11, rfl, by decide, q_in6 (i := 120) rfl rfl, rfl, q_Tw11, q_Ty11, q_Tn11, by decide +kernel, rfl, fun h => by first | rfl | cases h⟩
theorem f_M_103 : q_F "WallLotteryModel" 103 11 10 2 := ⟨q_N11, q_T11, 37, rfl, by decide, q_in6 (i := 121) rfl rfl, rfl, q_Tw11⟩
theorem fp_M_103 : q_FP "WallLotteryModel" 103 11 10 2 (.array .int) true := ⟨q_N11, q_T11, 37, q_Y11, rfl, by decide, q_in6 (i := 121) rfl rfl, rfl, q_Tw11, q_Ty11, q_Tn11, by decide +kernel, rfl, fun h => by first | rfl | cases h⟩
theorem f_M_106 : q_F "WallLotteryModel" 106 11 11 2 := ⟨q_N11, q_T11, 37, rfl, by decide, q_in6 (i := 122) rfl rfl, rfl, q_Tw11⟩
theorem fp_M_106 : q_FP "WallLotteryModel" 106 11 11 2 (.array .int) true := ⟨q_N11, q_T11, 37, q_Y11, rfl, by decide, q_in6 (i := 122) rfl rfl, rfl, q_Tw11, q_Ty11, q_Tn11, by decide +kernel, rfl, fun h => by first | rfl | cases h⟩
theorem f_M_109 : q_F "WallLotteryModel" 109 11 12 2 := ⟨q_N11, q_T11, 37, rfl, by decide, q_in6 (i := 123) rfl rfl, rfl, q_Tw11⟩
theorem fp_M_109 : q_FP "WallLotteryModel" 109 11 12 2 (.array .int) true := ⟨q_N11, q_T11, 37, q_Y11, rfl, by decide, q_in6 (i := 123) rfl rfl, rfl, q_Tw11, q_Ty11, q_Tn11, by decide +kernel, rfl, fun h => by first | rfl | cases h⟩
theorem f_M_112 : q_F "WallLotteryModel" 112 11 14 2 := ⟨q_N11, q_T11, 37, rfl, by decide, q_in6 (i := 125) rfl rfl, rfl, q_Tw11⟩
theorem fp_M_112 : q_FP "WallLotteryModel" 112 11 14 2 (.array .long) true := ⟨q_N11, q_T11, 37, q_Y11, rfl, by decide, q_in6 (i := 125) rfl rfl, rfl, q_Tw11, q_Ty11, q_Tn11, by decide +kernel, rfl, fun h => by first | rfl | cases h⟩
theorem f_M_115 : q_F "WallLotteryModel" 115 11 15 2 := ⟨q_N11, q_T11, 37, rfl, by decide, q_in6 (i := 126) rfl rfl, rfl, q_Tw11⟩
theorem fp_M_115 : q_FP "WallLotteryModel" 115 11 15 2 (.array .long) true := ⟨q_N11, q_T11, 37, q_Y11, rfl, by decide, q_in6 (i := 126) rfl rfl, rfl, q_Tw11, q_Ty11, q_Tn11, by decide +kernel, rfl, fun h => by first | rfl | cases h⟩
theorem f_M_118 : q_F "WallLotteryModel" 118 11 16 2 := ⟨q_N11, q_T11, 37, rfl, by decide, q_in6 (i := 127) rfl rfl, rfl, q_Tw11⟩
theorem fp_M_118 : q_FP "WallLotteryModel" 118 11 16 2 (.array .int) true := ⟨q_N11, q_T11, 37, q_Y11, rfl, by decide, q_in6 (i := 127) rfl rfl, rfl, q_Tw11, q_Ty11, q_Tn11, by decide +kernel, rfl, fun h => by first | rfl | cases h⟩
theorem f_M_121 : q_F "WallLotteryModel" 121 11 17 2 := ⟨q_N11, q_T11, 37, rfl, by decide, q_in6 (i := 128) rfl rfl, rfl, q_Tw11⟩
theorem fp_M_121 : q_FP "WallLotteryModel" 121 11 17 2 (.array .int) true := ⟨q_N11, q_T11, 37, q_Y11, rfl, by decide, q_in6 (i := 128) rfl rfl, rfl, q_Tw11, q_Ty11, q_Tn11, by decide +kernel, rfl, fun h => by first | rfl | cases h⟩
theorem f_M_124 : q_F "WallLotteryModel" 124 11 21 2 := ⟨q_N11, q_T11, 37, rfl, by decide, q_in6 (i := 132) rfl rfl, rfl, q_Tw11⟩
theorem fp_M_124 : q_FP "WallLotteryModel" 124 11 21 2 (.array .int) true := ⟨q_N11, q_T11, 37, q_Y11, rfl, by decide, q_in6 (i := 132) rfl rfl, rfl, q_Tw11, q_Ty11, q_Tn11, by decide +kernel, rfl, fun h => by first | rfl | cases h⟩
theorem f_M_127 : q_F "WallLotteryModel" 127 11 22 2 := ⟨q_N11, q_T11, 37, rfl, by decide, q_in6 (i := 133) rfl rfl, rfl, q_Tw11⟩
theorem fp_M_127 : q_FP "WallLotteryModel" 127 11 22 2 (.array .int) true := ⟨q_N11, q_T11, 37, q_Y11, rfl, by decide, q_in6 (i := 133) rfl rfl, rfl, q_Tw11, q_Ty11, q_Tn11, by decide +kernel, rfl, fun h => by first | rfl | cases h⟩
theorem f_M_130 : q_F "WallLotteryModel" 130 11 23 2 := ⟨q_N11, q_T11, 37, rfl, by decide, q_in6 (i := 134) rfl rfl, rfl, q_Tw11⟩
theorem fp_M_130 : q_FP "WallLotteryModel" 130 11 23 2 (.array .int) true := ⟨q_N11, q_T11, 37, q_Y11, rfl, by decide, q_in6 (i := 134) rfl rfl, rfl, q_Tw11, q_Ty11, q_Tn11, by decide +kernel, rfl, fun h => by first | rfl | cases h⟩
theorem f_M_133 : q_F "WallLotteryModel" 133 11 24 2 := ⟨q_N11, q_T11, 37, rfl, by decide, q_in6 (i := 135) rfl rfl, rfl, q_Tw11⟩
theorem fp_M_133 : q_FP "WallLotteryModel" 133 11 24 2 (.array .int) true := ⟨q_N11, q_T11, 37, q_Y11, rfl, by decide, q_in6 (i := 135) rfl rfl, rfl, q_Tw11, q_Ty11, q_Tn11, by decide +kernel, rfl, fun h => by first | rfl | cases h⟩
theorem f_M_136 : q_F "WallLotteryModel" 136 11 26 2 := ⟨q_N11, q_T11, 37, rfl, by decide, q_in6 (i := 137) rfl rfl, rfl, q_Tw11⟩
theorem fp_M_136 : q_FP "WallLotteryModel" 136 11 26 2 (.array .boolean) true := ⟨q_N11, q_T11, 37, q_Y11, rfl, by decide, q_in6 (i := 137) rfl rfl, rfl, q_Tw11, q_Ty11, q_Tn11, by decide +kernel, rfl, fun h => by first | rfl | cases h⟩
theorem f_M_140 : q_F "WallLotteryModel" 140 11 27 2 := ⟨q_N11, q_T11, 37, rfl, by decide, q_in6 (i := 138) rfl rfl, rfl, q_Tw11⟩
theorem fp_M_140 : q_FP "WallLotteryModel" 140 11 27 2 (.array .int) true := ⟨q_N11, q_T11, 37, q_Y11, rfl, by decide, q_in6 (i := 138) rfl rfl, rfl, q_Tw11, q_Ty11, q_Tn11, by decide +kernel, rfl, fun h => by first | rfl | cases h⟩
theorem f_M_143 : q_F "WallLotteryModel" 143 11 29 2 := ⟨q_N11, q_T11, 37, rfl, by decide, q_in6 (i := 140) rfl rfl, rfl, q_Tw11⟩
theorem fp_M_143 : q_FP "WallLotteryModel" 143 11 29 2 (.array .int) true := ⟨q_N11, q_T11, 37, q_Y11, rfl, by decide, q_in6 (i := 140) rfl rfl, rfl, q_Tw11, q_Ty11, q_Tn11, by decide +kernel, rfl, fun h => by first | rfl | cases h⟩
theorem f_M_146 : q_F "WallLotteryModel" 146 11 30 2 := ⟨q_N11, q_T11, 37, rfl, by decide, q_in6 (i := 141) rfl rfl, rfl, q_Tw11⟩
theorem fp_M_146 : q_FP "WallLotteryModel" 146 11 30 2 (.array .int) true := ⟨q_N11, q_T11, 37, q_Y11, rfl, by decide, q_in6 (i := 141) rfl rfl, rfl, q_Tw11, q_Ty11, q_Tn11, by decide +kernel, rfl, fun h => by first | rfl | cases h⟩
theorem f_M_149 : q_F "WallLotteryModel" 149 11 32 2 := ⟨q_N11, q_T11, 37, rfl, by decide, q_in6 (i := 143) rfl rfl, rfl, q_Tw11⟩
theorem fp_M_149 : q_FP "WallLotteryModel" 149 11 32 2 (.array .int) true := ⟨q_N11, q_T11, 37, q_Y11, rfl, by decide, q_in6 (i := 143) rfl rfl, rfl, q_Tw11, q_Ty11, q_Tn11, by decide +kernel, rfl, fun h => by first | rfl | cases h⟩
theorem f_M_152 : q_F "WallLotteryModel" 152 11 35 2 := ⟨q_N11, q_T11, 37, rfl, by decide, q_in6 (i := 146) rfl rfl, rfl, q_Tw11⟩
theorem fp_M_152 : q_FP "WallLotteryModel" 152 11 35 2 (.array .int) true := ⟨q_N11, q_T11, 37, q_Y11, rfl, by decide, q_in6 (i := 146) rfl rfl, rfl, q_Tw11, q_Ty11, q_Tn11, by decide +kernel, rfl, fun h => by first | rfl | cases h⟩
theorem k_M_155 : q_CV "WallLotteryModel" 155 X_M_standsAsAlways 1 11 := ⟨cb_M_standsAsAlways, .inl (q_in6 (i := 72) rfl rfl), q_in6 (i := 74) rfl rfl, q_inP3 (i := 8) rfl, q_T11, 37, rfl⟩
theorem k_M_159 : q_CV "WallLotteryModel" 159 X_M_begins 0 11 := ⟨cb_M_begins, .inl (q_in6 (i := 76) rfl rfl), q_in6 (i := 78) rfl rfl, q_inP3 (i := 9) rfl, q_T11, 37, rfl⟩
theorem k_M_162 : q_CS "WallLotteryModel" 162 X_M_isLetter 1 := ⟨cb_M_isLetter, q_in6 (i := 232) rfl rfl, .inl (q_in6 (i := 231) rfl rfl)⟩
theorem f_M_166 : q_F "WallLotteryModel" 166 11 3 0 := ⟨q_N11, q_T11, 37, rfl, by decide, q_in6 (i := 114) rfl rfl, rfl, q_Tw11⟩
theorem fp_M_166 : q_FP "WallLotteryModel" 166 11 3 0 .int false := ⟨q_N11, q_T11, 37, q_Y11, rfl, by decide, q_in6 (i := 114) rfl rfl, rfl, q_Tw11, q_Ty11, q_Tn11, by decide +kernel, rfl, fun h => by first | rfl | cases h⟩
theorem n_M_169 : Cond.constantLong "WallLotteryModel" 169 (37) ∈ q_GT := q_in6 (i := 234) rfl rfl
theorem k_M_171 : q_CS "WallLotteryModel" 171 X_M_rank 1 := ⟨cb_M_rank, q_in6 (i := 236) rfl rfl, .inl (q_in6 (i := 235) rfl rfl)⟩
theorem k_M_175 : q_CS "WallLotteryModel" 175 X_M_isDigit 1 := ⟨cb_M_isDigit, q_in6 (i := 239) rfl rfl, .inl (q_in6 (i := 238) rfl rfl)⟩
theorem n_M_178 : Cond.constantLong "WallLotteryModel" 178 (10) ∈ q_GT := q_in7 (i := 1) rfl rfl
theorem n_M_180 : Cond.constantLong "WallLotteryModel" 180 (48) ∈ q_GT := q_in7 (i := 2) rfl rfl
theorem k_M_182 : q_CS "WallLotteryModel" 182 X_M_isSignOf 1 := ⟨cb_M_isSignOf, q_in7 (i := 4) rfl rfl, .inl (q_in7 (i := 3) rfl rfl)⟩
theorem f_M_185 : q_F "WallLotteryModel" 185 11 7 0 := ⟨q_N11, q_T11, 37, rfl, by decide, q_in6 (i := 118) rfl rfl, rfl, q_Tw11⟩
theorem fp_M_185 : q_FP "WallLotteryModel" 185 11 7 0 .int false := ⟨q_N11, q_T11, 37, q_Y11, rfl, by decide, q_in6 (i := 118) rfl rfl, rfl, q_Tw11, q_Ty11, q_Tn11, by decide +kernel, rfl, fun h => by first | rfl | cases h⟩
theorem f_M_188 : q_F "WallLotteryModel" 188 11 8 0 := ⟨q_N11, q_T11, 37, rfl, by decide, q_in6 (i := 119) rfl rfl, rfl, q_Tw11⟩
theorem fp_M_188 : q_FP "WallLotteryModel" 188 11 8 0 .int false := ⟨q_N11, q_T11, 37, q_Y11, rfl, by decide, q_in6 (i := 119) rfl rfl, rfl, q_Tw11, q_Ty11, q_Tn11, by decide +kernel, rfl, fun h => by first | rfl | cases h⟩
theorem k_M_191 : q_CV "WallLotteryModel" 191 X_M_isSign 1 11 := ⟨cb_M_isSign, .inl (q_in7 (i := 109) rfl rfl), q_in7 (i := 111) rfl rfl, q_inP5 (i := 11) rfl, q_T11, 37, rfl⟩
theorem k_M_194 : q_CV "WallLotteryModel" 194 X_M_wrong 1 11 := ⟨cb_M_wrong, .inl (q_in7 (i := 18) rfl rfl), q_in7 (i := 20) rfl rfl, q_inP4 (i := 5) rfl, q_T11, 37, rfl⟩
theorem k_M_197 : q_CV "WallLotteryModel" 197 X_M_isWord 1 11 := ⟨cb_M_isWord, .inl (q_in7 (i := 10) rfl rfl), q_in7 (i := 12) rfl rfl, q_inP4 (i := 3) rfl, q_T11, 37, rfl⟩
theorem k_M_200 : q_CV "WallLotteryModel" 200 X_M_hasWord 1 11 := ⟨cb_M_hasWord, .inl (q_in7 (i := 73) rfl rfl), q_in7 (i := 75) rfl rfl, q_inP5 (i := 2) rfl, q_T11, 37, rfl⟩
theorem k_M_203 : q_CV "WallLotteryModel" 203 X_M_takeWord 1 11 := ⟨cb_M_takeWord, .inl (q_in7 (i := 69) rfl rfl), q_in7 (i := 71) rfl rfl, q_inP5 (i := 1) rfl, q_T11, 37, rfl⟩
theorem k_M_206 : q_CV "WallLotteryModel" 206 X_M_takeNumber 2 11 := ⟨cb_M_takeNumber, .inl (q_in7 (i := 53) rfl rfl), q_in7 (i := 55) rfl rfl, q_inP4 (i := 13) rfl, q_T11, 37, rfl⟩
theorem k_M_210 : q_CV "WallLotteryModel" 210 X_M_wordHere 2 11 := ⟨cb_M_wordHere, .inl (q_in7 (i := 30) rfl rfl), q_in7 (i := 32) rfl rfl, q_inP4 (i := 8) rfl, q_T11, 37, rfl⟩
theorem f_M_213 : q_F "WallLotteryModel" 213 11 19 0 := ⟨q_N11, q_T11, 37, rfl, by decide, q_in6 (i := 130) rfl rfl, rfl, q_Tw11⟩
theorem f_M_216 : q_F "WallLotteryModel" 216 11 18 0 := ⟨q_N11, q_T11, 37, rfl, by decide, q_in6 (i := 129) rfl rfl, rfl, q_Tw11⟩
theorem k_M_219 : q_CV "WallLotteryModel" 219 X_M_isName 0 11 := ⟨cb_M_isName, .inl (q_in7 (i := 26) rfl rfl), q_in7 (i := 28) rfl rfl, q_inP4 (i := 7) rfl, q_T11, 37, rfl⟩
theorem k_M_223 : q_CV "WallLotteryModel" 223 X_M_find 1 11 := ⟨cb_M_find, .inl (q_in7 (i := 34) rfl rfl), q_in7 (i := 36) rfl rfl, q_inP4 (i := 9) rfl, q_T11, 37, rfl⟩
theorem k_M_227 : q_CS "WallLotteryModel" 227 X_M_within 3 := ⟨cb_M_within, q_in7 (i := 51) rfl rfl, .inl (q_in7 (i := 50) rfl rfl)⟩
theorem k_M_231 : q_CV "WallLotteryModel" 231 X_M_toldHere 2 11 := ⟨cb_M_toldHere, .inl (q_in7 (i := 46) rfl rfl), q_in7 (i := 48) rfl rfl, q_inP4 (i := 12) rfl, q_T11, 37, rfl⟩
theorem k_M_235 : q_CV "WallLotteryModel" 235 X_M_cutAll 0 11 := ⟨cb_M_cutAll, .inl (q_in6 (i := 227) rfl rfl), q_in6 (i := 229) rfl rfl, q_inP4 (i := 1) rfl, q_T11, 37, rfl⟩
theorem f_M_238 : q_F "WallLotteryModel" 238 11 13 0 := ⟨q_N11, q_T11, 37, rfl, by decide, q_in6 (i := 124) rfl rfl, rfl, q_Tw11⟩
theorem fp_M_238 : q_FP "WallLotteryModel" 238 11 13 0 .int false := ⟨q_N11, q_T11, 37, q_Y11, rfl, by decide, q_in6 (i := 124) rfl rfl, rfl, q_Tw11, q_Ty11, q_Tn11, by decide +kernel, rfl, fun h => by first | rfl | cases h⟩
theorem fp_M_213 : q_FP "WallLotteryModel" 213 11 19 0 .int false := ⟨q_N11, q_T11, 37, q_Y11, rfl, by decide, q_in6 (i := 130) rfl rfl, rfl, q_Tw11, q_Ty11, q_Tn11, by decide +kernel, rfl, fun h => by first | rfl | cases h⟩
theorem k_M_241 : q_CV "WallLotteryModel" 241 X_M_readLine 0 11 := ⟨cb_M_readLine, .inl (q_in7 (i := 6) rfl rfl), q_in7 (i := 8) rfl rfl, q_inP4 (i := 2) rfl, q_T11, 37, rfl⟩
theorem k_M_244 : q_CV "WallLotteryModel" 244 X_M_takeSign 1 11 := ⟨cb_M_takeSign, .inl (q_in7 (i := 121) rfl rfl), q_in7 (i := 123) rfl rfl, q_inP5 (i := 14) rfl, q_T11, 37, rfl⟩
theorem fp_M_216 : q_FP "WallLotteryModel" 216 11 18 0 .int false := ⟨q_N11, q_T11, 37, q_Y11, rfl, by decide, q_in6 (i := 129) rfl rfl, rfl, q_Tw11, q_Ty11, q_Tn11, by decide +kernel, rfl, fun h => by first | rfl | cases h⟩
theorem k_M_247 : q_CV "WallLotteryModel" 247 X_M_readHouse 0 11 := ⟨cb_M_readHouse, .inl (q_in7 (i := 14) rfl rfl), q_in7 (i := 16) rfl rfl, q_inP4 (i := 4) rfl, q_T11, 37, rfl⟩
theorem k_M_250 : q_CV "WallLotteryModel" 250 X_M_readWall 0 11 := ⟨cb_M_readWall, .inl (q_in7 (i := 38) rfl rfl), q_in7 (i := 40) rfl rfl, q_inP4 (i := 10) rfl, q_T11, 37, rfl⟩
theorem k_M_253 : q_CV "WallLotteryModel" 253 X_M_readFamily 0 11 := ⟨cb_M_readFamily, .inl (q_in7 (i := 57) rfl rfl), q_in7 (i := 59) rfl rfl, q_inP4 (i := 14) rfl, q_T11, 37, rfl⟩
theorem k_M_256 : q_CV "WallLotteryModel" 256 X_M_readLiking 1 11 := ⟨cb_M_readLiking, .inl (q_in7 (i := 77) rfl rfl), q_in7 (i := 79) rfl rfl, q_inP5 (i := 3) rfl, q_T11, 37, rfl⟩
theorem k_M_259 : q_CV "WallLotteryModel" 259 X_M_readCustom 1 11 := ⟨cb_M_readCustom, .inl (q_in7 (i := 81) rfl rfl), q_in7 (i := 83) rfl rfl, q_inP5 (i := 4) rfl, q_T11, 37, rfl⟩
theorem k_M_262 : q_CV "WallLotteryModel" 262 X_M_readLaw 0 11 := ⟨cb_M_readLaw, .inl (q_in7 (i := 85) rfl rfl), q_in7 (i := 87) rfl rfl, q_inP5 (i := 5) rfl, q_T11, 37, rfl⟩
theorem k_M_265 : q_CV "WallLotteryModel" 265 X_M_readName 1 11 := ⟨cb_M_readName, .inl (q_in7 (i := 22) rfl rfl), q_in7 (i := 24) rfl rfl, q_inP4 (i := 6) rfl, q_T11, 37, rfl⟩
theorem k_M_268 : q_CV "WallLotteryModel" 268 X_M_takeTold 2 11 := ⟨cb_M_takeTold, .inl (q_in7 (i := 42) rfl rfl), q_in7 (i := 44) rfl rfl, q_inP4 (i := 11) rfl, q_T11, 37, rfl⟩
theorem k_M_271 : q_CV "WallLotteryModel" 271 X_M_takeOne 2 11 := ⟨cb_M_takeOne, .inl (q_in7 (i := 61) rfl rfl), q_in7 (i := 63) rfl rfl, q_inP4 (i := 15) rfl, q_T11, 37, rfl⟩
theorem k_M_274 : q_CV "WallLotteryModel" 274 X_M_takeAfter 3 11 := ⟨cb_M_takeAfter, .inl (q_in7 (i := 65) rfl rfl), q_in7 (i := 67) rfl rfl, q_inP5 (i := 0) rfl, q_T11, 37, rfl⟩
theorem f_M_278 : q_F "WallLotteryModel" 278 11 20 0 := ⟨q_N11, q_T11, 37, rfl, by decide, q_in6 (i := 131) rfl rfl, rfl, q_Tw11⟩
theorem fp_M_278 : q_FP "WallLotteryModel" 278 11 20 0 .int false := ⟨q_N11, q_T11, 37, q_Y11, rfl, by decide, q_in6 (i := 131) rfl rfl, rfl, q_Tw11, q_Ty11, q_Tn11, by decide +kernel, rfl, fun h => by first | rfl | cases h⟩
theorem k_M_281 : q_CV "WallLotteryModel" 281 X_M_all 1 11 := ⟨cb_M_all, .inl (q_in7 (i := 89) rfl rfl), q_in7 (i := 91) rfl rfl, q_inP5 (i := 6) rfl, q_T11, 37, rfl⟩
theorem k_M_284 : q_CV "WallLotteryModel" 284 X_M_emit 2 11 := ⟨cb_M_emit, .inl (q_in7 (i := 113) rfl rfl), q_in7 (i := 115) rfl rfl, q_inP5 (i := 12) rfl, q_T11, 37, rfl⟩
theorem k_M_288 : q_CV "WallLotteryModel" 288 X_M_readDay 2 11 := ⟨cb_M_readDay, .inl (q_in7 (i := 129) rfl rfl), q_in7 (i := 131) rfl rfl, q_inP5 (i := 15) rfl, q_T11, 37, rfl⟩
theorem k_M_291 : q_CV "WallLotteryModel" 291 X_M_test 1 11 := ⟨cb_M_test, .inl (q_in7 (i := 93) rfl rfl), q_in7 (i := 95) rfl rfl, q_inP5 (i := 7) rfl, q_T11, 37, rfl⟩
theorem k_M_294 : q_CV "WallLotteryModel" 294 X_M_sums 1 11 := ⟨cb_M_sums, .inl (q_in7 (i := 97) rfl rfl), q_in7 (i := 99) rfl rfl, q_inP5 (i := 8) rfl, q_T11, 37, rfl⟩
theorem k_M_297 : q_CV "WallLotteryModel" 297 X_M_hasSign 1 11 := ⟨cb_M_hasSign, .inl (q_in7 (i := 117) rfl rfl), q_in7 (i := 119) rfl rfl, q_inP5 (i := 13) rfl, q_T11, 37, rfl⟩
theorem k_M_300 : q_CV "WallLotteryModel" 300 X_M_products 1 11 := ⟨cb_M_products, .inl (q_in7 (i := 101) rfl rfl), q_in7 (i := 103) rfl rfl, q_inP5 (i := 9) rfl, q_T11, 37, rfl⟩
theorem k_M_303 : q_CV "WallLotteryModel" 303 X_M_takePart 1 11 := ⟨cb_M_takePart, .inl (q_in7 (i := 105) rfl rfl), q_in7 (i := 107) rfl rfl, q_inP5 (i := 10) rfl, q_T11, 37, rfl⟩
theorem k_M_306 : q_CS "WallLotteryModel" 306 X_M_both 3 := ⟨cb_M_both, q_in6 (i := 105) rfl rfl, .inl (q_in6 (i := 104) rfl rfl)⟩
theorem k_M_309 : q_CV "WallLotteryModel" 309 X_M_families 0 11 := ⟨cb_M_families, .inl (q_in6 (i := 84) rfl rfl), q_in6 (i := 86) rfl rfl, q_inP3 (i := 11) rfl, q_T11, 37, rfl⟩
theorem k_M_313 : q_CV "WallLotteryModel" 313 X_M_familyOf 2 11 := ⟨cb_M_familyOf, .inl (q_in6 (i := 92) rfl rfl), q_in6 (i := 94) rfl rfl, q_inP3 (i := 13) rfl, q_T11, 37, rfl⟩
theorem k_M_316 : q_CV "WallLotteryModel" 316 X_M_laysNoises 0 11 := ⟨cb_M_laysNoises, .inl (q_in6 (i := 80) rfl rfl), q_in6 (i := 82) rfl rfl, q_inP3 (i := 10) rfl, q_T11, 37, rfl⟩
theorem k_M_319 : q_CV "WallLotteryModel" 319 X_M_starts 1 11 := ⟨cb_M_starts, .inl (q_in6 (i := 107) rfl rfl), q_in6 (i := 109) rfl rfl, q_inP4 (i := 0) rfl, q_T11, 37, rfl⟩
theorem f_M_322 : q_F "WallLotteryModel" 322 11 25 0 := ⟨q_N11, q_T11, 37, rfl, by decide, q_in6 (i := 136) rfl rfl, rfl, q_Tw11⟩
theorem fp_M_322 : q_FP "WallLotteryModel" 322 11 25 0 .int false := ⟨q_N11, q_T11, 37, q_Y11, rfl, by decide, q_in6 (i := 136) rfl rfl, rfl, q_Tw11, q_Ty11, q_Tn11, by decide +kernel, rfl, fun h => by first | rfl | cases h⟩
theorem k_M_325 : q_CV "WallLotteryModel" 325 X_M_copies 3 11 := ⟨cb_M_copies, .inl (q_in7 (i := 197) rfl rfl), q_in7 (i := 199) rfl rfl, q_inP6 (i := 10) rfl, q_T11, 37, rfl⟩
theorem k_M_329 : q_CV "WallLotteryModel" 329 X_M_houses 0 11 := ⟨cb_M_houses, .inl (q_in7 (i := 141) rfl rfl), q_in7 (i := 143) rfl rfl, q_inP6 (i := 1) rfl, q_T11, 37, rfl⟩
theorem k_M_332 : q_CV "WallLotteryModel" 332 X_M_isFamily 1 11 := ⟨cb_M_isFamily, .inl (q_in7 (i := 153) rfl rfl), q_in7 (i := 155) rfl rfl, q_inP6 (i := 2) rfl, q_T11, 37, rfl⟩
theorem k_M_335 : q_CV "WallLotteryModel" 335 X_M_loudOf 1 11 := ⟨cb_M_loudOf, .inl (q_in6 (i := 88) rfl rfl), q_in6 (i := 90) rfl rfl, q_inP3 (i := 12) rfl, q_T11, 37, rfl⟩
theorem k_M_338 : q_CV "WallLotteryModel" 338 X_M_hearingOf 1 11 := ⟨cb_M_hearingOf, .inl (q_in6 (i := 96) rfl rfl), q_in6 (i := 98) rfl rfl, q_inP3 (i := 14) rfl, q_T11, 37, rfl⟩
theorem k_M_341 : q_CV "WallLotteryModel" 341 X_M_worthAt 1 11 := ⟨cb_M_worthAt, .inl (q_in6 (i := 100) rfl rfl), q_in6 (i := 102) rfl rfl, q_inP3 (i := 15) rfl, q_T11, 37, rfl⟩
theorem k_M_344 : q_CV "WallLotteryModel" 344 X_M_wallBy 3 11 := ⟨cb_M_wallBy, .inl (q_in7 (i := 161) rfl rfl), q_in7 (i := 163) rfl rfl, q_inP6 (i := 4) rfl, q_T11, 37, rfl⟩
theorem k_M_347 : q_CV "WallLotteryModel" 347 X_M_likes 2 11 := ⟨cb_M_likes, .inl (q_in7 (i := 173) rfl rfl), q_in7 (i := 175) rfl rfl, q_inP6 (i := 7) rfl, q_T11, 37, rfl⟩
theorem k_M_350 : q_CV "WallLotteryModel" 350 X_M_feltBy 2 11 := ⟨cb_M_feltBy, .inl (q_in7 (i := 165) rfl rfl), q_in7 (i := 167) rfl rfl, q_inP6 (i := 5) rfl, q_T11, 37, rfl⟩
theorem k_M_353 : q_CV "WallLotteryModel" 353 X_M_joyBy 2 11 := ⟨cb_M_joyBy, .inl (q_in7 (i := 169) rfl rfl), q_in7 (i := 171) rfl rfl, q_inP6 (i := 6) rfl, q_T11, 37, rfl⟩
theorem k_M_356 : q_CV "WallLotteryModel" 356 X_M_isHouse 1 11 := ⟨cb_M_isHouse, .inl (q_in7 (i := 137) rfl rfl), q_in7 (i := 139) rfl rfl, q_inP6 (i := 0) rfl, q_T11, 37, rfl⟩
theorem k_M_359 : q_CV "WallLotteryModel" 359 X_M_nearOf 1 11 := ⟨cb_M_nearOf, .inl (q_in7 (i := 157) rfl rfl), q_in7 (i := 159) rfl rfl, q_inP6 (i := 3) rfl, q_T11, 37, rfl⟩
theorem k_M_362 : q_CV "WallLotteryModel" 362 X_M_areTwo 2 11 := ⟨cb_M_areTwo, .inl (q_in7 (i := 185) rfl rfl), q_in7 (i := 187) rfl rfl, q_inP6 (i := 8) rfl, q_T11, 37, rfl⟩
theorem f_M_366 : q_F "WallLotteryModel" 366 11 28 1 := ⟨q_N11, q_T11, 37, rfl, by decide, q_in6 (i := 139) rfl rfl, rfl, q_Tw11⟩
theorem n_M_370 : Cond.constantLong "WallLotteryModel" 370 (1103515245) ∈ q_GT := q_in7 (i := 213) rfl rfl
theorem n_M_372 : Cond.constantLong "WallLotteryModel" 372 (12345) ∈ q_GT := q_in7 (i := 214) rfl rfl
theorem n_M_374 : Cond.constantLong "WallLotteryModel" 374 (2147483648) ∈ q_GT := q_in7 (i := 215) rfl rfl
theorem fp_M_366 : q_FP "WallLotteryModel" 366 11 28 1 .long false := ⟨q_N11, q_T11, 37, q_Y11, rfl, by decide, q_in6 (i := 139) rfl rfl, rfl, q_Tw11, q_Ty11, q_Tn11, by decide +kernel, rfl, fun h => by first | rfl | cases h⟩
theorem n_M_376 : Cond.constantLong "WallLotteryModel" 376 (65536) ∈ q_GT := q_in7 (i := 216) rfl rfl
theorem k_M_378 : q_CV "WallLotteryModel" 378 X_M_lapses 3 11 := ⟨cb_M_lapses, .inl (q_in7 (i := 205) rfl rfl), q_in7 (i := 207) rfl rfl, q_inP6 (i := 12) rfl, q_T11, 37, rfl⟩
theorem k_M_381 : q_CV "WallLotteryModel" 381 X_M_drawBelow 1 11 := ⟨cb_M_drawBelow, .inl (q_in7 (i := 209) rfl rfl), q_in7 (i := 211) rfl rfl, q_inP6 (i := 13) rfl, q_T11, 37, rfl⟩
theorem k_M_384 : q_CV "WallLotteryModel" 384 X_M_keeps 0 11 := ⟨cb_M_keeps, .inl (q_in7 (i := 193) rfl rfl), q_in7 (i := 195) rfl rfl, q_inP6 (i := 9) rfl, q_T11, 37, rfl⟩
theorem k_M_387 : q_CV "WallLotteryModel" 387 X_M_draws 1 11 := ⟨cb_M_draws, .inl (q_in7 (i := 201) rfl rfl), q_in7 (i := 203) rfl rfl, q_inP6 (i := 11) rfl, q_T11, 37, rfl⟩
theorem k_M_390 : q_CV "WallLotteryModel" 390 X_M_swaps 3 11 := ⟨cb_M_swaps, .inl (q_in7 (i := 221) rfl rfl), q_in7 (i := 223) rfl rfl, q_inP6 (i := 14) rfl, q_T11, 37, rfl⟩
theorem k_M_393 : q_CV "WallLotteryModel" 393 X_M_moves 4 11 := ⟨cb_M_moves, .inl (q_in7 (i := 237) rfl rfl), q_in7 (i := 239) rfl rfl, q_inP7 (i := 1) rfl, q_T11, 37, rfl⟩
theorem k_M_397 : q_CV "WallLotteryModel" 397 X_M_mayLend 4 11 := ⟨cb_M_mayLend, .inl (q_in7 (i := 229) rfl rfl), q_in7 (i := 231) rfl rfl, q_inP6 (i := 15) rfl, q_T11, 37, rfl⟩
theorem k_M_401 : q_CV "WallLotteryModel" 401 X_M_lends 4 11 := ⟨cb_M_lends, .inl (q_in7 (i := 233) rfl rfl), q_in7 (i := 235) rfl rfl, q_inP7 (i := 0) rfl, q_T11, 37, rfl⟩
theorem k_M_404 : q_CV "WallLotteryModel" 404 X_M_mayPay 4 11 := ⟨cb_M_mayPay, .inl (q_in8 (i := 5) rfl rfl), q_in8 (i := 7) rfl rfl, q_inP7 (i := 2) rfl, q_T11, 37, rfl⟩
theorem k_M_407 : q_CV "WallLotteryModel" 407 X_M_pays 4 11 := ⟨cb_M_pays, .inl (q_in8 (i := 9) rfl rfl), q_in8 (i := 11) rfl rfl, q_inP7 (i := 3) rfl, q_T11, 37, rfl⟩
theorem k_M_410 : q_CV "WallLotteryModel" 410 X_M_does 1 11 := ⟨cb_M_does, .inl (q_in8 (i := 21) rfl rfl), q_in8 (i := 23) rfl rfl, q_inP7 (i := 4) rfl, q_T11, 37, rfl⟩
theorem k_M_413 : q_CV "WallLotteryModel" 413 X_M_brokenBy 1 11 := ⟨cb_M_brokenBy, .inl (q_in8 (i := 25) rfl rfl), q_in8 (i := 27) rfl rfl, q_inP7 (i := 5) rfl, q_T11, 37, rfl⟩
theorem f_M_416 : q_F "WallLotteryModel" 416 11 31 0 := ⟨q_N11, q_T11, 37, rfl, by decide, q_in6 (i := 142) rfl rfl, rfl, q_Tw11⟩
theorem fp_M_416 : q_FP "WallLotteryModel" 416 11 31 0 .int false := ⟨q_N11, q_T11, 37, q_Y11, rfl, by decide, q_in6 (i := 142) rfl rfl, rfl, q_Tw11, q_Ty11, q_Tn11, by decide +kernel, rfl, fun h => by first | rfl | cases h⟩
theorem k_M_419 : q_CV "WallLotteryModel" 419 X_M_lives 2 11 := ⟨cb_M_lives, .inl (q_in8 (i := 41) rfl rfl), q_in8 (i := 43) rfl rfl, q_inP7 (i := 7) rfl, q_T11, 37, rfl⟩
theorem k_M_422 : q_CV "WallLotteryModel" 422 X_M_laysWay 1 11 := ⟨cb_M_laysWay, .inl (q_in8 (i := 49) rfl rfl), q_in8 (i := 51) rfl rfl, q_inP7 (i := 9) rfl, q_T11, 37, rfl⟩
theorem k_M_425 : q_CV "WallLotteryModel" 425 X_M_findWays 0 11 := ⟨cb_M_findWays, .inl (q_in8 (i := 37) rfl rfl), q_in8 (i := 39) rfl rfl, q_inP7 (i := 6) rfl, q_T11, 37, rfl⟩
theorem k_M_428 : q_CV "WallLotteryModel" 428 X_M_waysNear 2 11 := ⟨cb_M_waysNear, .inl (q_in8 (i := 45) rfl rfl), q_in8 (i := 47) rfl rfl, q_inP7 (i := 8) rfl, q_T11, 37, rfl⟩
theorem n_M_431 : Cond.constantLong "WallLotteryModel" 431 (1000000) ∈ q_GT := q_in8 (i := 53) rfl rfl
theorem n_M_433 : Cond.constantLong "WallLotteryModel" 433 (1000) ∈ q_GT := q_in8 (i := 62) rfl rfl
theorem k_M_435 : q_CV "WallLotteryModel" 435 X_M_whoLives 2 11 := ⟨cb_M_whoLives, .inl (q_in8 (i := 71) rfl rfl), q_in8 (i := 73) rfl rfl, q_inP7 (i := 11) rfl, q_T11, 37, rfl⟩
theorem f_M_438 : q_F "WallLotteryModel" 438 11 33 0 := ⟨q_N11, q_T11, 37, rfl, by decide, q_in6 (i := 144) rfl rfl, rfl, q_Tw11⟩
theorem fp_M_438 : q_FP "WallLotteryModel" 438 11 33 0 .int false := ⟨q_N11, q_T11, 37, q_Y11, rfl, by decide, q_in6 (i := 144) rfl rfl, rfl, q_Tw11, q_Ty11, q_Tn11, by decide +kernel, rfl, fun h => by first | rfl | cases h⟩
theorem f_M_441 : q_F "WallLotteryModel" 441 11 34 0 := ⟨q_N11, q_T11, 37, rfl, by decide, q_in6 (i := 145) rfl rfl, rfl, q_Tw11⟩
theorem fp_M_441 : q_FP "WallLotteryModel" 441 11 34 0 .int false := ⟨q_N11, q_T11, 37, q_Y11, rfl, by decide, q_in6 (i := 145) rfl rfl, rfl, q_Tw11, q_Ty11, q_Tn11, by decide +kernel, rfl, fun h => by first | rfl | cases h⟩
theorem k_M_444 : q_CV "WallLotteryModel" 444 X_M_swapsTo 0 11 := ⟨cb_M_swapsTo, .inl (q_in8 (i := 67) rfl rfl), q_in8 (i := 69) rfl rfl, q_inP7 (i := 10) rfl, q_T11, 37, rfl⟩
theorem k_M_447 : q_CV "WallLotteryModel" 447 X_M_takesWay 2 11 := ⟨cb_M_takesWay, .inl (q_in8 (i := 75) rfl rfl), q_in8 (i := 77) rfl rfl, q_inP7 (i := 12) rfl, q_T11, 37, rfl⟩
theorem k_M_450 : q_CV "WallLotteryModel" 450 X_M_contentBy 1 11 := ⟨cb_M_contentBy, .inl (q_in8 (i := 83) rfl rfl), q_in8 (i := 85) rfl rfl, q_inP7 (i := 13) rfl, q_T11, 37, rfl⟩
theorem k_M_453 : q_CV "WallLotteryModel" 453 X_M_getsBy 4 11 := ⟨cb_M_getsBy, .inl (q_in8 (i := 95) rfl rfl), q_in8 (i := 97) rfl rfl, q_inP7 (i := 14) rfl, q_T11, 37, rfl⟩
theorem f_M_457 : q_F "WallLotteryModel" 457 11 36 0 := ⟨q_N11, q_T11, 37, rfl, by decide, q_in6 (i := 147) rfl rfl, rfl, q_Tw11⟩
theorem fp_M_457 : q_FP "WallLotteryModel" 457 11 36 0 .int false := ⟨q_N11, q_T11, 37, q_Y11, rfl, by decide, q_in6 (i := 147) rfl rfl, rfl, q_Tw11, q_Ty11, q_Tn11, by decide +kernel, rfl, fun h => by first | rfl | cases h⟩
theorem k_M_460 : q_CV "WallLotteryModel" 460 X_M_isAsTold 0 11 := ⟨cb_M_isAsTold, .inl (q_in8 (i := 111) rfl rfl), q_in8 (i := 113) rfl rfl, q_inP8 (i := 0) rfl, q_T11, 37, rfl⟩
theorem k_M_463 : q_CV "WallLotteryModel" 463 X_M_countsNear 0 11 := ⟨cb_M_countsNear, .inl (q_in8 (i := 115) rfl rfl), q_in8 (i := 117) rfl rfl, q_inP8 (i := 1) rfl, q_T11, 37, rfl⟩
theorem k_M_466 : q_CV "WallLotteryModel" 466 X_M_findFitting 0 11 := ⟨cb_M_findFitting, .inl (q_in8 (i := 107) rfl rfl), q_in8 (i := 109) rfl rfl, q_inP7 (i := 15) rfl, q_T11, 37, rfl⟩
theorem k_M_469 : q_CV "WallLotteryModel" 469 X_M_drawsYears 0 11 := ⟨cb_M_drawsYears, .inl (q_in8 (i := 139) rfl rfl), q_in8 (i := 141) rfl rfl, q_inP8 (i := 2) rfl, q_T11, 37, rfl⟩
theorem k_M_472 : q_CS "WallLotteryModel" 472 X_M_bits 1 := ⟨cb_M_bits, q_in8 (i := 144) rfl rfl, .inl (q_in8 (i := 143) rfl rfl)⟩
theorem k_M_475 : q_CV "WallLotteryModel" 475 X_M_coinsOfAll 0 11 := ⟨cb_M_coinsOfAll, .inl (q_in8 (i := 154) rfl rfl), q_in8 (i := 156) rfl rfl, q_inP8 (i := 3) rfl, q_T11, 37, rfl⟩
theorem k_M_478 : q_CV "WallLotteryModel" 478 X_M_debtsOfAll 0 11 := ⟨cb_M_debtsOfAll, .inl (q_in8 (i := 158) rfl rfl), q_in8 (i := 160) rfl rfl, q_inP8 (i := 4) rfl, q_T11, 37, rfl⟩
theorem k_JS_335 : q_CW "java/lang/String" 335 X_JS_coder 0 := ⟨cb_JS_coder, q_in3 (i := 19) rfl rfl, q_in3 (i := 20) rfl rfl, q_in3 (i := 21) rfl rfl⟩
theorem k_JS_633 : q_CW "java/lang/String" 633 X_JS_indexOf_5 2 := ⟨cb_JS_indexOf_5, q_in3 (i := 5) rfl rfl, q_in3 (i := 6) rfl rfl, q_in3 (i := 7) rfl rfl⟩
theorem k_JS_492 : q_CW "java/lang/String" 492 X_JS_isLatin1 0 := ⟨cb_JS_isLatin1, q_in3 (i := 9) rfl rfl, q_in3 (i := 10) rfl rfl, q_in3 (i := 11) rfl rfl⟩
theorem k_JS_505 : q_CW "java/lang/String" 505 X_JS_length 0 := ⟨cb_JS_length, q_in3 (i := 15) rfl rfl, q_in3 (i := 16) rfl rfl, q_in3 (i := 17) rfl rfl⟩
theorem k_JS_637 : q_CS "java/lang/String" 637 X_JL_indexOf 4 := ⟨cb_JL_indexOf, q_in3 (i := 24) rfl rfl, .inl (q_in3 (i := 23) rfl rfl)⟩
theorem s_JS_38 : Cond.fieldLink "java/lang/String" 38 "java/lang/String" "COMPACT_STRINGS" "Z" ∈ q_GT ∨ ∃ host, Cond.fieldLinkNest "java/lang/String" 38 "java/lang/String" "COMPACT_STRINGS" "Z" host ∈ q_nest := .inl (q_in3 (i := 13) rfl rfl)
theorem s_JS_1053 : Cond.fieldLink "java/lang/String" 1053 "jdk/internal/util/Preconditions" "SIOOBE_FORMATTER" "Ljava/util/function/BiFunction;" ∈ q_GT ∨ ∃ host, Cond.fieldLinkNest "java/lang/String" 1053 "jdk/internal/util/Preconditions" "SIOOBE_FORMATTER" "Ljava/util/function/BiFunction;" host ∈ q_nest := .inl (q_in3 (i := 56) rfl rfl)
theorem k_JL_88 : q_CS "java/lang/StringLatin1" 88 X_JL_canEncode 1 := ⟨cb_JL_canEncode, q_in3 (i := 27) rfl rfl, .inl (q_in3 (i := 26) rfl rfl)⟩
theorem k_JL_92 : Cond.methodLink "java/lang/StringLatin1" 92 Lib.Math.max.name ∈ q_GT := q_in3 (i := 29) rfl rfl
theorem k_JL_38 : Cond.methodLink "java/lang/StringLatin1" 38 Lib.Math.min.name ∈ q_GT := q_in3 (i := 32) rfl rfl
theorem k_JL_95 : q_CS "java/lang/StringLatin1" 95 X_JL_indexOfChar 4 := ⟨cb_JL_indexOfChar, q_in3 (i := 36) rfl rfl, .inl (q_in3 (i := 35) rfl rfl)⟩
theorem kp_L_7 : q_CP "WallLotteryLaw" 7 X_W_joy 1 10 := ⟨cb_W_joy, q_in5 (i := 164) rfl rfl, q_in5 (i := 165) rfl rfl, q_in5 (i := 166) rfl rfl, q_T10, 18, rfl⟩
theorem k_L_7 : q_CV "WallLotteryLaw" 7 X_W_joy 1 10 := ⟨cb_W_joy, .inl (q_in5 (i := 164) rfl rfl), q_in5 (i := 165) rfl rfl, q_in5 (i := 166) rfl rfl, q_T10, 18, rfl⟩
theorem kp_L_15 : q_CP "WallLotteryLaw" 15 X_W_hope 1 10 := ⟨cb_W_hope, q_in5 (i := 232) rfl rfl, q_in5 (i := 233) rfl rfl, q_in5 (i := 234) rfl rfl, q_T10, 18, rfl⟩
theorem k_L_15 : q_CV "WallLotteryLaw" 15 X_W_hope 1 10 := ⟨cb_W_hope, .inl (q_in5 (i := 232) rfl rfl), q_in5 (i := 233) rfl rfl, q_in5 (i := 234) rfl rfl, q_T10, 18, rfl⟩
theorem kp_L_18 : q_CP "WallLotteryLaw" 18 X_W_rests 3 10 := ⟨cb_W_rests, q_in6 (i := 0) rfl rfl, q_in6 (i := 1) rfl rfl, q_in6 (i := 2) rfl rfl, q_T10, 18, rfl⟩
theorem k_L_18 : q_CV "WallLotteryLaw" 18 X_W_rests 3 10 := ⟨cb_W_rests, .inl (q_in6 (i := 0) rfl rfl), q_in6 (i := 1) rfl rfl, q_in6 (i := 2) rfl rfl, q_T10, 18, rfl⟩
theorem kp_L_22 : q_CP "WallLotteryLaw" 22 X_W_gains 1 10 := ⟨cb_W_gains, q_in6 (i := 16) rfl rfl, q_in6 (i := 17) rfl rfl, q_in6 (i := 18) rfl rfl, q_T10, 18, rfl⟩
theorem k_L_22 : q_CV "WallLotteryLaw" 22 X_W_gains 1 10 := ⟨cb_W_gains, .inl (q_in6 (i := 16) rfl rfl), q_in6 (i := 17) rfl rfl, q_in6 (i := 18) rfl rfl, q_T10, 18, rfl⟩
theorem k_L_25 : q_CI "WallLotteryLaw" 25 X_W_init 0 := ⟨cb_W_init, rfl, rfl, q_in1 (i := 31) rfl rfl, .inl (q_in1 (i := 30) rfl rfl)⟩
theorem k_L_28 : q_CI "WallLotteryLaw" 28 X_M_init 0 := ⟨cb_M_init, rfl, rfl, q_in6 (i := 36) rfl rfl, .inl (q_in6 (i := 35) rfl rfl)⟩
theorem n_L_29 : Cond.constantLong "WallLotteryLaw" 29 (4294967295) ∈ q_GT := q_in8 (i := 162) rfl rfl
theorem kp_L_31 : q_CP "WallLotteryLaw" 31 X_W_feed 3 10 := ⟨cb_W_feed, q_in2 (i := 179) rfl rfl, q_in2 (i := 180) rfl rfl, q_in2 (i := 181) rfl rfl, q_T10, 18, rfl⟩
theorem k_L_31 : q_CV "WallLotteryLaw" 31 X_W_feed 3 10 := ⟨cb_W_feed, .inl (q_in2 (i := 179) rfl rfl), q_in2 (i := 180) rfl rfl, q_in2 (i := 181) rfl rfl, q_T10, 18, rfl⟩
theorem kp_L_35 : q_CP "WallLotteryLaw" 35 X_M_feed 3 11 := ⟨cb_M_feed, q_in6 (i := 25) rfl rfl, q_in6 (i := 26) rfl rfl, q_in6 (i := 27) rfl rfl, q_T11, 37, rfl⟩
theorem k_L_35 : q_CV "WallLotteryLaw" 35 X_M_feed 3 11 := ⟨cb_M_feed, .inl (q_in6 (i := 25) rfl rfl), q_in6 (i := 26) rfl rfl, q_in6 (i := 27) rfl rfl, q_T11, 37, rfl⟩
theorem kp_L_36 : q_CP "WallLotteryLaw" 36 X_W_town 0 10 := ⟨cb_W_town, q_in2 (i := 191) rfl rfl, q_in2 (i := 192) rfl rfl, q_in2 (i := 193) rfl rfl, q_T10, 18, rfl⟩
theorem k_L_36 : q_CV "WallLotteryLaw" 36 X_W_town 0 10 := ⟨cb_W_town, .inl (q_in2 (i := 191) rfl rfl), q_in2 (i := 192) rfl rfl, q_in2 (i := 193) rfl rfl, q_T10, 18, rfl⟩
theorem kp_L_40 : q_CP "WallLotteryLaw" 40 X_M_town 0 11 := ⟨cb_M_town, q_in6 (i := 223) rfl rfl, q_in6 (i := 224) rfl rfl, q_in6 (i := 225) rfl rfl, q_T11, 37, rfl⟩
theorem k_L_40 : q_CV "WallLotteryLaw" 40 X_M_town 0 11 := ⟨cb_M_town, .inl (q_in6 (i := 223) rfl rfl), q_in6 (i := 224) rfl rfl, q_in6 (i := 225) rfl rfl, q_T11, 37, rfl⟩
theorem kp_L_41 : q_CP "WallLotteryLaw" 41 X_W_days 0 10 := ⟨cb_W_days, q_in4 (i := 52) rfl rfl, q_in4 (i := 53) rfl rfl, q_in4 (i := 54) rfl rfl, q_T10, 18, rfl⟩
theorem k_L_41 : q_CV "WallLotteryLaw" 41 X_W_days 0 10 := ⟨cb_W_days, .inl (q_in4 (i := 52) rfl rfl), q_in4 (i := 53) rfl rfl, q_in4 (i := 54) rfl rfl, q_T10, 18, rfl⟩
theorem kp_L_44 : q_CP "WallLotteryLaw" 44 X_M_days 0 11 := ⟨cb_M_days, q_in7 (i := 125) rfl rfl, q_in7 (i := 126) rfl rfl, q_in7 (i := 127) rfl rfl, q_T11, 37, rfl⟩
theorem k_L_44 : q_CV "WallLotteryLaw" 44 X_M_days 0 11 := ⟨cb_M_days, .inl (q_in7 (i := 125) rfl rfl), q_in7 (i := 126) rfl rfl, q_in7 (i := 127) rfl rfl, q_T11, 37, rfl⟩
theorem kp_L_45 : q_CP "WallLotteryLaw" 45 X_W_house 1 10 := ⟨cb_W_house, q_in4 (i := 72) rfl rfl, q_in4 (i := 73) rfl rfl, q_in4 (i := 74) rfl rfl, q_T10, 18, rfl⟩
theorem k_L_45 : q_CV "WallLotteryLaw" 45 X_W_house 1 10 := ⟨cb_W_house, .inl (q_in4 (i := 72) rfl rfl), q_in4 (i := 73) rfl rfl, q_in4 (i := 74) rfl rfl, q_T10, 18, rfl⟩
theorem kp_L_48 : q_CP "WallLotteryLaw" 48 X_M_house 1 11 := ⟨cb_M_house, q_in7 (i := 133) rfl rfl, q_in7 (i := 134) rfl rfl, q_in7 (i := 135) rfl rfl, q_T11, 37, rfl⟩
theorem k_L_48 : q_CV "WallLotteryLaw" 48 X_M_house 1 11 := ⟨cb_M_house, .inl (q_in7 (i := 133) rfl rfl), q_in7 (i := 134) rfl rfl, q_in7 (i := 135) rfl rfl, q_T11, 37, rfl⟩
theorem kp_L_49 : q_CP "WallLotteryLaw" 49 X_W_wall 2 10 := ⟨cb_W_wall, q_in4 (i := 80) rfl rfl, q_in4 (i := 81) rfl rfl, q_in4 (i := 82) rfl rfl, q_T10, 18, rfl⟩
theorem k_L_49 : q_CV "WallLotteryLaw" 49 X_W_wall 2 10 := ⟨cb_W_wall, .inl (q_in4 (i := 80) rfl rfl), q_in4 (i := 81) rfl rfl, q_in4 (i := 82) rfl rfl, q_T10, 18, rfl⟩
theorem kp_L_53 : q_CP "WallLotteryLaw" 53 X_M_wall 2 11 := ⟨cb_M_wall, q_in7 (i := 145) rfl rfl, q_in7 (i := 146) rfl rfl, q_in7 (i := 147) rfl rfl, q_T11, 37, rfl⟩
theorem k_L_53 : q_CV "WallLotteryLaw" 53 X_M_wall 2 11 := ⟨cb_M_wall, .inl (q_in7 (i := 145) rfl rfl), q_in7 (i := 146) rfl rfl, q_in7 (i := 147) rfl rfl, q_T11, 37, rfl⟩
theorem kp_L_54 : q_CP "WallLotteryLaw" 54 X_W_family 2 10 := ⟨cb_W_family, q_in4 (i := 88) rfl rfl, q_in4 (i := 89) rfl rfl, q_in4 (i := 90) rfl rfl, q_T10, 18, rfl⟩
theorem k_L_54 : q_CV "WallLotteryLaw" 54 X_W_family 2 10 := ⟨cb_W_family, .inl (q_in4 (i := 88) rfl rfl), q_in4 (i := 89) rfl rfl, q_in4 (i := 90) rfl rfl, q_T10, 18, rfl⟩
theorem kp_L_57 : q_CP "WallLotteryLaw" 57 X_M_family 2 11 := ⟨cb_M_family, q_in7 (i := 149) rfl rfl, q_in7 (i := 150) rfl rfl, q_in7 (i := 151) rfl rfl, q_T11, 37, rfl⟩
theorem k_L_57 : q_CV "WallLotteryLaw" 57 X_M_family 2 11 := ⟨cb_M_family, .inl (q_in7 (i := 149) rfl rfl), q_in7 (i := 150) rfl rfl, q_in7 (i := 151) rfl rfl, q_T11, 37, rfl⟩
theorem kp_L_63 : q_CP "WallLotteryLaw" 63 X_M_joy 1 11 := ⟨cb_M_joy, q_in7 (i := 177) rfl rfl, q_in7 (i := 178) rfl rfl, q_in7 (i := 179) rfl rfl, q_T11, 37, rfl⟩
theorem k_L_63 : q_CV "WallLotteryLaw" 63 X_M_joy 1 11 := ⟨cb_M_joy, .inl (q_in7 (i := 177) rfl rfl), q_in7 (i := 178) rfl rfl, q_in7 (i := 179) rfl rfl, q_T11, 37, rfl⟩
theorem kp_L_64 : q_CP "WallLotteryLaw" 64 X_M_thrown 0 11 := ⟨cb_M_thrown, q_in6 (i := 21) rfl rfl, q_in6 (i := 22) rfl rfl, q_in6 (i := 23) rfl rfl, q_T11, 37, rfl⟩
theorem k_L_64 : q_CV "WallLotteryLaw" 64 X_M_thrown 0 11 := ⟨cb_M_thrown, .inl (q_in6 (i := 21) rfl rfl), q_in6 (i := 22) rfl rfl, q_in6 (i := 23) rfl rfl, q_T11, 37, rfl⟩
theorem kp_L_67 : q_CP "WallLotteryLaw" 67 X_W_owes 2 10 := ⟨cb_W_owes, q_in4 (i := 123) rfl rfl, q_in4 (i := 124) rfl rfl, q_in4 (i := 125) rfl rfl, q_T10, 18, rfl⟩
theorem k_L_67 : q_CV "WallLotteryLaw" 67 X_W_owes 2 10 := ⟨cb_W_owes, .inl (q_in4 (i := 123) rfl rfl), q_in4 (i := 124) rfl rfl, q_in4 (i := 125) rfl rfl, q_T10, 18, rfl⟩
theorem kp_L_70 : q_CP "WallLotteryLaw" 70 X_M_owes 2 11 := ⟨cb_M_owes, q_in7 (i := 181) rfl rfl, q_in7 (i := 182) rfl rfl, q_in7 (i := 183) rfl rfl, q_T11, 37, rfl⟩
theorem k_L_70 : q_CV "WallLotteryLaw" 70 X_M_owes 2 11 := ⟨cb_M_owes, .inl (q_in7 (i := 181) rfl rfl), q_in7 (i := 182) rfl rfl, q_in7 (i := 183) rfl rfl, q_T11, 37, rfl⟩
theorem kp_L_71 : q_CP "WallLotteryLaw" 71 X_W_draw 1 10 := ⟨cb_W_draw, q_in4 (i := 131) rfl rfl, q_in4 (i := 132) rfl rfl, q_in4 (i := 133) rfl rfl, q_T10, 18, rfl⟩
theorem k_L_71 : q_CV "WallLotteryLaw" 71 X_W_draw 1 10 := ⟨cb_W_draw, .inl (q_in4 (i := 131) rfl rfl), q_in4 (i := 132) rfl rfl, q_in4 (i := 133) rfl rfl, q_T10, 18, rfl⟩
theorem kp_L_74 : q_CP "WallLotteryLaw" 74 X_M_draw 1 11 := ⟨cb_M_draw, q_in7 (i := 189) rfl rfl, q_in7 (i := 190) rfl rfl, q_in7 (i := 191) rfl rfl, q_T11, 37, rfl⟩
theorem k_L_74 : q_CV "WallLotteryLaw" 74 X_M_draw 1 11 := ⟨cb_M_draw, .inl (q_in7 (i := 189) rfl rfl), q_in7 (i := 190) rfl rfl, q_in7 (i := 191) rfl rfl, q_T11, 37, rfl⟩
theorem kp_L_75 : q_CP "WallLotteryLaw" 75 X_W_swap 2 10 := ⟨cb_W_swap, q_in4 (i := 168) rfl rfl, q_in4 (i := 169) rfl rfl, q_in4 (i := 170) rfl rfl, q_T10, 18, rfl⟩
theorem k_L_75 : q_CV "WallLotteryLaw" 75 X_W_swap 2 10 := ⟨cb_W_swap, .inl (q_in4 (i := 168) rfl rfl), q_in4 (i := 169) rfl rfl, q_in4 (i := 170) rfl rfl, q_T10, 18, rfl⟩
theorem kp_L_79 : q_CP "WallLotteryLaw" 79 X_M_swap 2 11 := ⟨cb_M_swap, q_in7 (i := 217) rfl rfl, q_in7 (i := 218) rfl rfl, q_in7 (i := 219) rfl rfl, q_T11, 37, rfl⟩
theorem k_L_79 : q_CV "WallLotteryLaw" 79 X_M_swap 2 11 := ⟨cb_M_swap, .inl (q_in7 (i := 217) rfl rfl), q_in7 (i := 218) rfl rfl, q_in7 (i := 219) rfl rfl, q_T11, 37, rfl⟩
theorem kp_L_80 : q_CP "WallLotteryLaw" 80 X_W_lend 3 10 := ⟨cb_W_lend, q_in4 (i := 176) rfl rfl, q_in4 (i := 177) rfl rfl, q_in4 (i := 178) rfl rfl, q_T10, 18, rfl⟩
theorem k_L_80 : q_CV "WallLotteryLaw" 80 X_W_lend 3 10 := ⟨cb_W_lend, .inl (q_in4 (i := 176) rfl rfl), q_in4 (i := 177) rfl rfl, q_in4 (i := 178) rfl rfl, q_T10, 18, rfl⟩
theorem kp_L_84 : q_CP "WallLotteryLaw" 84 X_M_lend 3 11 := ⟨cb_M_lend, q_in7 (i := 225) rfl rfl, q_in7 (i := 226) rfl rfl, q_in7 (i := 227) rfl rfl, q_T11, 37, rfl⟩
theorem k_L_84 : q_CV "WallLotteryLaw" 84 X_M_lend 3 11 := ⟨cb_M_lend, .inl (q_in7 (i := 225) rfl rfl), q_in7 (i := 226) rfl rfl, q_in7 (i := 227) rfl rfl, q_T11, 37, rfl⟩
theorem kp_L_85 : q_CP "WallLotteryLaw" 85 X_W_pay 3 10 := ⟨cb_W_pay, q_in4 (i := 191) rfl rfl, q_in4 (i := 192) rfl rfl, q_in4 (i := 193) rfl rfl, q_T10, 18, rfl⟩
theorem k_L_85 : q_CV "WallLotteryLaw" 85 X_W_pay 3 10 := ⟨cb_W_pay, .inl (q_in4 (i := 191) rfl rfl), q_in4 (i := 192) rfl rfl, q_in4 (i := 193) rfl rfl, q_T10, 18, rfl⟩
theorem kp_L_88 : q_CP "WallLotteryLaw" 88 X_M_pay 3 11 := ⟨cb_M_pay, q_in8 (i := 1) rfl rfl, q_in8 (i := 2) rfl rfl, q_in8 (i := 3) rfl rfl, q_T11, 37, rfl⟩
theorem k_L_88 : q_CV "WallLotteryLaw" 88 X_M_pay 3 11 := ⟨cb_M_pay, .inl (q_in8 (i := 1) rfl rfl), q_in8 (i := 2) rfl rfl, q_in8 (i := 3) rfl rfl, q_T11, 37, rfl⟩
theorem kp_L_89 : q_CP "WallLotteryLaw" 89 X_W_undo 0 10 := ⟨cb_W_undo, q_in4 (i := 203) rfl rfl, q_in4 (i := 204) rfl rfl, q_in4 (i := 205) rfl rfl, q_T10, 18, rfl⟩
theorem k_L_89 : q_CV "WallLotteryLaw" 89 X_W_undo 0 10 := ⟨cb_W_undo, .inl (q_in4 (i := 203) rfl rfl), q_in4 (i := 204) rfl rfl, q_in4 (i := 205) rfl rfl, q_T10, 18, rfl⟩
theorem kp_L_93 : q_CP "WallLotteryLaw" 93 X_M_undo 0 11 := ⟨cb_M_undo, q_in8 (i := 13) rfl rfl, q_in8 (i := 14) rfl rfl, q_in8 (i := 15) rfl rfl, q_T11, 37, rfl⟩
theorem k_L_93 : q_CV "WallLotteryLaw" 93 X_M_undo 0 11 := ⟨cb_M_undo, .inl (q_in8 (i := 13) rfl rfl), q_in8 (i := 14) rfl rfl, q_in8 (i := 15) rfl rfl, q_T11, 37, rfl⟩
theorem kp_L_94 : q_CP "WallLotteryLaw" 94 X_W_judged 1 10 := ⟨cb_W_judged, q_in4 (i := 207) rfl rfl, q_in4 (i := 208) rfl rfl, q_in4 (i := 209) rfl rfl, q_T10, 18, rfl⟩
theorem k_L_94 : q_CV "WallLotteryLaw" 94 X_W_judged 1 10 := ⟨cb_W_judged, .inl (q_in4 (i := 207) rfl rfl), q_in4 (i := 208) rfl rfl, q_in4 (i := 209) rfl rfl, q_T10, 18, rfl⟩
theorem kp_L_97 : q_CP "WallLotteryLaw" 97 X_M_judged 1 11 := ⟨cb_M_judged, q_in8 (i := 17) rfl rfl, q_in8 (i := 18) rfl rfl, q_in8 (i := 19) rfl rfl, q_T11, 37, rfl⟩
theorem k_L_97 : q_CV "WallLotteryLaw" 97 X_M_judged 1 11 := ⟨cb_M_judged, .inl (q_in8 (i := 17) rfl rfl), q_in8 (i := 18) rfl rfl, q_in8 (i := 19) rfl rfl, q_T11, 37, rfl⟩
theorem kp_L_98 : q_CP "WallLotteryLaw" 98 X_W_broken 0 10 := ⟨cb_W_broken, q_in4 (i := 230) rfl rfl, q_in4 (i := 231) rfl rfl, q_in4 (i := 232) rfl rfl, q_T10, 18, rfl⟩
theorem k_L_98 : q_CV "WallLotteryLaw" 98 X_W_broken 0 10 := ⟨cb_W_broken, .inl (q_in4 (i := 230) rfl rfl), q_in4 (i := 231) rfl rfl, q_in4 (i := 232) rfl rfl, q_T10, 18, rfl⟩
theorem kp_L_101 : q_CP "WallLotteryLaw" 101 X_M_broken 0 11 := ⟨cb_M_broken, q_in8 (i := 29) rfl rfl, q_in8 (i := 30) rfl rfl, q_in8 (i := 31) rfl rfl, q_T11, 37, rfl⟩
theorem k_L_101 : q_CV "WallLotteryLaw" 101 X_M_broken 0 11 := ⟨cb_M_broken, .inl (q_in8 (i := 29) rfl rfl), q_in8 (i := 30) rfl rfl, q_in8 (i := 31) rfl rfl, q_T11, 37, rfl⟩
theorem kp_L_102 : q_CP "WallLotteryLaw" 102 X_W_odds 2 10 := ⟨cb_W_odds, q_in4 (i := 234) rfl rfl, q_in4 (i := 235) rfl rfl, q_in4 (i := 236) rfl rfl, q_T10, 18, rfl⟩
theorem k_L_102 : q_CV "WallLotteryLaw" 102 X_W_odds 2 10 := ⟨cb_W_odds, .inl (q_in4 (i := 234) rfl rfl), q_in4 (i := 235) rfl rfl, q_in4 (i := 236) rfl rfl, q_T10, 18, rfl⟩
theorem kp_L_105 : q_CP "WallLotteryLaw" 105 X_M_odds 2 11 := ⟨cb_M_odds, q_in8 (i := 33) rfl rfl, q_in8 (i := 34) rfl rfl, q_in8 (i := 35) rfl rfl, q_T11, 37, rfl⟩
theorem k_L_105 : q_CV "WallLotteryLaw" 105 X_M_odds 2 11 := ⟨cb_M_odds, .inl (q_in8 (i := 33) rfl rfl), q_in8 (i := 34) rfl rfl, q_in8 (i := 35) rfl rfl, q_T11, 37, rfl⟩
theorem kp_L_106 : q_CP "WallLotteryLaw" 106 X_W_peace 2 10 := ⟨cb_W_peace, q_in5 (i := 3) rfl rfl, q_in5 (i := 4) rfl rfl, q_in5 (i := 5) rfl rfl, q_T10, 18, rfl⟩
theorem k_L_106 : q_CV "WallLotteryLaw" 106 X_W_peace 2 10 := ⟨cb_W_peace, .inl (q_in5 (i := 3) rfl rfl), q_in5 (i := 4) rfl rfl, q_in5 (i := 5) rfl rfl, q_T10, 18, rfl⟩
theorem kp_L_109 : q_CP "WallLotteryLaw" 109 X_M_peace 2 11 := ⟨cb_M_peace, q_in8 (i := 54) rfl rfl, q_in8 (i := 55) rfl rfl, q_in8 (i := 56) rfl rfl, q_T11, 37, rfl⟩
theorem k_L_109 : q_CV "WallLotteryLaw" 109 X_M_peace 2 11 := ⟨cb_M_peace, .inl (q_in8 (i := 54) rfl rfl), q_in8 (i := 55) rfl rfl, q_in8 (i := 56) rfl rfl, q_T11, 37, rfl⟩
theorem kp_L_112 : q_CP "WallLotteryLaw" 112 X_M_hope 1 11 := ⟨cb_M_hope, q_in8 (i := 58) rfl rfl, q_in8 (i := 59) rfl rfl, q_in8 (i := 60) rfl rfl, q_T11, 37, rfl⟩
theorem k_L_112 : q_CV "WallLotteryLaw" 112 X_M_hope 1 11 := ⟨cb_M_hope, .inl (q_in8 (i := 58) rfl rfl), q_in8 (i := 59) rfl rfl, q_in8 (i := 60) rfl rfl, q_T11, 37, rfl⟩
theorem kp_L_113 : q_CP "WallLotteryLaw" 113 X_W_mend 1 10 := ⟨cb_W_mend, q_in5 (i := 32) rfl rfl, q_in5 (i := 33) rfl rfl, q_in5 (i := 34) rfl rfl, q_T10, 18, rfl⟩
theorem k_L_113 : q_CV "WallLotteryLaw" 113 X_W_mend 1 10 := ⟨cb_W_mend, .inl (q_in5 (i := 32) rfl rfl), q_in5 (i := 33) rfl rfl, q_in5 (i := 34) rfl rfl, q_T10, 18, rfl⟩
theorem kp_L_116 : q_CP "WallLotteryLaw" 116 X_M_mend 1 11 := ⟨cb_M_mend, q_in8 (i := 63) rfl rfl, q_in8 (i := 64) rfl rfl, q_in8 (i := 65) rfl rfl, q_T11, 37, rfl⟩
theorem k_L_116 : q_CV "WallLotteryLaw" 116 X_M_mend 1 11 := ⟨cb_M_mend, .inl (q_in8 (i := 63) rfl rfl), q_in8 (i := 64) rfl rfl, q_in8 (i := 65) rfl rfl, q_T11, 37, rfl⟩
theorem kp_L_117 : q_CP "WallLotteryLaw" 117 X_W_please 1 10 := ⟨cb_W_please, q_in5 (i := 56) rfl rfl, q_in5 (i := 57) rfl rfl, q_in5 (i := 58) rfl rfl, q_T10, 18, rfl⟩
theorem k_L_117 : q_CV "WallLotteryLaw" 117 X_W_please 1 10 := ⟨cb_W_please, .inl (q_in5 (i := 56) rfl rfl), q_in5 (i := 57) rfl rfl, q_in5 (i := 58) rfl rfl, q_T10, 18, rfl⟩
theorem kp_L_120 : q_CP "WallLotteryLaw" 120 X_M_please 1 11 := ⟨cb_M_please, q_in8 (i := 79) rfl rfl, q_in8 (i := 80) rfl rfl, q_in8 (i := 81) rfl rfl, q_T11, 37, rfl⟩
theorem k_L_120 : q_CV "WallLotteryLaw" 120 X_M_please 1 11 := ⟨cb_M_please, .inl (q_in8 (i := 79) rfl rfl), q_in8 (i := 80) rfl rfl, q_in8 (i := 81) rfl rfl, q_T11, 37, rfl⟩
theorem kp_L_121 : q_CP "WallLotteryLaw" 121 X_W_quiet 1 10 := ⟨cb_W_quiet, q_in5 (i := 69) rfl rfl, q_in5 (i := 70) rfl rfl, q_in5 (i := 71) rfl rfl, q_T10, 18, rfl⟩
theorem k_L_121 : q_CV "WallLotteryLaw" 121 X_W_quiet 1 10 := ⟨cb_W_quiet, .inl (q_in5 (i := 69) rfl rfl), q_in5 (i := 70) rfl rfl, q_in5 (i := 71) rfl rfl, q_T10, 18, rfl⟩
theorem kp_L_124 : q_CP "WallLotteryLaw" 124 X_M_quiet 1 11 := ⟨cb_M_quiet, q_in8 (i := 87) rfl rfl, q_in8 (i := 88) rfl rfl, q_in8 (i := 89) rfl rfl, q_T11, 37, rfl⟩
theorem k_L_124 : q_CV "WallLotteryLaw" 124 X_M_quiet 1 11 := ⟨cb_M_quiet, .inl (q_in8 (i := 87) rfl rfl), q_in8 (i := 88) rfl rfl, q_in8 (i := 89) rfl rfl, q_T11, 37, rfl⟩
theorem kp_L_128 : q_CP "WallLotteryLaw" 128 X_M_rests 3 11 := ⟨cb_M_rests, q_in8 (i := 91) rfl rfl, q_in8 (i := 92) rfl rfl, q_in8 (i := 93) rfl rfl, q_T11, 37, rfl⟩
theorem k_L_128 : q_CV "WallLotteryLaw" 128 X_M_rests 3 11 := ⟨cb_M_rests, .inl (q_in8 (i := 91) rfl rfl), q_in8 (i := 92) rfl rfl, q_in8 (i := 93) rfl rfl, q_T11, 37, rfl⟩
theorem kp_L_129 : q_CP "WallLotteryLaw" 129 X_W_tale 3 10 := ⟨cb_W_tale, q_in5 (i := 83) rfl rfl, q_in5 (i := 84) rfl rfl, q_in5 (i := 85) rfl rfl, q_T10, 18, rfl⟩
theorem k_L_129 : q_CV "WallLotteryLaw" 129 X_W_tale 3 10 := ⟨cb_W_tale, .inl (q_in5 (i := 83) rfl rfl), q_in5 (i := 84) rfl rfl, q_in5 (i := 85) rfl rfl, q_T10, 18, rfl⟩
theorem kp_L_133 : q_CP "WallLotteryLaw" 133 X_M_tale 3 11 := ⟨cb_M_tale, q_in8 (i := 99) rfl rfl, q_in8 (i := 100) rfl rfl, q_in8 (i := 101) rfl rfl, q_T11, 37, rfl⟩
theorem k_L_133 : q_CV "WallLotteryLaw" 133 X_M_tale 3 11 := ⟨cb_M_tale, .inl (q_in8 (i := 99) rfl rfl), q_in8 (i := 100) rfl rfl, q_in8 (i := 101) rfl rfl, q_T11, 37, rfl⟩
theorem kp_L_134 : q_CP "WallLotteryLaw" 134 X_W_how 0 10 := ⟨cb_W_how, q_in5 (i := 92) rfl rfl, q_in5 (i := 93) rfl rfl, q_in5 (i := 94) rfl rfl, q_T10, 18, rfl⟩
theorem k_L_134 : q_CV "WallLotteryLaw" 134 X_W_how 0 10 := ⟨cb_W_how, .inl (q_in5 (i := 92) rfl rfl), q_in5 (i := 93) rfl rfl, q_in5 (i := 94) rfl rfl, q_T10, 18, rfl⟩
theorem kp_L_137 : q_CP "WallLotteryLaw" 137 X_M_how 0 11 := ⟨cb_M_how, q_in8 (i := 103) rfl rfl, q_in8 (i := 104) rfl rfl, q_in8 (i := 105) rfl rfl, q_T11, 37, rfl⟩
theorem k_L_137 : q_CV "WallLotteryLaw" 137 X_M_how 0 11 := ⟨cb_M_how, .inl (q_in8 (i := 103) rfl rfl), q_in8 (i := 104) rfl rfl, q_in8 (i := 105) rfl rfl, q_T11, 37, rfl⟩
theorem kp_L_138 : q_CP "WallLotteryLaw" 138 X_W_were 2 10 := ⟨cb_W_were, q_in5 (i := 104) rfl rfl, q_in5 (i := 105) rfl rfl, q_in5 (i := 106) rfl rfl, q_T10, 18, rfl⟩
theorem k_L_138 : q_CV "WallLotteryLaw" 138 X_W_were 2 10 := ⟨cb_W_were, .inl (q_in5 (i := 104) rfl rfl), q_in5 (i := 105) rfl rfl, q_in5 (i := 106) rfl rfl, q_T10, 18, rfl⟩
theorem kp_L_141 : q_CP "WallLotteryLaw" 141 X_M_were 2 11 := ⟨cb_M_were, q_in8 (i := 119) rfl rfl, q_in8 (i := 120) rfl rfl, q_in8 (i := 121) rfl rfl, q_T11, 37, rfl⟩
theorem k_L_141 : q_CV "WallLotteryLaw" 141 X_M_were 2 11 := ⟨cb_M_were, .inl (q_in8 (i := 119) rfl rfl), q_in8 (i := 120) rfl rfl, q_in8 (i := 121) rfl rfl, q_T11, 37, rfl⟩
theorem kp_L_142 : q_CP "WallLotteryLaw" 142 X_W_ask 0 10 := ⟨cb_W_ask, q_in5 (i := 108) rfl rfl, q_in5 (i := 109) rfl rfl, q_in5 (i := 110) rfl rfl, q_T10, 18, rfl⟩
theorem k_L_142 : q_CV "WallLotteryLaw" 142 X_W_ask 0 10 := ⟨cb_W_ask, .inl (q_in5 (i := 108) rfl rfl), q_in5 (i := 109) rfl rfl, q_in5 (i := 110) rfl rfl, q_T10, 18, rfl⟩
theorem kp_L_145 : q_CP "WallLotteryLaw" 145 X_M_ask 0 11 := ⟨cb_M_ask, q_in8 (i := 123) rfl rfl, q_in8 (i := 124) rfl rfl, q_in8 (i := 125) rfl rfl, q_T11, 37, rfl⟩
theorem k_L_145 : q_CV "WallLotteryLaw" 145 X_M_ask 0 11 := ⟨cb_M_ask, .inl (q_in8 (i := 123) rfl rfl), q_in8 (i := 124) rfl rfl, q_in8 (i := 125) rfl rfl, q_T11, 37, rfl⟩
theorem kp_L_148 : q_CP "WallLotteryLaw" 148 X_M_gains 1 11 := ⟨cb_M_gains, q_in8 (i := 127) rfl rfl, q_in8 (i := 128) rfl rfl, q_in8 (i := 129) rfl rfl, q_T11, 37, rfl⟩
theorem k_L_148 : q_CV "WallLotteryLaw" 148 X_M_gains 1 11 := ⟨cb_M_gains, .inl (q_in8 (i := 127) rfl rfl), q_in8 (i := 128) rfl rfl, q_in8 (i := 129) rfl rfl, q_T11, 37, rfl⟩
theorem kp_L_149 : q_CP "WallLotteryLaw" 149 X_W_tampered 4 10 := ⟨cb_W_tampered, q_in5 (i := 112) rfl rfl, q_in5 (i := 113) rfl rfl, q_in5 (i := 114) rfl rfl, q_T10, 18, rfl⟩
theorem k_L_149 : q_CV "WallLotteryLaw" 149 X_W_tampered 4 10 := ⟨cb_W_tampered, .inl (q_in5 (i := 112) rfl rfl), q_in5 (i := 113) rfl rfl, q_in5 (i := 114) rfl rfl, q_T10, 18, rfl⟩
theorem kp_L_153 : q_CP "WallLotteryLaw" 153 X_M_tampered 4 11 := ⟨cb_M_tampered, q_in8 (i := 131) rfl rfl, q_in8 (i := 132) rfl rfl, q_in8 (i := 133) rfl rfl, q_T11, 37, rfl⟩
theorem k_L_153 : q_CV "WallLotteryLaw" 153 X_M_tampered 4 11 := ⟨cb_M_tampered, .inl (q_in8 (i := 131) rfl rfl), q_in8 (i := 132) rfl rfl, q_in8 (i := 133) rfl rfl, q_T11, 37, rfl⟩
theorem kp_L_154 : q_CP "WallLotteryLaw" 154 X_W_centuries 3 10 := ⟨cb_W_centuries, q_in5 (i := 122) rfl rfl, q_in5 (i := 123) rfl rfl, q_in5 (i := 124) rfl rfl, q_T10, 18, rfl⟩
theorem k_L_154 : q_CV "WallLotteryLaw" 154 X_W_centuries 3 10 := ⟨cb_W_centuries, .inl (q_in5 (i := 122) rfl rfl), q_in5 (i := 123) rfl rfl, q_in5 (i := 124) rfl rfl, q_T10, 18, rfl⟩
theorem kp_L_157 : q_CP "WallLotteryLaw" 157 X_M_centuries 3 11 := ⟨cb_M_centuries, q_in8 (i := 135) rfl rfl, q_in8 (i := 136) rfl rfl, q_in8 (i := 137) rfl rfl, q_T11, 37, rfl⟩
theorem k_L_157 : q_CV "WallLotteryLaw" 157 X_M_centuries 3 11 := ⟨cb_M_centuries, .inl (q_in8 (i := 135) rfl rfl), q_in8 (i := 136) rfl rfl, q_in8 (i := 137) rfl rfl, q_T11, 37, rfl⟩
theorem kp_L_158 : q_CP "WallLotteryLaw" 158 X_W_mark 2 10 := ⟨cb_W_mark, q_in5 (i := 145) rfl rfl, q_in5 (i := 146) rfl rfl, q_in5 (i := 147) rfl rfl, q_T10, 18, rfl⟩
theorem k_L_158 : q_CV "WallLotteryLaw" 158 X_W_mark 2 10 := ⟨cb_W_mark, .inl (q_in5 (i := 145) rfl rfl), q_in5 (i := 146) rfl rfl, q_in5 (i := 147) rfl rfl, q_T10, 18, rfl⟩
theorem kp_L_162 : q_CP "WallLotteryLaw" 162 X_M_mark 2 11 := ⟨cb_M_mark, q_in8 (i := 146) rfl rfl, q_in8 (i := 147) rfl rfl, q_in8 (i := 148) rfl rfl, q_T11, 37, rfl⟩
theorem k_L_162 : q_CV "WallLotteryLaw" 162 X_M_mark 2 11 := ⟨cb_M_mark, .inl (q_in8 (i := 146) rfl rfl), q_in8 (i := 147) rfl rfl, q_in8 (i := 148) rfl rfl, q_T11, 37, rfl⟩
theorem kp_L_163 : q_CP "WallLotteryLaw" 163 X_W_count 1 10 := ⟨cb_W_count, q_in5 (i := 153) rfl rfl, q_in5 (i := 154) rfl rfl, q_in5 (i := 155) rfl rfl, q_T10, 18, rfl⟩
theorem k_L_163 : q_CV "WallLotteryLaw" 163 X_W_count 1 10 := ⟨cb_W_count, .inl (q_in5 (i := 153) rfl rfl), q_in5 (i := 154) rfl rfl, q_in5 (i := 155) rfl rfl, q_T10, 18, rfl⟩
theorem kp_L_166 : q_CP "WallLotteryLaw" 166 X_M_count 1 11 := ⟨cb_M_count, q_in8 (i := 150) rfl rfl, q_in8 (i := 151) rfl rfl, q_in8 (i := 152) rfl rfl, q_T11, 37, rfl⟩
theorem k_L_166 : q_CV "WallLotteryLaw" 166 X_M_count 1 11 := ⟨cb_M_count, .inl (q_in8 (i := 150) rfl rfl), q_in8 (i := 151) rfl rfl, q_in8 (i := 152) rfl rfl, q_T11, 37, rfl⟩
theorem fs_Tk_69 : Cond.fieldLink "WallLottery$Tokens" 69 "WallLottery$Word" "letters" "J" ∈ q_GT := q_in8 (i := 180) rfl rfl
theorem fs_Tk_85 : Cond.fieldLink "WallLottery$Tokens" 85 "WallLottery$Word" "canBeName" "Z" ∈ q_GT := q_in8 (i := 184) rfl rfl
theorem fs_JE_7 : Cond.fieldLink "java/lang/Enum" 7 "java/lang/Enum" "ordinal" "I" ∈ q_GT := q_in8 (i := 183) rfl rfl
theorem fs_JS_9 : Cond.fieldLink "java/lang/String" 9 "java/lang/String" "value" "[B" ∈ q_GT := q_in8 (i := 182) rfl rfl
theorem fs_JS_15 : Cond.fieldLink "java/lang/String" 15 "java/lang/String" "coder" "B" ∈ q_GT := q_in8 (i := 181) rfl rfl
