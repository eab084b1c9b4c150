abbrev cX0_init : ByteArray := prog_2_method_1_code
def yX0_init : MethodName := ⟨RX0, "<init>", "()V"⟩
abbrev mX0_init : vMI := (yX0_init, cX0_init, 1, none)
abbrev cX0_clear : ByteArray := prog_2_method_2_code
def yX0_clear : MethodName := ⟨RX0, "clear", "()V"⟩
abbrev mX0_clear : vMI := (yX0_clear, cX0_clear, 1, none)
abbrev cX0_offer : ByteArray := prog_2_method_3_code
def yX0_offer : MethodName := ⟨RX0, "offer", "(II)V"⟩
abbrev mX0_offer : vMI := (yX0_offer, cX0_offer, 3, none)
abbrev cX1_init : ByteArray := prog_3_method_1_code
def yX1_init : MethodName := ⟨RX1, "<init>", "()V"⟩
abbrev mX1_init : vMI := (yX1_init, cX1_init, 1, none)
abbrev cX1_add : ByteArray := prog_3_method_2_code
def yX1_add : MethodName := ⟨RX1, "add", "(I)Z"⟩
abbrev mX1_add : vMI := (yX1_add, cX1_add, 2, (some .boolean))
abbrev cX1_all : ByteArray := prog_3_method_3_code
def yX1_all : MethodName := ⟨RX1, "all", "()J"⟩
abbrev mX1_all : vMI := (yX1_all, cX1_all, 1, (some .long))
abbrev cX1_allBut : ByteArray := prog_3_method_4_code
def yX1_allBut : MethodName := ⟨RX1, "allBut", "(I)J"⟩
abbrev mX1_allBut : vMI := (yX1_allBut, cX1_allBut, 2, (some .long))
abbrev cX1_chosen : ByteArray := prog_3_method_5_code
def yX1_chosen : MethodName := ⟨RX1, "chosen", "(I)J"⟩
abbrev mX1_chosen : vMI := (yX1_chosen, cX1_chosen, 5, (some .long))
abbrev cX2_init : ByteArray := prog_4_method_1_code
def yX2_init : MethodName := ⟨RX2, "<init>", "()V"⟩
abbrev mX2_init : vMI := (yX2_init, cX2_init, 2, none)
abbrev cX2_isLost : ByteArray := prog_4_method_2_code
def yX2_isLost : MethodName := ⟨RX2, "isLost", "(I)Z"⟩
abbrev mX2_isLost : vMI := (yX2_isLost, cX2_isLost, 2, (some .boolean))
abbrev cX2_make : ByteArray := prog_4_method_3_code
def yX2_make : MethodName := ⟨RX2, "make", "(III)V"⟩
abbrev mX2_make : vMI := (yX2_make, cX2_make, 5, none)
abbrev cX2_wrongWith : ByteArray := prog_4_method_4_code
def yX2_wrongWith : MethodName := ⟨RX2, "wrongWith", "(III)I"⟩
abbrev mX2_wrongWith : vMI := (yX2_wrongWith, cX2_wrongWith, 4, (some .int))
abbrev cX2_hasItems : ByteArray := prog_4_method_5_code
def yX2_hasItems : MethodName := ⟨RX2, "hasItems", "(III)Z"⟩
abbrev mX2_hasItems : vMI := (yX2_hasItems, cX2_hasItems, 4, (some .boolean))
abbrev cX2_item : ByteArray := prog_4_method_6_code
def yX2_item : MethodName := ⟨RX2, "item", "(II)I"⟩
abbrev mX2_item : vMI := (yX2_item, cX2_item, 3, (some .int))
abbrev cX2_store : ByteArray := prog_4_method_7_code
def yX2_store : MethodName := ⟨RX2, "store", "(III)V"⟩
abbrev mX2_store : vMI := (yX2_store, cX2_store, 5, none)
abbrev cX3_init : ByteArray := prog_5_method_1_code
def yX3_init : MethodName := ⟨RX3, "<init>", "()V"⟩
abbrev mX3_init : vMI := (yX3_init, cX3_init, 1, none)
abbrev cX3_add : ByteArray := prog_5_method_2_code
def yX3_add : MethodName := ⟨RX3, "add", "(III)Z"⟩
abbrev mX3_add : vMI := (yX3_add, cX3_add, 4, (some .boolean))
abbrev cX3_agree : ByteArray := prog_5_method_3_code
def yX3_agree : MethodName := ⟨RX3, "agree", "(LBreadString$Trip;)Z"⟩
abbrev mX3_agree : vMI := (yX3_agree, cX3_agree, 3, (some .boolean))
abbrev cX4_init : ByteArray := prog_6_method_1_code
def yX4_init : MethodName := ⟨RX4, "<init>", "(I)V"⟩
abbrev mX4_init : vMI := (yX4_init, cX4_init, 2, none)
abbrev cX4_append : ByteArray := prog_6_method_2_code
def yX4_append : MethodName := ⟨RX4, "append", "(I)Z"⟩
abbrev mX4_append : vMI := (yX4_append, cX4_append, 2, (some .boolean))
abbrev cX5_init : ByteArray := prog_7_method_1_code
def yX5_init : MethodName := ⟨RX5, "<init>", "()V"⟩
abbrev mX5_init : vMI := (yX5_init, cX5_init, 1, none)
abbrev cX5_readFloors : ByteArray := prog_7_method_2_code
def yX5_readFloors : MethodName := ⟨RX5, "readFloors", "(LBreadString$Text;)V"⟩
abbrev mX5_readFloors : vMI := (yX5_readFloors, cX5_readFloors, 2, none)
abbrev cX5_takeFloors : ByteArray := prog_7_method_3_code
def yX5_takeFloors : MethodName := ⟨RX5, "takeFloors", "(LBreadString$Text;)I"⟩
abbrev mX5_takeFloors : vMI := (yX5_takeFloors, cX5_takeFloors, 6, (some .int))
abbrev cX5_readBaskets : ByteArray := prog_7_method_4_code
def yX5_readBaskets : MethodName := ⟨RX5, "readBaskets", "(LBreadString$Text;)V"⟩
abbrev mX5_readBaskets : vMI := (yX5_readBaskets, cX5_readBaskets, 2, none)
abbrev cX5_takeBaskets : ByteArray := prog_7_method_5_code
def yX5_takeBaskets : MethodName := ⟨RX5, "takeBaskets", "(LBreadString$Text;)I"⟩
abbrev mX5_takeBaskets : vMI := (yX5_takeBaskets, cX5_takeBaskets, 5, (some .int))
abbrev cX5_basketTakes : ByteArray := prog_7_method_6_code
def yX5_basketTakes : MethodName := ⟨RX5, "basketTakes", "(II)Z"⟩
abbrev mX5_basketTakes : vMI := (yX5_basketTakes, cX5_basketTakes, 3, (some .boolean))
abbrev cX5_keepBasketByte : ByteArray := prog_7_method_7_code
def yX5_keepBasketByte : MethodName := ⟨RX5, "keepBasketByte", "(II)V"⟩
abbrev mX5_keepBasketByte : vMI := (yX5_keepBasketByte, cX5_keepBasketByte, 4, none)
abbrev cX5_toldLetter : ByteArray := prog_7_method_8_code
def yX5_toldLetter : MethodName := ⟨RX5, "toldLetter", "(II)I"⟩
abbrev mX5_toldLetter : vMI := (yX5_toldLetter, cX5_toldLetter, 3, (some .int))
abbrev cX5_loadInAll : ByteArray := prog_7_method_9_code
def yX5_loadInAll : MethodName := ⟨RX5, "loadInAll", "()I"⟩
abbrev mX5_loadInAll : vMI := (yX5_loadInAll, cX5_loadInAll, 3, (some .int))
abbrev cX5_changeBite : ByteArray := prog_7_method_10_code
def yX5_changeBite : MethodName := ⟨RX5, "changeBite", "(II)I"⟩
abbrev mX5_changeBite : vMI := (yX5_changeBite, cX5_changeBite, 4, (some .int))
abbrev cX5_sortOf : ByteArray := prog_7_method_11_code
def yX5_sortOf : MethodName := ⟨RX5, "sortOf", "(I)I"⟩
abbrev mX5_sortOf : vMI := (yX5_sortOf, cX5_sortOf, 1, (some .int))
abbrev cX5_isFigure : ByteArray := prog_7_method_12_code
def yX5_isFigure : MethodName := ⟨RX5, "isFigure", "(I)Z"⟩
abbrev mX5_isFigure : vMI := (yX5_isFigure, cX5_isFigure, 1, (some .boolean))
abbrev cX5_isLetter : ByteArray := prog_7_method_13_code
def yX5_isLetter : MethodName := ⟨RX5, "isLetter", "(I)Z"⟩
abbrev mX5_isLetter : vMI := (yX5_isLetter, cX5_isLetter, 1, (some .boolean))
abbrev cX6_init : ByteArray := prog_8_method_1_code
def yX6_init : MethodName := ⟨RX6, "<init>", "(LBreadString$Tower;)V"⟩
abbrev mX6_init : vMI := (yX6_init, cX6_init, 2, none)
abbrev cX6_go : ByteArray := prog_8_method_2_code
def yX6_go : MethodName := ⟨RX6, "go", "(JJI)V"⟩
abbrev mX6_go : vMI := (yX6_go, cX6_go, 7, none)
abbrev cX6_begin : ByteArray := prog_8_method_3_code
def yX6_begin : MethodName := ⟨RX6, "begin", "()V"⟩
abbrev mX6_begin : vMI := (yX6_begin, cX6_begin, 2, none)
abbrev cX6_arrive : ByteArray := prog_8_method_4_code
def yX6_arrive : MethodName := ⟨RX6, "arrive", "(I)V"⟩
abbrev mX6_arrive : vMI := (yX6_arrive, cX6_arrive, 3, none)
abbrev cX6_serve : ByteArray := prog_8_method_5_code
def yX6_serve : MethodName := ⟨RX6, "serve", "(I)V"⟩
abbrev mX6_serve : vMI := (yX6_serve, cX6_serve, 5, none)
abbrev cX6_wantsBite : ByteArray := prog_8_method_6_code
def yX6_wantsBite : MethodName := ⟨RX6, "wantsBite", "(II)Z"⟩
abbrev mX6_wantsBite : vMI := (yX6_wantsBite, cX6_wantsBite, 4, (some .boolean))
abbrev cX6_bite : ByteArray := prog_8_method_7_code
def yX6_bite : MethodName := ⟨RX6, "bite", "(III)V"⟩
abbrev mX6_bite : vMI := (yX6_bite, cX6_bite, 5, none)
abbrev cX6_climb : ByteArray := prog_8_method_8_code
def yX6_climb : MethodName := ⟨RX6, "climb", "(I)V"⟩
abbrev mX6_climb : vMI := (yX6_climb, cX6_climb, 4, none)
abbrev cX6_leave : ByteArray := prog_8_method_9_code
def yX6_leave : MethodName := ⟨RX6, "leave", "(II)V"⟩
abbrev mX6_leave : vMI := (yX6_leave, cX6_leave, 3, none)
abbrev cX6_letters : ByteArray := prog_8_method_10_code
def yX6_letters : MethodName := ⟨RX6, "letters", "(I)I"⟩
abbrev mX6_letters : vMI := (yX6_letters, cX6_letters, 2, (some .int))
abbrev cX6_letter : ByteArray := prog_8_method_11_code
def yX6_letter : MethodName := ⟨RX6, "letter", "(II)I"⟩
abbrev mX6_letter : vMI := (yX6_letter, cX6_letter, 3, (some .int))
abbrev cX6_noteAsTold : ByteArray := prog_8_method_12_code
def yX6_noteAsTold : MethodName := ⟨RX6, "noteAsTold", "(I)Z"⟩
abbrev mX6_noteAsTold : vMI := (yX6_noteAsTold, cX6_noteAsTold, 3, (some .boolean))
abbrev cX6_bringsUp : ByteArray := prog_8_method_13_code
def yX6_bringsUp : MethodName := ⟨RX6, "bringsUp", "(II)Z"⟩
abbrev mX6_bringsUp : vMI := (yX6_bringsUp, cX6_bringsUp, 3, (some .boolean))
abbrev cX6_loadUp : ByteArray := prog_8_method_14_code
def yX6_loadUp : MethodName := ⟨RX6, "loadUp", "()I"⟩
abbrev mX6_loadUp : vMI := (yX6_loadUp, cX6_loadUp, 3, (some .int))
abbrev cX7_init : ByteArray := prog_1_method_1_code
def yX7_init : MethodName := ⟨RX7, "<init>", "()V"⟩
abbrev mX7_init : vMI := (yX7_init, cX7_init, 1, none)
abbrev cX7_type : ByteArray := prog_1_method_2_code
def yX7_type : MethodName := ⟨RX7, "type", "(II)I"⟩
abbrev mX7_type : vMI := (yX7_type, cX7_type, 3, (some .int))
abbrev cX7_wipe : ByteArray := prog_1_method_3_code
def yX7_wipe : MethodName := ⟨RX7, "wipe", "(I)I"⟩
abbrev mX7_wipe : vMI := (yX7_wipe, cX7_wipe, 3, (some .int))
abbrev cX7_undo : ByteArray := prog_1_method_4_code
def yX7_undo : MethodName := ⟨RX7, "undo", "(I)I"⟩
abbrev mX7_undo : vMI := (yX7_undo, cX7_undo, 2, (some .int))
abbrev cX7_fault : ByteArray := prog_1_method_5_code
def yX7_fault : MethodName := ⟨RX7, "fault", "(I)I"⟩
abbrev mX7_fault : vMI := (yX7_fault, cX7_fault, 2, (some .int))
abbrev cX7_floor : ByteArray := prog_1_method_6_code
def yX7_floor : MethodName := ⟨RX7, "floor", "(II)I"⟩
abbrev mX7_floor : vMI := (yX7_floor, cX7_floor, 3, (some .int))
abbrev cX7_basket : ByteArray := prog_1_method_7_code
def yX7_basket : MethodName := ⟨RX7, "basket", "(II)I"⟩
abbrev mX7_basket : vMI := (yX7_basket, cX7_basket, 3, (some .int))
abbrev cX7_set : ByteArray := prog_1_method_8_code
def yX7_set : MethodName := ⟨RX7, "set", "(II)I"⟩
abbrev mX7_set : vMI := (yX7_set, cX7_set, 4, (some .int))
abbrev cX7_wind : ByteArray := prog_1_method_9_code
def yX7_wind : MethodName := ⟨RX7, "wind", "(I)I"⟩
abbrev mX7_wind : vMI := (yX7_wind, cX7_wind, 2, (some .int))
abbrev cX7_sunday : ByteArray := prog_1_method_10_code
def yX7_sunday : MethodName := ⟨RX7, "sunday", "(I)I"⟩
abbrev mX7_sunday : vMI := (yX7_sunday, cX7_sunday, 2, (some .int))
abbrev cX7_back : ByteArray := prog_1_method_11_code
def yX7_back : MethodName := ⟨RX7, "back", "(I)I"⟩
abbrev mX7_back : vMI := (yX7_back, cX7_back, 3, (some .int))
abbrev cX7_read : ByteArray := prog_1_method_12_code
def yX7_read : MethodName := ⟨RX7, "read", "(I)I"⟩
abbrev mX7_read : vMI := (yX7_read, cX7_read, 3, (some .int))
abbrev cX7_at : ByteArray := prog_1_method_13_code
def yX7_at : MethodName := ⟨RX7, "at", "(III)I"⟩
abbrev mX7_at : vMI := (yX7_at, cX7_at, 4, (some .int))
abbrev cX7_note : ByteArray := prog_1_method_14_code
def yX7_note : MethodName := ⟨RX7, "note", "(II)I"⟩
abbrev mX7_note : vMI := (yX7_note, cX7_note, 3, (some .int))
abbrev cX7_comes : ByteArray := prog_1_method_15_code
def yX7_comes : MethodName := ⟨RX7, "comes", "(I)I"⟩
abbrev mX7_comes : vMI := (yX7_comes, cX7_comes, 2, (some .int))
abbrev cX7_bites : ByteArray := prog_1_method_16_code
def yX7_bites : MethodName := ⟨RX7, "bites", "(II)I"⟩
abbrev mX7_bites : vMI := (yX7_bites, cX7_bites, 3, (some .int))
abbrev cX7_famine : ByteArray := prog_1_method_17_code
def yX7_famine : MethodName := ⟨RX7, "famine", "()I"⟩
abbrev mX7_famine : vMI := (yX7_famine, cX7_famine, 1, (some .int))
abbrev cX7_first : ByteArray := prog_1_method_18_code
def yX7_first : MethodName := ⟨RX7, "first", "(I)I"⟩
abbrev mX7_first : vMI := (yX7_first, cX7_first, 2, (some .int))
abbrev cX7_greedy : ByteArray := prog_1_method_19_code
def yX7_greedy : MethodName := ⟨RX7, "greedy", "()I"⟩
abbrev mX7_greedy : vMI := (yX7_greedy, cX7_greedy, 2, (some .int))
abbrev cX7_send : ByteArray := prog_1_method_20_code
def yX7_send : MethodName := ⟨RX7, "send", "(II)I"⟩
abbrev mX7_send : vMI := (yX7_send, cX7_send, 3, (some .int))
abbrev cX7_loaf : ByteArray := prog_1_method_21_code
def yX7_loaf : MethodName := ⟨RX7, "loaf", "(II)I"⟩
abbrev mX7_loaf : vMI := (yX7_loaf, cX7_loaf, 6, (some .int))
abbrev cX7_feed : ByteArray := prog_1_method_22_code
def yX7_feed : MethodName := ⟨RX7, "feed", "(II)I"⟩
abbrev mX7_feed : vMI := (yX7_feed, cX7_feed, 3, (some .int))
abbrev cX7_still : ByteArray := prog_1_method_23_code
def yX7_still : MethodName := ⟨RX7, "still", "(I)I"⟩
abbrev mX7_still : vMI := (yX7_still, cX7_still, 2, (some .int))
abbrev cX7_seen : ByteArray := prog_1_method_24_code
def yX7_seen : MethodName := ⟨RX7, "seen", "(III)I"⟩
abbrev mX7_seen : vMI := (yX7_seen, cX7_seen, 4, (some .int))
abbrev cX7_forget : ByteArray := prog_1_method_25_code
def yX7_forget : MethodName := ⟨RX7, "forget", "()I"⟩
abbrev mX7_forget : vMI := (yX7_forget, cX7_forget, 2, (some .int))
abbrev cX7_never : ByteArray := prog_1_method_26_code
def yX7_never : MethodName := ⟨RX7, "never", "()I"⟩
abbrev mX7_never : vMI := (yX7_never, cX7_never, 3, (some .int))
abbrev cX7_was : ByteArray := prog_1_method_27_code
def yX7_was : MethodName := ⟨RX7, "was", "(II)I"⟩
abbrev mX7_was : vMI := (yX7_was, cX7_was, 3, (some .int))
abbrev cX7_ask : ByteArray := prog_1_method_28_code
def yX7_ask : MethodName := ⟨RX7, "ask", "(I)I"⟩
abbrev mX7_ask : vMI := (yX7_ask, cX7_ask, 4, (some .int))
abbrev cX7_gust : ByteArray := prog_1_method_29_code
def yX7_gust : MethodName := ⟨RX7, "gust", "(IIII)J"⟩
abbrev mX7_gust : vMI := (yX7_gust, cX7_gust, 5, (some .long))
abbrev cX7_week : ByteArray := prog_1_method_30_code
def yX7_week : MethodName := ⟨RX7, "week", "(III)I"⟩
abbrev mX7_week : vMI := (yX7_week, cX7_week, 4, (some .int))
abbrev cX7_sheet : ByteArray := prog_1_method_31_code
def yX7_sheet : MethodName := ⟨RX7, "sheet", "(III)I"⟩
abbrev mX7_sheet : vMI := (yX7_sheet, cX7_sheet, 4, (some .int))
abbrev cX7_lose : ByteArray := prog_1_method_32_code
def yX7_lose : MethodName := ⟨RX7, "lose", "(I)I"⟩
abbrev mX7_lose : vMI := (yX7_lose, cX7_lose, 3, (some .int))
abbrev cX7_put : ByteArray := prog_1_method_33_code
def yX7_put : MethodName := ⟨RX7, "put", "(IIII)I"⟩
abbrev mX7_put : vMI := (yX7_put, cX7_put, 6, (some .int))
abbrev cX7_get : ByteArray := prog_1_method_34_code
def yX7_get : MethodName := ⟨RX7, "get", "(III)I"⟩
abbrev mX7_get : vMI := (yX7_get, cX7_get, 5, (some .int))
abbrev cX7_copy : ByteArray := prog_1_method_35_code
def yX7_copy : MethodName := ⟨RX7, "copy", "(IIIII)I"⟩
abbrev mX7_copy : vMI := (yX7_copy, cX7_copy, 6, (some .int))
abbrev cX7_write : ByteArray := prog_1_method_36_code
def yX7_write : MethodName := ⟨RX7, "write", "(II)I"⟩
abbrev mX7_write : vMI := (yX7_write, cX7_write, 5, (some .int))
abbrev cX7_count : ByteArray := prog_1_method_37_code
def yX7_count : MethodName := ⟨RX7, "count", "(I)I"⟩
abbrev mX7_count : vMI := (yX7_count, cX7_count, 2, (some .int))
abbrev cX7_digest : ByteArray := prog_1_method_38_code
def yX7_digest : MethodName := ⟨RX7, "digest", "()J"⟩
abbrev mX7_digest : vMI := (yX7_digest, cX7_digest, 4, (some .long))
abbrev cX7_isText : ByteArray := prog_1_method_39_code
def yX7_isText : MethodName := ⟨RX7, "isText", "(I)Z"⟩
abbrev mX7_isText : vMI := (yX7_isText, cX7_isText, 1, (some .boolean))
abbrev cX7_isHour : ByteArray := prog_1_method_40_code
def yX7_isHour : MethodName := ⟨RX7, "isHour", "(I)Z"⟩
abbrev mX7_isHour : vMI := (yX7_isHour, cX7_isHour, 1, (some .boolean))
abbrev cX7_isLoad : ByteArray := prog_1_method_41_code
def yX7_isLoad : MethodName := ⟨RX7, "isLoad", "(I)Z"⟩
abbrev mX7_isLoad : vMI := (yX7_isLoad, cX7_isLoad, 1, (some .boolean))
abbrev cX7_isSheet : ByteArray := prog_1_method_42_code
def yX7_isSheet : MethodName := ⟨RX7, "isSheet", "(I)Z"⟩
abbrev mX7_isSheet : vMI := (yX7_isSheet, cX7_isSheet, 1, (some .boolean))
abbrev cX7_isForm : ByteArray := prog_1_method_43_code
def yX7_isForm : MethodName := ⟨RX7, "isForm", "(I)Z"⟩
abbrev mX7_isForm : vMI := (yX7_isForm, cX7_isForm, 1, (some .boolean))
abbrev cX7_isFloor : ByteArray := prog_1_method_44_code
def yX7_isFloor : MethodName := ⟨RX7, "isFloor", "(I)Z"⟩
abbrev mX7_isFloor : vMI := (yX7_isFloor, cX7_isFloor, 2, (some .boolean))
abbrev cX7_isBasket : ByteArray := prog_1_method_45_code
def yX7_isBasket : MethodName := ⟨RX7, "isBasket", "(I)Z"⟩
abbrev mX7_isBasket : vMI := (yX7_isBasket, cX7_isBasket, 2, (some .boolean))
abbrev cX7_textOf : ByteArray := prog_1_method_46_code
def yX7_textOf : MethodName := ⟨RX7, "textOf", "(I)LBreadString$Text;"⟩
abbrev mX7_textOf : vMI := (yX7_textOf, cX7_textOf, 2, (some (.object "BreadString$Text")))
abbrev cX7_reread : ByteArray := prog_1_method_47_code
def yX7_reread : MethodName := ⟨RX7, "reread", "(I)I"⟩
abbrev mX7_reread : vMI := (yX7_reread, cX7_reread, 2, (some .int))
abbrev cX7_oneMore : ByteArray := prog_1_method_48_code
def yX7_oneMore : MethodName := ⟨RX7, "oneMore", "(LBreadString$Marks;I)I"⟩
abbrev mX7_oneMore : vMI := (yX7_oneMore, cX7_oneMore, 2, (some .int))
abbrev cX7_found : ByteArray := prog_1_method_49_code
def yX7_found : MethodName := ⟨RX7, "found", "(I)I"⟩
abbrev mX7_found : vMI := (yX7_found, cX7_found, 2, (some .int))
abbrev cX7_goAsTold : ByteArray := prog_1_method_50_code
def yX7_goAsTold : MethodName := ⟨RX7, "goAsTold", "()V"⟩
abbrev mX7_goAsTold : vMI := (yX7_goAsTold, cX7_goAsTold, 1, none)
abbrev cX7_findHour : ByteArray := prog_1_method_51_code
def yX7_findHour : MethodName := ⟨RX7, "findHour", "(I)V"⟩
abbrev mX7_findHour : vMI := (yX7_findHour, cX7_findHour, 4, none)
abbrev cX7_findStill : ByteArray := prog_1_method_52_code
def yX7_findStill : MethodName := ⟨RX7, "findStill", "()V"⟩
abbrev mX7_findStill : vMI := (yX7_findStill, cX7_findStill, 2, none)
abbrev cX7_findFed : ByteArray := prog_1_method_53_code
def yX7_findFed : MethodName := ⟨RX7, "findFed", "(I)V"⟩
abbrev mX7_findFed : vMI := (yX7_findFed, cX7_findFed, 4, none)
abbrev cX7_keepFed : ByteArray := prog_1_method_54_code
def yX7_keepFed : MethodName := ⟨RX7, "keepFed", "(III)V"⟩
abbrev mX7_keepFed : vMI := (yX7_keepFed, cX7_keepFed, 4, none)
abbrev cX7_fedAt : ByteArray := prog_1_method_55_code
def yX7_fedAt : MethodName := ⟨RX7, "fedAt", "(I)I"⟩
abbrev mX7_fedAt : vMI := (yX7_fedAt, cX7_fedAt, 2, (some .int))
abbrev cX7_staysWhole : ByteArray := prog_1_method_56_code
def yX7_staysWhole : MethodName := ⟨RX7, "staysWhole", "(III)Z"⟩
abbrev mX7_staysWhole : vMI := (yX7_staysWhole, cX7_staysWhole, 6, (some .boolean))
abbrev cX7_fittingBites : ByteArray := prog_1_method_57_code
def yX7_fittingBites : MethodName := ⟨RX7, "fittingBites", "(I)I"⟩
abbrev mX7_fittingBites : vMI := (yX7_fittingBites, cX7_fittingBites, 5, (some .int))
abbrev cX7_fittingWords : ByteArray := prog_1_method_58_code
def yX7_fittingWords : MethodName := ⟨RX7, "fittingWords", "(I)I"⟩
abbrev mX7_fittingWords : vMI := (yX7_fittingWords, cX7_fittingWords, 5, (some .int))
abbrev cX7_greatestHeap : ByteArray := prog_1_method_59_code
def yX7_greatestHeap : MethodName := ⟨RX7, "greatestHeap", "(II)I"⟩
abbrev mX7_greatestHeap : vMI := (yX7_greatestHeap, cX7_greatestHeap, 8, (some .int))
abbrev cX7_findChance : ByteArray := prog_1_method_60_code
def yX7_findChance : MethodName := ⟨RX7, "findChance", "(III)V"⟩
abbrev mX7_findChance : vMI := (yX7_findChance, cX7_findChance, 8, none)
abbrev cX7_lots : ByteArray := prog_1_method_61_code
def yX7_lots : MethodName := ⟨RX7, "lots", "(II)J"⟩
abbrev mX7_lots : vMI := (yX7_lots, cX7_lots, 6, (some .long))
abbrev cX7_mixed : ByteArray := prog_1_method_62_code
def yX7_mixed : MethodName := ⟨RX7, "mixed", "(JJ)J"⟩
abbrev mX7_mixed : vMI := (yX7_mixed, cX7_mixed, 4, (some .long))
abbrev cX7_mixedFloor : ByteArray := prog_1_method_63_code
def yX7_mixedFloor : MethodName := ⟨RX7, "mixedFloor", "(JI)J"⟩
abbrev mX7_mixedFloor : vMI := (yX7_mixedFloor, cX7_mixedFloor, 5, (some .long))
abbrev cX7_mixedWay : ByteArray := prog_1_method_64_code
def yX7_mixedWay : MethodName := ⟨RX7, "mixedWay", "(JI)J"⟩
abbrev mX7_mixedWay : vMI := (yX7_mixedWay, cX7_mixedWay, 5, (some .long))
abbrev cX7_mixedHour : ByteArray := prog_1_method_65_code
def yX7_mixedHour : MethodName := ⟨RX7, "mixedHour", "(JII)J"⟩
abbrev mX7_mixedHour : vMI := (yX7_mixedHour, cX7_mixedHour, 6, (some .long))
abbrev cX7_mixedPlans : ByteArray := prog_1_method_66_code
def yX7_mixedPlans : MethodName := ⟨RX7, "mixedPlans", "(JI)J"⟩
abbrev mX7_mixedPlans : vMI := (yX7_mixedPlans, cX7_mixedPlans, 4, (some .long))
abbrev cX8_init : ByteArray := prog_10_method_1_code
def yX8_init : MethodName := ⟨RX8, "<init>", "()V"⟩
abbrev mX8_init : vMI := (yX8_init, cX8_init, 1, none)
abbrev cX8_in : ByteArray := prog_10_method_3_code
def yX8_in : MethodName := ⟨RX8, "in", "(III)Z"⟩
abbrev mX8_in : vMI := (yX8_in, cX8_in, 3, (some .boolean))
abbrev cX8_isIn : ByteArray := prog_10_method_4_code
def yX8_isIn : MethodName := ⟨RX8, "isIn", "(JI)Z"⟩
abbrev mX8_isIn : vMI := (yX8_isIn, cX8_isIn, 3, (some .boolean))
abbrev cX8_no : ByteArray := prog_10_method_5_code
def yX8_no : MethodName := ⟨RX8, "no", "(I)J"⟩
abbrev mX8_no : vMI := (yX8_no, cX8_no, 1, (some .long))
abbrev cX8_lowest : ByteArray := prog_10_method_6_code
def yX8_lowest : MethodName := ⟨RX8, "lowest", "(JJI)J"⟩
abbrev mX8_lowest : vMI := (yX8_lowest, cX8_lowest, 11, (some .long))
abbrev cX8_isText : ByteArray := prog_10_method_7_code
def yX8_isText : MethodName := ⟨RX8, "isText", "(I)Z"⟩
abbrev mX8_isText : vMI := (yX8_isText, cX8_isText, 1, (some .boolean))
abbrev cX8_isHour : ByteArray := prog_10_method_8_code
def yX8_isHour : MethodName := ⟨RX8, "isHour", "(I)Z"⟩
abbrev mX8_isHour : vMI := (yX8_isHour, cX8_isHour, 1, (some .boolean))
abbrev cX8_type : ByteArray := prog_10_method_9_code
def yX8_type : MethodName := ⟨RX8, "type", "(II)I"⟩
abbrev mX8_type : vMI := (yX8_type, cX8_type, 3, (some .int))
abbrev cX8_wipe : ByteArray := prog_10_method_10_code
def yX8_wipe : MethodName := ⟨RX8, "wipe", "(I)I"⟩
abbrev mX8_wipe : vMI := (yX8_wipe, cX8_wipe, 3, (some .int))
abbrev cX8_undo : ByteArray := prog_10_method_11_code
def yX8_undo : MethodName := ⟨RX8, "undo", "(I)I"⟩
abbrev mX8_undo : vMI := (yX8_undo, cX8_undo, 2, (some .int))
abbrev cX8_byteAt : ByteArray := prog_10_method_12_code
def yX8_byteAt : MethodName := ⟨RX8, "byteAt", "(II)I"⟩
abbrev mX8_byteAt : vMI := (yX8_byteAt, cX8_byteAt, 3, (some .int))
abbrev cX8_isLetter : ByteArray := prog_10_method_13_code
def yX8_isLetter : MethodName := ⟨RX8, "isLetter", "(II)Z"⟩
abbrev mX8_isLetter : vMI := (yX8_isLetter, cX8_isLetter, 3, (some .boolean))
abbrev cX8_isFigure : ByteArray := prog_10_method_14_code
def yX8_isFigure : MethodName := ⟨RX8, "isFigure", "(III)Z"⟩
abbrev mX8_isFigure : vMI := (yX8_isFigure, cX8_isFigure, 4, (some .boolean))
abbrev cX8_readsFloor : ByteArray := prog_10_method_15_code
def yX8_readsFloor : MethodName := ⟨RX8, "readsFloor", "(II)I"⟩
abbrev mX8_readsFloor : vMI := (yX8_readsFloor, cX8_readsFloor, 5, (some .int))
abbrev cX8_readsBasket : ByteArray := prog_10_method_16_code
def yX8_readsBasket : MethodName := ⟨RX8, "readsBasket", "(II)I"⟩
abbrev mX8_readsBasket : vMI := (yX8_readsBasket, cX8_readsBasket, 5, (some .int))
abbrev cX8_readsParts : ByteArray := prog_10_method_17_code
def yX8_readsParts : MethodName := ⟨RX8, "readsParts", "(I)I"⟩
abbrev mX8_readsParts : vMI := (yX8_readsParts, cX8_readsParts, 5, (some .int))
abbrev cX8_faultOf : ByteArray := prog_10_method_18_code
def yX8_faultOf : MethodName := ⟨RX8, "faultOf", "(I)I"⟩
abbrev mX8_faultOf : vMI := (yX8_faultOf, cX8_faultOf, 4, (some .int))
abbrev cX8_reads : ByteArray := prog_10_method_19_code
def yX8_reads : MethodName := ⟨RX8, "reads", "()V"⟩
abbrev mX8_reads : vMI := (yX8_reads, cX8_reads, 2, none)
abbrev cX8_fault : ByteArray := prog_10_method_20_code
def yX8_fault : MethodName := ⟨RX8, "fault", "(I)I"⟩
abbrev mX8_fault : vMI := (yX8_fault, cX8_fault, 2, (some .int))
abbrev cX8_isFloor : ByteArray := prog_10_method_21_code
def yX8_isFloor : MethodName := ⟨RX8, "isFloor", "(I)Z"⟩
abbrev mX8_isFloor : vMI := (yX8_isFloor, cX8_isFloor, 2, (some .boolean))
abbrev cX8_isBasket : ByteArray := prog_10_method_22_code
def yX8_isBasket : MethodName := ⟨RX8, "isBasket", "(I)Z"⟩
abbrev mX8_isBasket : vMI := (yX8_isBasket, cX8_isBasket, 2, (some .boolean))
abbrev cX8_floorOf : ByteArray := prog_10_method_23_code
def yX8_floorOf : MethodName := ⟨RX8, "floorOf", "(II)I"⟩
abbrev mX8_floorOf : vMI := (yX8_floorOf, cX8_floorOf, 3, (some .int))
abbrev cX8_floor : ByteArray := prog_10_method_24_code
def yX8_floor : MethodName := ⟨RX8, "floor", "(II)I"⟩
abbrev mX8_floor : vMI := (yX8_floor, cX8_floor, 3, (some .int))
abbrev cX8_basketOf : ByteArray := prog_10_method_25_code
def yX8_basketOf : MethodName := ⟨RX8, "basketOf", "(II)I"⟩
abbrev mX8_basketOf : vMI := (yX8_basketOf, cX8_basketOf, 3, (some .int))
abbrev cX8_basket : ByteArray := prog_10_method_26_code
def yX8_basket : MethodName := ⟨RX8, "basket", "(II)I"⟩
abbrev mX8_basket : vMI := (yX8_basket, cX8_basket, 3, (some .int))
abbrev cX8_set : ByteArray := prog_10_method_27_code
def yX8_set : MethodName := ⟨RX8, "set", "(II)I"⟩
abbrev mX8_set : vMI := (yX8_set, cX8_set, 4, (some .int))
abbrev cX8_wind : ByteArray := prog_10_method_28_code
def yX8_wind : MethodName := ⟨RX8, "wind", "(I)I"⟩
abbrev mX8_wind : vMI := (yX8_wind, cX8_wind, 2, (some .int))
abbrev cX8_sunday : ByteArray := prog_10_method_29_code
def yX8_sunday : MethodName := ⟨RX8, "sunday", "(I)I"⟩
abbrev mX8_sunday : vMI := (yX8_sunday, cX8_sunday, 2, (some .int))
abbrev cX8_back : ByteArray := prog_10_method_30_code
def yX8_back : MethodName := ⟨RX8, "back", "(I)I"⟩
abbrev mX8_back : vMI := (yX8_back, cX8_back, 3, (some .int))
abbrev cX8_read : ByteArray := prog_10_method_31_code
def yX8_read : MethodName := ⟨RX8, "read", "(I)I"⟩
abbrev mX8_read : vMI := (yX8_read, cX8_read, 3, (some .int))
abbrev cX8_bitsOf : ByteArray := prog_10_method_32_code
def yX8_bitsOf : MethodName := ⟨RX8, "bitsOf", "(JI)J"⟩
abbrev mX8_bitsOf : vMI := (yX8_bitsOf, cX8_bitsOf, 3, (some .long))
abbrev cX8_windsBut : ByteArray := prog_10_method_33_code
def yX8_windsBut : MethodName := ⟨RX8, "windsBut", "(I)J"⟩
abbrev mX8_windsBut : vMI := (yX8_windsBut, cX8_windsBut, 5, (some .long))
abbrev cX8_asTold : ByteArray := prog_10_method_34_code
def yX8_asTold : MethodName := ⟨RX8, "asTold", "()V"⟩
abbrev mX8_asTold : vMI := (yX8_asTold, cX8_asTold, 2, none)
abbrev cX8_isTangled : ByteArray := prog_10_method_35_code
def yX8_isTangled : MethodName := ⟨RX8, "isTangled", "(I)Z"⟩
abbrev mX8_isTangled : vMI := (yX8_isTangled, cX8_isTangled, 4, (some .boolean))
abbrev cX8_takes : ByteArray := prog_10_method_36_code
def yX8_takes : MethodName := ⟨RX8, "takes", "(III)V"⟩
abbrev mX8_takes : vMI := (yX8_takes, cX8_takes, 6, none)
abbrev cX8_wears : ByteArray := prog_10_method_37_code
def yX8_wears : MethodName := ⟨RX8, "wears", "(I)V"⟩
abbrev mX8_wears : vMI := (yX8_wears, cX8_wears, 3, none)
abbrev cX8_goesUp : ByteArray := prog_10_method_38_code
def yX8_goesUp : MethodName := ⟨RX8, "goesUp", "(II)V"⟩
abbrev mX8_goesUp : vMI := (yX8_goesUp, cX8_goesUp, 4, none)
abbrev cX8_goesBy : ByteArray := prog_10_method_39_code
def yX8_goesBy : MethodName := ⟨RX8, "goesBy", "(I)V"⟩
abbrev mX8_goesBy : vMI := (yX8_goesBy, cX8_goesBy, 5, none)
abbrev cX8_runs : ByteArray := prog_10_method_40_code
def yX8_runs : MethodName := ⟨RX8, "runs", "()V"⟩
abbrev mX8_runs : vMI := (yX8_runs, cX8_runs, 3, none)
abbrev cX8_runsTold : ByteArray := prog_10_method_41_code
def yX8_runsTold : MethodName := ⟨RX8, "runsTold", "()V"⟩
abbrev mX8_runsTold : vMI := (yX8_runsTold, cX8_runsTold, 1, none)
abbrev cX8_atOf : ByteArray := prog_10_method_42_code
def yX8_atOf : MethodName := ⟨RX8, "atOf", "(III)I"⟩
abbrev mX8_atOf : vMI := (yX8_atOf, cX8_atOf, 5, (some .int))
abbrev cX8_at : ByteArray := prog_10_method_43_code
def yX8_at : MethodName := ⟨RX8, "at", "(III)I"⟩
abbrev mX8_at : vMI := (yX8_at, cX8_at, 4, (some .int))
abbrev cX8_noteOf : ByteArray := prog_10_method_44_code
def yX8_noteOf : MethodName := ⟨RX8, "noteOf", "(II)I"⟩
abbrev mX8_noteOf : vMI := (yX8_noteOf, cX8_noteOf, 3, (some .int))
abbrev cX8_note : ByteArray := prog_10_method_45_code
def yX8_note : MethodName := ⟨RX8, "note", "(II)I"⟩
abbrev mX8_note : vMI := (yX8_note, cX8_note, 3, (some .int))
abbrev cX8_comesOf : ByteArray := prog_10_method_46_code
def yX8_comesOf : MethodName := ⟨RX8, "comesOf", "(I)I"⟩
abbrev mX8_comesOf : vMI := (yX8_comesOf, cX8_comesOf, 2, (some .int))
abbrev cX8_comes : ByteArray := prog_10_method_47_code
def yX8_comes : MethodName := ⟨RX8, "comes", "(I)I"⟩
abbrev mX8_comes : vMI := (yX8_comes, cX8_comes, 2, (some .int))
abbrev cX8_bitesOf : ByteArray := prog_10_method_48_code
def yX8_bitesOf : MethodName := ⟨RX8, "bitesOf", "(II)I"⟩
abbrev mX8_bitesOf : vMI := (yX8_bitesOf, cX8_bitesOf, 3, (some .int))
abbrev cX8_bites : ByteArray := prog_10_method_49_code
def yX8_bites : MethodName := ⟨RX8, "bites", "(II)I"⟩
abbrev mX8_bites : vMI := (yX8_bites, cX8_bites, 3, (some .int))
abbrev cX8_upMuch : ByteArray := prog_10_method_50_code
def yX8_upMuch : MethodName := ⟨RX8, "upMuch", "()I"⟩
abbrev mX8_upMuch : vMI := (yX8_upMuch, cX8_upMuch, 3, (some .int))
abbrev cX8_famineNow : ByteArray := prog_10_method_51_code
def yX8_famineNow : MethodName := ⟨RX8, "famineNow", "()I"⟩
abbrev mX8_famineNow : vMI := (yX8_famineNow, cX8_famineNow, 3, (some .int))
abbrev cX8_famine : ByteArray := prog_10_method_52_code
def yX8_famine : MethodName := ⟨RX8, "famine", "()I"⟩
abbrev mX8_famine : vMI := (yX8_famine, cX8_famine, 1, (some .int))
abbrev cX8_firstOf : ByteArray := prog_10_method_53_code
def yX8_firstOf : MethodName := ⟨RX8, "firstOf", "(I)I"⟩
abbrev mX8_firstOf : vMI := (yX8_firstOf, cX8_firstOf, 2, (some .int))
abbrev cX8_first : ByteArray := prog_10_method_54_code
def yX8_first : MethodName := ⟨RX8, "first", "(I)I"⟩
abbrev mX8_first : vMI := (yX8_first, cX8_first, 2, (some .int))
abbrev cX8_greedyNow : ByteArray := prog_10_method_55_code
def yX8_greedyNow : MethodName := ⟨RX8, "greedyNow", "()I"⟩
abbrev mX8_greedyNow : vMI := (yX8_greedyNow, cX8_greedyNow, 3, (some .int))
abbrev cX8_greedy : ByteArray := prog_10_method_56_code
def yX8_greedy : MethodName := ⟨RX8, "greedy", "()I"⟩
abbrev mX8_greedy : vMI := (yX8_greedy, cX8_greedy, 1, (some .int))
abbrev cX8_sendOf : ByteArray := prog_10_method_57_code
def yX8_sendOf : MethodName := ⟨RX8, "sendOf", "(II)I"⟩
abbrev mX8_sendOf : vMI := (yX8_sendOf, cX8_sendOf, 8, (some .int))
abbrev cX8_send : ByteArray := prog_10_method_58_code
def yX8_send : MethodName := ⟨RX8, "send", "(II)I"⟩
abbrev mX8_send : vMI := (yX8_send, cX8_send, 3, (some .int))
abbrev cX8_loafOf : ByteArray := prog_10_method_59_code
def yX8_loafOf : MethodName := ⟨RX8, "loafOf", "(II)I"⟩
abbrev mX8_loafOf : vMI := (yX8_loafOf, cX8_loafOf, 6, (some .int))
abbrev cX8_loaf : ByteArray := prog_10_method_60_code
def yX8_loaf : MethodName := ⟨RX8, "loaf", "(II)I"⟩
abbrev mX8_loaf : vMI := (yX8_loaf, cX8_loaf, 3, (some .int))
abbrev cX8_isKept : ByteArray := prog_10_method_61_code
def yX8_isKept : MethodName := ⟨RX8, "isKept", "(II)Z"⟩
abbrev mX8_isKept : vMI := (yX8_isKept, cX8_isKept, 5, (some .boolean))
abbrev cX8_feedBy : ByteArray := prog_10_method_62_code
def yX8_feedBy : MethodName := ⟨RX8, "feedBy", "(I)I"⟩
abbrev mX8_feedBy : vMI := (yX8_feedBy, cX8_feedBy, 4, (some .int))
abbrev cX8_ofRow : ByteArray := prog_10_method_63_code
def yX8_ofRow : MethodName := ⟨RX8, "ofRow", "(II)I"⟩
abbrev mX8_ofRow : vMI := (yX8_ofRow, cX8_ofRow, 3, (some .int))
abbrev cX8_feed : ByteArray := prog_10_method_64_code
def yX8_feed : MethodName := ⟨RX8, "feed", "(II)I"⟩
abbrev mX8_feed : vMI := (yX8_feed, cX8_feed, 3, (some .int))
abbrev cX8_stillOf : ByteArray := prog_10_method_65_code
def yX8_stillOf : MethodName := ⟨RX8, "stillOf", "(I)I"⟩
abbrev mX8_stillOf : vMI := (yX8_stillOf, cX8_stillOf, 6, (some .int))
abbrev cX8_still : ByteArray := prog_10_method_66_code
def yX8_still : MethodName := ⟨RX8, "still", "(I)I"⟩
abbrev mX8_still : vMI := (yX8_still, cX8_still, 2, (some .int))
abbrev cX8_seen : ByteArray := prog_10_method_67_code
def yX8_seen : MethodName := ⟨RX8, "seen", "(III)I"⟩
abbrev mX8_seen : vMI := (yX8_seen, cX8_seen, 4, (some .int))
abbrev cX8_forget : ByteArray := prog_10_method_68_code
def yX8_forget : MethodName := ⟨RX8, "forget", "()I"⟩
abbrev mX8_forget : vMI := (yX8_forget, cX8_forget, 2, (some .int))
abbrev cX8_isSeen : ByteArray := prog_10_method_69_code
def yX8_isSeen : MethodName := ⟨RX8, "isSeen", "()Z"⟩
abbrev mX8_isSeen : vMI := (yX8_isSeen, cX8_isSeen, 5, (some .boolean))
abbrev cX8_neverNow : ByteArray := prog_10_method_70_code
def yX8_neverNow : MethodName := ⟨RX8, "neverNow", "()I"⟩
abbrev mX8_neverNow : vMI := (yX8_neverNow, cX8_neverNow, 3, (some .int))
abbrev cX8_never : ByteArray := prog_10_method_71_code
def yX8_never : MethodName := ⟨RX8, "never", "()I"⟩
abbrev mX8_never : vMI := (yX8_never, cX8_never, 1, (some .int))
abbrev cX8_wasOf : ByteArray := prog_10_method_72_code
def yX8_wasOf : MethodName := ⟨RX8, "wasOf", "(II)I"⟩
abbrev mX8_wasOf : vMI := (yX8_wasOf, cX8_wasOf, 8, (some .int))
abbrev cX8_was : ByteArray := prog_10_method_73_code
def yX8_was : MethodName := ⟨RX8, "was", "(II)I"⟩
abbrev mX8_was : vMI := (yX8_was, cX8_was, 3, (some .int))
abbrev cX8_askOf : ByteArray := prog_10_method_74_code
def yX8_askOf : MethodName := ⟨RX8, "askOf", "(I)I"⟩
abbrev mX8_askOf : vMI := (yX8_askOf, cX8_askOf, 10, (some .int))
abbrev cX8_ask : ByteArray := prog_10_method_75_code
def yX8_ask : MethodName := ⟨RX8, "ask", "(I)I"⟩
abbrev mX8_ask : vMI := (yX8_ask, cX8_ask, 2, (some .int))
abbrev cX8_gustOf : ByteArray := prog_10_method_76_code
def yX8_gustOf : MethodName := ⟨RX8, "gustOf", "(IIII)J"⟩
abbrev mX8_gustOf : vMI := (yX8_gustOf, cX8_gustOf, 11, (some .long))
abbrev cX8_gust : ByteArray := prog_10_method_77_code
def yX8_gust : MethodName := ⟨RX8, "gust", "(IIII)J"⟩
abbrev mX8_gust : vMI := (yX8_gust, cX8_gust, 5, (some .long))
abbrev cX8_bitesAll : ByteArray := prog_10_method_78_code
def yX8_bitesAll : MethodName := ⟨RX8, "bitesAll", "()I"⟩
abbrev mX8_bitesAll : vMI := (yX8_bitesAll, cX8_bitesAll, 3, (some .int))
abbrev cX8_weekOf : ByteArray := prog_10_method_79_code
def yX8_weekOf : MethodName := ⟨RX8, "weekOf", "(III)I"⟩
abbrev mX8_weekOf : vMI := (yX8_weekOf, cX8_weekOf, 6, (some .int))
abbrev cX8_week : ByteArray := prog_10_method_80_code
def yX8_week : MethodName := ⟨RX8, "week", "(III)I"⟩
abbrev mX8_week : vMI := (yX8_week, cX8_week, 4, (some .int))
abbrev cX8_meets : ByteArray := prog_10_method_81_code
def yX8_meets : MethodName := ⟨RX8, "meets", "(I)I"⟩
abbrev mX8_meets : vMI := (yX8_meets, cX8_meets, 2, (some .int))
abbrev cX8_isSheet : ByteArray := prog_10_method_82_code
def yX8_isSheet : MethodName := ⟨RX8, "isSheet", "(I)Z"⟩
abbrev mX8_isSheet : vMI := (yX8_isSheet, cX8_isSheet, 1, (some .boolean))
abbrev cX8_sheet : ByteArray := prog_10_method_83_code
def yX8_sheet : MethodName := ⟨RX8, "sheet", "(III)I"⟩
abbrev mX8_sheet : vMI := (yX8_sheet, cX8_sheet, 5, (some .int))
abbrev cX8_lose : ByteArray := prog_10_method_84_code
def yX8_lose : MethodName := ⟨RX8, "lose", "(I)I"⟩
abbrev mX8_lose : vMI := (yX8_lose, cX8_lose, 2, (some .int))
abbrev cX8_lacks : ByteArray := prog_10_method_85_code
def yX8_lacks : MethodName := ⟨RX8, "lacks", "(III)I"⟩
abbrev mX8_lacks : vMI := (yX8_lacks, cX8_lacks, 4, (some .int))
abbrev cX8_keep : ByteArray := prog_10_method_86_code
def yX8_keep : MethodName := ⟨RX8, "keep", "(III)V"⟩
abbrev mX8_keep : vMI := (yX8_keep, cX8_keep, 4, none)
abbrev cX8_put : ByteArray := prog_10_method_87_code
def yX8_put : MethodName := ⟨RX8, "put", "(IIII)I"⟩
abbrev mX8_put : vMI := (yX8_put, cX8_put, 6, (some .int))
abbrev cX8_get : ByteArray := prog_10_method_88_code
def yX8_get : MethodName := ⟨RX8, "get", "(III)I"⟩
abbrev mX8_get : vMI := (yX8_get, cX8_get, 5, (some .int))
abbrev cX8_copy : ByteArray := prog_10_method_89_code
def yX8_copy : MethodName := ⟨RX8, "copy", "(IIIII)I"⟩
abbrev mX8_copy : vMI := (yX8_copy, cX8_copy, 7, (some .int))
abbrev cX8_write : ByteArray := prog_10_method_90_code
def yX8_write : MethodName := ⟨RX8, "write", "(II)I"⟩
abbrev mX8_write : vMI := (yX8_write, cX8_write, 4, (some .int))
abbrev cX8_sumOf : ByteArray := prog_10_method_91_code
def yX8_sumOf : MethodName := ⟨RX8, "sumOf", "(I)I"⟩
abbrev mX8_sumOf : vMI := (yX8_sumOf, cX8_sumOf, 2, (some .int))
abbrev cX8_count : ByteArray := prog_10_method_92_code
def yX8_count : MethodName := ⟨RX8, "count", "(I)I"⟩
abbrev mX8_count : vMI := (yX8_count, cX8_count, 2, (some .int))
abbrev cX8_floorDigest : ByteArray := prog_10_method_93_code
def yX8_floorDigest : MethodName := ⟨RX8, "floorDigest", "(JI)J"⟩
abbrev mX8_floorDigest : vMI := (yX8_floorDigest, cX8_floorDigest, 7, (some .long))
abbrev cX8_hourDigest : ByteArray := prog_10_method_94_code
def yX8_hourDigest : MethodName := ⟨RX8, "hourDigest", "(JII)J"⟩
abbrev mX8_hourDigest : vMI := (yX8_hourDigest, cX8_hourDigest, 8, (some .long))
abbrev cX8_basketDigest : ByteArray := prog_10_method_95_code
def yX8_basketDigest : MethodName := ⟨RX8, "basketDigest", "(JI)J"⟩
abbrev mX8_basketDigest : vMI := (yX8_basketDigest, cX8_basketDigest, 7, (some .long))
abbrev cX8_digest : ByteArray := prog_10_method_96_code
def yX8_digest : MethodName := ⟨RX8, "digest", "()J"⟩
abbrev mX8_digest : vMI := (yX8_digest, cX8_digest, 4, (some .long))
abbrev cJ9_max_7cf53 : ByteArray := prog_11_method_65_code
def yJ9_max_7cf53 : MethodName := ⟨"java/lang/Math", "max", "(II)I"⟩
abbrev mJ9_max_7cf53 : vMI := (yJ9_max_7cf53, cJ9_max_7cf53, 2, (some .int))
abbrev cJ9_min_7cf53 : ByteArray := prog_11_method_69_code
def yJ9_min_7cf53 : MethodName := ⟨"java/lang/Math", "min", "(II)I"⟩
abbrev mJ9_min_7cf53 : vMI := (yJ9_min_7cf53, cJ9_min_7cf53, 2, (some .int))
set_option maxRecDepth 100000 in
theorem hfX0_clear : vMfV mX0_clear 0 := ⟨⟨by decide +kernel, vTm (List.mem_of_getElem? (i := 596) (by decide +kernel)) (by decide +kernel), vTm (List.mem_of_getElem? (i := 88) (by decide +kernel)) (by decide +kernel), ⟨by decide +kernel, by decide +kernel, by decide +kernel⟩, by decide⟩, vTm (List.mem_of_getElem? (i := 594) (by decide +kernel)) (by decide +kernel), vTm (List.mem_of_getElem? (i := 595) (by decide +kernel)) (by decide +kernel)⟩
set_option maxRecDepth 100000 in
theorem hfX0_offer : vMfV mX0_offer 2 := ⟨⟨by decide +kernel, vTm (List.mem_of_getElem? (i := 600) (by decide +kernel)) (by decide +kernel), vTm (List.mem_of_getElem? (i := 88) (by decide +kernel)) (by decide +kernel), ⟨by decide +kernel, by decide +kernel, by decide +kernel⟩, by decide⟩, vTm (List.mem_of_getElem? (i := 598) (by decide +kernel)) (by decide +kernel), vTm (List.mem_of_getElem? (i := 599) (by decide +kernel)) (by decide +kernel)⟩
set_option maxRecDepth 100000 in
theorem hfX1_add : vMfV mX1_add 1 := ⟨⟨by decide +kernel, vTm (List.mem_of_getElem? (i := 473) (by decide +kernel)) (by decide +kernel), vTm (List.mem_of_getElem? (i := 85) (by decide +kernel)) (by decide +kernel), ⟨by decide +kernel, by decide +kernel, by decide +kernel⟩, by decide⟩, vTm (List.mem_of_getElem? (i := 471) (by decide +kernel)) (by decide +kernel), vTm (List.mem_of_getElem? (i := 472) (by decide +kernel)) (by decide +kernel)⟩
set_option maxRecDepth 100000 in
theorem hfX1_all : vMfV mX1_all 0 := ⟨⟨by decide +kernel, vTm (List.mem_of_getElem? (i := 508) (by decide +kernel)) (by decide +kernel), vTm (List.mem_of_getElem? (i := 85) (by decide +kernel)) (by decide +kernel), ⟨by decide +kernel, by decide +kernel, by decide +kernel⟩, by decide⟩, vTm (List.mem_of_getElem? (i := 506) (by decide +kernel)) (by decide +kernel), vTm (List.mem_of_getElem? (i := 507) (by decide +kernel)) (by decide +kernel)⟩
set_option maxRecDepth 100000 in
theorem hfX1_allBut : vMfV mX1_allBut 1 := ⟨⟨by decide +kernel, vTm (List.mem_of_getElem? (i := 661) (by decide +kernel)) (by decide +kernel), vTm (List.mem_of_getElem? (i := 85) (by decide +kernel)) (by decide +kernel), ⟨by decide +kernel, by decide +kernel, by decide +kernel⟩, by decide⟩, vTm (List.mem_of_getElem? (i := 659) (by decide +kernel)) (by decide +kernel), vTm (List.mem_of_getElem? (i := 660) (by decide +kernel)) (by decide +kernel)⟩
set_option maxRecDepth 100000 in
theorem hfX1_chosen : vMfV mX1_chosen 1 := ⟨⟨by decide +kernel, vTm (List.mem_of_getElem? (i := 512) (by decide +kernel)) (by decide +kernel), vTm (List.mem_of_getElem? (i := 85) (by decide +kernel)) (by decide +kernel), ⟨by decide +kernel, by decide +kernel, by decide +kernel⟩, by decide⟩, vTm (List.mem_of_getElem? (i := 510) (by decide +kernel)) (by decide +kernel), vTm (List.mem_of_getElem? (i := 511) (by decide +kernel)) (by decide +kernel)⟩
set_option maxRecDepth 100000 in
theorem hfX2_isLost : vMfV mX2_isLost 1 := ⟨⟨by decide +kernel, vTm (List.mem_of_getElem? (i := 492) (by decide +kernel)) (by decide +kernel), vTm (List.mem_of_getElem? (i := 87) (by decide +kernel)) (by decide +kernel), ⟨by decide +kernel, by decide +kernel, by decide +kernel⟩, by decide⟩, vTm (List.mem_of_getElem? (i := 490) (by decide +kernel)) (by decide +kernel), vTm (List.mem_of_getElem? (i := 491) (by decide +kernel)) (by decide +kernel)⟩
set_option maxRecDepth 100000 in
theorem hfX2_make : vMfV mX2_make 3 := ⟨⟨by decide +kernel, vTm (List.mem_of_getElem? (i := 736) (by decide +kernel)) (by decide +kernel), vTm (List.mem_of_getElem? (i := 87) (by decide +kernel)) (by decide +kernel), ⟨by decide +kernel, by decide +kernel, by decide +kernel⟩, by decide⟩, vTm (List.mem_of_getElem? (i := 734) (by decide +kernel)) (by decide +kernel), vTm (List.mem_of_getElem? (i := 735) (by decide +kernel)) (by decide +kernel)⟩
set_option maxRecDepth 100000 in
theorem hfX2_wrongWith : vMfV mX2_wrongWith 3 := ⟨⟨by decide +kernel, vTm (List.mem_of_getElem? (i := 748) (by decide +kernel)) (by decide +kernel), vTm (List.mem_of_getElem? (i := 87) (by decide +kernel)) (by decide +kernel), ⟨by decide +kernel, by decide +kernel, by decide +kernel⟩, by decide⟩, vTm (List.mem_of_getElem? (i := 746) (by decide +kernel)) (by decide +kernel), vTm (List.mem_of_getElem? (i := 747) (by decide +kernel)) (by decide +kernel)⟩
set_option maxRecDepth 100000 in
theorem hfX2_hasItems : vMfV mX2_hasItems 3 := ⟨⟨by decide +kernel, vTm (List.mem_of_getElem? (i := 753) (by decide +kernel)) (by decide +kernel), vTm (List.mem_of_getElem? (i := 87) (by decide +kernel)) (by decide +kernel), ⟨by decide +kernel, by decide +kernel, by decide +kernel⟩, by decide⟩, vTm (List.mem_of_getElem? (i := 751) (by decide +kernel)) (by decide +kernel), vTm (List.mem_of_getElem? (i := 752) (by decide +kernel)) (by decide +kernel)⟩
set_option maxRecDepth 100000 in
theorem hfX2_item : vMfV mX2_item 2 := ⟨⟨by decide +kernel, vTm (List.mem_of_getElem? (i := 500) (by decide +kernel)) (by decide +kernel), vTm (List.mem_of_getElem? (i := 87) (by decide +kernel)) (by decide +kernel), ⟨by decide +kernel, by decide +kernel, by decide +kernel⟩, by decide⟩, vTm (List.mem_of_getElem? (i := 498) (by decide +kernel)) (by decide +kernel), vTm (List.mem_of_getElem? (i := 499) (by decide +kernel)) (by decide +kernel)⟩
set_option maxRecDepth 100000 in
theorem hfX2_store : vMfV mX2_store 3 := ⟨⟨by decide +kernel, vTm (List.mem_of_getElem? (i := 757) (by decide +kernel)) (by decide +kernel), vTm (List.mem_of_getElem? (i := 87) (by decide +kernel)) (by decide +kernel), ⟨by decide +kernel, by decide +kernel, by decide +kernel⟩, by decide⟩, vTm (List.mem_of_getElem? (i := 755) (by decide +kernel)) (by decide +kernel), vTm (List.mem_of_getElem? (i := 756) (by decide +kernel)) (by decide +kernel)⟩
set_option maxRecDepth 100000 in
theorem hfX3_add : vMfV mX3_add 3 := ⟨⟨by decide +kernel, vTm (List.mem_of_getElem? (i := 669) (by decide +kernel)) (by decide +kernel), vTm (List.mem_of_getElem? (i := 86) (by decide +kernel)) (by decide +kernel), ⟨by decide +kernel, by decide +kernel, by decide +kernel⟩, by decide⟩, vTm (List.mem_of_getElem? (i := 667) (by decide +kernel)) (by decide +kernel), vTm (List.mem_of_getElem? (i := 668) (by decide +kernel)) (by decide +kernel)⟩
set_option maxRecDepth 100000 in
theorem hfX3_agree : vMfV mX3_agree 1 := ⟨⟨by decide +kernel, vTm (List.mem_of_getElem? (i := 681) (by decide +kernel)) (by decide +kernel), vTm (List.mem_of_getElem? (i := 86) (by decide +kernel)) (by decide +kernel), ⟨by decide +kernel, by decide +kernel, by decide +kernel⟩, by decide⟩, vTm (List.mem_of_getElem? (i := 679) (by decide +kernel)) (by decide +kernel), vTm (List.mem_of_getElem? (i := 680) (by decide +kernel)) (by decide +kernel)⟩
set_option maxRecDepth 100000 in
theorem hfX4_append : vMfV mX4_append 1 := ⟨⟨by decide +kernel, vTm (List.mem_of_getElem? (i := 386) (by decide +kernel)) (by decide +kernel), vTm (List.mem_of_getElem? (i := 82) (by decide +kernel)) (by decide +kernel), ⟨by decide +kernel, by decide +kernel, by decide +kernel⟩, by decide⟩, vTm (List.mem_of_getElem? (i := 384) (by decide +kernel)) (by decide +kernel), vTm (List.mem_of_getElem? (i := 385) (by decide +kernel)) (by decide +kernel)⟩
set_option maxRecDepth 100000 in
theorem hfX5_readFloors : vMfV mX5_readFloors 1 := ⟨⟨by decide +kernel, vTm (List.mem_of_getElem? (i := 394) (by decide +kernel)) (by decide +kernel), vTm (List.mem_of_getElem? (i := 83) (by decide +kernel)) (by decide +kernel), ⟨by decide +kernel, by decide +kernel, by decide +kernel⟩, by decide⟩, vTm (List.mem_of_getElem? (i := 392) (by decide +kernel)) (by decide +kernel), vTm (List.mem_of_getElem? (i := 393) (by decide +kernel)) (by decide +kernel)⟩
set_option maxRecDepth 100000 in
theorem hfX5_takeFloors : vMfV mX5_takeFloors 1 := ⟨⟨by decide +kernel, vTm (List.mem_of_getElem? (i := 398) (by decide +kernel)) (by decide +kernel), vTm (List.mem_of_getElem? (i := 83) (by decide +kernel)) (by decide +kernel), ⟨by decide +kernel, by decide +kernel, by decide +kernel⟩, by decide⟩, vTm (List.mem_of_getElem? (i := 397) (by decide +kernel)) (by decide +kernel), vTm (List.mem_of_getElem? (i := 2) (by decide +kernel)) (by decide +kernel)⟩
set_option maxRecDepth 100000 in
theorem hfX5_readBaskets : vMfV mX5_readBaskets 1 := ⟨⟨by decide +kernel, vTm (List.mem_of_getElem? (i := 411) (by decide +kernel)) (by decide +kernel), vTm (List.mem_of_getElem? (i := 83) (by decide +kernel)) (by decide +kernel), ⟨by decide +kernel, by decide +kernel, by decide +kernel⟩, by decide⟩, vTm (List.mem_of_getElem? (i := 409) (by decide +kernel)) (by decide +kernel), vTm (List.mem_of_getElem? (i := 410) (by decide +kernel)) (by decide +kernel)⟩
set_option maxRecDepth 100000 in
theorem hfX5_takeBaskets : vMfV mX5_takeBaskets 1 := ⟨⟨by decide +kernel, vTm (List.mem_of_getElem? (i := 415) (by decide +kernel)) (by decide +kernel), vTm (List.mem_of_getElem? (i := 83) (by decide +kernel)) (by decide +kernel), ⟨by decide +kernel, by decide +kernel, by decide +kernel⟩, by decide⟩, vTm (List.mem_of_getElem? (i := 414) (by decide +kernel)) (by decide +kernel), vTm (List.mem_of_getElem? (i := 3) (by decide +kernel)) (by decide +kernel)⟩
set_option maxRecDepth 100000 in
theorem hfX5_basketTakes : vMfV mX5_basketTakes 2 := ⟨⟨by decide +kernel, vTm (List.mem_of_getElem? (i := 419) (by decide +kernel)) (by decide +kernel), vTm (List.mem_of_getElem? (i := 83) (by decide +kernel)) (by decide +kernel), ⟨by decide +kernel, by decide +kernel, by decide +kernel⟩, by decide⟩, vTm (List.mem_of_getElem? (i := 418) (by decide +kernel)) (by decide +kernel), vTm (List.mem_of_getElem? (i := 4) (by decide +kernel)) (by decide +kernel)⟩
set_option maxRecDepth 100000 in
theorem hfX5_keepBasketByte : vMfV mX5_keepBasketByte 2 := ⟨⟨by decide +kernel, vTm (List.mem_of_getElem? (i := 423) (by decide +kernel)) (by decide +kernel), vTm (List.mem_of_getElem? (i := 83) (by decide +kernel)) (by decide +kernel), ⟨by decide +kernel, by decide +kernel, by decide +kernel⟩, by decide⟩, vTm (List.mem_of_getElem? (i := 422) (by decide +kernel)) (by decide +kernel), vTm (List.mem_of_getElem? (i := 5) (by decide +kernel)) (by decide +kernel)⟩
set_option maxRecDepth 100000 in
theorem hfX5_toldLetter : vMfV mX5_toldLetter 2 := ⟨⟨by decide +kernel, vTm (List.mem_of_getElem? (i := 455) (by decide +kernel)) (by decide +kernel), vTm (List.mem_of_getElem? (i := 83) (by decide +kernel)) (by decide +kernel), ⟨by decide +kernel, by decide +kernel, by decide +kernel⟩, by decide⟩, vTm (List.mem_of_getElem? (i := 453) (by decide +kernel)) (by decide +kernel), vTm (List.mem_of_getElem? (i := 454) (by decide +kernel)) (by decide +kernel)⟩
set_option maxRecDepth 100000 in
theorem hfX5_loadInAll : vMfV mX5_loadInAll 0 := ⟨⟨by decide +kernel, vTm (List.mem_of_getElem? (i := 580) (by decide +kernel)) (by decide +kernel), vTm (List.mem_of_getElem? (i := 83) (by decide +kernel)) (by decide +kernel), ⟨by decide +kernel, by decide +kernel, by decide +kernel⟩, by decide⟩, vTm (List.mem_of_getElem? (i := 578) (by decide +kernel)) (by decide +kernel), vTm (List.mem_of_getElem? (i := 579) (by decide +kernel)) (by decide +kernel)⟩
set_option maxRecDepth 100000 in
theorem hfX5_changeBite : vMfV mX5_changeBite 2 := ⟨⟨by decide +kernel, vTm (List.mem_of_getElem? (i := 635) (by decide +kernel)) (by decide +kernel), vTm (List.mem_of_getElem? (i := 83) (by decide +kernel)) (by decide +kernel), ⟨by decide +kernel, by decide +kernel, by decide +kernel⟩, by decide⟩, vTm (List.mem_of_getElem? (i := 633) (by decide +kernel)) (by decide +kernel), vTm (List.mem_of_getElem? (i := 634) (by decide +kernel)) (by decide +kernel)⟩
set_option maxRecDepth 100000 in
theorem hfX5_sortOf : vMfS mX5_sortOf 1 := ⟨⟨by decide +kernel, vTm (List.mem_of_getElem? (i := 401) (by decide +kernel)) (by decide +kernel), vTm (List.mem_of_getElem? (i := 83) (by decide +kernel)) (by decide +kernel), ⟨by decide +kernel, by decide +kernel, by decide +kernel⟩, by decide⟩, vTm (List.mem_of_getElem? (i := 400) (by decide +kernel)) (by decide +kernel)⟩
set_option maxRecDepth 100000 in
theorem hfX5_isFigure : vMfS mX5_isFigure 1 := ⟨⟨by decide +kernel, vTm (List.mem_of_getElem? (i := 404) (by decide +kernel)) (by decide +kernel), vTm (List.mem_of_getElem? (i := 83) (by decide +kernel)) (by decide +kernel), ⟨by decide +kernel, by decide +kernel, by decide +kernel⟩, by decide⟩, vTm (List.mem_of_getElem? (i := 403) (by decide +kernel)) (by decide +kernel)⟩
set_option maxRecDepth 100000 in
theorem hfX5_isLetter : vMfS mX5_isLetter 1 := ⟨⟨by decide +kernel, vTm (List.mem_of_getElem? (i := 407) (by decide +kernel)) (by decide +kernel), vTm (List.mem_of_getElem? (i := 83) (by decide +kernel)) (by decide +kernel), ⟨by decide +kernel, by decide +kernel, by decide +kernel⟩, by decide⟩, vTm (List.mem_of_getElem? (i := 406) (by decide +kernel)) (by decide +kernel)⟩
set_option maxRecDepth 100000 in
theorem hfX6_go : vMfV mX6_go 3 := ⟨⟨by decide +kernel, vTm (List.mem_of_getElem? (i := 516) (by decide +kernel)) (by decide +kernel), vTm (List.mem_of_getElem? (i := 84) (by decide +kernel)) (by decide +kernel), ⟨by decide +kernel, by decide +kernel, by decide +kernel⟩, by decide⟩, vTm (List.mem_of_getElem? (i := 514) (by decide +kernel)) (by decide +kernel), vTm (List.mem_of_getElem? (i := 515) (by decide +kernel)) (by decide +kernel)⟩
set_option maxRecDepth 100000 in
theorem hfX6_begin : vMfV mX6_begin 0 := ⟨⟨by decide +kernel, vTm (List.mem_of_getElem? (i := 520) (by decide +kernel)) (by decide +kernel), vTm (List.mem_of_getElem? (i := 84) (by decide +kernel)) (by decide +kernel), ⟨by decide +kernel, by decide +kernel, by decide +kernel⟩, by decide⟩, vTm (List.mem_of_getElem? (i := 519) (by decide +kernel)) (by decide +kernel), vTm (List.mem_of_getElem? (i := 9) (by decide +kernel)) (by decide +kernel)⟩
set_option maxRecDepth 100000 in
theorem hfX6_arrive : vMfV mX6_arrive 1 := ⟨⟨by decide +kernel, vTm (List.mem_of_getElem? (i := 527) (by decide +kernel)) (by decide +kernel), vTm (List.mem_of_getElem? (i := 84) (by decide +kernel)) (by decide +kernel), ⟨by decide +kernel, by decide +kernel, by decide +kernel⟩, by decide⟩, vTm (List.mem_of_getElem? (i := 526) (by decide +kernel)) (by decide +kernel), vTm (List.mem_of_getElem? (i := 10) (by decide +kernel)) (by decide +kernel)⟩
set_option maxRecDepth 100000 in
theorem hfX6_serve : vMfV mX6_serve 1 := ⟨⟨by decide +kernel, vTm (List.mem_of_getElem? (i := 531) (by decide +kernel)) (by decide +kernel), vTm (List.mem_of_getElem? (i := 84) (by decide +kernel)) (by decide +kernel), ⟨by decide +kernel, by decide +kernel, by decide +kernel⟩, by decide⟩, vTm (List.mem_of_getElem? (i := 530) (by decide +kernel)) (by decide +kernel), vTm (List.mem_of_getElem? (i := 11) (by decide +kernel)) (by decide +kernel)⟩
set_option maxRecDepth 100000 in
theorem hfX6_wantsBite : vMfV mX6_wantsBite 2 := ⟨⟨by decide +kernel, vTm (List.mem_of_getElem? (i := 535) (by decide +kernel)) (by decide +kernel), vTm (List.mem_of_getElem? (i := 84) (by decide +kernel)) (by decide +kernel), ⟨by decide +kernel, by decide +kernel, by decide +kernel⟩, by decide⟩, vTm (List.mem_of_getElem? (i := 534) (by decide +kernel)) (by decide +kernel), vTm (List.mem_of_getElem? (i := 12) (by decide +kernel)) (by decide +kernel)⟩
set_option maxRecDepth 100000 in
theorem hfX6_bite : vMfV mX6_bite 3 := ⟨⟨by decide +kernel, vTm (List.mem_of_getElem? (i := 539) (by decide +kernel)) (by decide +kernel), vTm (List.mem_of_getElem? (i := 84) (by decide +kernel)) (by decide +kernel), ⟨by decide +kernel, by decide +kernel, by decide +kernel⟩, by decide⟩, vTm (List.mem_of_getElem? (i := 538) (by decide +kernel)) (by decide +kernel), vTm (List.mem_of_getElem? (i := 13) (by decide +kernel)) (by decide +kernel)⟩
set_option maxRecDepth 100000 in
theorem hfX6_climb : vMfV mX6_climb 1 := ⟨⟨by decide +kernel, vTm (List.mem_of_getElem? (i := 543) (by decide +kernel)) (by decide +kernel), vTm (List.mem_of_getElem? (i := 84) (by decide +kernel)) (by decide +kernel), ⟨by decide +kernel, by decide +kernel, by decide +kernel⟩, by decide⟩, vTm (List.mem_of_getElem? (i := 542) (by decide +kernel)) (by decide +kernel), vTm (List.mem_of_getElem? (i := 14) (by decide +kernel)) (by decide +kernel)⟩
set_option maxRecDepth 100000 in
theorem hfX6_leave : vMfV mX6_leave 2 := ⟨⟨by decide +kernel, vTm (List.mem_of_getElem? (i := 547) (by decide +kernel)) (by decide +kernel), vTm (List.mem_of_getElem? (i := 84) (by decide +kernel)) (by decide +kernel), ⟨by decide +kernel, by decide +kernel, by decide +kernel⟩, by decide⟩, vTm (List.mem_of_getElem? (i := 546) (by decide +kernel)) (by decide +kernel), vTm (List.mem_of_getElem? (i := 15) (by decide +kernel)) (by decide +kernel)⟩
set_option maxRecDepth 100000 in
theorem hfX6_letters : vMfV mX6_letters 1 := ⟨⟨by decide +kernel, vTm (List.mem_of_getElem? (i := 551) (by decide +kernel)) (by decide +kernel), vTm (List.mem_of_getElem? (i := 84) (by decide +kernel)) (by decide +kernel), ⟨by decide +kernel, by decide +kernel, by decide +kernel⟩, by decide⟩, vTm (List.mem_of_getElem? (i := 549) (by decide +kernel)) (by decide +kernel), vTm (List.mem_of_getElem? (i := 550) (by decide +kernel)) (by decide +kernel)⟩
set_option maxRecDepth 100000 in
theorem hfX6_letter : vMfV mX6_letter 2 := ⟨⟨by decide +kernel, vTm (List.mem_of_getElem? (i := 563) (by decide +kernel)) (by decide +kernel), vTm (List.mem_of_getElem? (i := 84) (by decide +kernel)) (by decide +kernel), ⟨by decide +kernel, by decide +kernel, by decide +kernel⟩, by decide⟩, vTm (List.mem_of_getElem? (i := 561) (by decide +kernel)) (by decide +kernel), vTm (List.mem_of_getElem? (i := 562) (by decide +kernel)) (by decide +kernel)⟩
set_option maxRecDepth 100000 in
theorem hfX6_noteAsTold : vMfV mX6_noteAsTold 1 := ⟨⟨by decide +kernel, vTm (List.mem_of_getElem? (i := 639) (by decide +kernel)) (by decide +kernel), vTm (List.mem_of_getElem? (i := 84) (by decide +kernel)) (by decide +kernel), ⟨by decide +kernel, by decide +kernel, by decide +kernel⟩, by decide⟩, vTm (List.mem_of_getElem? (i := 637) (by decide +kernel)) (by decide +kernel), vTm (List.mem_of_getElem? (i := 638) (by decide +kernel)) (by decide +kernel)⟩
set_option maxRecDepth 100000 in
theorem hfX6_bringsUp : vMfV mX6_bringsUp 2 := ⟨⟨by decide +kernel, vTm (List.mem_of_getElem? (i := 619) (by decide +kernel)) (by decide +kernel), vTm (List.mem_of_getElem? (i := 84) (by decide +kernel)) (by decide +kernel), ⟨by decide +kernel, by decide +kernel, by decide +kernel⟩, by decide⟩, vTm (List.mem_of_getElem? (i := 617) (by decide +kernel)) (by decide +kernel), vTm (List.mem_of_getElem? (i := 618) (by decide +kernel)) (by decide +kernel)⟩
set_option maxRecDepth 100000 in
theorem hfX6_loadUp : vMfV mX6_loadUp 0 := ⟨⟨by decide +kernel, vTm (List.mem_of_getElem? (i := 584) (by decide +kernel)) (by decide +kernel), vTm (List.mem_of_getElem? (i := 84) (by decide +kernel)) (by decide +kernel), ⟨by decide +kernel, by decide +kernel, by decide +kernel⟩, by decide⟩, vTm (List.mem_of_getElem? (i := 582) (by decide +kernel)) (by decide +kernel), vTm (List.mem_of_getElem? (i := 583) (by decide +kernel)) (by decide +kernel)⟩
set_option maxRecDepth 100000 in
theorem hfX7_type : vMfV mX7_type 2 := ⟨⟨by decide +kernel, vTm (List.mem_of_getElem? (i := 375) (by decide +kernel)) (by decide +kernel), vTm (List.mem_of_getElem? (i := 81) (by decide +kernel)) (by decide +kernel), ⟨by decide +kernel, by decide +kernel, by decide +kernel⟩, by decide⟩, vTm (List.mem_of_getElem? (i := 373) (by decide +kernel)) (by decide +kernel), vTm (List.mem_of_getElem? (i := 374) (by decide +kernel)) (by decide +kernel)⟩
set_option maxRecDepth 100000 in
theorem hfX7_wipe : vMfV mX7_wipe 1 := ⟨⟨by decide +kernel, vTm (List.mem_of_getElem? (i := 427) (by decide +kernel)) (by decide +kernel), vTm (List.mem_of_getElem? (i := 81) (by decide +kernel)) (by decide +kernel), ⟨by decide +kernel, by decide +kernel, by decide +kernel⟩, by decide⟩, vTm (List.mem_of_getElem? (i := 425) (by decide +kernel)) (by decide +kernel), vTm (List.mem_of_getElem? (i := 426) (by decide +kernel)) (by decide +kernel)⟩
set_option maxRecDepth 100000 in
theorem hfX7_undo : vMfV mX7_undo 1 := ⟨⟨by decide +kernel, vTm (List.mem_of_getElem? (i := 431) (by decide +kernel)) (by decide +kernel), vTm (List.mem_of_getElem? (i := 81) (by decide +kernel)) (by decide +kernel), ⟨by decide +kernel, by decide +kernel, by decide +kernel⟩, by decide⟩, vTm (List.mem_of_getElem? (i := 429) (by decide +kernel)) (by decide +kernel), vTm (List.mem_of_getElem? (i := 430) (by decide +kernel)) (by decide +kernel)⟩
set_option maxRecDepth 100000 in
theorem hfX7_fault : vMfV mX7_fault 1 := ⟨⟨by decide +kernel, vTm (List.mem_of_getElem? (i := 435) (by decide +kernel)) (by decide +kernel), vTm (List.mem_of_getElem? (i := 81) (by decide +kernel)) (by decide +kernel), ⟨by decide +kernel, by decide +kernel, by decide +kernel⟩, by decide⟩, vTm (List.mem_of_getElem? (i := 433) (by decide +kernel)) (by decide +kernel), vTm (List.mem_of_getElem? (i := 434) (by decide +kernel)) (by decide +kernel)⟩
set_option maxRecDepth 100000 in
theorem hfX7_floor : vMfV mX7_floor 2 := ⟨⟨by decide +kernel, vTm (List.mem_of_getElem? (i := 439) (by decide +kernel)) (by decide +kernel), vTm (List.mem_of_getElem? (i := 81) (by decide +kernel)) (by decide +kernel), ⟨by decide +kernel, by decide +kernel, by decide +kernel⟩, by decide⟩, vTm (List.mem_of_getElem? (i := 437) (by decide +kernel)) (by decide +kernel), vTm (List.mem_of_getElem? (i := 438) (by decide +kernel)) (by decide +kernel)⟩
set_option maxRecDepth 100000 in
theorem hfX7_basket : vMfV mX7_basket 2 := ⟨⟨by decide +kernel, vTm (List.mem_of_getElem? (i := 447) (by decide +kernel)) (by decide +kernel), vTm (List.mem_of_getElem? (i := 81) (by decide +kernel)) (by decide +kernel), ⟨by decide +kernel, by decide +kernel, by decide +kernel⟩, by decide⟩, vTm (List.mem_of_getElem? (i := 445) (by decide +kernel)) (by decide +kernel), vTm (List.mem_of_getElem? (i := 446) (by decide +kernel)) (by decide +kernel)⟩
set_option maxRecDepth 100000 in
theorem hfX7_set : vMfV mX7_set 2 := ⟨⟨by decide +kernel, vTm (List.mem_of_getElem? (i := 459) (by decide +kernel)) (by decide +kernel), vTm (List.mem_of_getElem? (i := 81) (by decide +kernel)) (by decide +kernel), ⟨by decide +kernel, by decide +kernel, by decide +kernel⟩, by decide⟩, vTm (List.mem_of_getElem? (i := 457) (by decide +kernel)) (by decide +kernel), vTm (List.mem_of_getElem? (i := 458) (by decide +kernel)) (by decide +kernel)⟩
set_option maxRecDepth 100000 in
theorem hfX7_wind : vMfV mX7_wind 1 := ⟨⟨by decide +kernel, vTm (List.mem_of_getElem? (i := 463) (by decide +kernel)) (by decide +kernel), vTm (List.mem_of_getElem? (i := 81) (by decide +kernel)) (by decide +kernel), ⟨by decide +kernel, by decide +kernel, by decide +kernel⟩, by decide⟩, vTm (List.mem_of_getElem? (i := 461) (by decide +kernel)) (by decide +kernel), vTm (List.mem_of_getElem? (i := 462) (by decide +kernel)) (by decide +kernel)⟩
set_option maxRecDepth 100000 in
theorem hfX7_sunday : vMfV mX7_sunday 1 := ⟨⟨by decide +kernel, vTm (List.mem_of_getElem? (i := 477) (by decide +kernel)) (by decide +kernel), vTm (List.mem_of_getElem? (i := 81) (by decide +kernel)) (by decide +kernel), ⟨by decide +kernel, by decide +kernel, by decide +kernel⟩, by decide⟩, vTm (List.mem_of_getElem? (i := 475) (by decide +kernel)) (by decide +kernel), vTm (List.mem_of_getElem? (i := 476) (by decide +kernel)) (by decide +kernel)⟩
set_option maxRecDepth 100000 in
theorem hfX7_back : vMfV mX7_back 1 := ⟨⟨by decide +kernel, vTm (List.mem_of_getElem? (i := 481) (by decide +kernel)) (by decide +kernel), vTm (List.mem_of_getElem? (i := 81) (by decide +kernel)) (by decide +kernel), ⟨by decide +kernel, by decide +kernel, by decide +kernel⟩, by decide⟩, vTm (List.mem_of_getElem? (i := 479) (by decide +kernel)) (by decide +kernel), vTm (List.mem_of_getElem? (i := 480) (by decide +kernel)) (by decide +kernel)⟩
set_option maxRecDepth 100000 in
theorem hfX7_read : vMfV mX7_read 1 := ⟨⟨by decide +kernel, vTm (List.mem_of_getElem? (i := 485) (by decide +kernel)) (by decide +kernel), vTm (List.mem_of_getElem? (i := 81) (by decide +kernel)) (by decide +kernel), ⟨by decide +kernel, by decide +kernel, by decide +kernel⟩, by decide⟩, vTm (List.mem_of_getElem? (i := 483) (by decide +kernel)) (by decide +kernel), vTm (List.mem_of_getElem? (i := 484) (by decide +kernel)) (by decide +kernel)⟩
set_option maxRecDepth 100000 in
theorem hfX7_at : vMfV mX7_at 3 := ⟨⟨by decide +kernel, vTm (List.mem_of_getElem? (i := 504) (by decide +kernel)) (by decide +kernel), vTm (List.mem_of_getElem? (i := 81) (by decide +kernel)) (by decide +kernel), ⟨by decide +kernel, by decide +kernel, by decide +kernel⟩, by decide⟩, vTm (List.mem_of_getElem? (i := 502) (by decide +kernel)) (by decide +kernel), vTm (List.mem_of_getElem? (i := 503) (by decide +kernel)) (by decide +kernel)⟩
set_option maxRecDepth 100000 in
theorem hfX7_note : vMfV mX7_note 2 := ⟨⟨by decide +kernel, vTm (List.mem_of_getElem? (i := 555) (by decide +kernel)) (by decide +kernel), vTm (List.mem_of_getElem? (i := 81) (by decide +kernel)) (by decide +kernel), ⟨by decide +kernel, by decide +kernel, by decide +kernel⟩, by decide⟩, vTm (List.mem_of_getElem? (i := 553) (by decide +kernel)) (by decide +kernel), vTm (List.mem_of_getElem? (i := 554) (by decide +kernel)) (by decide +kernel)⟩
set_option maxRecDepth 100000 in
theorem hfX7_comes : vMfV mX7_comes 1 := ⟨⟨by decide +kernel, vTm (List.mem_of_getElem? (i := 568) (by decide +kernel)) (by decide +kernel), vTm (List.mem_of_getElem? (i := 81) (by decide +kernel)) (by decide +kernel), ⟨by decide +kernel, by decide +kernel, by decide +kernel⟩, by decide⟩, vTm (List.mem_of_getElem? (i := 566) (by decide +kernel)) (by decide +kernel), vTm (List.mem_of_getElem? (i := 567) (by decide +kernel)) (by decide +kernel)⟩
set_option maxRecDepth 100000 in
theorem hfX7_bites : vMfV mX7_bites 2 := ⟨⟨by decide +kernel, vTm (List.mem_of_getElem? (i := 572) (by decide +kernel)) (by decide +kernel), vTm (List.mem_of_getElem? (i := 81) (by decide +kernel)) (by decide +kernel), ⟨by decide +kernel, by decide +kernel, by decide +kernel⟩, by decide⟩, vTm (List.mem_of_getElem? (i := 570) (by decide +kernel)) (by decide +kernel), vTm (List.mem_of_getElem? (i := 571) (by decide +kernel)) (by decide +kernel)⟩
set_option maxRecDepth 100000 in
theorem hfX7_famine : vMfV mX7_famine 0 := ⟨⟨by decide +kernel, vTm (List.mem_of_getElem? (i := 576) (by decide +kernel)) (by decide +kernel), vTm (List.mem_of_getElem? (i := 81) (by decide +kernel)) (by decide +kernel), ⟨by decide +kernel, by decide +kernel, by decide +kernel⟩, by decide⟩, vTm (List.mem_of_getElem? (i := 574) (by decide +kernel)) (by decide +kernel), vTm (List.mem_of_getElem? (i := 575) (by decide +kernel)) (by decide +kernel)⟩
set_option maxRecDepth 100000 in
theorem hfX7_first : vMfV mX7_first 1 := ⟨⟨by decide +kernel, vTm (List.mem_of_getElem? (i := 588) (by decide +kernel)) (by decide +kernel), vTm (List.mem_of_getElem? (i := 81) (by decide +kernel)) (by decide +kernel), ⟨by decide +kernel, by decide +kernel, by decide +kernel⟩, by decide⟩, vTm (List.mem_of_getElem? (i := 586) (by decide +kernel)) (by decide +kernel), vTm (List.mem_of_getElem? (i := 587) (by decide +kernel)) (by decide +kernel)⟩
set_option maxRecDepth 100000 in
theorem hfX7_greedy : vMfV mX7_greedy 0 := ⟨⟨by decide +kernel, vTm (List.mem_of_getElem? (i := 592) (by decide +kernel)) (by decide +kernel), vTm (List.mem_of_getElem? (i := 81) (by decide +kernel)) (by decide +kernel), ⟨by decide +kernel, by decide +kernel, by decide +kernel⟩, by decide⟩, vTm (List.mem_of_getElem? (i := 590) (by decide +kernel)) (by decide +kernel), vTm (List.mem_of_getElem? (i := 591) (by decide +kernel)) (by decide +kernel)⟩
set_option maxRecDepth 100000 in
theorem hfX7_send : vMfV mX7_send 2 := ⟨⟨by decide +kernel, vTm (List.mem_of_getElem? (i := 604) (by decide +kernel)) (by decide +kernel), vTm (List.mem_of_getElem? (i := 81) (by decide +kernel)) (by decide +kernel), ⟨by decide +kernel, by decide +kernel, by decide +kernel⟩, by decide⟩, vTm (List.mem_of_getElem? (i := 602) (by decide +kernel)) (by decide +kernel), vTm (List.mem_of_getElem? (i := 603) (by decide +kernel)) (by decide +kernel)⟩
set_option maxRecDepth 100000 in
theorem hfX7_loaf : vMfV mX7_loaf 2 := ⟨⟨by decide +kernel, vTm (List.mem_of_getElem? (i := 612) (by decide +kernel)) (by decide +kernel), vTm (List.mem_of_getElem? (i := 81) (by decide +kernel)) (by decide +kernel), ⟨by decide +kernel, by decide +kernel, by decide +kernel⟩, by decide⟩, vTm (List.mem_of_getElem? (i := 610) (by decide +kernel)) (by decide +kernel), vTm (List.mem_of_getElem? (i := 611) (by decide +kernel)) (by decide +kernel)⟩
set_option maxRecDepth 100000 in
theorem hfX7_feed : vMfV mX7_feed 2 := ⟨⟨by decide +kernel, vTm (List.mem_of_getElem? (i := 623) (by decide +kernel)) (by decide +kernel), vTm (List.mem_of_getElem? (i := 81) (by decide +kernel)) (by decide +kernel), ⟨by decide +kernel, by decide +kernel, by decide +kernel⟩, by decide⟩, vTm (List.mem_of_getElem? (i := 621) (by decide +kernel)) (by decide +kernel), vTm (List.mem_of_getElem? (i := 622) (by decide +kernel)) (by decide +kernel)⟩
set_option maxRecDepth 100000 in
theorem hfX7_still : vMfV mX7_still 1 := ⟨⟨by decide +kernel, vTm (List.mem_of_getElem? (i := 653) (by decide +kernel)) (by decide +kernel), vTm (List.mem_of_getElem? (i := 81) (by decide +kernel)) (by decide +kernel), ⟨by decide +kernel, by decide +kernel, by decide +kernel⟩, by decide⟩, vTm (List.mem_of_getElem? (i := 651) (by decide +kernel)) (by decide +kernel), vTm (List.mem_of_getElem? (i := 652) (by decide +kernel)) (by decide +kernel)⟩
set_option maxRecDepth 100000 in
theorem hfX7_seen : vMfV mX7_seen 3 := ⟨⟨by decide +kernel, vTm (List.mem_of_getElem? (i := 665) (by decide +kernel)) (by decide +kernel), vTm (List.mem_of_getElem? (i := 81) (by decide +kernel)) (by decide +kernel), ⟨by decide +kernel, by decide +kernel, by decide +kernel⟩, by decide⟩, vTm (List.mem_of_getElem? (i := 663) (by decide +kernel)) (by decide +kernel), vTm (List.mem_of_getElem? (i := 664) (by decide +kernel)) (by decide +kernel)⟩
set_option maxRecDepth 100000 in
theorem hfX7_forget : vMfV mX7_forget 0 := ⟨⟨by decide +kernel, vTm (List.mem_of_getElem? (i := 673) (by decide +kernel)) (by decide +kernel), vTm (List.mem_of_getElem? (i := 81) (by decide +kernel)) (by decide +kernel), ⟨by decide +kernel, by decide +kernel, by decide +kernel⟩, by decide⟩, vTm (List.mem_of_getElem? (i := 671) (by decide +kernel)) (by decide +kernel), vTm (List.mem_of_getElem? (i := 672) (by decide +kernel)) (by decide +kernel)⟩
set_option maxRecDepth 100000 in
theorem hfX7_never : vMfV mX7_never 0 := ⟨⟨by decide +kernel, vTm (List.mem_of_getElem? (i := 677) (by decide +kernel)) (by decide +kernel), vTm (List.mem_of_getElem? (i := 81) (by decide +kernel)) (by decide +kernel), ⟨by decide +kernel, by decide +kernel, by decide +kernel⟩, by decide⟩, vTm (List.mem_of_getElem? (i := 675) (by decide +kernel)) (by decide +kernel), vTm (List.mem_of_getElem? (i := 676) (by decide +kernel)) (by decide +kernel)⟩
set_option maxRecDepth 100000 in
theorem hfX7_was : vMfV mX7_was 2 := ⟨⟨by decide +kernel, vTm (List.mem_of_getElem? (i := 686) (by decide +kernel)) (by decide +kernel), vTm (List.mem_of_getElem? (i := 81) (by decide +kernel)) (by decide +kernel), ⟨by decide +kernel, by decide +kernel, by decide +kernel⟩, by decide⟩, vTm (List.mem_of_getElem? (i := 684) (by decide +kernel)) (by decide +kernel), vTm (List.mem_of_getElem? (i := 685) (by decide +kernel)) (by decide +kernel)⟩
set_option maxRecDepth 100000 in
theorem hfX7_ask : vMfV mX7_ask 1 := ⟨⟨by decide +kernel, vTm (List.mem_of_getElem? (i := 699) (by decide +kernel)) (by decide +kernel), vTm (List.mem_of_getElem? (i := 81) (by decide +kernel)) (by decide +kernel), ⟨by decide +kernel, by decide +kernel, by decide +kernel⟩, by decide⟩, vTm (List.mem_of_getElem? (i := 697) (by decide +kernel)) (by decide +kernel), vTm (List.mem_of_getElem? (i := 698) (by decide +kernel)) (by decide +kernel)⟩
set_option maxRecDepth 100000 in
theorem hfX7_gust : vMfV mX7_gust 4 := ⟨⟨by decide +kernel, vTm (List.mem_of_getElem? (i := 710) (by decide +kernel)) (by decide +kernel), vTm (List.mem_of_getElem? (i := 81) (by decide +kernel)) (by decide +kernel), ⟨by decide +kernel, by decide +kernel, by decide +kernel⟩, by decide⟩, vTm (List.mem_of_getElem? (i := 708) (by decide +kernel)) (by decide +kernel), vTm (List.mem_of_getElem? (i := 709) (by decide +kernel)) (by decide +kernel)⟩
set_option maxRecDepth 100000 in
theorem hfX7_week : vMfV mX7_week 3 := ⟨⟨by decide +kernel, vTm (List.mem_of_getElem? (i := 721) (by decide +kernel)) (by decide +kernel), vTm (List.mem_of_getElem? (i := 81) (by decide +kernel)) (by decide +kernel), ⟨by decide +kernel, by decide +kernel, by decide +kernel⟩, by decide⟩, vTm (List.mem_of_getElem? (i := 719) (by decide +kernel)) (by decide +kernel), vTm (List.mem_of_getElem? (i := 720) (by decide +kernel)) (by decide +kernel)⟩
set_option maxRecDepth 100000 in
theorem hfX7_sheet : vMfV mX7_sheet 3 := ⟨⟨by decide +kernel, vTm (List.mem_of_getElem? (i := 729) (by decide +kernel)) (by decide +kernel), vTm (List.mem_of_getElem? (i := 81) (by decide +kernel)) (by decide +kernel), ⟨by decide +kernel, by decide +kernel, by decide +kernel⟩, by decide⟩, vTm (List.mem_of_getElem? (i := 727) (by decide +kernel)) (by decide +kernel), vTm (List.mem_of_getElem? (i := 728) (by decide +kernel)) (by decide +kernel)⟩
set_option maxRecDepth 100000 in
theorem hfX7_lose : vMfV mX7_lose 1 := ⟨⟨by decide +kernel, vTm (List.mem_of_getElem? (i := 740) (by decide +kernel)) (by decide +kernel), vTm (List.mem_of_getElem? (i := 81) (by decide +kernel)) (by decide +kernel), ⟨by decide +kernel, by decide +kernel, by decide +kernel⟩, by decide⟩, vTm (List.mem_of_getElem? (i := 738) (by decide +kernel)) (by decide +kernel), vTm (List.mem_of_getElem? (i := 739) (by decide +kernel)) (by decide +kernel)⟩
set_option maxRecDepth 100000 in
theorem hfX7_put : vMfV mX7_put 4 := ⟨⟨by decide +kernel, vTm (List.mem_of_getElem? (i := 744) (by decide +kernel)) (by decide +kernel), vTm (List.mem_of_getElem? (i := 81) (by decide +kernel)) (by decide +kernel), ⟨by decide +kernel, by decide +kernel, by decide +kernel⟩, by decide⟩, vTm (List.mem_of_getElem? (i := 742) (by decide +kernel)) (by decide +kernel), vTm (List.mem_of_getElem? (i := 743) (by decide +kernel)) (by decide +kernel)⟩
set_option maxRecDepth 100000 in
theorem hfX7_get : vMfV mX7_get 3 := ⟨⟨by decide +kernel, vTm (List.mem_of_getElem? (i := 761) (by decide +kernel)) (by decide +kernel), vTm (List.mem_of_getElem? (i := 81) (by decide +kernel)) (by decide +kernel), ⟨by decide +kernel, by decide +kernel, by decide +kernel⟩, by decide⟩, vTm (List.mem_of_getElem? (i := 759) (by decide +kernel)) (by decide +kernel), vTm (List.mem_of_getElem? (i := 760) (by decide +kernel)) (by decide +kernel)⟩
set_option maxRecDepth 100000 in
theorem hfX7_copy : vMfV mX7_copy 5 := ⟨⟨by decide +kernel, vTm (List.mem_of_getElem? (i := 766) (by decide +kernel)) (by decide +kernel), vTm (List.mem_of_getElem? (i := 81) (by decide +kernel)) (by decide +kernel), ⟨by decide +kernel, by decide +kernel, by decide +kernel⟩, by decide⟩, vTm (List.mem_of_getElem? (i := 764) (by decide +kernel)) (by decide +kernel), vTm (List.mem_of_getElem? (i := 765) (by decide +kernel)) (by decide +kernel)⟩
set_option maxRecDepth 100000 in
theorem hfX7_write : vMfV mX7_write 2 := ⟨⟨by decide +kernel, vTm (List.mem_of_getElem? (i := 771) (by decide +kernel)) (by decide +kernel), vTm (List.mem_of_getElem? (i := 81) (by decide +kernel)) (by decide +kernel), ⟨by decide +kernel, by decide +kernel, by decide +kernel⟩, by decide⟩, vTm (List.mem_of_getElem? (i := 769) (by decide +kernel)) (by decide +kernel), vTm (List.mem_of_getElem? (i := 770) (by decide +kernel)) (by decide +kernel)⟩
set_option maxRecDepth 100000 in
theorem hfX7_count : vMfV mX7_count 1 := ⟨⟨by decide +kernel, vTm (List.mem_of_getElem? (i := 778) (by decide +kernel)) (by decide +kernel), vTm (List.mem_of_getElem? (i := 81) (by decide +kernel)) (by decide +kernel), ⟨by decide +kernel, by decide +kernel, by decide +kernel⟩, by decide⟩, vTm (List.mem_of_getElem? (i := 776) (by decide +kernel)) (by decide +kernel), vTm (List.mem_of_getElem? (i := 777) (by decide +kernel)) (by decide +kernel)⟩
set_option maxRecDepth 100000 in
theorem hfX7_digest : vMfV mX7_digest 0 := ⟨⟨by decide +kernel, vTm (List.mem_of_getElem? (i := 782) (by decide +kernel)) (by decide +kernel), vTm (List.mem_of_getElem? (i := 81) (by decide +kernel)) (by decide +kernel), ⟨by decide +kernel, by decide +kernel, by decide +kernel⟩, by decide⟩, vTm (List.mem_of_getElem? (i := 780) (by decide +kernel)) (by decide +kernel), vTm (List.mem_of_getElem? (i := 781) (by decide +kernel)) (by decide +kernel)⟩
set_option maxRecDepth 100000 in
theorem hfX7_isText : vMfS mX7_isText 1 := ⟨⟨by decide +kernel, vTm (List.mem_of_getElem? (i := 378) (by decide +kernel)) (by decide +kernel), vTm (List.mem_of_getElem? (i := 81) (by decide +kernel)) (by decide +kernel), ⟨by decide +kernel, by decide +kernel, by decide +kernel⟩, by decide⟩, vTm (List.mem_of_getElem? (i := 377) (by decide +kernel)) (by decide +kernel)⟩
set_option maxRecDepth 100000 in
theorem hfX7_isHour : vMfS mX7_isHour 1 := ⟨⟨by decide +kernel, vTm (List.mem_of_getElem? (i := 469) (by decide +kernel)) (by decide +kernel), vTm (List.mem_of_getElem? (i := 81) (by decide +kernel)) (by decide +kernel), ⟨by decide +kernel, by decide +kernel, by decide +kernel⟩, by decide⟩, vTm (List.mem_of_getElem? (i := 468) (by decide +kernel)) (by decide +kernel)⟩
set_option maxRecDepth 100000 in
theorem hfX7_isLoad : vMfS mX7_isLoad 1 := ⟨⟨by decide +kernel, vTm (List.mem_of_getElem? (i := 615) (by decide +kernel)) (by decide +kernel), vTm (List.mem_of_getElem? (i := 81) (by decide +kernel)) (by decide +kernel), ⟨by decide +kernel, by decide +kernel, by decide +kernel⟩, by decide⟩, vTm (List.mem_of_getElem? (i := 614) (by decide +kernel)) (by decide +kernel)⟩
set_option maxRecDepth 100000 in
theorem hfX7_isSheet : vMfS mX7_isSheet 1 := ⟨⟨by decide +kernel, vTm (List.mem_of_getElem? (i := 488) (by decide +kernel)) (by decide +kernel), vTm (List.mem_of_getElem? (i := 81) (by decide +kernel)) (by decide +kernel), ⟨by decide +kernel, by decide +kernel, by decide +kernel⟩, by decide⟩, vTm (List.mem_of_getElem? (i := 487) (by decide +kernel)) (by decide +kernel)⟩
set_option maxRecDepth 100000 in
theorem hfX7_isForm : vMfS mX7_isForm 1 := ⟨⟨by decide +kernel, vTm (List.mem_of_getElem? (i := 732) (by decide +kernel)) (by decide +kernel), vTm (List.mem_of_getElem? (i := 81) (by decide +kernel)) (by decide +kernel), ⟨by decide +kernel, by decide +kernel, by decide +kernel⟩, by decide⟩, vTm (List.mem_of_getElem? (i := 731) (by decide +kernel)) (by decide +kernel)⟩
set_option maxRecDepth 100000 in
theorem hfX7_isFloor : vMfV mX7_isFloor 1 := ⟨⟨by decide +kernel, vTm (List.mem_of_getElem? (i := 443) (by decide +kernel)) (by decide +kernel), vTm (List.mem_of_getElem? (i := 81) (by decide +kernel)) (by decide +kernel), ⟨by decide +kernel, by decide +kernel, by decide +kernel⟩, by decide⟩, vTm (List.mem_of_getElem? (i := 442) (by decide +kernel)) (by decide +kernel), vTm (List.mem_of_getElem? (i := 6) (by decide +kernel)) (by decide +kernel)⟩
set_option maxRecDepth 100000 in
theorem hfX7_isBasket : vMfV mX7_isBasket 1 := ⟨⟨by decide +kernel, vTm (List.mem_of_getElem? (i := 451) (by decide +kernel)) (by decide +kernel), vTm (List.mem_of_getElem? (i := 81) (by decide +kernel)) (by decide +kernel), ⟨by decide +kernel, by decide +kernel, by decide +kernel⟩, by decide⟩, vTm (List.mem_of_getElem? (i := 450) (by decide +kernel)) (by decide +kernel), vTm (List.mem_of_getElem? (i := 7) (by decide +kernel)) (by decide +kernel)⟩
set_option maxRecDepth 100000 in
theorem hfX7_textOf : vMfV mX7_textOf 1 := ⟨⟨by decide +kernel, vTm (List.mem_of_getElem? (i := 382) (by decide +kernel)) (by decide +kernel), vTm (List.mem_of_getElem? (i := 81) (by decide +kernel)) (by decide +kernel), ⟨by decide +kernel, by decide +kernel, by decide +kernel⟩, by decide⟩, vTm (List.mem_of_getElem? (i := 381) (by decide +kernel)) (by decide +kernel), vTm (List.mem_of_getElem? (i := 0) (by decide +kernel)) (by decide +kernel)⟩
set_option maxRecDepth 100000 in
theorem hfX7_reread : vMfV mX7_reread 1 := ⟨⟨by decide +kernel, vTm (List.mem_of_getElem? (i := 390) (by decide +kernel)) (by decide +kernel), vTm (List.mem_of_getElem? (i := 81) (by decide +kernel)) (by decide +kernel), ⟨by decide +kernel, by decide +kernel, by decide +kernel⟩, by decide⟩, vTm (List.mem_of_getElem? (i := 389) (by decide +kernel)) (by decide +kernel), vTm (List.mem_of_getElem? (i := 1) (by decide +kernel)) (by decide +kernel)⟩
set_option maxRecDepth 100000 in
theorem hfX7_oneMore : vMfS mX7_oneMore 2 := ⟨⟨by decide +kernel, vTm (List.mem_of_getElem? (i := 466) (by decide +kernel)) (by decide +kernel), vTm (List.mem_of_getElem? (i := 81) (by decide +kernel)) (by decide +kernel), ⟨by decide +kernel, by decide +kernel, by decide +kernel⟩, by decide⟩, vTm (List.mem_of_getElem? (i := 465) (by decide +kernel)) (by decide +kernel)⟩
set_option maxRecDepth 100000 in
theorem hfX7_found : vMfV mX7_found 1 := ⟨⟨by decide +kernel, vTm (List.mem_of_getElem? (i := 496) (by decide +kernel)) (by decide +kernel), vTm (List.mem_of_getElem? (i := 81) (by decide +kernel)) (by decide +kernel), ⟨by decide +kernel, by decide +kernel, by decide +kernel⟩, by decide⟩, vTm (List.mem_of_getElem? (i := 495) (by decide +kernel)) (by decide +kernel), vTm (List.mem_of_getElem? (i := 8) (by decide +kernel)) (by decide +kernel)⟩
set_option maxRecDepth 100000 in
theorem hfX7_goAsTold : vMfV mX7_goAsTold 0 := ⟨⟨by decide +kernel, vTm (List.mem_of_getElem? (i := 559) (by decide +kernel)) (by decide +kernel), vTm (List.mem_of_getElem? (i := 81) (by decide +kernel)) (by decide +kernel), ⟨by decide +kernel, by decide +kernel, by decide +kernel⟩, by decide⟩, vTm (List.mem_of_getElem? (i := 558) (by decide +kernel)) (by decide +kernel), vTm (List.mem_of_getElem? (i := 16) (by decide +kernel)) (by decide +kernel)⟩
set_option maxRecDepth 100000 in
theorem hfX7_findHour : vMfV mX7_findHour 1 := ⟨⟨by decide +kernel, vTm (List.mem_of_getElem? (i := 608) (by decide +kernel)) (by decide +kernel), vTm (List.mem_of_getElem? (i := 81) (by decide +kernel)) (by decide +kernel), ⟨by decide +kernel, by decide +kernel, by decide +kernel⟩, by decide⟩, vTm (List.mem_of_getElem? (i := 607) (by decide +kernel)) (by decide +kernel), vTm (List.mem_of_getElem? (i := 17) (by decide +kernel)) (by decide +kernel)⟩
set_option maxRecDepth 100000 in
theorem hfX7_findStill : vMfV mX7_findStill 0 := ⟨⟨by decide +kernel, vTm (List.mem_of_getElem? (i := 657) (by decide +kernel)) (by decide +kernel), vTm (List.mem_of_getElem? (i := 81) (by decide +kernel)) (by decide +kernel), ⟨by decide +kernel, by decide +kernel, by decide +kernel⟩, by decide⟩, vTm (List.mem_of_getElem? (i := 656) (by decide +kernel)) (by decide +kernel), vTm (List.mem_of_getElem? (i := 22) (by decide +kernel)) (by decide +kernel)⟩
set_option maxRecDepth 100000 in
theorem hfX7_findFed : vMfV mX7_findFed 1 := ⟨⟨by decide +kernel, vTm (List.mem_of_getElem? (i := 627) (by decide +kernel)) (by decide +kernel), vTm (List.mem_of_getElem? (i := 81) (by decide +kernel)) (by decide +kernel), ⟨by decide +kernel, by decide +kernel, by decide +kernel⟩, by decide⟩, vTm (List.mem_of_getElem? (i := 626) (by decide +kernel)) (by decide +kernel), vTm (List.mem_of_getElem? (i := 18) (by decide +kernel)) (by decide +kernel)⟩
set_option maxRecDepth 100000 in
theorem hfX7_keepFed : vMfV mX7_keepFed 3 := ⟨⟨by decide +kernel, vTm (List.mem_of_getElem? (i := 645) (by decide +kernel)) (by decide +kernel), vTm (List.mem_of_getElem? (i := 81) (by decide +kernel)) (by decide +kernel), ⟨by decide +kernel, by decide +kernel, by decide +kernel⟩, by decide⟩, vTm (List.mem_of_getElem? (i := 644) (by decide +kernel)) (by decide +kernel), vTm (List.mem_of_getElem? (i := 20) (by decide +kernel)) (by decide +kernel)⟩
set_option maxRecDepth 100000 in
theorem hfX7_fedAt : vMfV mX7_fedAt 1 := ⟨⟨by decide +kernel, vTm (List.mem_of_getElem? (i := 649) (by decide +kernel)) (by decide +kernel), vTm (List.mem_of_getElem? (i := 81) (by decide +kernel)) (by decide +kernel), ⟨by decide +kernel, by decide +kernel, by decide +kernel⟩, by decide⟩, vTm (List.mem_of_getElem? (i := 648) (by decide +kernel)) (by decide +kernel), vTm (List.mem_of_getElem? (i := 21) (by decide +kernel)) (by decide +kernel)⟩
set_option maxRecDepth 100000 in
theorem hfX7_staysWhole : vMfV mX7_staysWhole 3 := ⟨⟨by decide +kernel, vTm (List.mem_of_getElem? (i := 631) (by decide +kernel)) (by decide +kernel), vTm (List.mem_of_getElem? (i := 81) (by decide +kernel)) (by decide +kernel), ⟨by decide +kernel, by decide +kernel, by decide +kernel⟩, by decide⟩, vTm (List.mem_of_getElem? (i := 630) (by decide +kernel)) (by decide +kernel), vTm (List.mem_of_getElem? (i := 19) (by decide +kernel)) (by decide +kernel)⟩
set_option maxRecDepth 100000 in
theorem hfX7_fittingBites : vMfV mX7_fittingBites 1 := ⟨⟨by decide +kernel, vTm (List.mem_of_getElem? (i := 690) (by decide +kernel)) (by decide +kernel), vTm (List.mem_of_getElem? (i := 81) (by decide +kernel)) (by decide +kernel), ⟨by decide +kernel, by decide +kernel, by decide +kernel⟩, by decide⟩, vTm (List.mem_of_getElem? (i := 689) (by decide +kernel)) (by decide +kernel), vTm (List.mem_of_getElem? (i := 23) (by decide +kernel)) (by decide +kernel)⟩
set_option maxRecDepth 100000 in
theorem hfX7_fittingWords : vMfV mX7_fittingWords 1 := ⟨⟨by decide +kernel, vTm (List.mem_of_getElem? (i := 695) (by decide +kernel)) (by decide +kernel), vTm (List.mem_of_getElem? (i := 81) (by decide +kernel)) (by decide +kernel), ⟨by decide +kernel, by decide +kernel, by decide +kernel⟩, by decide⟩, vTm (List.mem_of_getElem? (i := 694) (by decide +kernel)) (by decide +kernel), vTm (List.mem_of_getElem? (i := 24) (by decide +kernel)) (by decide +kernel)⟩
set_option maxRecDepth 100000 in
theorem hfX7_greatestHeap : vMfV mX7_greatestHeap 2 := ⟨⟨by decide +kernel, vTm (List.mem_of_getElem? (i := 703) (by decide +kernel)) (by decide +kernel), vTm (List.mem_of_getElem? (i := 81) (by decide +kernel)) (by decide +kernel), ⟨by decide +kernel, by decide +kernel, by decide +kernel⟩, by decide⟩, vTm (List.mem_of_getElem? (i := 702) (by decide +kernel)) (by decide +kernel), vTm (List.mem_of_getElem? (i := 25) (by decide +kernel)) (by decide +kernel)⟩
set_option maxRecDepth 100000 in
theorem hfX7_findChance : vMfV mX7_findChance 3 := ⟨⟨by decide +kernel, vTm (List.mem_of_getElem? (i := 715) (by decide +kernel)) (by decide +kernel), vTm (List.mem_of_getElem? (i := 81) (by decide +kernel)) (by decide +kernel), ⟨by decide +kernel, by decide +kernel, by decide +kernel⟩, by decide⟩, vTm (List.mem_of_getElem? (i := 714) (by decide +kernel)) (by decide +kernel), vTm (List.mem_of_getElem? (i := 26) (by decide +kernel)) (by decide +kernel)⟩
set_option maxRecDepth 100000 in
theorem hfX7_lots : vMfS mX7_lots 2 := ⟨⟨by decide +kernel, vTm (List.mem_of_getElem? (i := 724) (by decide +kernel)) (by decide +kernel), vTm (List.mem_of_getElem? (i := 81) (by decide +kernel)) (by decide +kernel), ⟨by decide +kernel, by decide +kernel, by decide +kernel⟩, by decide⟩, vTm (List.mem_of_getElem? (i := 723) (by decide +kernel)) (by decide +kernel)⟩
set_option maxRecDepth 100000 in
theorem hfX7_mixed : vMfS mX7_mixed 2 := ⟨⟨by decide +kernel, vTm (List.mem_of_getElem? (i := 787) (by decide +kernel)) (by decide +kernel), vTm (List.mem_of_getElem? (i := 81) (by decide +kernel)) (by decide +kernel), ⟨by decide +kernel, by decide +kernel, by decide +kernel⟩, by decide⟩, vTm (List.mem_of_getElem? (i := 786) (by decide +kernel)) (by decide +kernel)⟩
set_option maxRecDepth 100000 in
theorem hfX7_mixedFloor : vMfV mX7_mixedFloor 2 := ⟨⟨by decide +kernel, vTm (List.mem_of_getElem? (i := 793) (by decide +kernel)) (by decide +kernel), vTm (List.mem_of_getElem? (i := 81) (by decide +kernel)) (by decide +kernel), ⟨by decide +kernel, by decide +kernel, by decide +kernel⟩, by decide⟩, vTm (List.mem_of_getElem? (i := 792) (by decide +kernel)) (by decide +kernel), vTm (List.mem_of_getElem? (i := 27) (by decide +kernel)) (by decide +kernel)⟩
set_option maxRecDepth 100000 in
theorem hfX7_mixedWay : vMfV mX7_mixedWay 2 := ⟨⟨by decide +kernel, vTm (List.mem_of_getElem? (i := 801) (by decide +kernel)) (by decide +kernel), vTm (List.mem_of_getElem? (i := 81) (by decide +kernel)) (by decide +kernel), ⟨by decide +kernel, by decide +kernel, by decide +kernel⟩, by decide⟩, vTm (List.mem_of_getElem? (i := 800) (by decide +kernel)) (by decide +kernel), vTm (List.mem_of_getElem? (i := 28) (by decide +kernel)) (by decide +kernel)⟩
set_option maxRecDepth 100000 in
theorem hfX7_mixedHour : vMfV mX7_mixedHour 3 := ⟨⟨by decide +kernel, vTm (List.mem_of_getElem? (i := 806) (by decide +kernel)) (by decide +kernel), vTm (List.mem_of_getElem? (i := 81) (by decide +kernel)) (by decide +kernel), ⟨by decide +kernel, by decide +kernel, by decide +kernel⟩, by decide⟩, vTm (List.mem_of_getElem? (i := 805) (by decide +kernel)) (by decide +kernel), vTm (List.mem_of_getElem? (i := 29) (by decide +kernel)) (by decide +kernel)⟩
set_option maxRecDepth 100000 in
theorem hfX7_mixedPlans : vMfV mX7_mixedPlans 2 := ⟨⟨by decide +kernel, vTm (List.mem_of_getElem? (i := 813) (by decide +kernel)) (by decide +kernel), vTm (List.mem_of_getElem? (i := 81) (by decide +kernel)) (by decide +kernel), ⟨by decide +kernel, by decide +kernel, by decide +kernel⟩, by decide⟩, vTm (List.mem_of_getElem? (i := 812) (by decide +kernel)) (by decide +kernel), vTm (List.mem_of_getElem? (i := 30) (by decide +kernel)) (by decide +kernel)⟩
set_option maxRecDepth 100000 in
theorem hfX8_in : vMfS mX8_in 3 := ⟨⟨by decide +kernel, vTm (List.mem_of_getElem? (i := 981) (by decide +kernel)) (by decide +kernel), vTm (List.mem_of_getElem? (i := 89) (by decide +kernel)) (by decide +kernel), ⟨by decide +kernel, by decide +kernel, by decide +kernel⟩, by decide⟩, vTm (List.mem_of_getElem? (i := 980) (by decide +kernel)) (by decide +kernel)⟩
set_option maxRecDepth 100000 in
theorem hfX8_isIn : vMfS mX8_isIn 2 := ⟨⟨by decide +kernel, vTm (List.mem_of_getElem? (i := 1103) (by decide +kernel)) (by decide +kernel), vTm (List.mem_of_getElem? (i := 89) (by decide +kernel)) (by decide +kernel), ⟨by decide +kernel, by decide +kernel, by decide +kernel⟩, by decide⟩, vTm (List.mem_of_getElem? (i := 1102) (by decide +kernel)) (by decide +kernel)⟩
set_option maxRecDepth 100000 in
theorem hfX8_no : vMfS mX8_no 1 := ⟨⟨by decide +kernel, vTm (List.mem_of_getElem? (i := 1272) (by decide +kernel)) (by decide +kernel), vTm (List.mem_of_getElem? (i := 89) (by decide +kernel)) (by decide +kernel), ⟨by decide +kernel, by decide +kernel, by decide +kernel⟩, by decide⟩, vTm (List.mem_of_getElem? (i := 1271) (by decide +kernel)) (by decide +kernel)⟩
set_option maxRecDepth 100000 in
theorem hfX8_lowest : vMfS mX8_lowest 3 := ⟨⟨by decide +kernel, vTm (List.mem_of_getElem? (i := 1269) (by decide +kernel)) (by decide +kernel), vTm (List.mem_of_getElem? (i := 89) (by decide +kernel)) (by decide +kernel), ⟨by decide +kernel, by decide +kernel, by decide +kernel⟩, by decide⟩, vTm (List.mem_of_getElem? (i := 1268) (by decide +kernel)) (by decide +kernel)⟩
set_option maxRecDepth 100000 in
theorem hfX8_isText : vMfS mX8_isText 1 := ⟨⟨by decide +kernel, vTm (List.mem_of_getElem? (i := 978) (by decide +kernel)) (by decide +kernel), vTm (List.mem_of_getElem? (i := 89) (by decide +kernel)) (by decide +kernel), ⟨by decide +kernel, by decide +kernel, by decide +kernel⟩, by decide⟩, vTm (List.mem_of_getElem? (i := 977) (by decide +kernel)) (by decide +kernel)⟩
set_option maxRecDepth 100000 in
theorem hfX8_isHour : vMfS mX8_isHour 1 := ⟨⟨by decide +kernel, vTm (List.mem_of_getElem? (i := 1060) (by decide +kernel)) (by decide +kernel), vTm (List.mem_of_getElem? (i := 89) (by decide +kernel)) (by decide +kernel), ⟨by decide +kernel, by decide +kernel, by decide +kernel⟩, by decide⟩, vTm (List.mem_of_getElem? (i := 1059) (by decide +kernel)) (by decide +kernel)⟩
set_option maxRecDepth 100000 in
theorem hfX8_type : vMfV mX8_type 2 := ⟨⟨by decide +kernel, vTm (List.mem_of_getElem? (i := 975) (by decide +kernel)) (by decide +kernel), vTm (List.mem_of_getElem? (i := 89) (by decide +kernel)) (by decide +kernel), ⟨by decide +kernel, by decide +kernel, by decide +kernel⟩, by decide⟩, vTm (List.mem_of_getElem? (i := 973) (by decide +kernel)) (by decide +kernel), vTm (List.mem_of_getElem? (i := 974) (by decide +kernel)) (by decide +kernel)⟩
set_option maxRecDepth 100000 in
theorem hfX8_wipe : vMfV mX8_wipe 1 := ⟨⟨by decide +kernel, vTm (List.mem_of_getElem? (i := 985) (by decide +kernel)) (by decide +kernel), vTm (List.mem_of_getElem? (i := 89) (by decide +kernel)) (by decide +kernel), ⟨by decide +kernel, by decide +kernel, by decide +kernel⟩, by decide⟩, vTm (List.mem_of_getElem? (i := 983) (by decide +kernel)) (by decide +kernel), vTm (List.mem_of_getElem? (i := 984) (by decide +kernel)) (by decide +kernel)⟩
set_option maxRecDepth 100000 in
theorem hfX8_undo : vMfV mX8_undo 1 := ⟨⟨by decide +kernel, vTm (List.mem_of_getElem? (i := 989) (by decide +kernel)) (by decide +kernel), vTm (List.mem_of_getElem? (i := 89) (by decide +kernel)) (by decide +kernel), ⟨by decide +kernel, by decide +kernel, by decide +kernel⟩, by decide⟩, vTm (List.mem_of_getElem? (i := 987) (by decide +kernel)) (by decide +kernel), vTm (List.mem_of_getElem? (i := 988) (by decide +kernel)) (by decide +kernel)⟩
set_option maxRecDepth 100000 in
theorem hfX8_byteAt : vMfV mX8_byteAt 2 := ⟨⟨by decide +kernel, vTm (List.mem_of_getElem? (i := 1009) (by decide +kernel)) (by decide +kernel), vTm (List.mem_of_getElem? (i := 89) (by decide +kernel)) (by decide +kernel), ⟨by decide +kernel, by decide +kernel, by decide +kernel⟩, by decide⟩, vTm (List.mem_of_getElem? (i := 1008) (by decide +kernel)) (by decide +kernel), vTm (List.mem_of_getElem? (i := 34) (by decide +kernel)) (by decide +kernel)⟩
set_option maxRecDepth 100000 in
theorem hfX8_isLetter : vMfV mX8_isLetter 2 := ⟨⟨by decide +kernel, vTm (List.mem_of_getElem? (i := 1017) (by decide +kernel)) (by decide +kernel), vTm (List.mem_of_getElem? (i := 89) (by decide +kernel)) (by decide +kernel), ⟨by decide +kernel, by decide +kernel, by decide +kernel⟩, by decide⟩, vTm (List.mem_of_getElem? (i := 1016) (by decide +kernel)) (by decide +kernel), vTm (List.mem_of_getElem? (i := 36) (by decide +kernel)) (by decide +kernel)⟩
set_option maxRecDepth 100000 in
theorem hfX8_isFigure : vMfV mX8_isFigure 3 := ⟨⟨by decide +kernel, vTm (List.mem_of_getElem? (i := 1013) (by decide +kernel)) (by decide +kernel), vTm (List.mem_of_getElem? (i := 89) (by decide +kernel)) (by decide +kernel), ⟨by decide +kernel, by decide +kernel, by decide +kernel⟩, by decide⟩, vTm (List.mem_of_getElem? (i := 1012) (by decide +kernel)) (by decide +kernel), vTm (List.mem_of_getElem? (i := 35) (by decide +kernel)) (by decide +kernel)⟩
set_option maxRecDepth 100000 in
theorem hfX8_readsFloor : vMfV mX8_readsFloor 2 := ⟨⟨by decide +kernel, vTm (List.mem_of_getElem? (i := 1005) (by decide +kernel)) (by decide +kernel), vTm (List.mem_of_getElem? (i := 89) (by decide +kernel)) (by decide +kernel), ⟨by decide +kernel, by decide +kernel, by decide +kernel⟩, by decide⟩, vTm (List.mem_of_getElem? (i := 1004) (by decide +kernel)) (by decide +kernel), vTm (List.mem_of_getElem? (i := 33) (by decide +kernel)) (by decide +kernel)⟩
set_option maxRecDepth 100000 in
theorem hfX8_readsBasket : vMfV mX8_readsBasket 2 := ⟨⟨by decide +kernel, vTm (List.mem_of_getElem? (i := 1021) (by decide +kernel)) (by decide +kernel), vTm (List.mem_of_getElem? (i := 89) (by decide +kernel)) (by decide +kernel), ⟨by decide +kernel, by decide +kernel, by decide +kernel⟩, by decide⟩, vTm (List.mem_of_getElem? (i := 1020) (by decide +kernel)) (by decide +kernel), vTm (List.mem_of_getElem? (i := 37) (by decide +kernel)) (by decide +kernel)⟩
set_option maxRecDepth 100000 in
theorem hfX8_readsParts : vMfV mX8_readsParts 1 := ⟨⟨by decide +kernel, vTm (List.mem_of_getElem? (i := 1001) (by decide +kernel)) (by decide +kernel), vTm (List.mem_of_getElem? (i := 89) (by decide +kernel)) (by decide +kernel), ⟨by decide +kernel, by decide +kernel, by decide +kernel⟩, by decide⟩, vTm (List.mem_of_getElem? (i := 1000) (by decide +kernel)) (by decide +kernel), vTm (List.mem_of_getElem? (i := 32) (by decide +kernel)) (by decide +kernel)⟩
set_option maxRecDepth 100000 in
theorem hfX8_faultOf : vMfV mX8_faultOf 1 := ⟨⟨by decide +kernel, vTm (List.mem_of_getElem? (i := 997) (by decide +kernel)) (by decide +kernel), vTm (List.mem_of_getElem? (i := 89) (by decide +kernel)) (by decide +kernel), ⟨by decide +kernel, by decide +kernel, by decide +kernel⟩, by decide⟩, vTm (List.mem_of_getElem? (i := 996) (by decide +kernel)) (by decide +kernel), vTm (List.mem_of_getElem? (i := 31) (by decide +kernel)) (by decide +kernel)⟩
set_option maxRecDepth 100000 in
theorem hfX8_reads : vMfV mX8_reads 0 := ⟨⟨by decide +kernel, vTm (List.mem_of_getElem? (i := 1033) (by decide +kernel)) (by decide +kernel), vTm (List.mem_of_getElem? (i := 89) (by decide +kernel)) (by decide +kernel), ⟨by decide +kernel, by decide +kernel, by decide +kernel⟩, by decide⟩, vTm (List.mem_of_getElem? (i := 1032) (by decide +kernel)) (by decide +kernel), vTm (List.mem_of_getElem? (i := 39) (by decide +kernel)) (by decide +kernel)⟩
set_option maxRecDepth 100000 in
theorem hfX8_fault : vMfV mX8_fault 1 := ⟨⟨by decide +kernel, vTm (List.mem_of_getElem? (i := 993) (by decide +kernel)) (by decide +kernel), vTm (List.mem_of_getElem? (i := 89) (by decide +kernel)) (by decide +kernel), ⟨by decide +kernel, by decide +kernel, by decide +kernel⟩, by decide⟩, vTm (List.mem_of_getElem? (i := 991) (by decide +kernel)) (by decide +kernel), vTm (List.mem_of_getElem? (i := 992) (by decide +kernel)) (by decide +kernel)⟩
set_option maxRecDepth 100000 in
theorem hfX8_isFloor : vMfV mX8_isFloor 1 := ⟨⟨by decide +kernel, vTm (List.mem_of_getElem? (i := 1029) (by decide +kernel)) (by decide +kernel), vTm (List.mem_of_getElem? (i := 89) (by decide +kernel)) (by decide +kernel), ⟨by decide +kernel, by decide +kernel, by decide +kernel⟩, by decide⟩, vTm (List.mem_of_getElem? (i := 1028) (by decide +kernel)) (by decide +kernel), vTm (List.mem_of_getElem? (i := 38) (by decide +kernel)) (by decide +kernel)⟩
set_option maxRecDepth 100000 in
theorem hfX8_isBasket : vMfV mX8_isBasket 1 := ⟨⟨by decide +kernel, vTm (List.mem_of_getElem? (i := 1045) (by decide +kernel)) (by decide +kernel), vTm (List.mem_of_getElem? (i := 89) (by decide +kernel)) (by decide +kernel), ⟨by decide +kernel, by decide +kernel, by decide +kernel⟩, by decide⟩, vTm (List.mem_of_getElem? (i := 1044) (by decide +kernel)) (by decide +kernel), vTm (List.mem_of_getElem? (i := 41) (by decide +kernel)) (by decide +kernel)⟩
set_option maxRecDepth 100000 in
theorem hfX8_floorOf : vMfV mX8_floorOf 2 := ⟨⟨by decide +kernel, vTm (List.mem_of_getElem? (i := 1037) (by decide +kernel)) (by decide +kernel), vTm (List.mem_of_getElem? (i := 89) (by decide +kernel)) (by decide +kernel), ⟨by decide +kernel, by decide +kernel, by decide +kernel⟩, by decide⟩, vTm (List.mem_of_getElem? (i := 1036) (by decide +kernel)) (by decide +kernel), vTm (List.mem_of_getElem? (i := 40) (by decide +kernel)) (by decide +kernel)⟩
set_option maxRecDepth 100000 in
theorem hfX8_floor : vMfV mX8_floor 2 := ⟨⟨by decide +kernel, vTm (List.mem_of_getElem? (i := 1025) (by decide +kernel)) (by decide +kernel), vTm (List.mem_of_getElem? (i := 89) (by decide +kernel)) (by decide +kernel), ⟨by decide +kernel, by decide +kernel, by decide +kernel⟩, by decide⟩, vTm (List.mem_of_getElem? (i := 1023) (by decide +kernel)) (by decide +kernel), vTm (List.mem_of_getElem? (i := 1024) (by decide +kernel)) (by decide +kernel)⟩
set_option maxRecDepth 100000 in
theorem hfX8_basketOf : vMfV mX8_basketOf 2 := ⟨⟨by decide +kernel, vTm (List.mem_of_getElem? (i := 1049) (by decide +kernel)) (by decide +kernel), vTm (List.mem_of_getElem? (i := 89) (by decide +kernel)) (by decide +kernel), ⟨by decide +kernel, by decide +kernel, by decide +kernel⟩, by decide⟩, vTm (List.mem_of_getElem? (i := 1048) (by decide +kernel)) (by decide +kernel), vTm (List.mem_of_getElem? (i := 42) (by decide +kernel)) (by decide +kernel)⟩
set_option maxRecDepth 100000 in
theorem hfX8_basket : vMfV mX8_basket 2 := ⟨⟨by decide +kernel, vTm (List.mem_of_getElem? (i := 1041) (by decide +kernel)) (by decide +kernel), vTm (List.mem_of_getElem? (i := 89) (by decide +kernel)) (by decide +kernel), ⟨by decide +kernel, by decide +kernel, by decide +kernel⟩, by decide⟩, vTm (List.mem_of_getElem? (i := 1039) (by decide +kernel)) (by decide +kernel), vTm (List.mem_of_getElem? (i := 1040) (by decide +kernel)) (by decide +kernel)⟩
set_option maxRecDepth 100000 in
theorem hfX8_set : vMfV mX8_set 2 := ⟨⟨by decide +kernel, vTm (List.mem_of_getElem? (i := 1053) (by decide +kernel)) (by decide +kernel), vTm (List.mem_of_getElem? (i := 89) (by decide +kernel)) (by decide +kernel), ⟨by decide +kernel, by decide +kernel, by decide +kernel⟩, by decide⟩, vTm (List.mem_of_getElem? (i := 1051) (by decide +kernel)) (by decide +kernel), vTm (List.mem_of_getElem? (i := 1052) (by decide +kernel)) (by decide +kernel)⟩
set_option maxRecDepth 100000 in
theorem hfX8_wind : vMfV mX8_wind 1 := ⟨⟨by decide +kernel, vTm (List.mem_of_getElem? (i := 1057) (by decide +kernel)) (by decide +kernel), vTm (List.mem_of_getElem? (i := 89) (by decide +kernel)) (by decide +kernel), ⟨by decide +kernel, by decide +kernel, by decide +kernel⟩, by decide⟩, vTm (List.mem_of_getElem? (i := 1055) (by decide +kernel)) (by decide +kernel), vTm (List.mem_of_getElem? (i := 1056) (by decide +kernel)) (by decide +kernel)⟩
set_option maxRecDepth 100000 in
theorem hfX8_sunday : vMfV mX8_sunday 1 := ⟨⟨by decide +kernel, vTm (List.mem_of_getElem? (i := 1064) (by decide +kernel)) (by decide +kernel), vTm (List.mem_of_getElem? (i := 89) (by decide +kernel)) (by decide +kernel), ⟨by decide +kernel, by decide +kernel, by decide +kernel⟩, by decide⟩, vTm (List.mem_of_getElem? (i := 1062) (by decide +kernel)) (by decide +kernel), vTm (List.mem_of_getElem? (i := 1063) (by decide +kernel)) (by decide +kernel)⟩
set_option maxRecDepth 100000 in
theorem hfX8_back : vMfV mX8_back 1 := ⟨⟨by decide +kernel, vTm (List.mem_of_getElem? (i := 1068) (by decide +kernel)) (by decide +kernel), vTm (List.mem_of_getElem? (i := 89) (by decide +kernel)) (by decide +kernel), ⟨by decide +kernel, by decide +kernel, by decide +kernel⟩, by decide⟩, vTm (List.mem_of_getElem? (i := 1066) (by decide +kernel)) (by decide +kernel), vTm (List.mem_of_getElem? (i := 1067) (by decide +kernel)) (by decide +kernel)⟩
set_option maxRecDepth 100000 in
theorem hfX8_read : vMfV mX8_read 1 := ⟨⟨by decide +kernel, vTm (List.mem_of_getElem? (i := 1072) (by decide +kernel)) (by decide +kernel), vTm (List.mem_of_getElem? (i := 89) (by decide +kernel)) (by decide +kernel), ⟨by decide +kernel, by decide +kernel, by decide +kernel⟩, by decide⟩, vTm (List.mem_of_getElem? (i := 1070) (by decide +kernel)) (by decide +kernel), vTm (List.mem_of_getElem? (i := 1071) (by decide +kernel)) (by decide +kernel)⟩
set_option maxRecDepth 100000 in
theorem hfX8_bitsOf : vMfS mX8_bitsOf 2 := ⟨⟨by decide +kernel, vTm (List.mem_of_getElem? (i := 1106) (by decide +kernel)) (by decide +kernel), vTm (List.mem_of_getElem? (i := 89) (by decide +kernel)) (by decide +kernel), ⟨by decide +kernel, by decide +kernel, by decide +kernel⟩, by decide⟩, vTm (List.mem_of_getElem? (i := 1105) (by decide +kernel)) (by decide +kernel)⟩
set_option maxRecDepth 100000 in
theorem hfX8_windsBut : vMfV mX8_windsBut 1 := ⟨⟨by decide +kernel, vTm (List.mem_of_getElem? (i := 1100) (by decide +kernel)) (by decide +kernel), vTm (List.mem_of_getElem? (i := 89) (by decide +kernel)) (by decide +kernel), ⟨by decide +kernel, by decide +kernel, by decide +kernel⟩, by decide⟩, vTm (List.mem_of_getElem? (i := 1099) (by decide +kernel)) (by decide +kernel), vTm (List.mem_of_getElem? (i := 47) (by decide +kernel)) (by decide +kernel)⟩
set_option maxRecDepth 100000 in
theorem hfX8_asTold : vMfV mX8_asTold 0 := ⟨⟨by decide +kernel, vTm (List.mem_of_getElem? (i := 1096) (by decide +kernel)) (by decide +kernel), vTm (List.mem_of_getElem? (i := 89) (by decide +kernel)) (by decide +kernel), ⟨by decide +kernel, by decide +kernel, by decide +kernel⟩, by decide⟩, vTm (List.mem_of_getElem? (i := 1095) (by decide +kernel)) (by decide +kernel), vTm (List.mem_of_getElem? (i := 46) (by decide +kernel)) (by decide +kernel)⟩
set_option maxRecDepth 100000 in
theorem hfX8_isTangled : vMfV mX8_isTangled 1 := ⟨⟨by decide +kernel, vTm (List.mem_of_getElem? (i := 1118) (by decide +kernel)) (by decide +kernel), vTm (List.mem_of_getElem? (i := 89) (by decide +kernel)) (by decide +kernel), ⟨by decide +kernel, by decide +kernel, by decide +kernel⟩, by decide⟩, vTm (List.mem_of_getElem? (i := 1117) (by decide +kernel)) (by decide +kernel), vTm (List.mem_of_getElem? (i := 50) (by decide +kernel)) (by decide +kernel)⟩
set_option maxRecDepth 100000 in
theorem hfX8_takes : vMfV mX8_takes 3 := ⟨⟨by decide +kernel, vTm (List.mem_of_getElem? (i := 1122) (by decide +kernel)) (by decide +kernel), vTm (List.mem_of_getElem? (i := 89) (by decide +kernel)) (by decide +kernel), ⟨by decide +kernel, by decide +kernel, by decide +kernel⟩, by decide⟩, vTm (List.mem_of_getElem? (i := 1121) (by decide +kernel)) (by decide +kernel), vTm (List.mem_of_getElem? (i := 51) (by decide +kernel)) (by decide +kernel)⟩
set_option maxRecDepth 100000 in
theorem hfX8_wears : vMfV mX8_wears 1 := ⟨⟨by decide +kernel, vTm (List.mem_of_getElem? (i := 1130) (by decide +kernel)) (by decide +kernel), vTm (List.mem_of_getElem? (i := 89) (by decide +kernel)) (by decide +kernel), ⟨by decide +kernel, by decide +kernel, by decide +kernel⟩, by decide⟩, vTm (List.mem_of_getElem? (i := 1129) (by decide +kernel)) (by decide +kernel), vTm (List.mem_of_getElem? (i := 53) (by decide +kernel)) (by decide +kernel)⟩
set_option maxRecDepth 100000 in
theorem hfX8_goesUp : vMfV mX8_goesUp 2 := ⟨⟨by decide +kernel, vTm (List.mem_of_getElem? (i := 1126) (by decide +kernel)) (by decide +kernel), vTm (List.mem_of_getElem? (i := 89) (by decide +kernel)) (by decide +kernel), ⟨by decide +kernel, by decide +kernel, by decide +kernel⟩, by decide⟩, vTm (List.mem_of_getElem? (i := 1125) (by decide +kernel)) (by decide +kernel), vTm (List.mem_of_getElem? (i := 52) (by decide +kernel)) (by decide +kernel)⟩
set_option maxRecDepth 100000 in
theorem hfX8_goesBy : vMfV mX8_goesBy 1 := ⟨⟨by decide +kernel, vTm (List.mem_of_getElem? (i := 1114) (by decide +kernel)) (by decide +kernel), vTm (List.mem_of_getElem? (i := 89) (by decide +kernel)) (by decide +kernel), ⟨by decide +kernel, by decide +kernel, by decide +kernel⟩, by decide⟩, vTm (List.mem_of_getElem? (i := 1113) (by decide +kernel)) (by decide +kernel), vTm (List.mem_of_getElem? (i := 49) (by decide +kernel)) (by decide +kernel)⟩
set_option maxRecDepth 100000 in
theorem hfX8_runs : vMfV mX8_runs 0 := ⟨⟨by decide +kernel, vTm (List.mem_of_getElem? (i := 1110) (by decide +kernel)) (by decide +kernel), vTm (List.mem_of_getElem? (i := 89) (by decide +kernel)) (by decide +kernel), ⟨by decide +kernel, by decide +kernel, by decide +kernel⟩, by decide⟩, vTm (List.mem_of_getElem? (i := 1109) (by decide +kernel)) (by decide +kernel), vTm (List.mem_of_getElem? (i := 48) (by decide +kernel)) (by decide +kernel)⟩
set_option maxRecDepth 100000 in
theorem hfX8_runsTold : vMfV mX8_runsTold 0 := ⟨⟨by decide +kernel, vTm (List.mem_of_getElem? (i := 1092) (by decide +kernel)) (by decide +kernel), vTm (List.mem_of_getElem? (i := 89) (by decide +kernel)) (by decide +kernel), ⟨by decide +kernel, by decide +kernel, by decide +kernel⟩, by decide⟩, vTm (List.mem_of_getElem? (i := 1091) (by decide +kernel)) (by decide +kernel), vTm (List.mem_of_getElem? (i := 45) (by decide +kernel)) (by decide +kernel)⟩
set_option maxRecDepth 100000 in
theorem hfX8_atOf : vMfV mX8_atOf 3 := ⟨⟨by decide +kernel, vTm (List.mem_of_getElem? (i := 1088) (by decide +kernel)) (by decide +kernel), vTm (List.mem_of_getElem? (i := 89) (by decide +kernel)) (by decide +kernel), ⟨by decide +kernel, by decide +kernel, by decide +kernel⟩, by decide⟩, vTm (List.mem_of_getElem? (i := 1087) (by decide +kernel)) (by decide +kernel), vTm (List.mem_of_getElem? (i := 44) (by decide +kernel)) (by decide +kernel)⟩
set_option maxRecDepth 100000 in
theorem hfX8_at : vMfV mX8_at 3 := ⟨⟨by decide +kernel, vTm (List.mem_of_getElem? (i := 1084) (by decide +kernel)) (by decide +kernel), vTm (List.mem_of_getElem? (i := 89) (by decide +kernel)) (by decide +kernel), ⟨by decide +kernel, by decide +kernel, by decide +kernel⟩, by decide⟩, vTm (List.mem_of_getElem? (i := 1082) (by decide +kernel)) (by decide +kernel), vTm (List.mem_of_getElem? (i := 1083) (by decide +kernel)) (by decide +kernel)⟩
set_option maxRecDepth 100000 in
theorem hfX8_noteOf : vMfV mX8_noteOf 2 := ⟨⟨by decide +kernel, vTm (List.mem_of_getElem? (i := 1138) (by decide +kernel)) (by decide +kernel), vTm (List.mem_of_getElem? (i := 89) (by decide +kernel)) (by decide +kernel), ⟨by decide +kernel, by decide +kernel, by decide +kernel⟩, by decide⟩, vTm (List.mem_of_getElem? (i := 1137) (by decide +kernel)) (by decide +kernel), vTm (List.mem_of_getElem? (i := 54) (by decide +kernel)) (by decide +kernel)⟩
set_option maxRecDepth 100000 in
theorem hfX8_note : vMfV mX8_note 2 := ⟨⟨by decide +kernel, vTm (List.mem_of_getElem? (i := 1134) (by decide +kernel)) (by decide +kernel), vTm (List.mem_of_getElem? (i := 89) (by decide +kernel)) (by decide +kernel), ⟨by decide +kernel, by decide +kernel, by decide +kernel⟩, by decide⟩, vTm (List.mem_of_getElem? (i := 1132) (by decide +kernel)) (by decide +kernel), vTm (List.mem_of_getElem? (i := 1133) (by decide +kernel)) (by decide +kernel)⟩
set_option maxRecDepth 100000 in
theorem hfX8_comesOf : vMfV mX8_comesOf 1 := ⟨⟨by decide +kernel, vTm (List.mem_of_getElem? (i := 1146) (by decide +kernel)) (by decide +kernel), vTm (List.mem_of_getElem? (i := 89) (by decide +kernel)) (by decide +kernel), ⟨by decide +kernel, by decide +kernel, by decide +kernel⟩, by decide⟩, vTm (List.mem_of_getElem? (i := 1145) (by decide +kernel)) (by decide +kernel), vTm (List.mem_of_getElem? (i := 55) (by decide +kernel)) (by decide +kernel)⟩
set_option maxRecDepth 100000 in
theorem hfX8_comes : vMfV mX8_comes 1 := ⟨⟨by decide +kernel, vTm (List.mem_of_getElem? (i := 1142) (by decide +kernel)) (by decide +kernel), vTm (List.mem_of_getElem? (i := 89) (by decide +kernel)) (by decide +kernel), ⟨by decide +kernel, by decide +kernel, by decide +kernel⟩, by decide⟩, vTm (List.mem_of_getElem? (i := 1140) (by decide +kernel)) (by decide +kernel), vTm (List.mem_of_getElem? (i := 1141) (by decide +kernel)) (by decide +kernel)⟩
set_option maxRecDepth 100000 in
theorem hfX8_bitesOf : vMfV mX8_bitesOf 2 := ⟨⟨by decide +kernel, vTm (List.mem_of_getElem? (i := 1154) (by decide +kernel)) (by decide +kernel), vTm (List.mem_of_getElem? (i := 89) (by decide +kernel)) (by decide +kernel), ⟨by decide +kernel, by decide +kernel, by decide +kernel⟩, by decide⟩, vTm (List.mem_of_getElem? (i := 1153) (by decide +kernel)) (by decide +kernel), vTm (List.mem_of_getElem? (i := 56) (by decide +kernel)) (by decide +kernel)⟩
set_option maxRecDepth 100000 in
theorem hfX8_bites : vMfV mX8_bites 2 := ⟨⟨by decide +kernel, vTm (List.mem_of_getElem? (i := 1150) (by decide +kernel)) (by decide +kernel), vTm (List.mem_of_getElem? (i := 89) (by decide +kernel)) (by decide +kernel), ⟨by decide +kernel, by decide +kernel, by decide +kernel⟩, by decide⟩, vTm (List.mem_of_getElem? (i := 1148) (by decide +kernel)) (by decide +kernel), vTm (List.mem_of_getElem? (i := 1149) (by decide +kernel)) (by decide +kernel)⟩
set_option maxRecDepth 100000 in
theorem hfX8_upMuch : vMfV mX8_upMuch 0 := ⟨⟨by decide +kernel, vTm (List.mem_of_getElem? (i := 1166) (by decide +kernel)) (by decide +kernel), vTm (List.mem_of_getElem? (i := 89) (by decide +kernel)) (by decide +kernel), ⟨by decide +kernel, by decide +kernel, by decide +kernel⟩, by decide⟩, vTm (List.mem_of_getElem? (i := 1165) (by decide +kernel)) (by decide +kernel), vTm (List.mem_of_getElem? (i := 58) (by decide +kernel)) (by decide +kernel)⟩
set_option maxRecDepth 100000 in
theorem hfX8_famineNow : vMfV mX8_famineNow 0 := ⟨⟨by decide +kernel, vTm (List.mem_of_getElem? (i := 1162) (by decide +kernel)) (by decide +kernel), vTm (List.mem_of_getElem? (i := 89) (by decide +kernel)) (by decide +kernel), ⟨by decide +kernel, by decide +kernel, by decide +kernel⟩, by decide⟩, vTm (List.mem_of_getElem? (i := 1161) (by decide +kernel)) (by decide +kernel), vTm (List.mem_of_getElem? (i := 57) (by decide +kernel)) (by decide +kernel)⟩
set_option maxRecDepth 100000 in
theorem hfX8_famine : vMfV mX8_famine 0 := ⟨⟨by decide +kernel, vTm (List.mem_of_getElem? (i := 1158) (by decide +kernel)) (by decide +kernel), vTm (List.mem_of_getElem? (i := 89) (by decide +kernel)) (by decide +kernel), ⟨by decide +kernel, by decide +kernel, by decide +kernel⟩, by decide⟩, vTm (List.mem_of_getElem? (i := 1156) (by decide +kernel)) (by decide +kernel), vTm (List.mem_of_getElem? (i := 1157) (by decide +kernel)) (by decide +kernel)⟩
set_option maxRecDepth 100000 in
theorem hfX8_firstOf : vMfV mX8_firstOf 1 := ⟨⟨by decide +kernel, vTm (List.mem_of_getElem? (i := 1174) (by decide +kernel)) (by decide +kernel), vTm (List.mem_of_getElem? (i := 89) (by decide +kernel)) (by decide +kernel), ⟨by decide +kernel, by decide +kernel, by decide +kernel⟩, by decide⟩, vTm (List.mem_of_getElem? (i := 1173) (by decide +kernel)) (by decide +kernel), vTm (List.mem_of_getElem? (i := 59) (by decide +kernel)) (by decide +kernel)⟩
set_option maxRecDepth 100000 in
theorem hfX8_first : vMfV mX8_first 1 := ⟨⟨by decide +kernel, vTm (List.mem_of_getElem? (i := 1170) (by decide +kernel)) (by decide +kernel), vTm (List.mem_of_getElem? (i := 89) (by decide +kernel)) (by decide +kernel), ⟨by decide +kernel, by decide +kernel, by decide +kernel⟩, by decide⟩, vTm (List.mem_of_getElem? (i := 1168) (by decide +kernel)) (by decide +kernel), vTm (List.mem_of_getElem? (i := 1169) (by decide +kernel)) (by decide +kernel)⟩
set_option maxRecDepth 100000 in
theorem hfX8_greedyNow : vMfV mX8_greedyNow 0 := ⟨⟨by decide +kernel, vTm (List.mem_of_getElem? (i := 1182) (by decide +kernel)) (by decide +kernel), vTm (List.mem_of_getElem? (i := 89) (by decide +kernel)) (by decide +kernel), ⟨by decide +kernel, by decide +kernel, by decide +kernel⟩, by decide⟩, vTm (List.mem_of_getElem? (i := 1181) (by decide +kernel)) (by decide +kernel), vTm (List.mem_of_getElem? (i := 60) (by decide +kernel)) (by decide +kernel)⟩
set_option maxRecDepth 100000 in
theorem hfX8_greedy : vMfV mX8_greedy 0 := ⟨⟨by decide +kernel, vTm (List.mem_of_getElem? (i := 1178) (by decide +kernel)) (by decide +kernel), vTm (List.mem_of_getElem? (i := 89) (by decide +kernel)) (by decide +kernel), ⟨by decide +kernel, by decide +kernel, by decide +kernel⟩, by decide⟩, vTm (List.mem_of_getElem? (i := 1176) (by decide +kernel)) (by decide +kernel), vTm (List.mem_of_getElem? (i := 1177) (by decide +kernel)) (by decide +kernel)⟩
set_option maxRecDepth 100000 in
theorem hfX8_sendOf : vMfV mX8_sendOf 2 := ⟨⟨by decide +kernel, vTm (List.mem_of_getElem? (i := 1190) (by decide +kernel)) (by decide +kernel), vTm (List.mem_of_getElem? (i := 89) (by decide +kernel)) (by decide +kernel), ⟨by decide +kernel, by decide +kernel, by decide +kernel⟩, by decide⟩, vTm (List.mem_of_getElem? (i := 1189) (by decide +kernel)) (by decide +kernel), vTm (List.mem_of_getElem? (i := 61) (by decide +kernel)) (by decide +kernel)⟩
set_option maxRecDepth 100000 in
theorem hfX8_send : vMfV mX8_send 2 := ⟨⟨by decide +kernel, vTm (List.mem_of_getElem? (i := 1186) (by decide +kernel)) (by decide +kernel), vTm (List.mem_of_getElem? (i := 89) (by decide +kernel)) (by decide +kernel), ⟨by decide +kernel, by decide +kernel, by decide +kernel⟩, by decide⟩, vTm (List.mem_of_getElem? (i := 1184) (by decide +kernel)) (by decide +kernel), vTm (List.mem_of_getElem? (i := 1185) (by decide +kernel)) (by decide +kernel)⟩
set_option maxRecDepth 100000 in
theorem hfX8_loafOf : vMfV mX8_loafOf 2 := ⟨⟨by decide +kernel, vTm (List.mem_of_getElem? (i := 1198) (by decide +kernel)) (by decide +kernel), vTm (List.mem_of_getElem? (i := 89) (by decide +kernel)) (by decide +kernel), ⟨by decide +kernel, by decide +kernel, by decide +kernel⟩, by decide⟩, vTm (List.mem_of_getElem? (i := 1197) (by decide +kernel)) (by decide +kernel), vTm (List.mem_of_getElem? (i := 62) (by decide +kernel)) (by decide +kernel)⟩
set_option maxRecDepth 100000 in
theorem hfX8_loaf : vMfV mX8_loaf 2 := ⟨⟨by decide +kernel, vTm (List.mem_of_getElem? (i := 1194) (by decide +kernel)) (by decide +kernel), vTm (List.mem_of_getElem? (i := 89) (by decide +kernel)) (by decide +kernel), ⟨by decide +kernel, by decide +kernel, by decide +kernel⟩, by decide⟩, vTm (List.mem_of_getElem? (i := 1192) (by decide +kernel)) (by decide +kernel), vTm (List.mem_of_getElem? (i := 1193) (by decide +kernel)) (by decide +kernel)⟩
set_option maxRecDepth 100000 in
theorem hfX8_isKept : vMfV mX8_isKept 2 := ⟨⟨by decide +kernel, vTm (List.mem_of_getElem? (i := 1210) (by decide +kernel)) (by decide +kernel), vTm (List.mem_of_getElem? (i := 89) (by decide +kernel)) (by decide +kernel), ⟨by decide +kernel, by decide +kernel, by decide +kernel⟩, by decide⟩, vTm (List.mem_of_getElem? (i := 1209) (by decide +kernel)) (by decide +kernel), vTm (List.mem_of_getElem? (i := 64) (by decide +kernel)) (by decide +kernel)⟩
set_option maxRecDepth 100000 in
theorem hfX8_feedBy : vMfV mX8_feedBy 1 := ⟨⟨by decide +kernel, vTm (List.mem_of_getElem? (i := 1206) (by decide +kernel)) (by decide +kernel), vTm (List.mem_of_getElem? (i := 89) (by decide +kernel)) (by decide +kernel), ⟨by decide +kernel, by decide +kernel, by decide +kernel⟩, by decide⟩, vTm (List.mem_of_getElem? (i := 1205) (by decide +kernel)) (by decide +kernel), vTm (List.mem_of_getElem? (i := 63) (by decide +kernel)) (by decide +kernel)⟩
set_option maxRecDepth 100000 in
theorem hfX8_ofRow : vMfV mX8_ofRow 2 := ⟨⟨by decide +kernel, vTm (List.mem_of_getElem? (i := 1214) (by decide +kernel)) (by decide +kernel), vTm (List.mem_of_getElem? (i := 89) (by decide +kernel)) (by decide +kernel), ⟨by decide +kernel, by decide +kernel, by decide +kernel⟩, by decide⟩, vTm (List.mem_of_getElem? (i := 1213) (by decide +kernel)) (by decide +kernel), vTm (List.mem_of_getElem? (i := 65) (by decide +kernel)) (by decide +kernel)⟩
set_option maxRecDepth 100000 in
theorem hfX8_feed : vMfV mX8_feed 2 := ⟨⟨by decide +kernel, vTm (List.mem_of_getElem? (i := 1202) (by decide +kernel)) (by decide +kernel), vTm (List.mem_of_getElem? (i := 89) (by decide +kernel)) (by decide +kernel), ⟨by decide +kernel, by decide +kernel, by decide +kernel⟩, by decide⟩, vTm (List.mem_of_getElem? (i := 1200) (by decide +kernel)) (by decide +kernel), vTm (List.mem_of_getElem? (i := 1201) (by decide +kernel)) (by decide +kernel)⟩
set_option maxRecDepth 100000 in
theorem hfX8_stillOf : vMfV mX8_stillOf 1 := ⟨⟨by decide +kernel, vTm (List.mem_of_getElem? (i := 1222) (by decide +kernel)) (by decide +kernel), vTm (List.mem_of_getElem? (i := 89) (by decide +kernel)) (by decide +kernel), ⟨by decide +kernel, by decide +kernel, by decide +kernel⟩, by decide⟩, vTm (List.mem_of_getElem? (i := 1221) (by decide +kernel)) (by decide +kernel), vTm (List.mem_of_getElem? (i := 66) (by decide +kernel)) (by decide +kernel)⟩
set_option maxRecDepth 100000 in
theorem hfX8_still : vMfV mX8_still 1 := ⟨⟨by decide +kernel, vTm (List.mem_of_getElem? (i := 1218) (by decide +kernel)) (by decide +kernel), vTm (List.mem_of_getElem? (i := 89) (by decide +kernel)) (by decide +kernel), ⟨by decide +kernel, by decide +kernel, by decide +kernel⟩, by decide⟩, vTm (List.mem_of_getElem? (i := 1216) (by decide +kernel)) (by decide +kernel), vTm (List.mem_of_getElem? (i := 1217) (by decide +kernel)) (by decide +kernel)⟩
set_option maxRecDepth 100000 in
theorem hfX8_seen : vMfV mX8_seen 3 := ⟨⟨by decide +kernel, vTm (List.mem_of_getElem? (i := 1226) (by decide +kernel)) (by decide +kernel), vTm (List.mem_of_getElem? (i := 89) (by decide +kernel)) (by decide +kernel), ⟨by decide +kernel, by decide +kernel, by decide +kernel⟩, by decide⟩, vTm (List.mem_of_getElem? (i := 1224) (by decide +kernel)) (by decide +kernel), vTm (List.mem_of_getElem? (i := 1225) (by decide +kernel)) (by decide +kernel)⟩
set_option maxRecDepth 100000 in
theorem hfX8_forget : vMfV mX8_forget 0 := ⟨⟨by decide +kernel, vTm (List.mem_of_getElem? (i := 1230) (by decide +kernel)) (by decide +kernel), vTm (List.mem_of_getElem? (i := 89) (by decide +kernel)) (by decide +kernel), ⟨by decide +kernel, by decide +kernel, by decide +kernel⟩, by decide⟩, vTm (List.mem_of_getElem? (i := 1228) (by decide +kernel)) (by decide +kernel), vTm (List.mem_of_getElem? (i := 1229) (by decide +kernel)) (by decide +kernel)⟩
set_option maxRecDepth 100000 in
theorem hfX8_isSeen : vMfV mX8_isSeen 0 := ⟨⟨by decide +kernel, vTm (List.mem_of_getElem? (i := 1242) (by decide +kernel)) (by decide +kernel), vTm (List.mem_of_getElem? (i := 89) (by decide +kernel)) (by decide +kernel), ⟨by decide +kernel, by decide +kernel, by decide +kernel⟩, by decide⟩, vTm (List.mem_of_getElem? (i := 1241) (by decide +kernel)) (by decide +kernel), vTm (List.mem_of_getElem? (i := 68) (by decide +kernel)) (by decide +kernel)⟩
set_option maxRecDepth 100000 in
theorem hfX8_neverNow : vMfV mX8_neverNow 0 := ⟨⟨by decide +kernel, vTm (List.mem_of_getElem? (i := 1238) (by decide +kernel)) (by decide +kernel), vTm (List.mem_of_getElem? (i := 89) (by decide +kernel)) (by decide +kernel), ⟨by decide +kernel, by decide +kernel, by decide +kernel⟩, by decide⟩, vTm (List.mem_of_getElem? (i := 1237) (by decide +kernel)) (by decide +kernel), vTm (List.mem_of_getElem? (i := 67) (by decide +kernel)) (by decide +kernel)⟩
set_option maxRecDepth 100000 in
theorem hfX8_never : vMfV mX8_never 0 := ⟨⟨by decide +kernel, vTm (List.mem_of_getElem? (i := 1234) (by decide +kernel)) (by decide +kernel), vTm (List.mem_of_getElem? (i := 89) (by decide +kernel)) (by decide +kernel), ⟨by decide +kernel, by decide +kernel, by decide +kernel⟩, by decide⟩, vTm (List.mem_of_getElem? (i := 1232) (by decide +kernel)) (by decide +kernel), vTm (List.mem_of_getElem? (i := 1233) (by decide +kernel)) (by decide +kernel)⟩
set_option maxRecDepth 100000 in
theorem hfX8_wasOf : vMfV mX8_wasOf 2 := ⟨⟨by decide +kernel, vTm (List.mem_of_getElem? (i := 1250) (by decide +kernel)) (by decide +kernel), vTm (List.mem_of_getElem? (i := 89) (by decide +kernel)) (by decide +kernel), ⟨by decide +kernel, by decide +kernel, by decide +kernel⟩, by decide⟩, vTm (List.mem_of_getElem? (i := 1249) (by decide +kernel)) (by decide +kernel), vTm (List.mem_of_getElem? (i := 69) (by decide +kernel)) (by decide +kernel)⟩
set_option maxRecDepth 100000 in
theorem hfX8_was : vMfV mX8_was 2 := ⟨⟨by decide +kernel, vTm (List.mem_of_getElem? (i := 1246) (by decide +kernel)) (by decide +kernel), vTm (List.mem_of_getElem? (i := 89) (by decide +kernel)) (by decide +kernel), ⟨by decide +kernel, by decide +kernel, by decide +kernel⟩, by decide⟩, vTm (List.mem_of_getElem? (i := 1244) (by decide +kernel)) (by decide +kernel), vTm (List.mem_of_getElem? (i := 1245) (by decide +kernel)) (by decide +kernel)⟩
set_option maxRecDepth 100000 in
theorem hfX8_askOf : vMfV mX8_askOf 1 := ⟨⟨by decide +kernel, vTm (List.mem_of_getElem? (i := 1258) (by decide +kernel)) (by decide +kernel), vTm (List.mem_of_getElem? (i := 89) (by decide +kernel)) (by decide +kernel), ⟨by decide +kernel, by decide +kernel, by decide +kernel⟩, by decide⟩, vTm (List.mem_of_getElem? (i := 1257) (by decide +kernel)) (by decide +kernel), vTm (List.mem_of_getElem? (i := 70) (by decide +kernel)) (by decide +kernel)⟩
set_option maxRecDepth 100000 in
theorem hfX8_ask : vMfV mX8_ask 1 := ⟨⟨by decide +kernel, vTm (List.mem_of_getElem? (i := 1254) (by decide +kernel)) (by decide +kernel), vTm (List.mem_of_getElem? (i := 89) (by decide +kernel)) (by decide +kernel), ⟨by decide +kernel, by decide +kernel, by decide +kernel⟩, by decide⟩, vTm (List.mem_of_getElem? (i := 1252) (by decide +kernel)) (by decide +kernel), vTm (List.mem_of_getElem? (i := 1253) (by decide +kernel)) (by decide +kernel)⟩
set_option maxRecDepth 100000 in
theorem hfX8_gustOf : vMfV mX8_gustOf 4 := ⟨⟨by decide +kernel, vTm (List.mem_of_getElem? (i := 1266) (by decide +kernel)) (by decide +kernel), vTm (List.mem_of_getElem? (i := 89) (by decide +kernel)) (by decide +kernel), ⟨by decide +kernel, by decide +kernel, by decide +kernel⟩, by decide⟩, vTm (List.mem_of_getElem? (i := 1265) (by decide +kernel)) (by decide +kernel), vTm (List.mem_of_getElem? (i := 71) (by decide +kernel)) (by decide +kernel)⟩
set_option maxRecDepth 100000 in
theorem hfX8_gust : vMfV mX8_gust 4 := ⟨⟨by decide +kernel, vTm (List.mem_of_getElem? (i := 1262) (by decide +kernel)) (by decide +kernel), vTm (List.mem_of_getElem? (i := 89) (by decide +kernel)) (by decide +kernel), ⟨by decide +kernel, by decide +kernel, by decide +kernel⟩, by decide⟩, vTm (List.mem_of_getElem? (i := 1260) (by decide +kernel)) (by decide +kernel), vTm (List.mem_of_getElem? (i := 1261) (by decide +kernel)) (by decide +kernel)⟩
set_option maxRecDepth 100000 in
theorem hfX8_bitesAll : vMfV mX8_bitesAll 0 := ⟨⟨by decide +kernel, vTm (List.mem_of_getElem? (i := 1286) (by decide +kernel)) (by decide +kernel), vTm (List.mem_of_getElem? (i := 89) (by decide +kernel)) (by decide +kernel), ⟨by decide +kernel, by decide +kernel, by decide +kernel⟩, by decide⟩, vTm (List.mem_of_getElem? (i := 1285) (by decide +kernel)) (by decide +kernel), vTm (List.mem_of_getElem? (i := 73) (by decide +kernel)) (by decide +kernel)⟩
set_option maxRecDepth 100000 in
theorem hfX8_weekOf : vMfV mX8_weekOf 3 := ⟨⟨by decide +kernel, vTm (List.mem_of_getElem? (i := 1281) (by decide +kernel)) (by decide +kernel), vTm (List.mem_of_getElem? (i := 89) (by decide +kernel)) (by decide +kernel), ⟨by decide +kernel, by decide +kernel, by decide +kernel⟩, by decide⟩, vTm (List.mem_of_getElem? (i := 1280) (by decide +kernel)) (by decide +kernel), vTm (List.mem_of_getElem? (i := 72) (by decide +kernel)) (by decide +kernel)⟩
set_option maxRecDepth 100000 in
theorem hfX8_week : vMfV mX8_week 3 := ⟨⟨by decide +kernel, vTm (List.mem_of_getElem? (i := 1277) (by decide +kernel)) (by decide +kernel), vTm (List.mem_of_getElem? (i := 89) (by decide +kernel)) (by decide +kernel), ⟨by decide +kernel, by decide +kernel, by decide +kernel⟩, by decide⟩, vTm (List.mem_of_getElem? (i := 1275) (by decide +kernel)) (by decide +kernel), vTm (List.mem_of_getElem? (i := 1276) (by decide +kernel)) (by decide +kernel)⟩
set_option maxRecDepth 100000 in
theorem hfX8_meets : vMfV mX8_meets 1 := ⟨⟨by decide +kernel, vTm (List.mem_of_getElem? (i := 1079) (by decide +kernel)) (by decide +kernel), vTm (List.mem_of_getElem? (i := 89) (by decide +kernel)) (by decide +kernel), ⟨by decide +kernel, by decide +kernel, by decide +kernel⟩, by decide⟩, vTm (List.mem_of_getElem? (i := 1078) (by decide +kernel)) (by decide +kernel), vTm (List.mem_of_getElem? (i := 43) (by decide +kernel)) (by decide +kernel)⟩
set_option maxRecDepth 100000 in
theorem hfX8_isSheet : vMfS mX8_isSheet 1 := ⟨⟨by decide +kernel, vTm (List.mem_of_getElem? (i := 1075) (by decide +kernel)) (by decide +kernel), vTm (List.mem_of_getElem? (i := 89) (by decide +kernel)) (by decide +kernel), ⟨by decide +kernel, by decide +kernel, by decide +kernel⟩, by decide⟩, vTm (List.mem_of_getElem? (i := 1074) (by decide +kernel)) (by decide +kernel)⟩
set_option maxRecDepth 100000 in
theorem hfX8_sheet : vMfV mX8_sheet 3 := ⟨⟨by decide +kernel, vTm (List.mem_of_getElem? (i := 1290) (by decide +kernel)) (by decide +kernel), vTm (List.mem_of_getElem? (i := 89) (by decide +kernel)) (by decide +kernel), ⟨by decide +kernel, by decide +kernel, by decide +kernel⟩, by decide⟩, vTm (List.mem_of_getElem? (i := 1288) (by decide +kernel)) (by decide +kernel), vTm (List.mem_of_getElem? (i := 1289) (by decide +kernel)) (by decide +kernel)⟩
set_option maxRecDepth 100000 in
theorem hfX8_lose : vMfV mX8_lose 1 := ⟨⟨by decide +kernel, vTm (List.mem_of_getElem? (i := 1294) (by decide +kernel)) (by decide +kernel), vTm (List.mem_of_getElem? (i := 89) (by decide +kernel)) (by decide +kernel), ⟨by decide +kernel, by decide +kernel, by decide +kernel⟩, by decide⟩, vTm (List.mem_of_getElem? (i := 1292) (by decide +kernel)) (by decide +kernel), vTm (List.mem_of_getElem? (i := 1293) (by decide +kernel)) (by decide +kernel)⟩
set_option maxRecDepth 100000 in
theorem hfX8_lacks : vMfV mX8_lacks 3 := ⟨⟨by decide +kernel, vTm (List.mem_of_getElem? (i := 1302) (by decide +kernel)) (by decide +kernel), vTm (List.mem_of_getElem? (i := 89) (by decide +kernel)) (by decide +kernel), ⟨by decide +kernel, by decide +kernel, by decide +kernel⟩, by decide⟩, vTm (List.mem_of_getElem? (i := 1301) (by decide +kernel)) (by decide +kernel), vTm (List.mem_of_getElem? (i := 74) (by decide +kernel)) (by decide +kernel)⟩
set_option maxRecDepth 100000 in
theorem hfX8_keep : vMfV mX8_keep 3 := ⟨⟨by decide +kernel, vTm (List.mem_of_getElem? (i := 1306) (by decide +kernel)) (by decide +kernel), vTm (List.mem_of_getElem? (i := 89) (by decide +kernel)) (by decide +kernel), ⟨by decide +kernel, by decide +kernel, by decide +kernel⟩, by decide⟩, vTm (List.mem_of_getElem? (i := 1305) (by decide +kernel)) (by decide +kernel), vTm (List.mem_of_getElem? (i := 75) (by decide +kernel)) (by decide +kernel)⟩
set_option maxRecDepth 100000 in
theorem hfX8_put : vMfV mX8_put 4 := ⟨⟨by decide +kernel, vTm (List.mem_of_getElem? (i := 1298) (by decide +kernel)) (by decide +kernel), vTm (List.mem_of_getElem? (i := 89) (by decide +kernel)) (by decide +kernel), ⟨by decide +kernel, by decide +kernel, by decide +kernel⟩, by decide⟩, vTm (List.mem_of_getElem? (i := 1296) (by decide +kernel)) (by decide +kernel), vTm (List.mem_of_getElem? (i := 1297) (by decide +kernel)) (by decide +kernel)⟩
set_option maxRecDepth 100000 in
theorem hfX8_get : vMfV mX8_get 3 := ⟨⟨by decide +kernel, vTm (List.mem_of_getElem? (i := 1310) (by decide +kernel)) (by decide +kernel), vTm (List.mem_of_getElem? (i := 89) (by decide +kernel)) (by decide +kernel), ⟨by decide +kernel, by decide +kernel, by decide +kernel⟩, by decide⟩, vTm (List.mem_of_getElem? (i := 1308) (by decide +kernel)) (by decide +kernel), vTm (List.mem_of_getElem? (i := 1309) (by decide +kernel)) (by decide +kernel)⟩
set_option maxRecDepth 100000 in
theorem hfX8_copy : vMfV mX8_copy 5 := ⟨⟨by decide +kernel, vTm (List.mem_of_getElem? (i := 1315) (by decide +kernel)) (by decide +kernel), vTm (List.mem_of_getElem? (i := 89) (by decide +kernel)) (by decide +kernel), ⟨by decide +kernel, by decide +kernel, by decide +kernel⟩, by decide⟩, vTm (List.mem_of_getElem? (i := 1313) (by decide +kernel)) (by decide +kernel), vTm (List.mem_of_getElem? (i := 1314) (by decide +kernel)) (by decide +kernel)⟩
set_option maxRecDepth 100000 in
theorem hfX8_write : vMfV mX8_write 2 := ⟨⟨by decide +kernel, vTm (List.mem_of_getElem? (i := 1319) (by decide +kernel)) (by decide +kernel), vTm (List.mem_of_getElem? (i := 89) (by decide +kernel)) (by decide +kernel), ⟨by decide +kernel, by decide +kernel, by decide +kernel⟩, by decide⟩, vTm (List.mem_of_getElem? (i := 1317) (by decide +kernel)) (by decide +kernel), vTm (List.mem_of_getElem? (i := 1318) (by decide +kernel)) (by decide +kernel)⟩
set_option maxRecDepth 100000 in
theorem hfX8_sumOf : vMfV mX8_sumOf 1 := ⟨⟨by decide +kernel, vTm (List.mem_of_getElem? (i := 1327) (by decide +kernel)) (by decide +kernel), vTm (List.mem_of_getElem? (i := 89) (by decide +kernel)) (by decide +kernel), ⟨by decide +kernel, by decide +kernel, by decide +kernel⟩, by decide⟩, vTm (List.mem_of_getElem? (i := 1326) (by decide +kernel)) (by decide +kernel), vTm (List.mem_of_getElem? (i := 76) (by decide +kernel)) (by decide +kernel)⟩
set_option maxRecDepth 100000 in
theorem hfX8_count : vMfV mX8_count 1 := ⟨⟨by decide +kernel, vTm (List.mem_of_getElem? (i := 1323) (by decide +kernel)) (by decide +kernel), vTm (List.mem_of_getElem? (i := 89) (by decide +kernel)) (by decide +kernel), ⟨by decide +kernel, by decide +kernel, by decide +kernel⟩, by decide⟩, vTm (List.mem_of_getElem? (i := 1321) (by decide +kernel)) (by decide +kernel), vTm (List.mem_of_getElem? (i := 1322) (by decide +kernel)) (by decide +kernel)⟩
set_option maxRecDepth 100000 in
theorem hfX8_floorDigest : vMfV mX8_floorDigest 2 := ⟨⟨by decide +kernel, vTm (List.mem_of_getElem? (i := 1338) (by decide +kernel)) (by decide +kernel), vTm (List.mem_of_getElem? (i := 89) (by decide +kernel)) (by decide +kernel), ⟨by decide +kernel, by decide +kernel, by decide +kernel⟩, by decide⟩, vTm (List.mem_of_getElem? (i := 1337) (by decide +kernel)) (by decide +kernel), vTm (List.mem_of_getElem? (i := 77) (by decide +kernel)) (by decide +kernel)⟩
set_option maxRecDepth 100000 in
theorem hfX8_hourDigest : vMfV mX8_hourDigest 3 := ⟨⟨by decide +kernel, vTm (List.mem_of_getElem? (i := 1346) (by decide +kernel)) (by decide +kernel), vTm (List.mem_of_getElem? (i := 89) (by decide +kernel)) (by decide +kernel), ⟨by decide +kernel, by decide +kernel, by decide +kernel⟩, by decide⟩, vTm (List.mem_of_getElem? (i := 1345) (by decide +kernel)) (by decide +kernel), vTm (List.mem_of_getElem? (i := 79) (by decide +kernel)) (by decide +kernel)⟩
set_option maxRecDepth 100000 in
theorem hfX8_basketDigest : vMfV mX8_basketDigest 2 := ⟨⟨by decide +kernel, vTm (List.mem_of_getElem? (i := 1342) (by decide +kernel)) (by decide +kernel), vTm (List.mem_of_getElem? (i := 89) (by decide +kernel)) (by decide +kernel), ⟨by decide +kernel, by decide +kernel, by decide +kernel⟩, by decide⟩, vTm (List.mem_of_getElem? (i := 1341) (by decide +kernel)) (by decide +kernel), vTm (List.mem_of_getElem? (i := 78) (by decide +kernel)) (by decide +kernel)⟩
set_option maxRecDepth 100000 in
theorem hfX8_digest : vMfV mX8_digest 0 := ⟨⟨by decide +kernel, vTm (List.mem_of_getElem? (i := 1331) (by decide +kernel)) (by decide +kernel), vTm (List.mem_of_getElem? (i := 89) (by decide +kernel)) (by decide +kernel), ⟨by decide +kernel, by decide +kernel, by decide +kernel⟩, by decide⟩, vTm (List.mem_of_getElem? (i := 1329) (by decide +kernel)) (by decide +kernel), vTm (List.mem_of_getElem? (i := 1330) (by decide +kernel)) (by decide +kernel)⟩
set_option maxRecDepth 100000 in
theorem flX4_13 : vFL RX4 13 4 0 := fun C T N hc => by
  cases hc
  exact ⟨by decide, Or.inl (vTm (List.mem_of_getElem? (i := 106) (by decide +kernel)) (by decide +kernel))⟩
set_option maxRecDepth 100000 in
theorem flX5_61 : vFL RX5 61 4 0 := fun C T N hc => by
  cases hc
  exact ⟨by decide, Or.inl (vTm (List.mem_of_getElem? (i := 107) (by decide +kernel)) (by decide +kernel))⟩
set_option maxRecDepth 100000 in
theorem flX4_7 : vFL RX4 7 4 1 := fun C T N hc => by
  cases hc
  exact ⟨by decide, Or.inl (vTm (List.mem_of_getElem? (i := 108) (by decide +kernel)) (by decide +kernel))⟩
set_option maxRecDepth 100000 in
theorem fpX4_7 : vFP RX4 7 4 1 := fun C T N hc => by
  cases hc
  exact ⟨by decide, rfl, vTm (List.mem_of_getElem? (i := 108) (by decide +kernel)) (by decide +kernel)⟩
set_option maxRecDepth 100000 in
theorem flX5_56 : vFL RX5 56 4 1 := fun C T N hc => by
  cases hc
  exact ⟨by decide, Or.inl (vTm (List.mem_of_getElem? (i := 109) (by decide +kernel)) (by decide +kernel))⟩
set_option maxRecDepth 100000 in
theorem fpX5_56 : vFP RX5 56 4 1 := fun C T N hc => by
  cases hc
  exact ⟨by decide, rfl, vTm (List.mem_of_getElem? (i := 109) (by decide +kernel)) (by decide +kernel)⟩
set_option maxRecDepth 100000 in
theorem flX7_104 : vFL RX7 104 4 1 := fun C T N hc => by
  cases hc
  exact ⟨by decide, Or.inl (vTm (List.mem_of_getElem? (i := 110) (by decide +kernel)) (by decide +kernel))⟩
set_option maxRecDepth 100000 in
theorem fpX7_104 : vFP RX7 104 4 1 := fun C T N hc => by
  cases hc
  exact ⟨by decide, rfl, vTm (List.mem_of_getElem? (i := 110) (by decide +kernel)) (by decide +kernel)⟩
set_option maxRecDepth 100000 in
theorem flX5_9 : vFL RX5 9 5 0 := fun C T N hc => by
  cases hc
  exact ⟨by decide, Or.inl (vTm (List.mem_of_getElem? (i := 123) (by decide +kernel)) (by decide +kernel))⟩
set_option maxRecDepth 100000 in
theorem fpX5_9 : vFP RX5 9 5 0 := fun C T N hc => by
  cases hc
  exact ⟨by decide, rfl, vTm (List.mem_of_getElem? (i := 123) (by decide +kernel)) (by decide +kernel)⟩
set_option maxRecDepth 100000 in
theorem flX6_100 : vFL RX6 100 5 0 := fun C T N hc => by
  cases hc
  exact ⟨by decide, Or.inl (vTm (List.mem_of_getElem? (i := 124) (by decide +kernel)) (by decide +kernel))⟩
set_option maxRecDepth 100000 in
theorem fpX6_100 : vFP RX6 100 5 0 := fun C T N hc => by
  cases hc
  exact ⟨by decide, rfl, vTm (List.mem_of_getElem? (i := 124) (by decide +kernel)) (by decide +kernel)⟩
set_option maxRecDepth 100000 in
theorem flX7_217 : vFL RX7 217 5 0 := fun C T N hc => by
  cases hc
  exact ⟨by decide, Or.inl (vTm (List.mem_of_getElem? (i := 125) (by decide +kernel)) (by decide +kernel))⟩
set_option maxRecDepth 100000 in
theorem fpX7_217 : vFP RX7 217 5 0 := fun C T N hc => by
  cases hc
  exact ⟨by decide, rfl, vTm (List.mem_of_getElem? (i := 125) (by decide +kernel)) (by decide +kernel)⟩
set_option maxRecDepth 100000 in
theorem flX5_15 : vFL RX5 15 5 1 := fun C T N hc => by
  cases hc
  exact ⟨by decide, Or.inl (vTm (List.mem_of_getElem? (i := 126) (by decide +kernel)) (by decide +kernel))⟩
set_option maxRecDepth 100000 in
theorem fpX5_15 : vFP RX5 15 5 1 := fun C T N hc => by
  cases hc
  exact ⟨by decide, rfl, vTm (List.mem_of_getElem? (i := 126) (by decide +kernel)) (by decide +kernel)⟩
set_option maxRecDepth 100000 in
theorem flX7_107 : vFL RX7 107 5 1 := fun C T N hc => by
  cases hc
  exact ⟨by decide, Or.inl (vTm (List.mem_of_getElem? (i := 127) (by decide +kernel)) (by decide +kernel))⟩
set_option maxRecDepth 100000 in
theorem fpX7_107 : vFP RX7 107 5 1 := fun C T N hc => by
  cases hc
  exact ⟨by decide, rfl, vTm (List.mem_of_getElem? (i := 127) (by decide +kernel)) (by decide +kernel)⟩
set_option maxRecDepth 100000 in
theorem flX5_18 : vFL RX5 18 5 2 := fun C T N hc => by
  cases hc
  exact ⟨by decide, Or.inl (vTm (List.mem_of_getElem? (i := 128) (by decide +kernel)) (by decide +kernel))⟩
set_option maxRecDepth 100000 in
theorem flX6_106 : vFL RX6 106 5 2 := fun C T N hc => by
  cases hc
  exact ⟨by decide, Or.inl (vTm (List.mem_of_getElem? (i := 129) (by decide +kernel)) (by decide +kernel))⟩
set_option maxRecDepth 100000 in
theorem flX7_116 : vFL RX7 116 5 2 := fun C T N hc => by
  cases hc
  exact ⟨by decide, Or.inl (vTm (List.mem_of_getElem? (i := 130) (by decide +kernel)) (by decide +kernel))⟩
set_option maxRecDepth 100000 in
theorem flX5_22 : vFL RX5 22 5 3 := fun C T N hc => by
  cases hc
  exact ⟨by decide, Or.inl (vTm (List.mem_of_getElem? (i := 131) (by decide +kernel)) (by decide +kernel))⟩
set_option maxRecDepth 100000 in
theorem flX6_120 : vFL RX6 120 5 3 := fun C T N hc => by
  cases hc
  exact ⟨by decide, Or.inl (vTm (List.mem_of_getElem? (i := 132) (by decide +kernel)) (by decide +kernel))⟩
set_option maxRecDepth 100000 in
theorem flX7_119 : vFL RX7 119 5 3 := fun C T N hc => by
  cases hc
  exact ⟨by decide, Or.inl (vTm (List.mem_of_getElem? (i := 133) (by decide +kernel)) (by decide +kernel))⟩
set_option maxRecDepth 100000 in
theorem flX5_25 : vFL RX5 25 5 4 := fun C T N hc => by
  cases hc
  exact ⟨by decide, Or.inl (vTm (List.mem_of_getElem? (i := 134) (by decide +kernel)) (by decide +kernel))⟩
set_option maxRecDepth 100000 in
theorem flX7_122 : vFL RX7 122 5 4 := fun C T N hc => by
  cases hc
  exact ⟨by decide, Or.inl (vTm (List.mem_of_getElem? (i := 135) (by decide +kernel)) (by decide +kernel))⟩
set_option maxRecDepth 100000 in
theorem flX6_122 : vFL RX6 122 5 4 := fun C T N hc => by
  cases hc
  exact ⟨by decide, Or.inl (vTm (List.mem_of_getElem? (i := 136) (by decide +kernel)) (by decide +kernel))⟩
set_option maxRecDepth 100000 in
theorem flX5_28 : vFL RX5 28 5 5 := fun C T N hc => by
  cases hc
  exact ⟨by decide, Or.inl (vTm (List.mem_of_getElem? (i := 137) (by decide +kernel)) (by decide +kernel))⟩
set_option maxRecDepth 100000 in
theorem fpX5_28 : vFP RX5 28 5 5 := fun C T N hc => by
  cases hc
  exact ⟨by decide, rfl, vTm (List.mem_of_getElem? (i := 137) (by decide +kernel)) (by decide +kernel)⟩
set_option maxRecDepth 100000 in
theorem flX6_82 : vFL RX6 82 5 5 := fun C T N hc => by
  cases hc
  exact ⟨by decide, Or.inl (vTm (List.mem_of_getElem? (i := 138) (by decide +kernel)) (by decide +kernel))⟩
set_option maxRecDepth 100000 in
theorem fpX6_82 : vFP RX6 82 5 5 := fun C T N hc => by
  cases hc
  exact ⟨by decide, rfl, vTm (List.mem_of_getElem? (i := 138) (by decide +kernel)) (by decide +kernel)⟩
set_option maxRecDepth 100000 in
theorem flX3_31 : vFL RX3 31 5 5 := fun C T N hc => by
  cases hc
  exact ⟨by decide, Or.inl (vTm (List.mem_of_getElem? (i := 139) (by decide +kernel)) (by decide +kernel))⟩
set_option maxRecDepth 100000 in
theorem fpX3_31 : vFP RX3 31 5 5 := fun C T N hc => by
  cases hc
  exact ⟨by decide, rfl, vTm (List.mem_of_getElem? (i := 139) (by decide +kernel)) (by decide +kernel)⟩
set_option maxRecDepth 100000 in
theorem flX7_268 : vFL RX7 268 5 5 := fun C T N hc => by
  cases hc
  exact ⟨by decide, Or.inl (vTm (List.mem_of_getElem? (i := 140) (by decide +kernel)) (by decide +kernel))⟩
set_option maxRecDepth 100000 in
theorem fpX7_268 : vFP RX7 268 5 5 := fun C T N hc => by
  cases hc
  exact ⟨by decide, rfl, vTm (List.mem_of_getElem? (i := 140) (by decide +kernel)) (by decide +kernel)⟩
set_option maxRecDepth 100000 in
theorem flX5_31 : vFL RX5 31 5 6 := fun C T N hc => by
  cases hc
  exact ⟨by decide, Or.inl (vTm (List.mem_of_getElem? (i := 141) (by decide +kernel)) (by decide +kernel))⟩
set_option maxRecDepth 100000 in
theorem fpX5_31 : vFP RX5 31 5 6 := fun C T N hc => by
  cases hc
  exact ⟨by decide, rfl, vTm (List.mem_of_getElem? (i := 141) (by decide +kernel)) (by decide +kernel)⟩
set_option maxRecDepth 100000 in
theorem flX7_110 : vFL RX7 110 5 6 := fun C T N hc => by
  cases hc
  exact ⟨by decide, Or.inl (vTm (List.mem_of_getElem? (i := 142) (by decide +kernel)) (by decide +kernel))⟩
set_option maxRecDepth 100000 in
theorem fpX7_110 : vFP RX7 110 5 6 := fun C T N hc => by
  cases hc
  exact ⟨by decide, rfl, vTm (List.mem_of_getElem? (i := 142) (by decide +kernel)) (by decide +kernel)⟩
set_option maxRecDepth 100000 in
theorem flX5_34 : vFL RX5 34 5 7 := fun C T N hc => by
  cases hc
  exact ⟨by decide, Or.inl (vTm (List.mem_of_getElem? (i := 143) (by decide +kernel)) (by decide +kernel))⟩
set_option maxRecDepth 100000 in
theorem flX6_103 : vFL RX6 103 5 7 := fun C T N hc => by
  cases hc
  exact ⟨by decide, Or.inl (vTm (List.mem_of_getElem? (i := 144) (by decide +kernel)) (by decide +kernel))⟩
set_option maxRecDepth 100000 in
theorem flX7_128 : vFL RX7 128 5 7 := fun C T N hc => by
  cases hc
  exact ⟨by decide, Or.inl (vTm (List.mem_of_getElem? (i := 145) (by decide +kernel)) (by decide +kernel))⟩
set_option maxRecDepth 100000 in
theorem flX5_37 : vFL RX5 37 5 8 := fun C T N hc => by
  cases hc
  exact ⟨by decide, Or.inl (vTm (List.mem_of_getElem? (i := 146) (by decide +kernel)) (by decide +kernel))⟩
set_option maxRecDepth 100000 in
theorem flX6_87 : vFL RX6 87 5 8 := fun C T N hc => by
  cases hc
  exact ⟨by decide, Or.inl (vTm (List.mem_of_getElem? (i := 147) (by decide +kernel)) (by decide +kernel))⟩
set_option maxRecDepth 100000 in
theorem flX7_131 : vFL RX7 131 5 8 := fun C T N hc => by
  cases hc
  exact ⟨by decide, Or.inl (vTm (List.mem_of_getElem? (i := 148) (by decide +kernel)) (by decide +kernel))⟩
set_option maxRecDepth 100000 in
theorem flX5_40 : vFL RX5 40 5 9 := fun C T N hc => by
  cases hc
  exact ⟨by decide, Or.inl (vTm (List.mem_of_getElem? (i := 149) (by decide +kernel)) (by decide +kernel))⟩
set_option maxRecDepth 100000 in
theorem flX6_88 : vFL RX6 88 5 9 := fun C T N hc => by
  cases hc
  exact ⟨by decide, Or.inl (vTm (List.mem_of_getElem? (i := 150) (by decide +kernel)) (by decide +kernel))⟩
set_option maxRecDepth 100000 in
theorem flX7_134 : vFL RX7 134 5 9 := fun C T N hc => by
  cases hc
  exact ⟨by decide, Or.inl (vTm (List.mem_of_getElem? (i := 151) (by decide +kernel)) (by decide +kernel))⟩
set_option maxRecDepth 100000 in
theorem flX5_43 : vFL RX5 43 5 10 := fun C T N hc => by
  cases hc
  exact ⟨by decide, Or.inl (vTm (List.mem_of_getElem? (i := 152) (by decide +kernel)) (by decide +kernel))⟩
set_option maxRecDepth 100000 in
theorem flX6_91 : vFL RX6 91 5 10 := fun C T N hc => by
  cases hc
  exact ⟨by decide, Or.inl (vTm (List.mem_of_getElem? (i := 153) (by decide +kernel)) (by decide +kernel))⟩
set_option maxRecDepth 100000 in
theorem flX5_46 : vFL RX5 46 5 11 := fun C T N hc => by
  cases hc
  exact ⟨by decide, Or.inl (vTm (List.mem_of_getElem? (i := 154) (by decide +kernel)) (by decide +kernel))⟩
set_option maxRecDepth 100000 in
theorem fpX5_46 : vFP RX5 46 5 11 := fun C T N hc => by
  cases hc
  exact ⟨by decide, rfl, vTm (List.mem_of_getElem? (i := 154) (by decide +kernel)) (by decide +kernel)⟩
set_option maxRecDepth 100000 in
theorem flX6_117 : vFL RX6 117 5 11 := fun C T N hc => by
  cases hc
  exact ⟨by decide, Or.inl (vTm (List.mem_of_getElem? (i := 155) (by decide +kernel)) (by decide +kernel))⟩
set_option maxRecDepth 100000 in
theorem fpX6_117 : vFP RX6 117 5 11 := fun C T N hc => by
  cases hc
  exact ⟨by decide, rfl, vTm (List.mem_of_getElem? (i := 155) (by decide +kernel)) (by decide +kernel)⟩
set_option maxRecDepth 100000 in
theorem flX7_141 : vFL RX7 141 5 11 := fun C T N hc => by
  cases hc
  exact ⟨by decide, Or.inl (vTm (List.mem_of_getElem? (i := 156) (by decide +kernel)) (by decide +kernel))⟩
set_option maxRecDepth 100000 in
theorem fpX7_141 : vFP RX7 141 5 11 := fun C T N hc => by
  cases hc
  exact ⟨by decide, rfl, vTm (List.mem_of_getElem? (i := 156) (by decide +kernel)) (by decide +kernel)⟩
set_option maxRecDepth 100000 in
theorem flX5_49 : vFL RX5 49 5 12 := fun C T N hc => by
  cases hc
  exact ⟨by decide, Or.inl (vTm (List.mem_of_getElem? (i := 157) (by decide +kernel)) (by decide +kernel))⟩
set_option maxRecDepth 100000 in
theorem fpX5_49 : vFP RX5 49 5 12 := fun C T N hc => by
  cases hc
  exact ⟨by decide, rfl, vTm (List.mem_of_getElem? (i := 157) (by decide +kernel)) (by decide +kernel)⟩
set_option maxRecDepth 100000 in
theorem flX7_144 : vFL RX7 144 5 12 := fun C T N hc => by
  cases hc
  exact ⟨by decide, Or.inl (vTm (List.mem_of_getElem? (i := 158) (by decide +kernel)) (by decide +kernel))⟩
set_option maxRecDepth 100000 in
theorem fpX7_144 : vFP RX7 144 5 12 := fun C T N hc => by
  cases hc
  exact ⟨by decide, rfl, vTm (List.mem_of_getElem? (i := 158) (by decide +kernel)) (by decide +kernel)⟩
set_option maxRecDepth 100000 in
theorem flX6_129 : vFL RX6 129 5 12 := fun C T N hc => by
  cases hc
  exact ⟨by decide, Or.inl (vTm (List.mem_of_getElem? (i := 159) (by decide +kernel)) (by decide +kernel))⟩
set_option maxRecDepth 100000 in
theorem fpX6_129 : vFP RX6 129 5 12 := fun C T N hc => by
  cases hc
  exact ⟨by decide, rfl, vTm (List.mem_of_getElem? (i := 159) (by decide +kernel)) (by decide +kernel)⟩
set_option maxRecDepth 100000 in
theorem flX6_65 : vFL RX6 65 6 0 := fun C T N hc => by
  cases hc
  exact ⟨by decide, Or.inl (vTm (List.mem_of_getElem? (i := 193) (by decide +kernel)) (by decide +kernel))⟩
set_option maxRecDepth 100000 in
theorem flX3_25 : vFL RX3 25 6 0 := fun C T N hc => by
  cases hc
  exact ⟨by decide, Or.inr ⟨"BreadString", fun s h => h⟩⟩
set_option maxRecDepth 100000 in
theorem flX6_9 : vFL RX6 9 6 1 := fun C T N hc => by
  cases hc
  exact ⟨by decide, Or.inl (vTm (List.mem_of_getElem? (i := 195) (by decide +kernel)) (by decide +kernel))⟩
set_option maxRecDepth 100000 in
theorem fpX6_9 : vFP RX6 9 6 1 := fun C T N hc => by
  cases hc
  exact ⟨by decide, rfl, vTm (List.mem_of_getElem? (i := 195) (by decide +kernel)) (by decide +kernel)⟩
set_option maxRecDepth 100000 in
theorem flX6_15 : vFL RX6 15 6 2 := fun C T N hc => by
  cases hc
  exact ⟨by decide, Or.inl (vTm (List.mem_of_getElem? (i := 196) (by decide +kernel)) (by decide +kernel))⟩
set_option maxRecDepth 100000 in
theorem fpX6_15 : vFP RX6 15 6 2 := fun C T N hc => by
  cases hc
  exact ⟨by decide, rfl, vTm (List.mem_of_getElem? (i := 196) (by decide +kernel)) (by decide +kernel)⟩
set_option maxRecDepth 100000 in
theorem flX6_18 : vFL RX6 18 6 3 := fun C T N hc => by
  cases hc
  exact ⟨by decide, Or.inl (vTm (List.mem_of_getElem? (i := 197) (by decide +kernel)) (by decide +kernel))⟩
set_option maxRecDepth 100000 in
theorem flX7_177 : vFL RX7 177 6 3 := fun C T N hc => by
  cases hc
  exact ⟨by decide, Or.inl (vTm (List.mem_of_getElem? (i := 198) (by decide +kernel)) (by decide +kernel))⟩
set_option maxRecDepth 100000 in
theorem flX6_22 : vFL RX6 22 6 4 := fun C T N hc => by
  cases hc
  exact ⟨by decide, Or.inl (vTm (List.mem_of_getElem? (i := 199) (by decide +kernel)) (by decide +kernel))⟩
set_option maxRecDepth 100000 in
theorem flX7_180 : vFL RX7 180 6 4 := fun C T N hc => by
  cases hc
  exact ⟨by decide, Or.inl (vTm (List.mem_of_getElem? (i := 200) (by decide +kernel)) (by decide +kernel))⟩
set_option maxRecDepth 100000 in
theorem flX6_25 : vFL RX6 25 6 5 := fun C T N hc => by
  cases hc
  exact ⟨by decide, Or.inl (vTm (List.mem_of_getElem? (i := 201) (by decide +kernel)) (by decide +kernel))⟩
set_option maxRecDepth 100000 in
theorem flX7_183 : vFL RX7 183 6 5 := fun C T N hc => by
  cases hc
  exact ⟨by decide, Or.inl (vTm (List.mem_of_getElem? (i := 202) (by decide +kernel)) (by decide +kernel))⟩
set_option maxRecDepth 100000 in
theorem flX6_28 : vFL RX6 28 6 6 := fun C T N hc => by
  cases hc
  exact ⟨by decide, Or.inl (vTm (List.mem_of_getElem? (i := 203) (by decide +kernel)) (by decide +kernel))⟩
set_option maxRecDepth 100000 in
theorem flX7_192 : vFL RX7 192 6 6 := fun C T N hc => by
  cases hc
  exact ⟨by decide, Or.inl (vTm (List.mem_of_getElem? (i := 204) (by decide +kernel)) (by decide +kernel))⟩
set_option maxRecDepth 100000 in
theorem flX6_31 : vFL RX6 31 6 7 := fun C T N hc => by
  cases hc
  exact ⟨by decide, Or.inl (vTm (List.mem_of_getElem? (i := 205) (by decide +kernel)) (by decide +kernel))⟩
set_option maxRecDepth 100000 in
theorem flX6_34 : vFL RX6 34 6 8 := fun C T N hc => by
  cases hc
  exact ⟨by decide, Or.inl (vTm (List.mem_of_getElem? (i := 206) (by decide +kernel)) (by decide +kernel))⟩
set_option maxRecDepth 100000 in
theorem flX6_37 : vFL RX6 37 6 9 := fun C T N hc => by
  cases hc
  exact ⟨by decide, Or.inl (vTm (List.mem_of_getElem? (i := 207) (by decide +kernel)) (by decide +kernel))⟩
set_option maxRecDepth 100000 in
theorem flX6_40 : vFL RX6 40 6 10 := fun C T N hc => by
  cases hc
  exact ⟨by decide, Or.inl (vTm (List.mem_of_getElem? (i := 208) (by decide +kernel)) (by decide +kernel))⟩
set_option maxRecDepth 100000 in
theorem flX6_43 : vFL RX6 43 6 11 := fun C T N hc => by
  cases hc
  exact ⟨by decide, Or.inl (vTm (List.mem_of_getElem? (i := 209) (by decide +kernel)) (by decide +kernel))⟩
set_option maxRecDepth 100000 in
theorem flX6_46 : vFL RX6 46 6 12 := fun C T N hc => by
  cases hc
  exact ⟨by decide, Or.inl (vTm (List.mem_of_getElem? (i := 210) (by decide +kernel)) (by decide +kernel))⟩
set_option maxRecDepth 100000 in
theorem flX7_195 : vFL RX7 195 6 12 := fun C T N hc => by
  cases hc
  exact ⟨by decide, Or.inl (vTm (List.mem_of_getElem? (i := 211) (by decide +kernel)) (by decide +kernel))⟩
set_option maxRecDepth 100000 in
theorem flX6_49 : vFL RX6 49 6 13 := fun C T N hc => by
  cases hc
  exact ⟨by decide, Or.inl (vTm (List.mem_of_getElem? (i := 212) (by decide +kernel)) (by decide +kernel))⟩
set_option maxRecDepth 100000 in
theorem flX7_198 : vFL RX7 198 6 13 := fun C T N hc => by
  cases hc
  exact ⟨by decide, Or.inl (vTm (List.mem_of_getElem? (i := 213) (by decide +kernel)) (by decide +kernel))⟩
set_option maxRecDepth 100000 in
theorem flX6_52 : vFL RX6 52 6 14 := fun C T N hc => by
  cases hc
  exact ⟨by decide, Or.inl (vTm (List.mem_of_getElem? (i := 214) (by decide +kernel)) (by decide +kernel))⟩
set_option maxRecDepth 100000 in
theorem fpX6_52 : vFP RX6 52 6 14 := fun C T N hc => by
  cases hc
  exact ⟨by decide, rfl, vTm (List.mem_of_getElem? (i := 214) (by decide +kernel)) (by decide +kernel)⟩
set_option maxRecDepth 100000 in
theorem flX6_56 : vFL RX6 56 6 15 := fun C T N hc => by
  cases hc
  exact ⟨by decide, Or.inl (vTm (List.mem_of_getElem? (i := 215) (by decide +kernel)) (by decide +kernel))⟩
set_option maxRecDepth 100000 in
theorem fpX6_56 : vFP RX6 56 6 15 := fun C T N hc => by
  cases hc
  exact ⟨by decide, rfl, vTm (List.mem_of_getElem? (i := 215) (by decide +kernel)) (by decide +kernel)⟩
set_option maxRecDepth 100000 in
theorem flX7_284 : vFL RX7 284 6 15 := fun C T N hc => by
  cases hc
  exact ⟨by decide, Or.inl (vTm (List.mem_of_getElem? (i := 216) (by decide +kernel)) (by decide +kernel))⟩
set_option maxRecDepth 100000 in
theorem fpX7_284 : vFP RX7 284 6 15 := fun C T N hc => by
  cases hc
  exact ⟨by decide, rfl, vTm (List.mem_of_getElem? (i := 216) (by decide +kernel)) (by decide +kernel)⟩
set_option maxRecDepth 100000 in
theorem flX6_59 : vFL RX6 59 6 16 := fun C T N hc => by
  cases hc
  exact ⟨by decide, Or.inl (vTm (List.mem_of_getElem? (i := 217) (by decide +kernel)) (by decide +kernel))⟩
set_option maxRecDepth 100000 in
theorem fpX6_59 : vFP RX6 59 6 16 := fun C T N hc => by
  cases hc
  exact ⟨by decide, rfl, vTm (List.mem_of_getElem? (i := 217) (by decide +kernel)) (by decide +kernel)⟩
set_option maxRecDepth 100000 in
theorem flX7_208 : vFL RX7 208 6 16 := fun C T N hc => by
  cases hc
  exact ⟨by decide, Or.inl (vTm (List.mem_of_getElem? (i := 218) (by decide +kernel)) (by decide +kernel))⟩
set_option maxRecDepth 100000 in
theorem fpX7_208 : vFP RX7 208 6 16 := fun C T N hc => by
  cases hc
  exact ⟨by decide, rfl, vTm (List.mem_of_getElem? (i := 218) (by decide +kernel)) (by decide +kernel)⟩
set_option maxRecDepth 100000 in
theorem flX6_62 : vFL RX6 62 6 17 := fun C T N hc => by
  cases hc
  exact ⟨by decide, Or.inl (vTm (List.mem_of_getElem? (i := 219) (by decide +kernel)) (by decide +kernel))⟩
set_option maxRecDepth 100000 in
theorem fpX6_62 : vFP RX6 62 6 17 := fun C T N hc => by
  cases hc
  exact ⟨by decide, rfl, vTm (List.mem_of_getElem? (i := 219) (by decide +kernel)) (by decide +kernel)⟩
set_option maxRecDepth 100000 in
theorem flX7_211 : vFL RX7 211 6 17 := fun C T N hc => by
  cases hc
  exact ⟨by decide, Or.inl (vTm (List.mem_of_getElem? (i := 220) (by decide +kernel)) (by decide +kernel))⟩
set_option maxRecDepth 100000 in
theorem fpX7_211 : vFP RX7 211 6 17 := fun C T N hc => by
  cases hc
  exact ⟨by decide, rfl, vTm (List.mem_of_getElem? (i := 220) (by decide +kernel)) (by decide +kernel)⟩
set_option maxRecDepth 100000 in
theorem flX1_9 : vFL RX1 9 1 0 := fun C T N hc => by
  cases hc
  exact ⟨by decide, Or.inl (vTm (List.mem_of_getElem? (i := 264) (by decide +kernel)) (by decide +kernel))⟩
set_option maxRecDepth 100000 in
theorem flX1_15 : vFL RX1 15 1 1 := fun C T N hc => by
  cases hc
  exact ⟨by decide, Or.inl (vTm (List.mem_of_getElem? (i := 265) (by decide +kernel)) (by decide +kernel))⟩
set_option maxRecDepth 100000 in
theorem fpX1_15 : vFP RX1 15 1 1 := fun C T N hc => by
  cases hc
  exact ⟨by decide, rfl, vTm (List.mem_of_getElem? (i := 265) (by decide +kernel)) (by decide +kernel)⟩
set_option maxRecDepth 100000 in
theorem flX7_151 : vFL RX7 151 1 1 := fun C T N hc => by
  cases hc
  exact ⟨by decide, Or.inl (vTm (List.mem_of_getElem? (i := 266) (by decide +kernel)) (by decide +kernel))⟩
set_option maxRecDepth 100000 in
theorem fpX7_151 : vFP RX7 151 1 1 := fun C T N hc => by
  cases hc
  exact ⟨by decide, rfl, vTm (List.mem_of_getElem? (i := 266) (by decide +kernel)) (by decide +kernel)⟩
set_option maxRecDepth 100000 in
theorem flX3_9 : vFL RX3 9 3 0 := fun C T N hc => by
  cases hc
  exact ⟨by decide, Or.inl (vTm (List.mem_of_getElem? (i := 278) (by decide +kernel)) (by decide +kernel))⟩
set_option maxRecDepth 100000 in
theorem flX3_15 : vFL RX3 15 3 1 := fun C T N hc => by
  cases hc
  exact ⟨by decide, Or.inl (vTm (List.mem_of_getElem? (i := 279) (by decide +kernel)) (by decide +kernel))⟩
set_option maxRecDepth 100000 in
theorem flX3_18 : vFL RX3 18 3 2 := fun C T N hc => by
  cases hc
  exact ⟨by decide, Or.inl (vTm (List.mem_of_getElem? (i := 280) (by decide +kernel)) (by decide +kernel))⟩
set_option maxRecDepth 100000 in
theorem flX3_21 : vFL RX3 21 3 3 := fun C T N hc => by
  cases hc
  exact ⟨by decide, Or.inl (vTm (List.mem_of_getElem? (i := 281) (by decide +kernel)) (by decide +kernel))⟩
set_option maxRecDepth 100000 in
theorem fpX3_21 : vFP RX3 21 3 3 := fun C T N hc => by
  cases hc
  exact ⟨by decide, rfl, vTm (List.mem_of_getElem? (i := 281) (by decide +kernel)) (by decide +kernel)⟩
set_option maxRecDepth 100000 in
theorem flX7_253 : vFL RX7 253 3 3 := fun C T N hc => by
  cases hc
  exact ⟨by decide, Or.inl (vTm (List.mem_of_getElem? (i := 282) (by decide +kernel)) (by decide +kernel))⟩
set_option maxRecDepth 100000 in
theorem fpX7_253 : vFP RX7 253 3 3 := fun C T N hc => by
  cases hc
  exact ⟨by decide, rfl, vTm (List.mem_of_getElem? (i := 282) (by decide +kernel)) (by decide +kernel)⟩
set_option maxRecDepth 100000 in
theorem flX2_9 : vFL RX2 9 2 0 := fun C T N hc => by
  cases hc
  exact ⟨by decide, Or.inl (vTm (List.mem_of_getElem? (i := 298) (by decide +kernel)) (by decide +kernel))⟩
set_option maxRecDepth 100000 in
theorem flX7_301 : vFL RX7 301 2 0 := fun C T N hc => by
  cases hc
  exact ⟨by decide, Or.inl (vTm (List.mem_of_getElem? (i := 299) (by decide +kernel)) (by decide +kernel))⟩
set_option maxRecDepth 100000 in
theorem flX2_15 : vFL RX2 15 2 1 := fun C T N hc => by
  cases hc
  exact ⟨by decide, Or.inl (vTm (List.mem_of_getElem? (i := 300) (by decide +kernel)) (by decide +kernel))⟩
set_option maxRecDepth 100000 in
theorem flX7_161 : vFL RX7 161 2 1 := fun C T N hc => by
  cases hc
  exact ⟨by decide, Or.inl (vTm (List.mem_of_getElem? (i := 301) (by decide +kernel)) (by decide +kernel))⟩
set_option maxRecDepth 100000 in
theorem flX2_18 : vFL RX2 18 2 2 := fun C T N hc => by
  cases hc
  exact ⟨by decide, Or.inl (vTm (List.mem_of_getElem? (i := 302) (by decide +kernel)) (by decide +kernel))⟩
set_option maxRecDepth 100000 in
theorem flX7_307 : vFL RX7 307 2 2 := fun C T N hc => by
  cases hc
  exact ⟨by decide, Or.inl (vTm (List.mem_of_getElem? (i := 303) (by decide +kernel)) (by decide +kernel))⟩
set_option maxRecDepth 100000 in
theorem flX0_9 : vFL RX0 9 0 0 := fun C T N hc => by
  cases hc
  exact ⟨by decide, Or.inl (vTm (List.mem_of_getElem? (i := 317) (by decide +kernel)) (by decide +kernel))⟩
set_option maxRecDepth 100000 in
theorem fpX0_9 : vFP RX0 9 0 0 := fun C T N hc => by
  cases hc
  exact ⟨by decide, rfl, vTm (List.mem_of_getElem? (i := 317) (by decide +kernel)) (by decide +kernel)⟩
set_option maxRecDepth 100000 in
theorem flX7_224 : vFL RX7 224 0 0 := fun C T N hc => by
  cases hc
  exact ⟨by decide, Or.inl (vTm (List.mem_of_getElem? (i := 318) (by decide +kernel)) (by decide +kernel))⟩
set_option maxRecDepth 100000 in
theorem fpX7_224 : vFP RX7 224 0 0 := fun C T N hc => by
  cases hc
  exact ⟨by decide, rfl, vTm (List.mem_of_getElem? (i := 318) (by decide +kernel)) (by decide +kernel)⟩
set_option maxRecDepth 100000 in
theorem flX0_15 : vFL RX0 15 0 1 := fun C T N hc => by
  cases hc
  exact ⟨by decide, Or.inl (vTm (List.mem_of_getElem? (i := 319) (by decide +kernel)) (by decide +kernel))⟩
set_option maxRecDepth 100000 in
theorem fpX0_15 : vFP RX0 15 0 1 := fun C T N hc => by
  cases hc
  exact ⟨by decide, rfl, vTm (List.mem_of_getElem? (i := 319) (by decide +kernel)) (by decide +kernel)⟩
set_option maxRecDepth 100000 in
theorem flX7_230 : vFL RX7 230 0 1 := fun C T N hc => by
  cases hc
  exact ⟨by decide, Or.inl (vTm (List.mem_of_getElem? (i := 320) (by decide +kernel)) (by decide +kernel))⟩
set_option maxRecDepth 100000 in
theorem fpX7_230 : vFP RX7 230 0 1 := fun C T N hc => by
  cases hc
  exact ⟨by decide, rfl, vTm (List.mem_of_getElem? (i := 320) (by decide +kernel)) (by decide +kernel)⟩
set_option maxRecDepth 100000 in
theorem flX7_14 : vFL RX7 14 7 0 := fun C T N hc => by
  cases hc
  exact ⟨by decide, Or.inl (vTm (List.mem_of_getElem? (i := 326) (by decide +kernel)) (by decide +kernel))⟩
set_option maxRecDepth 100000 in
theorem flX7_18 : vFL RX7 18 7 1 := fun C T N hc => by
  cases hc
  exact ⟨by decide, Or.inl (vTm (List.mem_of_getElem? (i := 327) (by decide +kernel)) (by decide +kernel))⟩
set_option maxRecDepth 100000 in
theorem flX7_24 : vFL RX7 24 7 2 := fun C T N hc => by
  cases hc
  exact ⟨by decide, Or.inl (vTm (List.mem_of_getElem? (i := 328) (by decide +kernel)) (by decide +kernel))⟩
set_option maxRecDepth 100000 in
theorem flX7_33 : vFL RX7 33 7 3 := fun C T N hc => by
  cases hc
  exact ⟨by decide, Or.inl (vTm (List.mem_of_getElem? (i := 329) (by decide +kernel)) (by decide +kernel))⟩
set_option maxRecDepth 100000 in
theorem flX7_40 : vFL RX7 40 7 4 := fun C T N hc => by
  cases hc
  exact ⟨by decide, Or.inl (vTm (List.mem_of_getElem? (i := 330) (by decide +kernel)) (by decide +kernel))⟩
set_option maxRecDepth 100000 in
theorem flX7_44 : vFL RX7 44 7 5 := fun C T N hc => by
  cases hc
  exact ⟨by decide, Or.inl (vTm (List.mem_of_getElem? (i := 331) (by decide +kernel)) (by decide +kernel))⟩
set_option maxRecDepth 100000 in
theorem flX7_50 : vFL RX7 50 7 6 := fun C T N hc => by
  cases hc
  exact ⟨by decide, Or.inl (vTm (List.mem_of_getElem? (i := 332) (by decide +kernel)) (by decide +kernel))⟩
set_option maxRecDepth 100000 in
theorem flX7_57 : vFL RX7 57 7 7 := fun C T N hc => by
  cases hc
  exact ⟨by decide, Or.inl (vTm (List.mem_of_getElem? (i := 333) (by decide +kernel)) (by decide +kernel))⟩
set_option maxRecDepth 100000 in
theorem flX7_64 : vFL RX7 64 7 8 := fun C T N hc => by
  cases hc
  exact ⟨by decide, Or.inl (vTm (List.mem_of_getElem? (i := 334) (by decide +kernel)) (by decide +kernel))⟩
set_option maxRecDepth 100000 in
theorem flX7_68 : vFL RX7 68 7 9 := fun C T N hc => by
  cases hc
  exact ⟨by decide, Or.inl (vTm (List.mem_of_getElem? (i := 335) (by decide +kernel)) (by decide +kernel))⟩
set_option maxRecDepth 100000 in
theorem flX7_72 : vFL RX7 72 7 10 := fun C T N hc => by
  cases hc
  exact ⟨by decide, Or.inl (vTm (List.mem_of_getElem? (i := 336) (by decide +kernel)) (by decide +kernel))⟩
set_option maxRecDepth 100000 in
theorem fpX7_72 : vFP RX7 72 7 10 := fun C T N hc => by
  cases hc
  exact ⟨by decide, rfl, vTm (List.mem_of_getElem? (i := 336) (by decide +kernel)) (by decide +kernel)⟩
set_option maxRecDepth 100000 in
theorem flX7_76 : vFL RX7 76 7 11 := fun C T N hc => by
  cases hc
  exact ⟨by decide, Or.inl (vTm (List.mem_of_getElem? (i := 337) (by decide +kernel)) (by decide +kernel))⟩
set_option maxRecDepth 100000 in
theorem flX7_79 : vFL RX7 79 7 12 := fun C T N hc => by
  cases hc
  exact ⟨by decide, Or.inl (vTm (List.mem_of_getElem? (i := 338) (by decide +kernel)) (by decide +kernel))⟩
set_option maxRecDepth 100000 in
theorem fpX7_79 : vFP RX7 79 7 12 := fun C T N hc => by
  cases hc
  exact ⟨by decide, rfl, vTm (List.mem_of_getElem? (i := 338) (by decide +kernel)) (by decide +kernel)⟩
set_option maxRecDepth 100000 in
theorem flX7_83 : vFL RX7 83 7 13 := fun C T N hc => by
  cases hc
  exact ⟨by decide, Or.inl (vTm (List.mem_of_getElem? (i := 339) (by decide +kernel)) (by decide +kernel))⟩
set_option maxRecDepth 100000 in
theorem fpX7_83 : vFP RX7 83 7 13 := fun C T N hc => by
  cases hc
  exact ⟨by decide, rfl, vTm (List.mem_of_getElem? (i := 339) (by decide +kernel)) (by decide +kernel)⟩
set_option maxRecDepth 100000 in
theorem flX7_86 : vFL RX7 86 7 14 := fun C T N hc => by
  cases hc
  exact ⟨by decide, Or.inl (vTm (List.mem_of_getElem? (i := 340) (by decide +kernel)) (by decide +kernel))⟩
set_option maxRecDepth 100000 in
theorem fpX7_86 : vFP RX7 86 7 14 := fun C T N hc => by
  cases hc
  exact ⟨by decide, rfl, vTm (List.mem_of_getElem? (i := 340) (by decide +kernel)) (by decide +kernel)⟩
set_option maxRecDepth 100000 in
theorem lkX7_89 : Cond.methodLink RX7 89 yX7_isText ∈ vTbl := vTm (List.mem_of_getElem? (i := 376) (by decide +kernel)) (by decide +kernel)
set_option maxRecDepth 100000 in
theorem lkX7_93 : Cond.methodLink RX7 93 yX7_textOf ∈ vTbl := vTm (List.mem_of_getElem? (i := 379) (by decide +kernel)) (by decide +kernel)
set_option maxRecDepth 100000 in
theorem lkX7_97 : Cond.methodLink RX7 97 yX4_append ∈ vTbl := vTm (List.mem_of_getElem? (i := 383) (by decide +kernel)) (by decide +kernel)
set_option maxRecDepth 100000 in
theorem lkX7_100 : Cond.methodLink RX7 100 yX7_reread ∈ vTbl := vTm (List.mem_of_getElem? (i := 387) (by decide +kernel)) (by decide +kernel)
set_option maxRecDepth 100000 in
theorem lkX7_358 : Cond.methodLink RX7 358 yX5_readFloors ∈ vTbl := vTm (List.mem_of_getElem? (i := 391) (by decide +kernel)) (by decide +kernel)
set_option maxRecDepth 100000 in
theorem lkX5_52 : Cond.methodLink RX5 52 yX5_takeFloors ∈ vTbl := vTm (List.mem_of_getElem? (i := 395) (by decide +kernel)) (by decide +kernel)
set_option maxRecDepth 100000 in
theorem lkX5_64 : Cond.methodLink RX5 64 yX5_sortOf ∈ vTbl := vTm (List.mem_of_getElem? (i := 399) (by decide +kernel)) (by decide +kernel)
set_option maxRecDepth 100000 in
theorem lkX5_68 : Cond.methodLink RX5 68 yX5_isFigure ∈ vTbl := vTm (List.mem_of_getElem? (i := 402) (by decide +kernel)) (by decide +kernel)
set_option maxRecDepth 100000 in
theorem lkX5_72 : Cond.methodLink RX5 72 yX5_isLetter ∈ vTbl := vTm (List.mem_of_getElem? (i := 405) (by decide +kernel)) (by decide +kernel)
set_option maxRecDepth 100000 in
theorem lkX7_362 : Cond.methodLink RX7 362 yX5_readBaskets ∈ vTbl := vTm (List.mem_of_getElem? (i := 408) (by decide +kernel)) (by decide +kernel)
set_option maxRecDepth 100000 in
theorem lkX5_75 : Cond.methodLink RX5 75 yX5_takeBaskets ∈ vTbl := vTm (List.mem_of_getElem? (i := 412) (by decide +kernel)) (by decide +kernel)
set_option maxRecDepth 100000 in
theorem lkX5_78 : Cond.methodLink RX5 78 yX5_basketTakes ∈ vTbl := vTm (List.mem_of_getElem? (i := 416) (by decide +kernel)) (by decide +kernel)
set_option maxRecDepth 100000 in
theorem lkX5_82 : Cond.methodLink RX5 82 yX5_keepBasketByte ∈ vTbl := vTm (List.mem_of_getElem? (i := 420) (by decide +kernel)) (by decide +kernel)
set_option maxRecDepth 100000 in
theorem lkX7_113 : Cond.methodLink RX7 113 yX7_isFloor ∈ vTbl := vTm (List.mem_of_getElem? (i := 440) (by decide +kernel)) (by decide +kernel)
set_option maxRecDepth 100000 in
theorem lkX7_125 : Cond.methodLink RX7 125 yX7_isBasket ∈ vTbl := vTm (List.mem_of_getElem? (i := 448) (by decide +kernel)) (by decide +kernel)
set_option maxRecDepth 100000 in
theorem lkX7_137 : Cond.methodLink RX7 137 yX5_toldLetter ∈ vTbl := vTm (List.mem_of_getElem? (i := 452) (by decide +kernel)) (by decide +kernel)
set_option maxRecDepth 100000 in
theorem lkX7_147 : Cond.methodLink RX7 147 yX7_oneMore ∈ vTbl := vTm (List.mem_of_getElem? (i := 464) (by decide +kernel)) (by decide +kernel)
set_option maxRecDepth 100000 in
theorem lkX7_166 : Cond.methodLink RX7 166 yX7_isHour ∈ vTbl := vTm (List.mem_of_getElem? (i := 467) (by decide +kernel)) (by decide +kernel)
set_option maxRecDepth 100000 in
theorem lkX7_365 : Cond.methodLink RX7 365 yX1_add ∈ vTbl := vTm (List.mem_of_getElem? (i := 470) (by decide +kernel)) (by decide +kernel)
set_option maxRecDepth 100000 in
theorem lkX7_152 : Cond.methodLink RX7 152 yX7_isSheet ∈ vTbl := vTm (List.mem_of_getElem? (i := 486) (by decide +kernel)) (by decide +kernel)
set_option maxRecDepth 100000 in
theorem lkX7_155 : Cond.methodLink RX7 155 yX2_isLost ∈ vTbl := vTm (List.mem_of_getElem? (i := 489) (by decide +kernel)) (by decide +kernel)
set_option maxRecDepth 100000 in
theorem lkX7_158 : Cond.methodLink RX7 158 yX7_found ∈ vTbl := vTm (List.mem_of_getElem? (i := 493) (by decide +kernel)) (by decide +kernel)
set_option maxRecDepth 100000 in
theorem lkX7_163 : Cond.methodLink RX7 163 yX2_item ∈ vTbl := vTm (List.mem_of_getElem? (i := 497) (by decide +kernel)) (by decide +kernel)
set_option maxRecDepth 100000 in
theorem lkX7_169 : Cond.methodLink RX7 169 yX1_all ∈ vTbl := vTm (List.mem_of_getElem? (i := 505) (by decide +kernel)) (by decide +kernel)
set_option maxRecDepth 100000 in
theorem lkX1_19 : Cond.methodLink RX1 19 yX1_chosen ∈ vTbl := vTm (List.mem_of_getElem? (i := 509) (by decide +kernel)) (by decide +kernel)
set_option maxRecDepth 100000 in
theorem lkX7_173 : Cond.methodLink RX7 173 yX6_go ∈ vTbl := vTm (List.mem_of_getElem? (i := 513) (by decide +kernel)) (by decide +kernel)
set_option maxRecDepth 100000 in
theorem lkX6_69 : Cond.methodLink RX6 69 yX6_begin ∈ vTbl := vTm (List.mem_of_getElem? (i := 517) (by decide +kernel)) (by decide +kernel)
set_option maxRecDepth 100000 in
theorem lkX6_72 : Cond.methodLink RX6 72 yX6_arrive ∈ vTbl := vTm (List.mem_of_getElem? (i := 524) (by decide +kernel)) (by decide +kernel)
set_option maxRecDepth 100000 in
theorem lkX6_76 : Cond.methodLink RX6 76 yX6_serve ∈ vTbl := vTm (List.mem_of_getElem? (i := 528) (by decide +kernel)) (by decide +kernel)
set_option maxRecDepth 100000 in
theorem lkX6_109 : Cond.methodLink RX6 109 yX6_wantsBite ∈ vTbl := vTm (List.mem_of_getElem? (i := 532) (by decide +kernel)) (by decide +kernel)
set_option maxRecDepth 100000 in
theorem lkX6_113 : Cond.methodLink RX6 113 yX6_bite ∈ vTbl := vTm (List.mem_of_getElem? (i := 536) (by decide +kernel)) (by decide +kernel)
set_option maxRecDepth 100000 in
theorem lkX6_79 : Cond.methodLink RX6 79 yX6_climb ∈ vTbl := vTm (List.mem_of_getElem? (i := 540) (by decide +kernel)) (by decide +kernel)
set_option maxRecDepth 100000 in
theorem lkX6_125 : Cond.methodLink RX6 125 yX6_leave ∈ vTbl := vTm (List.mem_of_getElem? (i := 544) (by decide +kernel)) (by decide +kernel)
set_option maxRecDepth 100000 in
theorem lkX7_181 : Cond.methodLink RX7 181 yX6_letters ∈ vTbl := vTm (List.mem_of_getElem? (i := 548) (by decide +kernel)) (by decide +kernel)
set_option maxRecDepth 100000 in
theorem lkX7_186 : Cond.methodLink RX7 186 yX7_goAsTold ∈ vTbl := vTm (List.mem_of_getElem? (i := 556) (by decide +kernel)) (by decide +kernel)
set_option maxRecDepth 100000 in
theorem lkX7_189 : Cond.methodLink RX7 189 yX6_letter ∈ vTbl := vTm (List.mem_of_getElem? (i := 560) (by decide +kernel)) (by decide +kernel)
set_option maxRecDepth 100000 in
theorem lkX6_132 : Cond.methodLink RX6 132 yX6_letters ∈ vTbl := vTm (List.mem_of_getElem? (i := 564) (by decide +kernel)) (by decide +kernel)
set_option maxRecDepth 100000 in
theorem lkX7_201 : Cond.methodLink RX7 201 yX5_loadInAll ∈ vTbl := vTm (List.mem_of_getElem? (i := 577) (by decide +kernel)) (by decide +kernel)
set_option maxRecDepth 100000 in
theorem lkX7_205 : Cond.methodLink RX7 205 yX6_loadUp ∈ vTbl := vTm (List.mem_of_getElem? (i := 581) (by decide +kernel)) (by decide +kernel)
set_option maxRecDepth 100000 in
theorem lkX7_214 : Cond.methodLink RX7 214 yX0_clear ∈ vTbl := vTm (List.mem_of_getElem? (i := 593) (by decide +kernel)) (by decide +kernel)
set_option maxRecDepth 100000 in
theorem lkX7_220 : Cond.methodLink RX7 220 yX0_offer ∈ vTbl := vTm (List.mem_of_getElem? (i := 597) (by decide +kernel)) (by decide +kernel)
set_option maxRecDepth 100000 in
theorem lkX7_227 : Cond.methodLink RX7 227 yX7_findHour ∈ vTbl := vTm (List.mem_of_getElem? (i := 605) (by decide +kernel)) (by decide +kernel)
set_option maxRecDepth 100000 in
theorem lkX7_233 : Cond.methodLink RX7 233 yX7_isLoad ∈ vTbl := vTm (List.mem_of_getElem? (i := 613) (by decide +kernel)) (by decide +kernel)
set_option maxRecDepth 100000 in
theorem lkX7_236 : Cond.methodLink RX7 236 yX6_bringsUp ∈ vTbl := vTm (List.mem_of_getElem? (i := 616) (by decide +kernel)) (by decide +kernel)
set_option maxRecDepth 100000 in
theorem lkX7_240 : Cond.methodLink RX7 240 yX7_findFed ∈ vTbl := vTm (List.mem_of_getElem? (i := 624) (by decide +kernel)) (by decide +kernel)
set_option maxRecDepth 100000 in
theorem lkX7_367 : Cond.methodLink RX7 367 yX7_staysWhole ∈ vTbl := vTm (List.mem_of_getElem? (i := 628) (by decide +kernel)) (by decide +kernel)
set_option maxRecDepth 100000 in
theorem lkX7_373 : Cond.methodLink RX7 373 yX5_changeBite ∈ vTbl := vTm (List.mem_of_getElem? (i := 632) (by decide +kernel)) (by decide +kernel)
set_option maxRecDepth 100000 in
theorem lkX7_376 : Cond.methodLink RX7 376 yX6_noteAsTold ∈ vTbl := vTm (List.mem_of_getElem? (i := 636) (by decide +kernel)) (by decide +kernel)
set_option maxRecDepth 100000 in
theorem lkX6_135 : Cond.methodLink RX6 135 yX6_letter ∈ vTbl := vTm (List.mem_of_getElem? (i := 640) (by decide +kernel)) (by decide +kernel)
set_option maxRecDepth 100000 in
theorem lkX6_139 : Cond.methodLink RX6 139 yX5_toldLetter ∈ vTbl := vTm (List.mem_of_getElem? (i := 641) (by decide +kernel)) (by decide +kernel)
set_option maxRecDepth 100000 in
theorem lkX7_370 : Cond.methodLink RX7 370 yX7_keepFed ∈ vTbl := vTm (List.mem_of_getElem? (i := 642) (by decide +kernel)) (by decide +kernel)
set_option maxRecDepth 100000 in
theorem lkX7_243 : Cond.methodLink RX7 243 yX7_fedAt ∈ vTbl := vTm (List.mem_of_getElem? (i := 646) (by decide +kernel)) (by decide +kernel)
set_option maxRecDepth 100000 in
theorem lkX7_246 : Cond.methodLink RX7 246 yX7_findStill ∈ vTbl := vTm (List.mem_of_getElem? (i := 654) (by decide +kernel)) (by decide +kernel)
set_option maxRecDepth 100000 in
theorem lkX7_254 : Cond.methodLink RX7 254 yX1_allBut ∈ vTbl := vTm (List.mem_of_getElem? (i := 658) (by decide +kernel)) (by decide +kernel)
set_option maxRecDepth 100000 in
theorem lkX7_249 : Cond.methodLink RX7 249 yX3_add ∈ vTbl := vTm (List.mem_of_getElem? (i := 666) (by decide +kernel)) (by decide +kernel)
set_option maxRecDepth 100000 in
theorem lkX7_258 : Cond.methodLink RX7 258 yX3_agree ∈ vTbl := vTm (List.mem_of_getElem? (i := 678) (by decide +kernel)) (by decide +kernel)
set_option maxRecDepth 100000 in
theorem lkX3_36 : Cond.methodLink RX3 36 yX6_letter ∈ vTbl := vTm (List.mem_of_getElem? (i := 682) (by decide +kernel)) (by decide +kernel)
set_option maxRecDepth 100000 in
theorem lkX7_262 : Cond.methodLink RX7 262 yX7_fittingBites ∈ vTbl := vTm (List.mem_of_getElem? (i := 687) (by decide +kernel)) (by decide +kernel)
set_option maxRecDepth 100000 in
theorem lkX7_265 : Cond.methodLink RX7 265 yX7_fittingWords ∈ vTbl := vTm (List.mem_of_getElem? (i := 692) (by decide +kernel)) (by decide +kernel)
set_option maxRecDepth 100000 in
theorem lkX7_271 : Cond.methodLink RX7 271 yX7_greatestHeap ∈ vTbl := vTm (List.mem_of_getElem? (i := 700) (by decide +kernel)) (by decide +kernel)
set_option maxRecDepth 100000 in
theorem ctX7_274 : Cond.constantLong RX7 274 (-9223372036854775806) ∈ vTbl := vTm (List.mem_of_getElem? (i := 711) (by decide +kernel)) (by decide +kernel)
set_option maxRecDepth 100000 in
theorem lkX7_276 : Cond.methodLink RX7 276 yX7_findChance ∈ vTbl := vTm (List.mem_of_getElem? (i := 712) (by decide +kernel)) (by decide +kernel)
set_option maxRecDepth 100000 in
theorem lkX7_382 : Cond.methodLink RX7 382 yX1_chosen ∈ vTbl := vTm (List.mem_of_getElem? (i := 716) (by decide +kernel)) (by decide +kernel)
set_option maxRecDepth 100000 in
theorem ctX7_385 : Cond.constantLong RX7 385 (2) ∈ vTbl := vTm (List.mem_of_getElem? (i := 717) (by decide +kernel)) (by decide +kernel)
set_option maxRecDepth 100000 in
theorem lkX7_280 : Cond.methodLink RX7 280 yX7_lots ∈ vTbl := vTm (List.mem_of_getElem? (i := 722) (by decide +kernel)) (by decide +kernel)
set_option maxRecDepth 100000 in
theorem ctX7_387 : Cond.constant RX7 387 (1103515245) ∈ vTbl := vTm (List.mem_of_getElem? (i := 725) (by decide +kernel)) (by decide +kernel)
set_option maxRecDepth 100000 in
theorem lkX7_287 : Cond.methodLink RX7 287 yX7_isForm ∈ vTbl := vTm (List.mem_of_getElem? (i := 730) (by decide +kernel)) (by decide +kernel)
set_option maxRecDepth 100000 in
theorem lkX7_290 : Cond.methodLink RX7 290 yX2_make ∈ vTbl := vTm (List.mem_of_getElem? (i := 733) (by decide +kernel)) (by decide +kernel)
set_option maxRecDepth 100000 in
theorem lkX7_293 : Cond.methodLink RX7 293 yX2_wrongWith ∈ vTbl := vTm (List.mem_of_getElem? (i := 745) (by decide +kernel)) (by decide +kernel)
set_option maxRecDepth 100000 in
theorem lkX2_21 : Cond.methodLink RX2 21 yX2_isLost ∈ vTbl := vTm (List.mem_of_getElem? (i := 749) (by decide +kernel)) (by decide +kernel)
set_option maxRecDepth 100000 in
theorem lkX2_25 : Cond.methodLink RX2 25 yX2_hasItems ∈ vTbl := vTm (List.mem_of_getElem? (i := 750) (by decide +kernel)) (by decide +kernel)
set_option maxRecDepth 100000 in
theorem lkX7_297 : Cond.methodLink RX7 297 yX2_store ∈ vTbl := vTm (List.mem_of_getElem? (i := 754) (by decide +kernel)) (by decide +kernel)
set_option maxRecDepth 100000 in
theorem ctX7_300 : Cond.constant RX7 300 (-2147483648) ∈ vTbl := vTm (List.mem_of_getElem? (i := 762) (by decide +kernel)) (by decide +kernel)
set_option maxRecDepth 100000 in
theorem lkX7_304 : Cond.methodLink RX7 304 yX2_hasItems ∈ vTbl := vTm (List.mem_of_getElem? (i := 767) (by decide +kernel)) (by decide +kernel)
set_option maxRecDepth 100000 in
theorem ctX7_321 : Cond.constantLong RX7 321 (17) ∈ vTbl := vTm (List.mem_of_getElem? (i := 783) (by decide +kernel)) (by decide +kernel)
set_option maxRecDepth 100000 in
theorem lkX7_323 : Cond.methodLink RX7 323 yX7_count ∈ vTbl := vTm (List.mem_of_getElem? (i := 784) (by decide +kernel)) (by decide +kernel)
set_option maxRecDepth 100000 in
theorem lkX7_326 : Cond.methodLink RX7 326 yX7_mixed ∈ vTbl := vTm (List.mem_of_getElem? (i := 785) (by decide +kernel)) (by decide +kernel)
set_option maxRecDepth 100000 in
theorem ctX7_388 : Cond.constantLong RX7 388 (31) ∈ vTbl := vTm (List.mem_of_getElem? (i := 788) (by decide +kernel)) (by decide +kernel)
set_option maxRecDepth 100000 in
theorem lkX7_330 : Cond.methodLink RX7 330 yX7_fault ∈ vTbl := vTm (List.mem_of_getElem? (i := 789) (by decide +kernel)) (by decide +kernel)
set_option maxRecDepth 100000 in
theorem lkX7_333 : Cond.methodLink RX7 333 yX7_mixedFloor ∈ vTbl := vTm (List.mem_of_getElem? (i := 790) (by decide +kernel)) (by decide +kernel)
set_option maxRecDepth 100000 in
theorem lkX7_390 : Cond.methodLink RX7 390 yX7_floor ∈ vTbl := vTm (List.mem_of_getElem? (i := 794) (by decide +kernel)) (by decide +kernel)
set_option maxRecDepth 100000 in
theorem lkX7_392 : Cond.methodLink RX7 392 yX7_bites ∈ vTbl := vTm (List.mem_of_getElem? (i := 795) (by decide +kernel)) (by decide +kernel)
set_option maxRecDepth 100000 in
theorem lkX7_394 : Cond.methodLink RX7 394 yX7_was ∈ vTbl := vTm (List.mem_of_getElem? (i := 796) (by decide +kernel)) (by decide +kernel)
set_option maxRecDepth 100000 in
theorem lkX7_397 : Cond.methodLink RX7 397 yX7_ask ∈ vTbl := vTm (List.mem_of_getElem? (i := 797) (by decide +kernel)) (by decide +kernel)
set_option maxRecDepth 100000 in
theorem lkX7_337 : Cond.methodLink RX7 337 yX7_mixedWay ∈ vTbl := vTm (List.mem_of_getElem? (i := 798) (by decide +kernel)) (by decide +kernel)
set_option maxRecDepth 100000 in
theorem lkX7_400 : Cond.methodLink RX7 400 yX7_basket ∈ vTbl := vTm (List.mem_of_getElem? (i := 802) (by decide +kernel)) (by decide +kernel)
set_option maxRecDepth 100000 in
theorem lkX7_403 : Cond.methodLink RX7 403 yX7_mixedHour ∈ vTbl := vTm (List.mem_of_getElem? (i := 803) (by decide +kernel)) (by decide +kernel)
set_option maxRecDepth 100000 in
theorem lkX7_413 : Cond.methodLink RX7 413 yX7_at ∈ vTbl := vTm (List.mem_of_getElem? (i := 807) (by decide +kernel)) (by decide +kernel)
set_option maxRecDepth 100000 in
theorem lkX7_407 : Cond.methodLink RX7 407 yX7_comes ∈ vTbl := vTm (List.mem_of_getElem? (i := 808) (by decide +kernel)) (by decide +kernel)
set_option maxRecDepth 100000 in
theorem lkX7_410 : Cond.methodLink RX7 410 yX7_note ∈ vTbl := vTm (List.mem_of_getElem? (i := 809) (by decide +kernel)) (by decide +kernel)
set_option maxRecDepth 100000 in
theorem lkX7_340 : Cond.methodLink RX7 340 yX7_mixedPlans ∈ vTbl := vTm (List.mem_of_getElem? (i := 810) (by decide +kernel)) (by decide +kernel)
set_option maxRecDepth 100000 in
theorem lkX7_416 : Cond.methodLink RX7 416 yX7_loaf ∈ vTbl := vTm (List.mem_of_getElem? (i := 814) (by decide +kernel)) (by decide +kernel)
set_option maxRecDepth 100000 in
theorem lkX7_343 : Cond.methodLink RX7 343 yX7_famine ∈ vTbl := vTm (List.mem_of_getElem? (i := 815) (by decide +kernel)) (by decide +kernel)
set_option maxRecDepth 100000 in
theorem lkX7_346 : Cond.methodLink RX7 346 yX7_first ∈ vTbl := vTm (List.mem_of_getElem? (i := 816) (by decide +kernel)) (by decide +kernel)
set_option maxRecDepth 100000 in
theorem lkX7_349 : Cond.methodLink RX7 349 yX7_greedy ∈ vTbl := vTm (List.mem_of_getElem? (i := 817) (by decide +kernel)) (by decide +kernel)
set_option maxRecDepth 100000 in
theorem lkX7_352 : Cond.methodLink RX7 352 yX7_never ∈ vTbl := vTm (List.mem_of_getElem? (i := 818) (by decide +kernel)) (by decide +kernel)
set_option maxRecDepth 100000 in
theorem lkX7_355 : Cond.methodLink RX7 355 yX7_week ∈ vTbl := vTm (List.mem_of_getElem? (i := 819) (by decide +kernel)) (by decide +kernel)
set_option maxRecDepth 100000 in
theorem flX8_7 : vFL RX8 7 8 0 := fun C T N hc => by
  cases hc
  exact ⟨by decide, Or.inl (vTm (List.mem_of_getElem? (i := 826) (by decide +kernel)) (by decide +kernel))⟩
set_option maxRecDepth 100000 in
theorem flX8_13 : vFL RX8 13 8 1 := fun C T N hc => by
  cases hc
  exact ⟨by decide, Or.inl (vTm (List.mem_of_getElem? (i := 827) (by decide +kernel)) (by decide +kernel))⟩
set_option maxRecDepth 100000 in
theorem flX8_144 : vFL RX8 144 8 2 := fun C T N hc => by
  cases hc
  exact ⟨by decide, Or.inl (vTm (List.mem_of_getElem? (i := 828) (by decide +kernel)) (by decide +kernel))⟩
set_option maxRecDepth 100000 in
theorem fpX8_144 : vFP RX8 144 8 2 := fun C T N hc => by
  cases hc
  exact ⟨by decide, rfl, vTm (List.mem_of_getElem? (i := 828) (by decide +kernel)) (by decide +kernel)⟩
set_option maxRecDepth 100000 in
theorem flX8_16 : vFL RX8 16 8 3 := fun C T N hc => by
  cases hc
  exact ⟨by decide, Or.inl (vTm (List.mem_of_getElem? (i := 829) (by decide +kernel)) (by decide +kernel))⟩
set_option maxRecDepth 100000 in
theorem flX8_19 : vFL RX8 19 8 4 := fun C T N hc => by
  cases hc
  exact ⟨by decide, Or.inl (vTm (List.mem_of_getElem? (i := 830) (by decide +kernel)) (by decide +kernel))⟩
set_option maxRecDepth 100000 in
theorem flX8_22 : vFL RX8 22 8 5 := fun C T N hc => by
  cases hc
  exact ⟨by decide, Or.inl (vTm (List.mem_of_getElem? (i := 831) (by decide +kernel)) (by decide +kernel))⟩
set_option maxRecDepth 100000 in
theorem flX8_147 : vFL RX8 147 8 6 := fun C T N hc => by
  cases hc
  exact ⟨by decide, Or.inl (vTm (List.mem_of_getElem? (i := 832) (by decide +kernel)) (by decide +kernel))⟩
set_option maxRecDepth 100000 in
theorem fpX8_147 : vFP RX8 147 8 6 := fun C T N hc => by
  cases hc
  exact ⟨by decide, rfl, vTm (List.mem_of_getElem? (i := 832) (by decide +kernel)) (by decide +kernel)⟩
set_option maxRecDepth 100000 in
theorem flX8_25 : vFL RX8 25 8 7 := fun C T N hc => by
  cases hc
  exact ⟨by decide, Or.inl (vTm (List.mem_of_getElem? (i := 833) (by decide +kernel)) (by decide +kernel))⟩
set_option maxRecDepth 100000 in
theorem flX8_28 : vFL RX8 28 8 8 := fun C T N hc => by
  cases hc
  exact ⟨by decide, Or.inl (vTm (List.mem_of_getElem? (i := 834) (by decide +kernel)) (by decide +kernel))⟩
set_option maxRecDepth 100000 in
theorem flX8_31 : vFL RX8 31 8 9 := fun C T N hc => by
  cases hc
  exact ⟨by decide, Or.inl (vTm (List.mem_of_getElem? (i := 835) (by decide +kernel)) (by decide +kernel))⟩
set_option maxRecDepth 100000 in
theorem flX8_34 : vFL RX8 34 8 10 := fun C T N hc => by
  cases hc
  exact ⟨by decide, Or.inl (vTm (List.mem_of_getElem? (i := 836) (by decide +kernel)) (by decide +kernel))⟩
set_option maxRecDepth 100000 in
theorem flX8_116 : vFL RX8 116 8 11 := fun C T N hc => by
  cases hc
  exact ⟨by decide, Or.inl (vTm (List.mem_of_getElem? (i := 837) (by decide +kernel)) (by decide +kernel))⟩
set_option maxRecDepth 100000 in
theorem fpX8_116 : vFP RX8 116 8 11 := fun C T N hc => by
  cases hc
  exact ⟨by decide, rfl, vTm (List.mem_of_getElem? (i := 837) (by decide +kernel)) (by decide +kernel)⟩
set_option maxRecDepth 100000 in
theorem flX8_120 : vFL RX8 120 8 12 := fun C T N hc => by
  cases hc
  exact ⟨by decide, Or.inl (vTm (List.mem_of_getElem? (i := 838) (by decide +kernel)) (by decide +kernel))⟩
set_option maxRecDepth 100000 in
theorem fpX8_120 : vFP RX8 120 8 12 := fun C T N hc => by
  cases hc
  exact ⟨by decide, rfl, vTm (List.mem_of_getElem? (i := 838) (by decide +kernel)) (by decide +kernel)⟩
set_option maxRecDepth 100000 in
theorem flX8_181 : vFL RX8 181 8 13 := fun C T N hc => by
  cases hc
  exact ⟨by decide, Or.inl (vTm (List.mem_of_getElem? (i := 839) (by decide +kernel)) (by decide +kernel))⟩
set_option maxRecDepth 100000 in
theorem fpX8_181 : vFP RX8 181 8 13 := fun C T N hc => by
  cases hc
  exact ⟨by decide, rfl, vTm (List.mem_of_getElem? (i := 839) (by decide +kernel)) (by decide +kernel)⟩
set_option maxRecDepth 100000 in
theorem flX8_37 : vFL RX8 37 8 14 := fun C T N hc => by
  cases hc
  exact ⟨by decide, Or.inl (vTm (List.mem_of_getElem? (i := 840) (by decide +kernel)) (by decide +kernel))⟩
set_option maxRecDepth 100000 in
theorem flX8_184 : vFL RX8 184 8 15 := fun C T N hc => by
  cases hc
  exact ⟨by decide, Or.inl (vTm (List.mem_of_getElem? (i := 841) (by decide +kernel)) (by decide +kernel))⟩
set_option maxRecDepth 100000 in
theorem fpX8_184 : vFP RX8 184 8 15 := fun C T N hc => by
  cases hc
  exact ⟨by decide, rfl, vTm (List.mem_of_getElem? (i := 841) (by decide +kernel)) (by decide +kernel)⟩
set_option maxRecDepth 100000 in
theorem flX8_40 : vFL RX8 40 8 16 := fun C T N hc => by
  cases hc
  exact ⟨by decide, Or.inl (vTm (List.mem_of_getElem? (i := 842) (by decide +kernel)) (by decide +kernel))⟩
set_option maxRecDepth 100000 in
theorem flX8_208 : vFL RX8 208 8 17 := fun C T N hc => by
  cases hc
  exact ⟨by decide, Or.inl (vTm (List.mem_of_getElem? (i := 843) (by decide +kernel)) (by decide +kernel))⟩
set_option maxRecDepth 100000 in
theorem fpX8_208 : vFP RX8 208 8 17 := fun C T N hc => by
  cases hc
  exact ⟨by decide, rfl, vTm (List.mem_of_getElem? (i := 843) (by decide +kernel)) (by decide +kernel)⟩
set_option maxRecDepth 100000 in
theorem flX8_212 : vFL RX8 212 8 18 := fun C T N hc => by
  cases hc
  exact ⟨by decide, Or.inl (vTm (List.mem_of_getElem? (i := 844) (by decide +kernel)) (by decide +kernel))⟩
set_option maxRecDepth 100000 in
theorem fpX8_212 : vFP RX8 212 8 18 := fun C T N hc => by
  cases hc
  exact ⟨by decide, rfl, vTm (List.mem_of_getElem? (i := 844) (by decide +kernel)) (by decide +kernel)⟩
set_option maxRecDepth 100000 in
theorem flX8_215 : vFL RX8 215 8 19 := fun C T N hc => by
  cases hc
  exact ⟨by decide, Or.inl (vTm (List.mem_of_getElem? (i := 845) (by decide +kernel)) (by decide +kernel))⟩
set_option maxRecDepth 100000 in
theorem fpX8_215 : vFP RX8 215 8 19 := fun C T N hc => by
  cases hc
  exact ⟨by decide, rfl, vTm (List.mem_of_getElem? (i := 845) (by decide +kernel)) (by decide +kernel)⟩
set_option maxRecDepth 100000 in
theorem flX8_43 : vFL RX8 43 8 20 := fun C T N hc => by
  cases hc
  exact ⟨by decide, Or.inl (vTm (List.mem_of_getElem? (i := 846) (by decide +kernel)) (by decide +kernel))⟩
set_option maxRecDepth 100000 in
theorem flX8_46 : vFL RX8 46 8 21 := fun C T N hc => by
  cases hc
  exact ⟨by decide, Or.inl (vTm (List.mem_of_getElem? (i := 847) (by decide +kernel)) (by decide +kernel))⟩
set_option maxRecDepth 100000 in
theorem flX8_49 : vFL RX8 49 8 22 := fun C T N hc => by
  cases hc
  exact ⟨by decide, Or.inl (vTm (List.mem_of_getElem? (i := 848) (by decide +kernel)) (by decide +kernel))⟩
set_option maxRecDepth 100000 in
theorem flX8_52 : vFL RX8 52 8 23 := fun C T N hc => by
  cases hc
  exact ⟨by decide, Or.inl (vTm (List.mem_of_getElem? (i := 849) (by decide +kernel)) (by decide +kernel))⟩
set_option maxRecDepth 100000 in
theorem flX8_55 : vFL RX8 55 8 24 := fun C T N hc => by
  cases hc
  exact ⟨by decide, Or.inl (vTm (List.mem_of_getElem? (i := 850) (by decide +kernel)) (by decide +kernel))⟩
set_option maxRecDepth 100000 in
theorem flX8_59 : vFL RX8 59 8 25 := fun C T N hc => by
  cases hc
  exact ⟨by decide, Or.inl (vTm (List.mem_of_getElem? (i := 851) (by decide +kernel)) (by decide +kernel))⟩
set_option maxRecDepth 100000 in
theorem flX8_62 : vFL RX8 62 8 26 := fun C T N hc => by
  cases hc
  exact ⟨by decide, Or.inl (vTm (List.mem_of_getElem? (i := 852) (by decide +kernel)) (by decide +kernel))⟩
set_option maxRecDepth 100000 in
theorem flX8_65 : vFL RX8 65 8 27 := fun C T N hc => by
  cases hc
  exact ⟨by decide, Or.inl (vTm (List.mem_of_getElem? (i := 853) (by decide +kernel)) (by decide +kernel))⟩
set_option maxRecDepth 100000 in
theorem flX8_68 : vFL RX8 68 8 28 := fun C T N hc => by
  cases hc
  exact ⟨by decide, Or.inl (vTm (List.mem_of_getElem? (i := 854) (by decide +kernel)) (by decide +kernel))⟩
set_option maxRecDepth 100000 in
theorem flX8_71 : vFL RX8 71 8 29 := fun C T N hc => by
  cases hc
  exact ⟨by decide, Or.inl (vTm (List.mem_of_getElem? (i := 855) (by decide +kernel)) (by decide +kernel))⟩
set_option maxRecDepth 100000 in
theorem flX8_218 : vFL RX8 218 8 30 := fun C T N hc => by
  cases hc
  exact ⟨by decide, Or.inl (vTm (List.mem_of_getElem? (i := 856) (by decide +kernel)) (by decide +kernel))⟩
set_option maxRecDepth 100000 in
theorem fpX8_218 : vFP RX8 218 8 30 := fun C T N hc => by
  cases hc
  exact ⟨by decide, rfl, vTm (List.mem_of_getElem? (i := 856) (by decide +kernel)) (by decide +kernel)⟩
set_option maxRecDepth 100000 in
theorem flX8_221 : vFL RX8 221 8 31 := fun C T N hc => by
  cases hc
  exact ⟨by decide, Or.inl (vTm (List.mem_of_getElem? (i := 857) (by decide +kernel)) (by decide +kernel))⟩
set_option maxRecDepth 100000 in
theorem fpX8_221 : vFP RX8 221 8 31 := fun C T N hc => by
  cases hc
  exact ⟨by decide, rfl, vTm (List.mem_of_getElem? (i := 857) (by decide +kernel)) (by decide +kernel)⟩
set_option maxRecDepth 100000 in
theorem flX8_74 : vFL RX8 74 8 32 := fun C T N hc => by
  cases hc
  exact ⟨by decide, Or.inl (vTm (List.mem_of_getElem? (i := 858) (by decide +kernel)) (by decide +kernel))⟩
set_option maxRecDepth 100000 in
theorem flX8_77 : vFL RX8 77 8 33 := fun C T N hc => by
  cases hc
  exact ⟨by decide, Or.inl (vTm (List.mem_of_getElem? (i := 859) (by decide +kernel)) (by decide +kernel))⟩
set_option maxRecDepth 100000 in
theorem flX8_80 : vFL RX8 80 8 34 := fun C T N hc => by
  cases hc
  exact ⟨by decide, Or.inl (vTm (List.mem_of_getElem? (i := 860) (by decide +kernel)) (by decide +kernel))⟩
set_option maxRecDepth 100000 in
theorem flX8_83 : vFL RX8 83 8 35 := fun C T N hc => by
  cases hc
  exact ⟨by decide, Or.inl (vTm (List.mem_of_getElem? (i := 861) (by decide +kernel)) (by decide +kernel))⟩
set_option maxRecDepth 100000 in
theorem flX8_86 : vFL RX8 86 8 36 := fun C T N hc => by
  cases hc
  exact ⟨by decide, Or.inl (vTm (List.mem_of_getElem? (i := 862) (by decide +kernel)) (by decide +kernel))⟩
set_option maxRecDepth 100000 in
theorem flX8_295 : vFL RX8 295 8 37 := fun C T N hc => by
  cases hc
  exact ⟨by decide, Or.inl (vTm (List.mem_of_getElem? (i := 863) (by decide +kernel)) (by decide +kernel))⟩
set_option maxRecDepth 100000 in
theorem fpX8_295 : vFP RX8 295 8 37 := fun C T N hc => by
  cases hc
  exact ⟨by decide, rfl, vTm (List.mem_of_getElem? (i := 863) (by decide +kernel)) (by decide +kernel)⟩
set_option maxRecDepth 100000 in
theorem flX8_89 : vFL RX8 89 8 38 := fun C T N hc => by
  cases hc
  exact ⟨by decide, Or.inl (vTm (List.mem_of_getElem? (i := 864) (by decide +kernel)) (by decide +kernel))⟩
set_option maxRecDepth 100000 in
theorem flX8_92 : vFL RX8 92 8 39 := fun C T N hc => by
  cases hc
  exact ⟨by decide, Or.inl (vTm (List.mem_of_getElem? (i := 865) (by decide +kernel)) (by decide +kernel))⟩
set_option maxRecDepth 100000 in
theorem flX8_95 : vFL RX8 95 8 40 := fun C T N hc => by
  cases hc
  exact ⟨by decide, Or.inl (vTm (List.mem_of_getElem? (i := 866) (by decide +kernel)) (by decide +kernel))⟩
set_option maxRecDepth 100000 in
theorem flX8_98 : vFL RX8 98 8 41 := fun C T N hc => by
  cases hc
  exact ⟨by decide, Or.inl (vTm (List.mem_of_getElem? (i := 867) (by decide +kernel)) (by decide +kernel))⟩
set_option maxRecDepth 100000 in
theorem flX8_101 : vFL RX8 101 8 42 := fun C T N hc => by
  cases hc
  exact ⟨by decide, Or.inl (vTm (List.mem_of_getElem? (i := 868) (by decide +kernel)) (by decide +kernel))⟩
set_option maxRecDepth 100000 in
theorem flX8_104 : vFL RX8 104 8 43 := fun C T N hc => by
  cases hc
  exact ⟨by decide, Or.inl (vTm (List.mem_of_getElem? (i := 869) (by decide +kernel)) (by decide +kernel))⟩
set_option maxRecDepth 100000 in
theorem flX8_107 : vFL RX8 107 8 44 := fun C T N hc => by
  cases hc
  exact ⟨by decide, Or.inl (vTm (List.mem_of_getElem? (i := 870) (by decide +kernel)) (by decide +kernel))⟩
set_option maxRecDepth 100000 in
theorem flX8_110 : vFL RX8 110 8 45 := fun C T N hc => by
  cases hc
  exact ⟨by decide, Or.inl (vTm (List.mem_of_getElem? (i := 871) (by decide +kernel)) (by decide +kernel))⟩
set_option maxRecDepth 100000 in
theorem flX8_113 : vFL RX8 113 8 46 := fun C T N hc => by
  cases hc
  exact ⟨by decide, Or.inl (vTm (List.mem_of_getElem? (i := 872) (by decide +kernel)) (by decide +kernel))⟩
set_option maxRecDepth 100000 in
theorem flX8_329 : vFL RX8 329 8 47 := fun C T N hc => by
  cases hc
  exact ⟨by decide, Or.inl (vTm (List.mem_of_getElem? (i := 873) (by decide +kernel)) (by decide +kernel))⟩
set_option maxRecDepth 100000 in
theorem fpX8_329 : vFP RX8 329 8 47 := fun C T N hc => by
  cases hc
  exact ⟨by decide, rfl, vTm (List.mem_of_getElem? (i := 873) (by decide +kernel)) (by decide +kernel)⟩
set_option maxRecDepth 100000 in
theorem lkX8_129 : Cond.methodLink RX8 129 yX8_isText ∈ vTbl := vTm (List.mem_of_getElem? (i := 976) (by decide +kernel)) (by decide +kernel)
set_option maxRecDepth 100000 in
theorem lkX8_125 : Cond.methodLink RX8 125 yX8_in ∈ vTbl := vTm (List.mem_of_getElem? (i := 979) (by decide +kernel)) (by decide +kernel)
set_option maxRecDepth 100000 in
theorem lkX8_160 : Cond.methodLink RX8 160 yX8_faultOf ∈ vTbl := vTm (List.mem_of_getElem? (i := 994) (by decide +kernel)) (by decide +kernel)
set_option maxRecDepth 100000 in
theorem lkX8_156 : Cond.methodLink RX8 156 yX8_readsParts ∈ vTbl := vTm (List.mem_of_getElem? (i := 998) (by decide +kernel)) (by decide +kernel)
set_option maxRecDepth 100000 in
theorem lkX8_150 : Cond.methodLink RX8 150 yX8_readsFloor ∈ vTbl := vTm (List.mem_of_getElem? (i := 1002) (by decide +kernel)) (by decide +kernel)
set_option maxRecDepth 100000 in
theorem lkX8_133 : Cond.methodLink RX8 133 yX8_byteAt ∈ vTbl := vTm (List.mem_of_getElem? (i := 1006) (by decide +kernel)) (by decide +kernel)
set_option maxRecDepth 100000 in
theorem lkX8_137 : Cond.methodLink RX8 137 yX8_isFigure ∈ vTbl := vTm (List.mem_of_getElem? (i := 1010) (by decide +kernel)) (by decide +kernel)
set_option maxRecDepth 100000 in
theorem lkX8_140 : Cond.methodLink RX8 140 yX8_isLetter ∈ vTbl := vTm (List.mem_of_getElem? (i := 1014) (by decide +kernel)) (by decide +kernel)
set_option maxRecDepth 100000 in
theorem lkX8_153 : Cond.methodLink RX8 153 yX8_readsBasket ∈ vTbl := vTm (List.mem_of_getElem? (i := 1018) (by decide +kernel)) (by decide +kernel)
set_option maxRecDepth 100000 in
theorem lkX8_166 : Cond.methodLink RX8 166 yX8_isFloor ∈ vTbl := vTm (List.mem_of_getElem? (i := 1026) (by decide +kernel)) (by decide +kernel)
set_option maxRecDepth 100000 in
theorem lkX8_163 : Cond.methodLink RX8 163 yX8_reads ∈ vTbl := vTm (List.mem_of_getElem? (i := 1030) (by decide +kernel)) (by decide +kernel)
set_option maxRecDepth 100000 in
theorem lkX8_169 : Cond.methodLink RX8 169 yX8_floorOf ∈ vTbl := vTm (List.mem_of_getElem? (i := 1034) (by decide +kernel)) (by decide +kernel)
set_option maxRecDepth 100000 in
theorem lkX8_172 : Cond.methodLink RX8 172 yX8_isBasket ∈ vTbl := vTm (List.mem_of_getElem? (i := 1042) (by decide +kernel)) (by decide +kernel)
set_option maxRecDepth 100000 in
theorem lkX8_175 : Cond.methodLink RX8 175 yX8_basketOf ∈ vTbl := vTm (List.mem_of_getElem? (i := 1046) (by decide +kernel)) (by decide +kernel)
set_option maxRecDepth 100000 in
theorem lkX8_178 : Cond.methodLink RX8 178 yX8_isHour ∈ vTbl := vTm (List.mem_of_getElem? (i := 1058) (by decide +kernel)) (by decide +kernel)
set_option maxRecDepth 100000 in
theorem lkX8_187 : Cond.methodLink RX8 187 yX8_isSheet ∈ vTbl := vTm (List.mem_of_getElem? (i := 1073) (by decide +kernel)) (by decide +kernel)
set_option maxRecDepth 100000 in
theorem lkX8_190 : Cond.methodLink RX8 190 yX8_meets ∈ vTbl := vTm (List.mem_of_getElem? (i := 1076) (by decide +kernel)) (by decide +kernel)
set_option maxRecDepth 100000 in
theorem lkX8_193 : Cond.methodLink RX8 193 yX8_wind ∈ vTbl := vTm (List.mem_of_getElem? (i := 1080) (by decide +kernel)) (by decide +kernel)
set_option maxRecDepth 100000 in
theorem lkX8_251 : Cond.methodLink RX8 251 yX8_atOf ∈ vTbl := vTm (List.mem_of_getElem? (i := 1085) (by decide +kernel)) (by decide +kernel)
set_option maxRecDepth 100000 in
theorem lkX8_248 : Cond.methodLink RX8 248 yX8_runsTold ∈ vTbl := vTm (List.mem_of_getElem? (i := 1089) (by decide +kernel)) (by decide +kernel)
set_option maxRecDepth 100000 in
theorem lkX8_242 : Cond.methodLink RX8 242 yX8_asTold ∈ vTbl := vTm (List.mem_of_getElem? (i := 1093) (by decide +kernel)) (by decide +kernel)
set_option maxRecDepth 100000 in
theorem lkX8_204 : Cond.methodLink RX8 204 yX8_windsBut ∈ vTbl := vTm (List.mem_of_getElem? (i := 1097) (by decide +kernel)) (by decide +kernel)
set_option maxRecDepth 100000 in
theorem lkX8_196 : Cond.methodLink RX8 196 yX8_isIn ∈ vTbl := vTm (List.mem_of_getElem? (i := 1101) (by decide +kernel)) (by decide +kernel)
set_option maxRecDepth 100000 in
theorem lkX8_200 : Cond.methodLink RX8 200 yX8_bitsOf ∈ vTbl := vTm (List.mem_of_getElem? (i := 1104) (by decide +kernel)) (by decide +kernel)
set_option maxRecDepth 100000 in
theorem lkX8_245 : Cond.methodLink RX8 245 yX8_runs ∈ vTbl := vTm (List.mem_of_getElem? (i := 1107) (by decide +kernel)) (by decide +kernel)
set_option maxRecDepth 100000 in
theorem lkX8_239 : Cond.methodLink RX8 239 yX8_goesBy ∈ vTbl := vTm (List.mem_of_getElem? (i := 1111) (by decide +kernel)) (by decide +kernel)
set_option maxRecDepth 100000 in
theorem lkX8_228 : Cond.methodLink RX8 228 yX8_isTangled ∈ vTbl := vTm (List.mem_of_getElem? (i := 1115) (by decide +kernel)) (by decide +kernel)
set_option maxRecDepth 100000 in
theorem lkX8_231 : Cond.methodLink RX8 231 yX8_takes ∈ vTbl := vTm (List.mem_of_getElem? (i := 1119) (by decide +kernel)) (by decide +kernel)
set_option maxRecDepth 100000 in
theorem lkX8_235 : Cond.methodLink RX8 235 yX8_goesUp ∈ vTbl := vTm (List.mem_of_getElem? (i := 1123) (by decide +kernel)) (by decide +kernel)
set_option maxRecDepth 100000 in
theorem lkX8_224 : Cond.methodLink RX8 224 yX8_wears ∈ vTbl := vTm (List.mem_of_getElem? (i := 1127) (by decide +kernel)) (by decide +kernel)
set_option maxRecDepth 100000 in
theorem lkX8_255 : Cond.methodLink RX8 255 yX8_noteOf ∈ vTbl := vTm (List.mem_of_getElem? (i := 1135) (by decide +kernel)) (by decide +kernel)
set_option maxRecDepth 100000 in
theorem lkX8_258 : Cond.methodLink RX8 258 yX8_comesOf ∈ vTbl := vTm (List.mem_of_getElem? (i := 1143) (by decide +kernel)) (by decide +kernel)
set_option maxRecDepth 100000 in
theorem lkX8_261 : Cond.methodLink RX8 261 yX8_bitesOf ∈ vTbl := vTm (List.mem_of_getElem? (i := 1151) (by decide +kernel)) (by decide +kernel)
set_option maxRecDepth 100000 in
theorem lkX8_268 : Cond.methodLink RX8 268 yX8_famineNow ∈ vTbl := vTm (List.mem_of_getElem? (i := 1159) (by decide +kernel)) (by decide +kernel)
set_option maxRecDepth 100000 in
theorem lkX8_264 : Cond.methodLink RX8 264 yX8_upMuch ∈ vTbl := vTm (List.mem_of_getElem? (i := 1163) (by decide +kernel)) (by decide +kernel)
set_option maxRecDepth 100000 in
theorem lkX8_271 : Cond.methodLink RX8 271 yX8_firstOf ∈ vTbl := vTm (List.mem_of_getElem? (i := 1171) (by decide +kernel)) (by decide +kernel)
set_option maxRecDepth 100000 in
theorem lkX8_274 : Cond.methodLink RX8 274 yX8_greedyNow ∈ vTbl := vTm (List.mem_of_getElem? (i := 1179) (by decide +kernel)) (by decide +kernel)
set_option maxRecDepth 100000 in
theorem lkX8_277 : Cond.methodLink RX8 277 yX8_sendOf ∈ vTbl := vTm (List.mem_of_getElem? (i := 1187) (by decide +kernel)) (by decide +kernel)
set_option maxRecDepth 100000 in
theorem lkX8_280 : Cond.methodLink RX8 280 yX8_loafOf ∈ vTbl := vTm (List.mem_of_getElem? (i := 1195) (by decide +kernel)) (by decide +kernel)
set_option maxRecDepth 100000 in
theorem lkX8_286 : Cond.methodLink RX8 286 yX8_feedBy ∈ vTbl := vTm (List.mem_of_getElem? (i := 1203) (by decide +kernel)) (by decide +kernel)
set_option maxRecDepth 100000 in
theorem lkX8_283 : Cond.methodLink RX8 283 yX8_isKept ∈ vTbl := vTm (List.mem_of_getElem? (i := 1207) (by decide +kernel)) (by decide +kernel)
set_option maxRecDepth 100000 in
theorem lkX8_289 : Cond.methodLink RX8 289 yX8_ofRow ∈ vTbl := vTm (List.mem_of_getElem? (i := 1211) (by decide +kernel)) (by decide +kernel)
set_option maxRecDepth 100000 in
theorem lkX8_292 : Cond.methodLink RX8 292 yX8_stillOf ∈ vTbl := vTm (List.mem_of_getElem? (i := 1219) (by decide +kernel)) (by decide +kernel)
set_option maxRecDepth 100000 in
theorem lkX8_302 : Cond.methodLink RX8 302 yX8_neverNow ∈ vTbl := vTm (List.mem_of_getElem? (i := 1235) (by decide +kernel)) (by decide +kernel)
set_option maxRecDepth 100000 in
theorem lkX8_298 : Cond.methodLink RX8 298 yX8_isSeen ∈ vTbl := vTm (List.mem_of_getElem? (i := 1239) (by decide +kernel)) (by decide +kernel)
set_option maxRecDepth 100000 in
theorem lkX8_305 : Cond.methodLink RX8 305 yX8_wasOf ∈ vTbl := vTm (List.mem_of_getElem? (i := 1247) (by decide +kernel)) (by decide +kernel)
set_option maxRecDepth 100000 in
theorem lkX8_308 : Cond.methodLink RX8 308 yX8_askOf ∈ vTbl := vTm (List.mem_of_getElem? (i := 1255) (by decide +kernel)) (by decide +kernel)
set_option maxRecDepth 100000 in
theorem lkX8_315 : Cond.methodLink RX8 315 yX8_gustOf ∈ vTbl := vTm (List.mem_of_getElem? (i := 1263) (by decide +kernel)) (by decide +kernel)
set_option maxRecDepth 100000 in
theorem lkX8_311 : Cond.methodLink RX8 311 yX8_lowest ∈ vTbl := vTm (List.mem_of_getElem? (i := 1267) (by decide +kernel)) (by decide +kernel)
set_option maxRecDepth 100000 in
theorem lkX8_319 : Cond.methodLink RX8 319 yX8_no ∈ vTbl := vTm (List.mem_of_getElem? (i := 1270) (by decide +kernel)) (by decide +kernel)
set_option maxRecDepth 100000 in
theorem ctX8_123 : Cond.constantLong RX8 123 (-9223372036854775808) ∈ vTbl := vTm (List.mem_of_getElem? (i := 1273) (by decide +kernel)) (by decide +kernel)
set_option maxRecDepth 100000 in
theorem lkX8_326 : Cond.methodLink RX8 326 yX8_weekOf ∈ vTbl := vTm (List.mem_of_getElem? (i := 1278) (by decide +kernel)) (by decide +kernel)
set_option maxRecDepth 100000 in
theorem ctX8_322 : Cond.constant RX8 322 (1103515245) ∈ vTbl := vTm (List.mem_of_getElem? (i := 1282) (by decide +kernel)) (by decide +kernel)
set_option maxRecDepth 100000 in
theorem lkX8_323 : Cond.methodLink RX8 323 yX8_bitesAll ∈ vTbl := vTm (List.mem_of_getElem? (i := 1283) (by decide +kernel)) (by decide +kernel)
set_option maxRecDepth 100000 in
theorem lkX8_332 : Cond.methodLink RX8 332 yX8_lacks ∈ vTbl := vTm (List.mem_of_getElem? (i := 1299) (by decide +kernel)) (by decide +kernel)
set_option maxRecDepth 100000 in
theorem lkX8_335 : Cond.methodLink RX8 335 yX8_keep ∈ vTbl := vTm (List.mem_of_getElem? (i := 1303) (by decide +kernel)) (by decide +kernel)
set_option maxRecDepth 100000 in
theorem ctX8_338 : Cond.constant RX8 338 (-2147483648) ∈ vTbl := vTm (List.mem_of_getElem? (i := 1311) (by decide +kernel)) (by decide +kernel)
set_option maxRecDepth 100000 in
theorem lkX8_339 : Cond.methodLink RX8 339 yX8_sumOf ∈ vTbl := vTm (List.mem_of_getElem? (i := 1324) (by decide +kernel)) (by decide +kernel)
set_option maxRecDepth 100000 in
theorem ctX8_348 : Cond.constantLong RX8 348 (17) ∈ vTbl := vTm (List.mem_of_getElem? (i := 1332) (by decide +kernel)) (by decide +kernel)
set_option maxRecDepth 100000 in
theorem ctX8_342 : Cond.constantLong RX8 342 (31) ∈ vTbl := vTm (List.mem_of_getElem? (i := 1333) (by decide +kernel)) (by decide +kernel)
set_option maxRecDepth 100000 in
theorem lkX8_350 : Cond.methodLink RX8 350 yX8_count ∈ vTbl := vTm (List.mem_of_getElem? (i := 1334) (by decide +kernel)) (by decide +kernel)
set_option maxRecDepth 100000 in
theorem lkX8_353 : Cond.methodLink RX8 353 yX8_floorDigest ∈ vTbl := vTm (List.mem_of_getElem? (i := 1335) (by decide +kernel)) (by decide +kernel)
set_option maxRecDepth 100000 in
theorem lkX8_356 : Cond.methodLink RX8 356 yX8_basketDigest ∈ vTbl := vTm (List.mem_of_getElem? (i := 1339) (by decide +kernel)) (by decide +kernel)
set_option maxRecDepth 100000 in
theorem lkX8_344 : Cond.methodLink RX8 344 yX8_hourDigest ∈ vTbl := vTm (List.mem_of_getElem? (i := 1343) (by decide +kernel)) (by decide +kernel)
set_option maxRecDepth 100000 in
theorem lkacX6_94 : Cond.methodLink RX6 94 arraycopyName ∈ vTbl := vTm (List.mem_of_getElem? (i := 521) (by decide +kernel)) (by decide +kernel)
set_option maxRecDepth 100000 in
theorem lkacX7_310 : Cond.methodLink RX7 310 arraycopyName ∈ vTbl := vTm (List.mem_of_getElem? (i := 691) (by decide +kernel)) (by decide +kernel)
set_option maxRecDepth 100000 in
theorem lkX7_379 : Cond.methodLink RX7 379 Lib.Math.max.name ∈ vTbl := vTm (List.mem_of_getElem? (i := 704) (by decide +kernel)) (by decide +kernel)
set_option maxRecDepth 100000 in
theorem ma_max_s : Cond.static Lib.Math.max.name ∈ vTbl := vTm (List.mem_of_getElem? (i := 705) (by decide +kernel)) (by decide +kernel)
set_option maxRecDepth 100000 in
theorem ma_max_c : Cond.code Lib.Math.max.name Lib.Math.max.code 2 (some .int) ∈ vTbl := vTm (List.mem_of_getElem? (i := 706) (by decide +kernel)) (by decide +kernel)
set_option maxRecDepth 100000 in
theorem lkX7_316 : Cond.methodLink RX7 316 Lib.Math.min.name ∈ vTbl := vTm (List.mem_of_getElem? (i := 772) (by decide +kernel)) (by decide +kernel)
set_option maxRecDepth 100000 in
theorem ma_min_s : Cond.static Lib.Math.min.name ∈ vTbl := vTm (List.mem_of_getElem? (i := 773) (by decide +kernel)) (by decide +kernel)
set_option maxRecDepth 100000 in
theorem ma_min_c : Cond.code Lib.Math.min.name Lib.Math.min.code 2 (some .int) ∈ vTbl := vTm (List.mem_of_getElem? (i := 774) (by decide +kernel)) (by decide +kernel)
set_option maxRecDepth 100000 in
theorem ma_ini : Cond.initialized "java/lang/Math" ∈ vTbl := vTm (List.mem_of_getElem? (i := 91) (by decide +kernel)) (by decide +kernel)
set_option maxRecDepth 100000 in
theorem ac_nat : Cond.native arraycopyName ∈ vTbl := vTm (List.mem_of_getElem? (i := 523) (by decide +kernel)) (by decide +kernel)
set_option maxRecDepth 100000 in
theorem ac_sta : Cond.static arraycopyName ∈ vTbl := vTm (List.mem_of_getElem? (i := 522) (by decide +kernel)) (by decide +kernel)
set_option maxRecDepth 100000 in
theorem ac_ini : Cond.initialized "java/lang/System" ∈ vTbl := vTm (List.mem_of_getElem? (i := 90) (by decide +kernel)) (by decide +kernel)
