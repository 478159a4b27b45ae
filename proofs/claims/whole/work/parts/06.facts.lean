theorem gT_1 (i : Nat) (w : Cond) (h : tables_1_1[i]? = some w) (g : goodWord w = true) : w ∈ gW := List.mem_filter.mpr ⟨List.mem_append_right _ (List.mem_append_left _ (List.mem_of_getElem? h)), g⟩
theorem gT_2 (i : Nat) (w : Cond) (h : tables_1_2[i]? = some w) (g : goodWord w = true) : w ∈ gW := List.mem_filter.mpr ⟨List.mem_append_right _ (List.mem_append_right _ (List.mem_append_left _ (List.mem_of_getElem? h))), g⟩
theorem gT_3 (i : Nat) (w : Cond) (h : tables_1_3[i]? = some w) (g : goodWord w = true) : w ∈ gW := List.mem_filter.mpr ⟨List.mem_append_right _ (List.mem_append_right _ (List.mem_append_right _ (List.mem_append_left _ (List.mem_of_getElem? h)))), g⟩
theorem gT_4 (i : Nat) (w : Cond) (h : tables_1_4[i]? = some w) (g : goodWord w = true) : w ∈ gW := List.mem_filter.mpr ⟨List.mem_append_right _ (List.mem_append_right _ (List.mem_append_right _ (List.mem_append_right _ (List.mem_append_left _ (List.mem_of_getElem? h))))), g⟩
theorem gT_5 (i : Nat) (w : Cond) (h : tables_1_5[i]? = some w) (g : goodWord w = true) : w ∈ gW := List.mem_filter.mpr ⟨List.mem_append_right _ (List.mem_append_right _ (List.mem_append_right _ (List.mem_append_right _ (List.mem_append_right _ (List.mem_append_left _ (List.mem_of_getElem? h)))))), g⟩
theorem gT_6 (i : Nat) (w : Cond) (h : tables_1_6[i]? = some w) (g : goodWord w = true) : w ∈ gW := List.mem_filter.mpr ⟨List.mem_append_right _ (List.mem_append_right _ (List.mem_append_right _ (List.mem_append_right _ (List.mem_append_right _ (List.mem_append_right _ (List.mem_append_left _ (List.mem_of_getElem? h))))))), g⟩
theorem gT_7 (i : Nat) (w : Cond) (h : tables_1_7[i]? = some w) (g : goodWord w = true) : w ∈ gW := List.mem_filter.mpr ⟨List.mem_append_right _ (List.mem_append_right _ (List.mem_append_right _ (List.mem_append_right _ (List.mem_append_right _ (List.mem_append_right _ (List.mem_append_right _ (List.mem_of_getElem? h))))))), g⟩
def y_BT_init : MethodName := ⟨"BesideTom", "<init>", "()V"⟩
def y_BT_act : MethodName := ⟨"BesideTom", "act", "(III)I"⟩
def y_BT_arrange : MethodName := ⟨"BesideTom", "arrange", "(LBesideTom$Seating;[IIIZI)I"⟩
def y_BT_asItem : MethodName := ⟨"BesideTom", "asItem", "(IJ)J"⟩
def y_BT_away : MethodName := ⟨"BesideTom", "away", "(IZ)I"⟩
def y_BT_best : MethodName := ⟨"BesideTom", "best", "(I)I"⟩
def y_BT_bit : MethodName := ⟨"BesideTom", "bit", "(II)Z"⟩
def y_BT_book : MethodName := ⟨"BesideTom", "book", "(II)I"⟩
def y_BT_calmsBy : MethodName := ⟨"BesideTom", "calmsBy", "(LBesideTom$Seating;III)Z"⟩
def y_BT_can : MethodName := ⟨"BesideTom", "can", "(II)I"⟩
def y_BT_change : MethodName := ⟨"BesideTom", "change", "()I"⟩
def y_BT_count : MethodName := ⟨"BesideTom", "count", "(I)I"⟩
def y_BT_cut : MethodName := ⟨"BesideTom", "cut", "(II)I"⟩
def y_BT_ends : MethodName := ⟨"BesideTom", "ends", "(I)I"⟩
def y_BT_feed : MethodName := ⟨"BesideTom", "feed", "(I)I"⟩
def y_BT_few : MethodName := ⟨"BesideTom", "few", "(I)I"⟩
def y_BT_hear : MethodName := ⟨"BesideTom", "hear", "(II)I"⟩
def y_BT_image : MethodName := ⟨"BesideTom", "image", "()I"⟩
def y_BT_isDesk : MethodName := ⟨"BesideTom", "isDesk", "(I)Z"⟩
def y_BT_isOfPupil : MethodName := ⟨"BesideTom", "isOfPupil", "(I)Z"⟩
def y_BT_isRange : MethodName := ⟨"BesideTom", "isRange", "(III)Z"⟩
def y_BT_isTape : MethodName := ⟨"BesideTom", "isTape", "(I)Z"⟩
def y_BT_item : MethodName := ⟨"BesideTom", "item", "(IIJ)I"⟩
def y_BT_judge : MethodName := ⟨"BesideTom", "judge", "(II)I"⟩
def y_BT_knows : MethodName := ⟨"BesideTom", "knows", "(II)I"⟩
def y_BT_line : MethodName := ⟨"BesideTom", "line", "(III)I"⟩
def y_BT_looked : MethodName := ⟨"BesideTom", "looked", "()I"⟩
def y_BT_loud : MethodName := ⟨"BesideTom", "loud", "(I)I"⟩
def y_BT_mean : MethodName := ⟨"BesideTom", "mean", "(I)J"⟩
def y_BT_move : MethodName := ⟨"BesideTom", "move", "(II)I"⟩
def y_BT_odds : MethodName := ⟨"BesideTom", "odds", "(II)J"⟩
def y_BT_of : MethodName := ⟨"BesideTom", "of", "(II)I"⟩
def y_BT_on : MethodName := ⟨"BesideTom", "on", "(II)I"⟩
def y_BT_partOf : MethodName := ⟨"BesideTom", "partOf", "(III)J"⟩
def y_BT_pass : MethodName := ⟨"BesideTom", "pass", "(I)I"⟩
def y_BT_plansFromNow : MethodName := ⟨"BesideTom", "plansFromNow", "()V"⟩
def y_BT_pupil : MethodName := ⟨"BesideTom", "pupil", "(II)I"⟩
def y_BT_quietest : MethodName := ⟨"BesideTom", "quietest", "(I)I"⟩
def y_BT_read : MethodName := ⟨"BesideTom", "read", "(II)J"⟩
def y_BT_room : MethodName := ⟨"BesideTom", "room", "()I"⟩
def y_BT_seat : MethodName := ⟨"BesideTom", "seat", "(I)I"⟩
def y_BT_shift : MethodName := ⟨"BesideTom", "shift", "(IIIII)I"⟩
def y_BT_taken : MethodName := ⟨"BesideTom", "taken", "(II)I"⟩
def y_BT_tape : MethodName := ⟨"BesideTom", "tape", "(III)I"⟩
def y_BT_term : MethodName := ⟨"BesideTom", "term", "(II)I"⟩
def y_BT_told : MethodName := ⟨"BesideTom", "told", "(I)I"⟩
def y_BT_trace : MethodName := ⟨"BesideTom", "trace", "(I)I"⟩
def y_BT_undo : MethodName := ⟨"BesideTom", "undo", "()I"⟩
def y_BT_where : MethodName := ⟨"BesideTom", "where", "(I)I"⟩
def y_BT_wisest : MethodName := ⟨"BesideTom", "wisest", "(I)I"⟩
def y_BT_within : MethodName := ⟨"BesideTom", "within", "(III)Z"⟩
def y_BT_without : MethodName := ⟨"BesideTom", "without", "(I)V"⟩
def y_BT_worst : MethodName := ⟨"BesideTom", "worst", "()I"⟩
def y_Cork_init : MethodName := ⟨"BesideTom$CorkKind", "<init>", "()V"⟩
def y_Cork_isUnder : MethodName := ⟨"BesideTom$CorkKind", "isUnder", "(I)Z"⟩
def y_Cork_learning : MethodName := ⟨"BesideTom$CorkKind", "learning", "(IIII)I"⟩
def y_Cork_tells : MethodName := ⟨"BesideTom$CorkKind", "tells", "(LBesideTom$Trace;I)I"⟩
def y_Cork_voice : MethodName := ⟨"BesideTom$CorkKind", "voice", "(IIII)I"⟩
def y_PK_init : MethodName := ⟨"BesideTom$PupilKind", "<init>", "()V"⟩
def y_PK_chats : MethodName := ⟨"BesideTom$PupilKind", "chats", "(LBesideTom$Trace;I)I"⟩
def y_PK_isUnder : MethodName := ⟨"BesideTom$PupilKind", "isUnder", "(I)Z"⟩
def y_PK_learning : MethodName := ⟨"BesideTom$PupilKind", "learning", "(IIII)I"⟩
def y_PK_tells : MethodName := ⟨"BesideTom$PupilKind", "tells", "(LBesideTom$Trace;I)I"⟩
def y_PK_voice : MethodName := ⟨"BesideTom$PupilKind", "voice", "(IIII)I"⟩
def y_PK_whispers : MethodName := ⟨"BesideTom$PupilKind", "whispers", "(LBesideTom$Trace;I)I"⟩
def y_Quiet_init : MethodName := ⟨"BesideTom$QuietKind", "<init>", "()V"⟩
def y_Quiet_isUnder : MethodName := ⟨"BesideTom$QuietKind", "isUnder", "(I)Z"⟩
def y_Quiet_learning : MethodName := ⟨"BesideTom$QuietKind", "learning", "(IIII)I"⟩
def y_Quiet_tells : MethodName := ⟨"BesideTom$QuietKind", "tells", "(LBesideTom$Trace;I)I"⟩
def y_Quiet_voice : MethodName := ⟨"BesideTom$QuietKind", "voice", "(IIII)I"⟩
def y_Quiet_whispers : MethodName := ⟨"BesideTom$QuietKind", "whispers", "(LBesideTom$Trace;I)I"⟩
def y_Rooms_init : MethodName := ⟨"BesideTom$Rooms", "<init>", "()V"⟩
def y_Rooms_begins : MethodName := ⟨"BesideTom$Rooms", "begins", "(ILBesideTom$Seating;II)V"⟩
def y_Rooms_clause : MethodName := ⟨"BesideTom$Rooms", "clause", "()V"⟩
def y_Rooms_either : MethodName := ⟨"BesideTom$Rooms", "either", "(I)Z"⟩
def y_Rooms_expects : MethodName := ⟨"BesideTom$Rooms", "expects", "(C)V"⟩
def y_Rooms_fails : MethodName := ⟨"BesideTom$Rooms", "fails", "()V"⟩
def y_Rooms_forgetsText : MethodName := ⟨"BesideTom$Rooms", "forgetsText", "()V"⟩
def y_Rooms_isDigit : MethodName := ⟨"BesideTom$Rooms", "isDigit", "()Z"⟩
def y_Rooms_keepsText : MethodName := ⟨"BesideTom$Rooms", "keepsText", "()I"⟩
def y_Rooms_letter : MethodName := ⟨"BesideTom$Rooms", "letter", "()I"⟩
def y_Rooms_number : MethodName := ⟨"BesideTom$Rooms", "number", "()I"⟩
def y_Rooms_reads : MethodName := ⟨"BesideTom$Rooms", "reads", "(ILBesideTom$Seating;II)I"⟩
def y_Rooms_settles : MethodName := ⟨"BesideTom$Rooms", "settles", "(LBesideTom$Seating;II)V"⟩
def y_Rooms_signs : MethodName := ⟨"BesideTom$Rooms", "signs", "()I"⟩
def y_Rooms_single : MethodName := ⟨"BesideTom$Rooms", "single", "(I)Z"⟩
def y_Rooms_steps : MethodName := ⟨"BesideTom$Rooms", "steps", "()V"⟩
def y_Rooms_takes : MethodName := ⟨"BesideTom$Rooms", "takes", "(I)I"⟩
def y_Rooms_test : MethodName := ⟨"BesideTom$Rooms", "test", "()Z"⟩
def y_Rooms_word : MethodName := ⟨"BesideTom$Rooms", "word", "()I"⟩
def y_Rows_init : MethodName := ⟨"BesideTom$Rows", "<init>", "(I)V"⟩
def y_Rows_becomes : MethodName := ⟨"BesideTom$Rows", "becomes", "(LBesideTom$Rows;)V"⟩
def y_Rows_empties : MethodName := ⟨"BesideTom$Rows", "empties", "()I"⟩
def y_Rows_takes : MethodName := ⟨"BesideTom$Rows", "takes", "(II)I"⟩
def y_Seat_init : MethodName := ⟨"BesideTom$Seating", "<init>", "([LBesideTom$PupilKind;)V"⟩
def y_Seat_adds : MethodName := ⟨"BesideTom$Seating", "adds", "(II)I"⟩
def y_Seat_becomes : MethodName := ⟨"BesideTom$Seating", "becomes", "(LBesideTom$Seating;)V"⟩
def y_Seat_has : MethodName := ⟨"BesideTom$Seating", "has", "(I)Z"⟩
def y_Seat_isAsHeard : MethodName := ⟨"BesideTom$Seating", "isAsHeard", "()Z"⟩
def y_Seat_isAway : MethodName := ⟨"BesideTom$Seating", "isAway", "(I)Z"⟩
def y_Seat_kindOf : MethodName := ⟨"BesideTom$Seating", "kindOf", "(I)LBesideTom$PupilKind;"⟩
def y_Seat_knowsOfAll : MethodName := ⟨"BesideTom$Seating", "knowsOfAll", "()I"⟩
def y_Seat_learns : MethodName := ⟨"BesideTom$Seating", "learns", "(II)I"⟩
def y_Seat_learnsOfAll : MethodName := ⟨"BesideTom$Seating", "learnsOfAll", "(I)I"⟩
def y_Seat_moves : MethodName := ⟨"BesideTom$Seating", "moves", "(II)V"⟩
def y_Seat_neighbours : MethodName := ⟨"BesideTom$Seating", "neighbours", "(I)I"⟩
def y_Seat_noise : MethodName := ⟨"BesideTom$Seating", "noise", "(I)I"⟩
def y_Seat_setAway : MethodName := ⟨"BesideTom$Seating", "setAway", "(IZ)V"⟩
def y_Seat_sits : MethodName := ⟨"BesideTom$Seating", "sits", "(II)V"⟩
def y_Seat_swaps : MethodName := ⟨"BesideTom$Seating", "swaps", "(II)V"⟩
def y_Seat_talk : MethodName := ⟨"BesideTom$Seating", "talk", "(II)I"⟩
def y_Seat_voice : MethodName := ⟨"BesideTom$Seating", "voice", "(II)I"⟩
def y_Seat_weekGoes : MethodName := ⟨"BesideTom$Seating", "weekGoes", "(I)V"⟩
def y_Seat_whoHas : MethodName := ⟨"BesideTom$Seating", "whoHas", "(I)I"⟩
def y_Short_init : MethodName := ⟨"BesideTom$ShortKind", "<init>", "()V"⟩
def y_Short_chats : MethodName := ⟨"BesideTom$ShortKind", "chats", "(LBesideTom$Trace;I)I"⟩
def y_Short_isUnder : MethodName := ⟨"BesideTom$ShortKind", "isUnder", "(I)Z"⟩
def y_Short_learning : MethodName := ⟨"BesideTom$ShortKind", "learning", "(IIII)I"⟩
def y_Short_tells : MethodName := ⟨"BesideTom$ShortKind", "tells", "(LBesideTom$Trace;I)I"⟩
def y_Short_voice : MethodName := ⟨"BesideTom$ShortKind", "voice", "(IIII)I"⟩
def y_Short_whispers : MethodName := ⟨"BesideTom$ShortKind", "whispers", "(LBesideTom$Trace;I)I"⟩
def y_Talk_init : MethodName := ⟨"BesideTom$TalkerKind", "<init>", "()V"⟩
def y_Talk_chats : MethodName := ⟨"BesideTom$TalkerKind", "chats", "(LBesideTom$Trace;I)I"⟩
def y_Talk_isUnder : MethodName := ⟨"BesideTom$TalkerKind", "isUnder", "(I)Z"⟩
def y_Talk_voice : MethodName := ⟨"BesideTom$TalkerKind", "voice", "(IIII)I"⟩
def y_Talk_whispers : MethodName := ⟨"BesideTom$TalkerKind", "whispers", "(LBesideTom$Trace;I)I"⟩
def y_Told_init : MethodName := ⟨"BesideTom$ToldKind", "<init>", "()V"⟩
def y_Told_chats : MethodName := ⟨"BesideTom$ToldKind", "chats", "(LBesideTom$Trace;I)I"⟩
def y_Told_isUnder : MethodName := ⟨"BesideTom$ToldKind", "isUnder", "(I)Z"⟩
def y_Told_voice : MethodName := ⟨"BesideTom$ToldKind", "voice", "(IIII)I"⟩
def y_Told_whispers : MethodName := ⟨"BesideTom$ToldKind", "whispers", "(LBesideTom$Trace;I)I"⟩
def y_Tom_init : MethodName := ⟨"BesideTom$TomKind", "<init>", "()V"⟩
def y_Tom_chats : MethodName := ⟨"BesideTom$TomKind", "chats", "(LBesideTom$Trace;I)I"⟩
def y_Tom_isUnder : MethodName := ⟨"BesideTom$TomKind", "isUnder", "(I)Z"⟩
def y_Tom_voice : MethodName := ⟨"BesideTom$TomKind", "voice", "(IIII)I"⟩
def y_Tom_whispers : MethodName := ⟨"BesideTom$TomKind", "whispers", "(LBesideTom$Trace;I)I"⟩
def y_Trace_init : MethodName := ⟨"BesideTom$Trace", "<init>", "()V"⟩
def y_Trace_begins : MethodName := ⟨"BesideTom$Trace", "begins", "(I)V"⟩
def y_M_init : MethodName := ⟨"BesideTomModel", "<init>", "()V"⟩
def y_M_act : MethodName := ⟨"BesideTomModel", "act", "(III)I"⟩
def y_M_allKnow : MethodName := ⟨"BesideTomModel", "allKnow", "()I"⟩
def y_M_allLearn : MethodName := ⟨"BesideTomModel", "allLearn", "()I"⟩
def y_M_away : MethodName := ⟨"BesideTomModel", "away", "(IZ)I"⟩
def y_M_begin : MethodName := ⟨"BesideTomModel", "begin", "()I"⟩
def y_M_behind : MethodName := ⟨"BesideTomModel", "behind", "()I"⟩
def y_M_beside : MethodName := ⟨"BesideTomModel", "beside", "(I)I"⟩
def y_M_best : MethodName := ⟨"BesideTomModel", "best", "(I)I"⟩
def y_M_body : MethodName := ⟨"BesideTomModel", "body", "(I)V"⟩
def y_M_book : MethodName := ⟨"BesideTomModel", "book", "(II)I"⟩
def y_M_can : MethodName := ⟨"BesideTomModel", "can", "(II)I"⟩
def y_M_changeOf : MethodName := ⟨"BesideTomModel", "changeOf", "()I"⟩
def y_M_chatsAct : MethodName := ⟨"BesideTomModel", "chatsAct", "(II)I"⟩
def y_M_cost : MethodName := ⟨"BesideTomModel", "cost", "()I"⟩
def y_M_count : MethodName := ⟨"BesideTomModel", "count", "(I)I"⟩
def y_M_divisor : MethodName := ⟨"BesideTomModel", "divisor", "(II)I"⟩
def y_M_emits : MethodName := ⟨"BesideTomModel", "emits", "(I)V"⟩
def y_M_ends : MethodName := ⟨"BesideTomModel", "ends", "(I)I"⟩
def y_M_factOf : MethodName := ⟨"BesideTomModel", "factOf", "(III)I"⟩
def y_M_feed : MethodName := ⟨"BesideTomModel", "feed", "(I)I"⟩
def y_M_few : MethodName := ⟨"BesideTomModel", "few", "(I)I"⟩
def y_M_goWeek : MethodName := ⟨"BesideTomModel", "goWeek", "()V"⟩
def y_M_goWeeks : MethodName := ⟨"BesideTomModel", "goWeeks", "(I)V"⟩
def y_M_goes : MethodName := ⟨"BesideTomModel", "goes", "(IZ)V"⟩
def y_M_goesText : MethodName := ⟨"BesideTomModel", "goesText", "(I)Z"⟩
def y_M_has : MethodName := ⟨"BesideTomModel", "has", "(II)Z"⟩
def y_M_hear : MethodName := ⟨"BesideTomModel", "hear", "(II)I"⟩
def y_M_holds : MethodName := ⟨"BesideTomModel", "holds", "(III)Z"⟩
def y_M_image : MethodName := ⟨"BesideTomModel", "image", "()I"⟩
def y_M_in : MethodName := ⟨"BesideTomModel", "in", "(III)Z"⟩
def y_M_isDesk : MethodName := ⟨"BesideTomModel", "isDesk", "(I)Z"⟩
def y_M_isDigit : MethodName := ⟨"BesideTomModel", "isDigit", "()Z"⟩
def y_M_isHeard : MethodName := ⟨"BesideTomModel", "isHeard", "()Z"⟩
def y_M_isNext : MethodName := ⟨"BesideTomModel", "isNext", "(II)Z"⟩
def y_M_isNoise : MethodName := ⟨"BesideTomModel", "isNoise", "(I)Z"⟩
def y_M_isPair : MethodName := ⟨"BesideTomModel", "isPair", "(I)Z"⟩
def y_M_isPupil : MethodName := ⟨"BesideTomModel", "isPupil", "(I)Z"⟩
def y_M_isQuietBy : MethodName := ⟨"BesideTomModel", "isQuietBy", "(III)Z"⟩
def y_M_isTape : MethodName := ⟨"BesideTomModel", "isTape", "(I)Z"⟩
def y_M_isWeeks : MethodName := ⟨"BesideTomModel", "isWeeks", "(I)Z"⟩
def y_M_item : MethodName := ⟨"BesideTomModel", "item", "(IIJ)I"⟩
def y_M_judge : MethodName := ⟨"BesideTomModel", "judge", "(II)I"⟩
def y_M_knows : MethodName := ⟨"BesideTomModel", "knows", "(II)I"⟩
def y_M_lastOf : MethodName := ⟨"BesideTomModel", "lastOf", "(II)I"⟩
def y_M_layBest : MethodName := ⟨"BesideTomModel", "layBest", "(Z)I"⟩
def y_M_layPlan : MethodName := ⟨"BesideTomModel", "layPlan", "(I)Z"⟩
def y_M_learns : MethodName := ⟨"BesideTomModel", "learns", "(I)I"⟩
def y_M_learnsBy : MethodName := ⟨"BesideTomModel", "learnsBy", "(II)I"⟩
def y_M_least : MethodName := ⟨"BesideTomModel", "least", "(II)I"⟩
def y_M_least0 : MethodName := ⟨"BesideTomModel", "least0", "(I)I"⟩
def y_M_line : MethodName := ⟨"BesideTomModel", "line", "(III)I"⟩
def y_M_looked : MethodName := ⟨"BesideTomModel", "looked", "()I"⟩
def y_M_loud : MethodName := ⟨"BesideTomModel", "loud", "(I)I"⟩
def y_M_lowest : MethodName := ⟨"BesideTomModel", "lowest", "(III)J"⟩
def y_M_many : MethodName := ⟨"BesideTomModel", "many", "(I)I"⟩
def y_M_mean : MethodName := ⟨"BesideTomModel", "mean", "(I)J"⟩
def y_M_mouth : MethodName := ⟨"BesideTomModel", "mouth", "(II)I"⟩
def y_M_move : MethodName := ⟨"BesideTomModel", "move", "(II)I"⟩
def y_M_moves : MethodName := ⟨"BesideTomModel", "moves", "(II)V"⟩
def y_M_narrow : MethodName := ⟨"BesideTomModel", "narrow", "(IJ)J"⟩
def y_M_next : MethodName := ⟨"BesideTomModel", "next", "()I"⟩
def y_M_noise : MethodName := ⟨"BesideTomModel", "noise", "()I"⟩
def y_M_noiseIfMoved : MethodName := ⟨"BesideTomModel", "noiseIfMoved", "(II)I"⟩
def y_M_noiseWithout : MethodName := ⟨"BesideTomModel", "noiseWithout", "(I)I"⟩
def y_M_odds : MethodName := ⟨"BesideTomModel", "odds", "(II)J"⟩
def y_M_of : MethodName := ⟨"BesideTomModel", "of", "(II)I"⟩
def y_M_on : MethodName := ⟨"BesideTomModel", "on", "(II)I"⟩
def y_M_pass : MethodName := ⟨"BesideTomModel", "pass", "(I)I"⟩
def y_M_place : MethodName := ⟨"BesideTomModel", "place", "(I)I"⟩
def y_M_pupil : MethodName := ⟨"BesideTomModel", "pupil", "(II)I"⟩
def y_M_pupilChats : MethodName := ⟨"BesideTomModel", "pupilChats", "(II)I"⟩
def y_M_pupilTells : MethodName := ⟨"BesideTomModel", "pupilTells", "(II)I"⟩
def y_M_pupilWhispers : MethodName := ⟨"BesideTomModel", "pupilWhispers", "(II)I"⟩
def y_M_putBack : MethodName := ⟨"BesideTomModel", "putBack", "()V"⟩
def y_M_quietest : MethodName := ⟨"BesideTomModel", "quietest", "(I)I"⟩
def y_M_read : MethodName := ⟨"BesideTomModel", "read", "(II)J"⟩
def y_M_room : MethodName := ⟨"BesideTomModel", "room", "()I"⟩
def y_M_save : MethodName := ⟨"BesideTomModel", "save", "()V"⟩
def y_M_seat : MethodName := ⟨"BesideTomModel", "seat", "(I)I"⟩
def y_M_second : MethodName := ⟨"BesideTomModel", "second", "()I"⟩
def y_M_settle : MethodName := ⟨"BesideTomModel", "settle", "(I)V"⟩
def y_M_shift : MethodName := ⟨"BesideTomModel", "shift", "(IIIII)I"⟩
def y_M_swaps : MethodName := ⟨"BesideTomModel", "swaps", "(I)V"⟩
def y_M_taken : MethodName := ⟨"BesideTomModel", "taken", "(II)I"⟩
def y_M_takes : MethodName := ⟨"BesideTomModel", "takes", "(I)Z"⟩
def y_M_takesClause : MethodName := ⟨"BesideTomModel", "takesClause", "(I)Z"⟩
def y_M_takesDesk : MethodName := ⟨"BesideTomModel", "takesDesk", "(II)V"⟩
def y_M_takesE : MethodName := ⟨"BesideTomModel", "takesE", "(I)Z"⟩
def y_M_takesHead : MethodName := ⟨"BesideTomModel", "takesHead", "(I)Z"⟩
def y_M_takesNumber : MethodName := ⟨"BesideTomModel", "takesNumber", "()Z"⟩
def y_M_takesTest : MethodName := ⟨"BesideTomModel", "takesTest", "()Z"⟩
def y_M_takesWord : MethodName := ⟨"BesideTomModel", "takesWord", "(II)Z"⟩
def y_M_talk : MethodName := ⟨"BesideTomModel", "talk", "(I)I"⟩
def y_M_talkerChats : MethodName := ⟨"BesideTomModel", "talkerChats", "(II)I"⟩
def y_M_tape : MethodName := ⟨"BesideTomModel", "tape", "(III)I"⟩
def y_M_tellsAct : MethodName := ⟨"BesideTomModel", "tellsAct", "(II)I"⟩
def y_M_term : MethodName := ⟨"BesideTomModel", "term", "(II)I"⟩
def y_M_told : MethodName := ⟨"BesideTomModel", "told", "(I)I"⟩
def y_M_trace : MethodName := ⟨"BesideTomModel", "trace", "(I)I"⟩
def y_M_undo : MethodName := ⟨"BesideTomModel", "undo", "()I"⟩
def y_M_voice : MethodName := ⟨"BesideTomModel", "voice", "(I)I"⟩
def y_M_wears : MethodName := ⟨"BesideTomModel", "wears", "()I"⟩
def y_M_where : MethodName := ⟨"BesideTomModel", "where", "(I)I"⟩
def y_M_whispersAct : MethodName := ⟨"BesideTomModel", "whispersAct", "(II)I"⟩
def y_M_whoHas : MethodName := ⟨"BesideTomModel", "whoHas", "(I)I"⟩
def y_M_whole : MethodName := ⟨"BesideTomModel", "whole", "()V"⟩
def y_M_wisest : MethodName := ⟨"BesideTomModel", "wisest", "(I)I"⟩
def y_M_worstOf : MethodName := ⟨"BesideTomModel", "worstOf", "()I"⟩
def y_Int_bitCount : MethodName := ⟨"java/lang/Integer", "bitCount", "(I)I"⟩
abbrev y_Math_max : MethodName := Lib.Math.max.name
abbrev y_Math_min : MethodName := Lib.Math.min.name
abbrev y_Obj_init : MethodName := Lib.objectInit
def y_Str_charAt : MethodName := ⟨"java/lang/String", "charAt", "(I)C"⟩
def y_Str_checkIndex : MethodName := ⟨"java/lang/String", "checkIndex", "(II)V"⟩
def y_Str_isLatin1 : MethodName := ⟨"java/lang/String", "isLatin1", "()Z"⟩
def y_SL1_charAt : MethodName := ⟨"java/lang/StringLatin1", "charAt", "([BI)C"⟩
def y_U16_charAt : MethodName := ⟨"java/lang/StringUTF16", "charAt", "([BI)C"⟩
def y_U16_checkIndex : MethodName := ⟨"java/lang/StringUTF16", "checkIndex", "(I[B)V"⟩
def y_U16_getChar : MethodName := ⟨"java/lang/StringUTF16", "getChar", "([BI)C"⟩
def y_U16_length : MethodName := ⟨"java/lang/StringUTF16", "length", "([B)I"⟩
abbrev y_Sys_arraycopy : MethodName := arraycopyName
def y_Pre_checkIndex : MethodName := ⟨"jdk/internal/util/Preconditions", "checkIndex", "(IILjava/util/function/BiFunction;)I"⟩
set_option maxRecDepth 10000 in
theorem in_Law : Cond.initialized "BesideTomLaw" ∈ gW := gT_1 0 _ rfl rfl
set_option maxRecDepth 10000 in
theorem in_BT : Cond.initialized "BesideTom" ∈ gW := gT_1 1 _ rfl rfl
set_option maxRecDepth 10000 in
theorem in_PK : Cond.initialized "BesideTom$PupilKind" ∈ gW := gT_1 2 _ rfl rfl
set_option maxRecDepth 10000 in
theorem in_Talk : Cond.initialized "BesideTom$TalkerKind" ∈ gW := gT_1 3 _ rfl rfl
set_option maxRecDepth 10000 in
theorem in_Quiet : Cond.initialized "BesideTom$QuietKind" ∈ gW := gT_1 4 _ rfl rfl
set_option maxRecDepth 10000 in
theorem in_Short : Cond.initialized "BesideTom$ShortKind" ∈ gW := gT_1 5 _ rfl rfl
set_option maxRecDepth 10000 in
theorem in_Tom : Cond.initialized "BesideTom$TomKind" ∈ gW := gT_1 6 _ rfl rfl
set_option maxRecDepth 10000 in
theorem in_Cork : Cond.initialized "BesideTom$CorkKind" ∈ gW := gT_1 7 _ rfl rfl
set_option maxRecDepth 10000 in
theorem in_Told : Cond.initialized "BesideTom$ToldKind" ∈ gW := gT_1 8 _ rfl rfl
set_option maxRecDepth 10000 in
theorem in_Seat : Cond.initialized "BesideTom$Seating" ∈ gW := gT_1 9 _ rfl rfl
set_option maxRecDepth 10000 in
theorem in_Rows : Cond.initialized "BesideTom$Rows" ∈ gW := gT_1 10 _ rfl rfl
set_option maxRecDepth 10000 in
theorem in_Math : Cond.initialized "java/lang/Math" ∈ gW := gT_1 11 _ rfl rfl
set_option maxRecDepth 10000 in
theorem in_Rooms : Cond.initialized "BesideTom$Rooms" ∈ gW := gT_1 12 _ rfl rfl
set_option maxRecDepth 10000 in
theorem in_Trace : Cond.initialized "BesideTom$Trace" ∈ gW := gT_1 13 _ rfl rfl
set_option maxRecDepth 10000 in
theorem in_M : Cond.initialized "BesideTomModel" ∈ gW := gT_1 14 _ rfl rfl
set_option maxRecDepth 10000 in
theorem in_Str : Cond.initialized "java/lang/String" ∈ gW := gT_1 15 _ rfl rfl
set_option maxRecDepth 10000 in
theorem in_SL1 : Cond.initialized "java/lang/StringLatin1" ∈ gW := gT_1 16 _ rfl rfl
set_option maxRecDepth 10000 in
theorem in_Pre : Cond.initialized "jdk/internal/util/Preconditions" ∈ gW := gT_1 17 _ rfl rfl
set_option maxRecDepth 10000 in
theorem in_U16 : Cond.initialized "java/lang/StringUTF16" ∈ gW := gT_1 18 _ rfl rfl
set_option maxRecDepth 10000 in
theorem in_Int : Cond.initialized "java/lang/Integer" ∈ gW := gT_1 19 _ rfl rfl
set_option maxRecDepth 10000 in
theorem in_Sys : Cond.initialized "java/lang/System" ∈ gW := gT_1 20 _ rfl rfl
set_option maxRecDepth 10000 in
theorem ml_Law_9 : Cond.methodLink "BesideTomLaw" 9 y_BT_init ∈ gW := gT_1 23 _ rfl rfl
set_option maxRecDepth 10000 in
theorem im_BT_init : Cond.instanceMethod y_BT_init ∈ gW := gT_1 24 _ rfl rfl
set_option maxRecDepth 10000 in
theorem co_BT_init : Cond.code y_BT_init prog_1_method_1_code 2 none ∈ gW := gT_1 25 _ rfl rfl
set_option maxRecDepth 10000 in
theorem ml_BT_3 : Cond.methodLink "BesideTom" 3 y_Obj_init ∈ gW := gT_1 26 _ rfl rfl
set_option maxRecDepth 10000 in
theorem im_Obj_init : Cond.instanceMethod y_Obj_init ∈ gW := gT_1 27 _ rfl rfl
set_option maxRecDepth 10000 in
theorem co_Obj_init : Cond.code y_Obj_init object_method_1_code 1 none ∈ gW := gT_1 28 _ rfl rfl
set_option maxRecDepth 10000 in
theorem im_PK_init : Cond.instanceMethod y_PK_init ∈ gW := gT_1 35 _ rfl rfl
set_option maxRecDepth 10000 in
theorem co_PK_init : Cond.code y_PK_init prog_3_method_1_code 1 none ∈ gW := gT_1 36 _ rfl rfl
set_option maxRecDepth 10000 in
theorem ml_PK_1 : Cond.methodLink "BesideTom$PupilKind" 1 y_Obj_init ∈ gW := gT_1 37 _ rfl rfl
set_option maxRecDepth 10000 in
theorem su_PK_Obj : Cond.superclass "BesideTom$PupilKind" "java/lang/Object" ∈ gW := gT_1 38 _ rfl rfl
set_option maxRecDepth 10000 in
theorem im_Talk_init : Cond.instanceMethod y_Talk_init ∈ gW := gT_1 44 _ rfl rfl
set_option maxRecDepth 10000 in
theorem co_Talk_init : Cond.code y_Talk_init prog_9_method_1_code 1 none ∈ gW := gT_1 45 _ rfl rfl
set_option maxRecDepth 10000 in
theorem su_Talk_PK : Cond.superclass "BesideTom$TalkerKind" "BesideTom$PupilKind" ∈ gW := gT_1 47 _ rfl rfl
set_option maxRecDepth 10000 in
theorem im_Quiet_init : Cond.instanceMethod y_Quiet_init ∈ gW := gT_1 51 _ rfl rfl
set_option maxRecDepth 10000 in
theorem co_Quiet_init : Cond.code y_Quiet_init prog_4_method_1_code 1 none ∈ gW := gT_1 52 _ rfl rfl
set_option maxRecDepth 10000 in
theorem su_Quiet_PK : Cond.superclass "BesideTom$QuietKind" "BesideTom$PupilKind" ∈ gW := gT_1 54 _ rfl rfl
set_option maxRecDepth 10000 in
theorem im_Short_init : Cond.instanceMethod y_Short_init ∈ gW := gT_1 58 _ rfl rfl
set_option maxRecDepth 10000 in
theorem co_Short_init : Cond.code y_Short_init prog_8_method_1_code 1 none ∈ gW := gT_1 59 _ rfl rfl
set_option maxRecDepth 10000 in
theorem su_Short_PK : Cond.superclass "BesideTom$ShortKind" "BesideTom$PupilKind" ∈ gW := gT_1 61 _ rfl rfl
set_option maxRecDepth 10000 in
theorem im_Tom_init : Cond.instanceMethod y_Tom_init ∈ gW := gT_1 65 _ rfl rfl
set_option maxRecDepth 10000 in
theorem co_Tom_init : Cond.code y_Tom_init prog_11_method_1_code 1 none ∈ gW := gT_1 66 _ rfl rfl
set_option maxRecDepth 10000 in
theorem su_Tom_Talk : Cond.superclass "BesideTom$TomKind" "BesideTom$TalkerKind" ∈ gW := gT_1 68 _ rfl rfl
set_option maxRecDepth 10000 in
theorem im_Cork_init : Cond.instanceMethod y_Cork_init ∈ gW := gT_1 72 _ rfl rfl
set_option maxRecDepth 10000 in
theorem co_Cork_init : Cond.code y_Cork_init prog_2_method_1_code 1 none ∈ gW := gT_1 73 _ rfl rfl
set_option maxRecDepth 10000 in
theorem su_Cork_Quiet : Cond.superclass "BesideTom$CorkKind" "BesideTom$QuietKind" ∈ gW := gT_1 75 _ rfl rfl
set_option maxRecDepth 10000 in
theorem im_Told_init : Cond.instanceMethod y_Told_init ∈ gW := gT_1 79 _ rfl rfl
set_option maxRecDepth 10000 in
theorem co_Told_init : Cond.code y_Told_init prog_10_method_1_code 1 none ∈ gW := gT_1 80 _ rfl rfl
set_option maxRecDepth 10000 in
theorem su_Told_Short : Cond.superclass "BesideTom$ToldKind" "BesideTom$ShortKind" ∈ gW := gT_1 82 _ rfl rfl
set_option maxRecDepth 10000 in
theorem ml_BT_49 : Cond.methodLink "BesideTom" 49 y_Seat_init ∈ gW := gT_1 85 _ rfl rfl
set_option maxRecDepth 10000 in
theorem im_Seat_init : Cond.instanceMethod y_Seat_init ∈ gW := gT_1 86 _ rfl rfl
set_option maxRecDepth 10000 in
theorem co_Seat_init : Cond.code y_Seat_init prog_7_method_1_code 2 none ∈ gW := gT_1 87 _ rfl rfl
set_option maxRecDepth 10000 in
theorem ml_Seat_3 : Cond.methodLink "BesideTom$Seating" 3 y_Obj_init ∈ gW := gT_1 88 _ rfl rfl
set_option maxRecDepth 10000 in
theorem ml_Seat_42 : Cond.methodLink "BesideTom$Seating" 42 y_Rows_init ∈ gW := gT_1 91 _ rfl rfl
set_option maxRecDepth 10000 in
theorem im_Rows_init : Cond.instanceMethod y_Rows_init ∈ gW := gT_1 92 _ rfl rfl
set_option maxRecDepth 10000 in
theorem co_Rows_init : Cond.code y_Rows_init prog_6_method_1_code 2 none ∈ gW := gT_1 93 _ rfl rfl
set_option maxRecDepth 10000 in
theorem ml_Rows_3 : Cond.methodLink "BesideTom$Rows" 3 y_Obj_init ∈ gW := gT_1 94 _ rfl rfl
set_option maxRecDepth 10000 in
theorem ml_Rows_9 : Cond.methodLink "BesideTom$Rows" 9 y_Math_max ∈ gW := gT_1 95 _ rfl rfl
set_option maxRecDepth 10000 in
theorem sm_Math_max : Cond.static y_Math_max ∈ gW := gT_1 96 _ rfl rfl
set_option maxRecDepth 10000 in
theorem co_Math_max : Cond.code y_Math_max prog_16_method_65_code 2 (some (FieldType.int)) ∈ gW := gT_1 97 _ rfl rfl
set_option maxRecDepth 10000 in
theorem fl_Rows_15 : Cond.fieldLink "BesideTom$Rows" 15 "BesideTom$Rows" "first" "[I" ∈ gW := gT_1 98 _ rfl rfl
set_option maxRecDepth 10000 in
theorem fl_Seat_155 : Cond.fieldLink "BesideTom$Seating" 155 "BesideTom$Rows" "first" "[I" ∈ gW := gT_1 99 _ rfl rfl
set_option maxRecDepth 10000 in
theorem fl_BT_270 : Cond.fieldLink "BesideTom" 270 "BesideTom$Rows" "first" "[I" ∈ gW := gT_1 100 _ rfl rfl
set_option maxRecDepth 10000 in
theorem fl_Rows_21 : Cond.fieldLink "BesideTom$Rows" 21 "BesideTom$Rows" "second" "[I" ∈ gW := gT_1 101 _ rfl rfl
set_option maxRecDepth 10000 in
theorem fl_Seat_152 : Cond.fieldLink "BesideTom$Seating" 152 "BesideTom$Rows" "second" "[I" ∈ gW := gT_1 102 _ rfl rfl
set_option maxRecDepth 10000 in
theorem fl_BT_267 : Cond.fieldLink "BesideTom" 267 "BesideTom$Rows" "second" "[I" ∈ gW := gT_1 103 _ rfl rfl
set_option maxRecDepth 10000 in
theorem fl_Rows_24 : Cond.fieldLink "BesideTom$Rows" 24 "BesideTom$Rows" "many" "I" ∈ gW := gT_1 104 _ rfl rfl
set_option maxRecDepth 10000 in
theorem fl_Seat_151 : Cond.fieldLink "BesideTom$Seating" 151 "BesideTom$Rows" "many" "I" ∈ gW := gT_1 105 _ rfl rfl
set_option maxRecDepth 10000 in
theorem fl_BT_266 : Cond.fieldLink "BesideTom" 266 "BesideTom$Rows" "many" "I" ∈ gW := gT_1 106 _ rfl rfl
set_option maxRecDepth 10000 in
theorem su_Rows_Obj : Cond.superclass "BesideTom$Rows" "java/lang/Object" ∈ gW := gT_1 113 _ rfl rfl
set_option maxRecDepth 10000 in
theorem fl_Seat_55 : Cond.fieldLink "BesideTom$Seating" 55 "BesideTom$Seating" "kinds" "[LBesideTom$PupilKind;" ∈ gW := gT_1 114 _ rfl rfl
set_option maxRecDepth 10000 in
theorem fl_Seat_59 : Cond.fieldLink "BesideTom$Seating" 59 "BesideTom$Seating" "many" "I" ∈ gW := gT_1 115 _ rfl rfl
set_option maxRecDepth 10000 in
theorem fl_BT_80 : Cond.fieldLink "BesideTom" 80 "BesideTom$Seating" "many" "I" ∈ gW := gT_1 116 _ rfl rfl
set_option maxRecDepth 10000 in
theorem fl_Seat_62 : Cond.fieldLink "BesideTom$Seating" 62 "BesideTom$Seating" "week" "I" ∈ gW := gT_1 117 _ rfl rfl
set_option maxRecDepth 10000 in
theorem fl_BT_173 : Cond.fieldLink "BesideTom" 173 "BesideTom$Seating" "week" "I" ∈ gW := gT_1 118 _ rfl rfl
set_option maxRecDepth 10000 in
theorem fl_Seat_65 : Cond.fieldLink "BesideTom$Seating" 65 "BesideTom$Seating" "wear" "I" ∈ gW := gT_1 119 _ rfl rfl
set_option maxRecDepth 10000 in
theorem fl_BT_176 : Cond.fieldLink "BesideTom" 176 "BesideTom$Seating" "wear" "I" ∈ gW := gT_1 120 _ rfl rfl
set_option maxRecDepth 10000 in
theorem fl_Seat_9 : Cond.fieldLink "BesideTom$Seating" 9 "BesideTom$Seating" "wears" "I" ∈ gW := gT_1 121 _ rfl rfl
set_option maxRecDepth 10000 in
theorem fl_BT_158 : Cond.fieldLink "BesideTom" 158 "BesideTom$Seating" "wears" "I" ∈ gW := gT_1 122 _ rfl rfl
set_option maxRecDepth 10000 in
theorem fl_Seat_15 : Cond.fieldLink "BesideTom$Seating" 15 "BesideTom$Seating" "cost" "I" ∈ gW := gT_1 123 _ rfl rfl
set_option maxRecDepth 10000 in
theorem fl_BT_162 : Cond.fieldLink "BesideTom" 162 "BesideTom$Seating" "cost" "I" ∈ gW := gT_1 124 _ rfl rfl
set_option maxRecDepth 10000 in
theorem fl_Seat_18 : Cond.fieldLink "BesideTom$Seating" 18 "BesideTom$Seating" "held" "I" ∈ gW := gT_1 125 _ rfl rfl
set_option maxRecDepth 10000 in
theorem fl_Rooms_24 : Cond.fieldLink "BesideTom$Rooms" 24 "BesideTom$Seating" "held" "I" ∈ gW := gT_1 126 _ rfl rfl
set_option maxRecDepth 10000 in
theorem fl_BT_167 : Cond.fieldLink "BesideTom" 167 "BesideTom$Seating" "held" "I" ∈ gW := gT_1 127 _ rfl rfl
set_option maxRecDepth 10000 in
theorem fl_Seat_68 : Cond.fieldLink "BesideTom$Seating" 68 "BesideTom$Seating" "away" "I" ∈ gW := gT_1 128 _ rfl rfl
set_option maxRecDepth 10000 in
theorem fl_Seat_71 : Cond.fieldLink "BesideTom$Seating" 71 "BesideTom$Seating" "corks" "I" ∈ gW := gT_1 129 _ rfl rfl
set_option maxRecDepth 10000 in
theorem fl_Seat_21 : Cond.fieldLink "BesideTom$Seating" 21 "BesideTom$Seating" "kind" "[I" ∈ gW := gT_1 130 _ rfl rfl
set_option maxRecDepth 10000 in
theorem fl_BT_99 : Cond.fieldLink "BesideTom" 99 "BesideTom$Seating" "kind" "[I" ∈ gW := gT_1 131 _ rfl rfl
set_option maxRecDepth 10000 in
theorem fl_Rooms_73 : Cond.fieldLink "BesideTom$Rooms" 73 "BesideTom$Seating" "kind" "[I" ∈ gW := gT_1 132 _ rfl rfl
set_option maxRecDepth 10000 in
theorem fl_Seat_25 : Cond.fieldLink "BesideTom$Seating" 25 "BesideTom$Seating" "v" "[I" ∈ gW := gT_1 133 _ rfl rfl
set_option maxRecDepth 10000 in
theorem fl_BT_102 : Cond.fieldLink "BesideTom" 102 "BesideTom$Seating" "v" "[I" ∈ gW := gT_1 134 _ rfl rfl
set_option maxRecDepth 10000 in
theorem fl_Rooms_78 : Cond.fieldLink "BesideTom$Rooms" 78 "BesideTom$Seating" "v" "[I" ∈ gW := gT_1 135 _ rfl rfl
set_option maxRecDepth 10000 in
theorem fl_Seat_28 : Cond.fieldLink "BesideTom$Seating" 28 "BesideTom$Seating" "desk" "[I" ∈ gW := gT_1 136 _ rfl rfl
set_option maxRecDepth 10000 in
theorem fl_BT_105 : Cond.fieldLink "BesideTom" 105 "BesideTom$Seating" "desk" "[I" ∈ gW := gT_1 137 _ rfl rfl
set_option maxRecDepth 10000 in
theorem fl_Seat_31 : Cond.fieldLink "BesideTom$Seating" 31 "BesideTom$Seating" "knows" "[I" ∈ gW := gT_1 138 _ rfl rfl
set_option maxRecDepth 10000 in
theorem fl_BT_108 : Cond.fieldLink "BesideTom" 108 "BesideTom$Seating" "knows" "[I" ∈ gW := gT_1 139 _ rfl rfl
set_option maxRecDepth 10000 in
theorem fl_Seat_34 : Cond.fieldLink "BesideTom$Seating" 34 "BesideTom$Seating" "lines" "[I" ∈ gW := gT_1 140 _ rfl rfl
set_option maxRecDepth 10000 in
theorem fl_BT_141 : Cond.fieldLink "BesideTom" 141 "BesideTom$Seating" "lines" "[I" ∈ gW := gT_1 141 _ rfl rfl
set_option maxRecDepth 10000 in
theorem fl_Seat_37 : Cond.fieldLink "BesideTom$Seating" 37 "BesideTom$Seating" "mouths" "[I" ∈ gW := gT_1 142 _ rfl rfl
set_option maxRecDepth 10000 in
theorem fl_BT_96 : Cond.fieldLink "BesideTom" 96 "BesideTom$Seating" "mouths" "[I" ∈ gW := gT_1 143 _ rfl rfl
set_option maxRecDepth 10000 in
theorem fl_Rooms_33 : Cond.fieldLink "BesideTom$Rooms" 33 "BesideTom$Seating" "mouths" "[I" ∈ gW := gT_1 144 _ rfl rfl
set_option maxRecDepth 10000 in
theorem fl_Seat_45 : Cond.fieldLink "BesideTom$Seating" 45 "BesideTom$Seating" "heard" "LBesideTom$Rows;" ∈ gW := gT_1 145 _ rfl rfl
set_option maxRecDepth 10000 in
theorem fl_BT_236 : Cond.fieldLink "BesideTom" 236 "BesideTom$Seating" "heard" "LBesideTom$Rows;" ∈ gW := gT_1 146 _ rfl rfl
set_option maxRecDepth 10000 in
theorem fl_Seat_49 : Cond.fieldLink "BesideTom$Seating" 49 "BesideTom$Seating" "term" "LBesideTom$Rows;" ∈ gW := gT_1 147 _ rfl rfl
set_option maxRecDepth 10000 in
theorem fl_BT_263 : Cond.fieldLink "BesideTom" 263 "BesideTom$Seating" "term" "LBesideTom$Rows;" ∈ gW := gT_1 148 _ rfl rfl
set_option maxRecDepth 10000 in
theorem fl_Seat_52 : Cond.fieldLink "BesideTom$Seating" 52 "BesideTom$Seating" "book" "LBesideTom$Rows;" ∈ gW := gT_1 149 _ rfl rfl
set_option maxRecDepth 10000 in
theorem fl_BT_273 : Cond.fieldLink "BesideTom" 273 "BesideTom$Seating" "book" "LBesideTom$Rows;" ∈ gW := gT_1 150 _ rfl rfl
set_option maxRecDepth 10000 in
theorem su_Seat_Obj : Cond.superclass "BesideTom$Seating" "java/lang/Object" ∈ gW := gT_1 187 _ rfl rfl
set_option maxRecDepth 10000 in
theorem im_Rooms_init : Cond.instanceMethod y_Rooms_init ∈ gW := gT_1 191 _ rfl rfl
set_option maxRecDepth 10000 in
theorem co_Rooms_init : Cond.code y_Rooms_init prog_5_method_1_code 1 none ∈ gW := gT_1 192 _ rfl rfl
set_option maxRecDepth 10000 in
theorem ml_Rooms_3 : Cond.methodLink "BesideTom$Rooms" 3 y_Obj_init ∈ gW := gT_1 193 _ rfl rfl
set_option maxRecDepth 10000 in
theorem fl_Rooms_13 : Cond.fieldLink "BesideTom$Rooms" 13 "BesideTom$Rooms" "texts" "[[B" ∈ gW := gT_1 196 _ rfl rfl
set_option maxRecDepth 10000 in
theorem fl_Rooms_16 : Cond.fieldLink "BesideTom$Rooms" 16 "BesideTom$Rooms" "lengths" "[I" ∈ gW := gT_1 197 _ rfl rfl
set_option maxRecDepth 10000 in
theorem fl_Rooms_20 : Cond.fieldLink "BesideTom$Rooms" 20 "BesideTom$Rooms" "many" "I" ∈ gW := gT_1 198 _ rfl rfl
set_option maxRecDepth 10000 in
theorem fl_BT_147 : Cond.fieldLink "BesideTom" 147 "BesideTom$Rooms" "many" "I" ∈ gW := gT_1 199 _ rfl rfl
set_option maxRecDepth 10000 in
theorem fl_Rooms_43 : Cond.fieldLink "BesideTom$Rooms" 43 "BesideTom$Rooms" "row" "I" ∈ gW := gT_1 200 _ rfl rfl
set_option maxRecDepth 10000 in
theorem fl_Rooms_67 : Cond.fieldLink "BesideTom$Rooms" 67 "BesideTom$Rooms" "at" "I" ∈ gW := gT_1 201 _ rfl rfl
set_option maxRecDepth 10000 in
theorem fl_Rooms_46 : Cond.fieldLink "BesideTom$Rooms" 46 "BesideTom$Rooms" "sign" "I" ∈ gW := gT_1 202 _ rfl rfl
set_option maxRecDepth 10000 in
theorem fl_Rooms_64 : Cond.fieldLink "BesideTom$Rooms" 64 "BesideTom$Rooms" "fault" "I" ∈ gW := gT_1 203 _ rfl rfl
set_option maxRecDepth 10000 in
theorem fl_Rooms_70 : Cond.fieldLink "BesideTom$Rooms" 70 "BesideTom$Rooms" "pupil" "I" ∈ gW := gT_1 204 _ rfl rfl
set_option maxRecDepth 10000 in
theorem fl_Rooms_76 : Cond.fieldLink "BesideTom$Rooms" 76 "BesideTom$Rooms" "kind" "I" ∈ gW := gT_1 205 _ rfl rfl
set_option maxRecDepth 10000 in
theorem fl_Rooms_81 : Cond.fieldLink "BesideTom$Rooms" 81 "BesideTom$Rooms" "v" "I" ∈ gW := gT_1 206 _ rfl rfl
set_option maxRecDepth 10000 in
theorem fl_Rooms_83 : Cond.fieldLink "BesideTom$Rooms" 83 "BesideTom$Rooms" "desk" "I" ∈ gW := gT_1 207 _ rfl rfl
set_option maxRecDepth 10000 in
theorem fl_Rooms_36 : Cond.fieldLink "BesideTom$Rooms" 36 "BesideTom$Rooms" "mouth" "I" ∈ gW := gT_1 208 _ rfl rfl
set_option maxRecDepth 10000 in
theorem fl_Rooms_86 : Cond.fieldLink "BesideTom$Rooms" 86 "BesideTom$Rooms" "wears" "I" ∈ gW := gT_1 209 _ rfl rfl
set_option maxRecDepth 10000 in
theorem fl_BT_155 : Cond.fieldLink "BesideTom" 155 "BesideTom$Rooms" "wears" "I" ∈ gW := gT_1 210 _ rfl rfl
set_option maxRecDepth 10000 in
theorem fl_Rooms_89 : Cond.fieldLink "BesideTom$Rooms" 89 "BesideTom$Rooms" "cost" "I" ∈ gW := gT_1 211 _ rfl rfl
set_option maxRecDepth 10000 in
theorem fl_BT_159 : Cond.fieldLink "BesideTom" 159 "BesideTom$Rooms" "cost" "I" ∈ gW := gT_1 212 _ rfl rfl
set_option maxRecDepth 10000 in
theorem su_Rooms_Obj : Cond.superclass "BesideTom$Rooms" "java/lang/Object" ∈ gW := gT_2 1 _ rfl rfl
set_option maxRecDepth 10000 in
theorem im_Trace_init : Cond.instanceMethod y_Trace_init ∈ gW := gT_2 6 _ rfl rfl
set_option maxRecDepth 10000 in
theorem co_Trace_init : Cond.code y_Trace_init prog_12_method_1_code 1 none ∈ gW := gT_2 7 _ rfl rfl
set_option maxRecDepth 10000 in
theorem ml_Trace_1 : Cond.methodLink "BesideTom$Trace" 1 y_Obj_init ∈ gW := gT_2 8 _ rfl rfl
set_option maxRecDepth 10000 in
theorem fl_Trace_9 : Cond.fieldLink "BesideTom$Trace" 9 "BesideTom$Trace" "bodies" "[I" ∈ gW := gT_2 9 _ rfl rfl
set_option maxRecDepth 10000 in
theorem fl_BT_308 : Cond.fieldLink "BesideTom" 308 "BesideTom$Trace" "bodies" "[I" ∈ gW := gT_2 10 _ rfl rfl
set_option maxRecDepth 10000 in
theorem fl_Trace_13 : Cond.fieldLink "BesideTom$Trace" 13 "BesideTom$Trace" "ran" "I" ∈ gW := gT_2 11 _ rfl rfl
set_option maxRecDepth 10000 in
theorem fl_BT_283 : Cond.fieldLink "BesideTom" 283 "BesideTom$Trace" "ran" "I" ∈ gW := gT_2 12 _ rfl rfl
set_option maxRecDepth 10000 in
theorem fl_PK_13 : Cond.fieldLink "BesideTom$PupilKind" 13 "BesideTom$Trace" "number" "I" ∈ gW := gT_2 13 _ rfl rfl
set_option maxRecDepth 10000 in
theorem fl_Cork_23 : Cond.fieldLink "BesideTom$CorkKind" 23 "BesideTom$Trace" "number" "I" ∈ gW := gT_2 14 _ rfl rfl
set_option maxRecDepth 10000 in
theorem fl_BT_286 : Cond.fieldLink "BesideTom" 286 "BesideTom$Trace" "number" "I" ∈ gW := gT_2 15 _ rfl rfl
set_option maxRecDepth 10000 in
theorem fl_Told_30 : Cond.fieldLink "BesideTom$ToldKind" 30 "BesideTom$Trace" "v" "I" ∈ gW := gT_2 16 _ rfl rfl
set_option maxRecDepth 10000 in
theorem fl_PK_23 : Cond.fieldLink "BesideTom$PupilKind" 23 "BesideTom$Trace" "v" "I" ∈ gW := gT_2 17 _ rfl rfl
set_option maxRecDepth 10000 in
theorem fl_BT_289 : Cond.fieldLink "BesideTom" 289 "BesideTom$Trace" "v" "I" ∈ gW := gT_2 18 _ rfl rfl
set_option maxRecDepth 10000 in
theorem su_Trace_Obj : Cond.superclass "BesideTom$Trace" "java/lang/Object" ∈ gW := gT_2 27 _ rfl rfl
set_option maxRecDepth 10000 in
theorem fl_BT_52 : Cond.fieldLink "BesideTom" 52 "BesideTom" "now" "LBesideTom$Seating;" ∈ gW := gT_2 28 _ rfl rfl
set_option maxRecDepth 10000 in
theorem fl_BT_56 : Cond.fieldLink "BesideTom" 56 "BesideTom" "asked" "LBesideTom$Seating;" ∈ gW := gT_2 29 _ rfl rfl
set_option maxRecDepth 10000 in
theorem fl_BT_59 : Cond.fieldLink "BesideTom" 59 "BesideTom" "kept" "LBesideTom$Seating;" ∈ gW := gT_2 30 _ rfl rfl
set_option maxRecDepth 10000 in
theorem fl_BT_279 : Cond.fieldLink "BesideTom" 279 "BesideTom" "imaged" "Z" ∈ gW := gT_2 31 _ rfl rfl
set_option maxRecDepth 10000 in
theorem fl_BT_65 : Cond.fieldLink "BesideTom" 65 "BesideTom" "rooms" "LBesideTom$Rooms;" ∈ gW := gT_2 32 _ rfl rfl
set_option maxRecDepth 10000 in
theorem fl_BT_72 : Cond.fieldLink "BesideTom" 72 "BesideTom" "trace" "LBesideTom$Trace;" ∈ gW := gT_2 33 _ rfl rfl
set_option maxRecDepth 10000 in
theorem fl_BT_11 : Cond.fieldLink "BesideTom" 11 "BesideTom" "plan" "[I" ∈ gW := gT_2 34 _ rfl rfl
set_option maxRecDepth 10000 in
theorem fl_BT_17 : Cond.fieldLink "BesideTom" 17 "BesideTom" "tapes" "[[J" ∈ gW := gT_2 35 _ rfl rfl
set_option maxRecDepth 10000 in
theorem fl_BT_20 : Cond.fieldLink "BesideTom" 20 "BesideTom" "sorts" "[I" ∈ gW := gT_2 36 _ rfl rfl
set_option maxRecDepth 10000 in
theorem fl_BT_23 : Cond.fieldLink "BesideTom" 23 "BesideTom" "sizes" "[I" ∈ gW := gT_2 37 _ rfl rfl
set_option maxRecDepth 10000 in
theorem su_BT_Obj : Cond.superclass "BesideTom" "java/lang/Object" ∈ gW := gT_2 58 _ rfl rfl
set_option maxRecDepth 10000 in
theorem ml_Law_13 : Cond.methodLink "BesideTomLaw" 13 y_BT_pupil ∈ gW := gT_2 59 _ rfl rfl
set_option maxRecDepth 10000 in
theorem im_BT_pupil : Cond.instanceMethod y_BT_pupil ∈ gW := gT_2 60 _ rfl rfl
set_option maxRecDepth 10000 in
theorem sl_BT_BT_pupil_BT_pupil : Cond.selects "BesideTom" y_BT_pupil y_BT_pupil ∈ gW := gT_2 61 _ rfl rfl
set_option maxRecDepth 10000 in
theorem co_BT_pupil : Cond.code y_BT_pupil prog_1_method_2_code 4 (some (FieldType.int)) ∈ gW := gT_2 62 _ rfl rfl
set_option maxRecDepth 10000 in
theorem ml_BT_76 : Cond.methodLink "BesideTom" 76 y_BT_within ∈ gW := gT_2 63 _ rfl rfl
set_option maxRecDepth 10000 in
theorem sm_BT_within : Cond.static y_BT_within ∈ gW := gT_2 64 _ rfl rfl
set_option maxRecDepth 10000 in
theorem co_BT_within : Cond.code y_BT_within prog_1_method_51_code 3 (some (FieldType.boolean)) ∈ gW := gT_2 65 _ rfl rfl
set_option maxRecDepth 10000 in
theorem ml_BT_84 : Cond.methodLink "BesideTom" 84 y_Seat_adds ∈ gW := gT_2 66 _ rfl rfl
set_option maxRecDepth 10000 in
theorem im_Seat_adds : Cond.instanceMethod y_Seat_adds ∈ gW := gT_2 67 _ rfl rfl
set_option maxRecDepth 10000 in
theorem sl_Seat_Seat_adds_Seat_adds : Cond.selects "BesideTom$Seating" y_Seat_adds y_Seat_adds ∈ gW := gT_2 68 _ rfl rfl
set_option maxRecDepth 10000 in
theorem co_Seat_adds : Cond.code y_Seat_adds prog_7_method_3_code 6 (some (FieldType.int)) ∈ gW := gT_2 69 _ rfl rfl
set_option maxRecDepth 10000 in
theorem ml_Seat_84 : Cond.methodLink "BesideTom$Seating" 84 y_Seat_whoHas ∈ gW := gT_2 70 _ rfl rfl
set_option maxRecDepth 10000 in
theorem im_Seat_whoHas : Cond.instanceMethod y_Seat_whoHas ∈ gW := gT_2 71 _ rfl rfl
set_option maxRecDepth 10000 in
theorem sl_Seat_Seat_whoHas_Seat_whoHas : Cond.selects "BesideTom$Seating" y_Seat_whoHas y_Seat_whoHas ∈ gW := gT_2 72 _ rfl rfl
set_option maxRecDepth 10000 in
theorem co_Seat_whoHas : Cond.code y_Seat_whoHas prog_7_method_8_code 3 (some (FieldType.int)) ∈ gW := gT_2 73 _ rfl rfl
set_option maxRecDepth 10000 in
theorem ml_Seat_88 : Cond.methodLink "BesideTom$Seating" 88 y_Seat_setAway ∈ gW := gT_2 74 _ rfl rfl
set_option maxRecDepth 10000 in
theorem im_Seat_setAway : Cond.instanceMethod y_Seat_setAway ∈ gW := gT_2 75 _ rfl rfl
set_option maxRecDepth 10000 in
theorem sl_Seat_Seat_setAway_Seat_setAway : Cond.selects "BesideTom$Seating" y_Seat_setAway y_Seat_setAway ∈ gW := gT_2 76 _ rfl rfl
set_option maxRecDepth 10000 in
theorem co_Seat_setAway : Cond.code y_Seat_setAway prog_7_method_7_code 3 none ∈ gW := gT_2 77 _ rfl rfl
set_option maxRecDepth 10000 in
theorem ml_BT_88 : Cond.methodLink "BesideTom" 88 y_Rooms_settles ∈ gW := gT_2 78 _ rfl rfl
set_option maxRecDepth 10000 in
theorem im_Rooms_settles : Cond.instanceMethod y_Rooms_settles ∈ gW := gT_2 79 _ rfl rfl
set_option maxRecDepth 10000 in
theorem sl_Rooms_Rooms_settles_Rooms_settles : Cond.selects "BesideTom$Rooms" y_Rooms_settles y_Rooms_settles ∈ gW := gT_2 80 _ rfl rfl
set_option maxRecDepth 10000 in
theorem co_Rooms_settles : Cond.code y_Rooms_settles prog_5_method_6_code 6 none ∈ gW := gT_2 81 _ rfl rfl
set_option maxRecDepth 10000 in
theorem ml_Rooms_29 : Cond.methodLink "BesideTom$Rooms" 29 y_Rooms_reads ∈ gW := gT_2 82 _ rfl rfl
set_option maxRecDepth 10000 in
theorem im_Rooms_reads : Cond.instanceMethod y_Rooms_reads ∈ gW := gT_2 83 _ rfl rfl
set_option maxRecDepth 10000 in
theorem sl_Rooms_Rooms_reads_Rooms_reads : Cond.selects "BesideTom$Rooms" y_Rooms_reads y_Rooms_reads ∈ gW := gT_2 84 _ rfl rfl
set_option maxRecDepth 10000 in
theorem co_Rooms_reads : Cond.code y_Rooms_reads prog_5_method_7_code 6 (some (FieldType.int)) ∈ gW := gT_2 85 _ rfl rfl
set_option maxRecDepth 10000 in
theorem ml_Rooms_39 : Cond.methodLink "BesideTom$Rooms" 39 y_Rooms_begins ∈ gW := gT_2 86 _ rfl rfl
set_option maxRecDepth 10000 in
theorem im_Rooms_begins : Cond.instanceMethod y_Rooms_begins ∈ gW := gT_2 88 _ rfl rfl
set_option maxRecDepth 10000 in
theorem co_Rooms_begins : Cond.code y_Rooms_begins prog_5_method_8_code 5 none ∈ gW := gT_2 89 _ rfl rfl
set_option maxRecDepth 10000 in
theorem ml_Rooms_49 : Cond.methodLink "BesideTom$Rooms" 49 y_Rooms_steps ∈ gW := gT_2 90 _ rfl rfl
set_option maxRecDepth 10000 in
theorem im_Rooms_steps : Cond.instanceMethod y_Rooms_steps ∈ gW := gT_2 92 _ rfl rfl
set_option maxRecDepth 10000 in
theorem co_Rooms_steps : Cond.code y_Rooms_steps prog_5_method_9_code 1 none ∈ gW := gT_2 93 _ rfl rfl
set_option maxRecDepth 10000 in
theorem ml_Rooms_52 : Cond.methodLink "BesideTom$Rooms" 52 y_Rooms_clause ∈ gW := gT_2 94 _ rfl rfl
set_option maxRecDepth 10000 in
theorem im_Rooms_clause : Cond.instanceMethod y_Rooms_clause ∈ gW := gT_2 96 _ rfl rfl
set_option maxRecDepth 10000 in
theorem co_Rooms_clause : Cond.code y_Rooms_clause prog_5_method_12_code 3 none ∈ gW := gT_2 97 _ rfl rfl
set_option maxRecDepth 10000 in
theorem ml_Rooms_92 : Cond.methodLink "BesideTom$Rooms" 92 y_Rooms_word ∈ gW := gT_2 98 _ rfl rfl
set_option maxRecDepth 10000 in
theorem im_Rooms_word : Cond.instanceMethod y_Rooms_word ∈ gW := gT_2 100 _ rfl rfl
set_option maxRecDepth 10000 in
theorem co_Rooms_word : Cond.code y_Rooms_word prog_5_method_13_code 5 (some (FieldType.int)) ∈ gW := gT_2 101 _ rfl rfl
set_option maxRecDepth 10000 in
theorem ml_Rooms_109 : Cond.methodLink "BesideTom$Rooms" 109 y_Str_charAt ∈ gW := gT_2 103 _ rfl rfl
set_option maxRecDepth 10000 in
theorem im_Str_charAt : Cond.instanceMethod y_Str_charAt ∈ gW := gT_2 104 _ rfl rfl
set_option maxRecDepth 10000 in
theorem sl_Str_Str_charAt_Str_charAt : Cond.selects "java/lang/String" y_Str_charAt y_Str_charAt ∈ gW := gT_2 105 _ rfl rfl
set_option maxRecDepth 10000 in
theorem co_Str_charAt : Cond.code y_Str_charAt prog_17_method_56_code 2 (some (FieldType.char)) ∈ gW := gT_2 106 _ rfl rfl
set_option maxRecDepth 10000 in
theorem ml_Str_492 : Cond.methodLink "java/lang/String" 492 y_Str_isLatin1 ∈ gW := gT_2 107 _ rfl rfl
set_option maxRecDepth 10000 in
theorem im_Str_isLatin1 : Cond.instanceMethod y_Str_isLatin1 ∈ gW := gT_2 108 _ rfl rfl
set_option maxRecDepth 10000 in
theorem sl_Str_Str_isLatin1_Str_isLatin1 : Cond.selects "java/lang/String" y_Str_isLatin1 y_Str_isLatin1 ∈ gW := gT_2 109 _ rfl rfl
set_option maxRecDepth 10000 in
theorem co_Str_isLatin1 : Cond.code y_Str_isLatin1 prog_17_method_154_code 1 (some (FieldType.boolean)) ∈ gW := gT_2 110 _ rfl rfl
set_option maxRecDepth 10000 in
theorem fl_Str_38 : Cond.fieldLink "java/lang/String" 38 "java/lang/String" "COMPACT_STRINGS" "Z" ∈ gW := gT_2 111 _ rfl rfl
set_option maxRecDepth 10000 in
theorem ml_Str_495 : Cond.methodLink "java/lang/String" 495 y_SL1_charAt ∈ gW := gT_2 113 _ rfl rfl
set_option maxRecDepth 10000 in
theorem sm_SL1_charAt : Cond.static y_SL1_charAt ∈ gW := gT_2 114 _ rfl rfl
set_option maxRecDepth 10000 in
theorem co_SL1_charAt : Cond.code y_SL1_charAt prog_18_method_2_code 2 (some (FieldType.char)) ∈ gW := gT_2 115 _ rfl rfl
set_option maxRecDepth 10000 in
theorem ml_SL1_9 : Cond.methodLink "java/lang/StringLatin1" 9 y_Str_checkIndex ∈ gW := gT_2 116 _ rfl rfl
set_option maxRecDepth 10000 in
theorem sm_Str_checkIndex : Cond.static y_Str_checkIndex ∈ gW := gT_2 117 _ rfl rfl
set_option maxRecDepth 10000 in
theorem co_Str_checkIndex : Cond.code y_Str_checkIndex prog_17_method_155_code 2 none ∈ gW := gT_2 118 _ rfl rfl
set_option maxRecDepth 10000 in
theorem fl_Str_1053 : Cond.fieldLink "java/lang/String" 1053 "jdk/internal/util/Preconditions" "SIOOBE_FORMATTER" "Ljava/util/function/BiFunction;" ∈ gW := gT_2 119 _ rfl rfl
set_option maxRecDepth 10000 in
theorem ml_Str_1059 : Cond.methodLink "java/lang/String" 1059 y_Pre_checkIndex ∈ gW := gT_2 121 _ rfl rfl
set_option maxRecDepth 10000 in
theorem sm_Pre_checkIndex : Cond.static y_Pre_checkIndex ∈ gW := gT_2 122 _ rfl rfl
set_option maxRecDepth 10000 in
theorem co_Pre_checkIndex : Cond.code y_Pre_checkIndex prog_21_method_11_code 3 (some (FieldType.int)) ∈ gW := gT_2 123 _ rfl rfl
set_option maxRecDepth 10000 in
theorem ml_Str_498 : Cond.methodLink "java/lang/String" 498 y_U16_charAt ∈ gW := gT_2 124 _ rfl rfl
set_option maxRecDepth 10000 in
theorem sm_U16_charAt : Cond.static y_U16_charAt ∈ gW := gT_2 125 _ rfl rfl
set_option maxRecDepth 10000 in
theorem co_U16_charAt : Cond.code y_U16_charAt prog_19_method_83_code 2 (some (FieldType.char)) ∈ gW := gT_2 126 _ rfl rfl
set_option maxRecDepth 10000 in
theorem ml_U16_67 : Cond.methodLink "java/lang/StringUTF16" 67 y_U16_checkIndex ∈ gW := gT_2 127 _ rfl rfl
set_option maxRecDepth 10000 in
theorem sm_U16_checkIndex : Cond.static y_U16_checkIndex ∈ gW := gT_2 128 _ rfl rfl
set_option maxRecDepth 10000 in
theorem co_U16_checkIndex : Cond.code y_U16_checkIndex prog_19_method_91_code 2 none ∈ gW := gT_2 129 _ rfl rfl
set_option maxRecDepth 10000 in
theorem ml_U16_48 : Cond.methodLink "java/lang/StringUTF16" 48 y_U16_length ∈ gW := gT_2 130 _ rfl rfl
set_option maxRecDepth 10000 in
theorem sm_U16_length : Cond.static y_U16_length ∈ gW := gT_2 131 _ rfl rfl
set_option maxRecDepth 10000 in
theorem co_U16_length : Cond.code y_U16_length prog_19_method_6_code 1 (some (FieldType.int)) ∈ gW := gT_2 132 _ rfl rfl
set_option maxRecDepth 10000 in
theorem ml_U16_414 : Cond.methodLink "java/lang/StringUTF16" 414 y_Str_checkIndex ∈ gW := gT_2 133 _ rfl rfl
set_option maxRecDepth 10000 in
theorem ml_U16_71 : Cond.methodLink "java/lang/StringUTF16" 71 y_U16_getChar ∈ gW := gT_2 134 _ rfl rfl
set_option maxRecDepth 10000 in
theorem sm_U16_getChar : Cond.static y_U16_getChar ∈ gW := gT_2 135 _ rfl rfl
set_option maxRecDepth 10000 in
theorem co_U16_getChar : Cond.code y_U16_getChar prog_19_method_5_code 2 (some (FieldType.char)) ∈ gW := gT_2 136 _ rfl rfl
set_option maxRecDepth 10000 in
theorem fl_U16_44 : Cond.fieldLink "java/lang/StringUTF16" 44 "java/lang/StringUTF16" "$assertionsDisabled" "Z" ∈ gW := gT_2 137 _ rfl rfl
set_option maxRecDepth 10000 in
theorem fl_U16_59 : Cond.fieldLink "java/lang/StringUTF16" 59 "java/lang/StringUTF16" "HI_BYTE_SHIFT" "I" ∈ gW := gT_2 139 _ rfl rfl
set_option maxRecDepth 10000 in
theorem fl_U16_63 : Cond.fieldLink "java/lang/StringUTF16" 63 "java/lang/StringUTF16" "LO_BYTE_SHIFT" "I" ∈ gW := gT_2 141 _ rfl rfl
set_option maxRecDepth 10000 in
theorem ml_Rooms_55 : Cond.methodLink "BesideTom$Rooms" 55 y_Rooms_fails ∈ gW := gT_2 143 _ rfl rfl
set_option maxRecDepth 10000 in
theorem im_Rooms_fails : Cond.instanceMethod y_Rooms_fails ∈ gW := gT_2 145 _ rfl rfl
set_option maxRecDepth 10000 in
theorem co_Rooms_fails : Cond.code y_Rooms_fails prog_5_method_10_code 1 none ∈ gW := gT_2 146 _ rfl rfl
set_option maxRecDepth 10000 in
theorem ml_Rooms_96 : Cond.methodLink "BesideTom$Rooms" 96 y_Rooms_expects ∈ gW := gT_2 147 _ rfl rfl
set_option maxRecDepth 10000 in
theorem im_Rooms_expects : Cond.instanceMethod y_Rooms_expects ∈ gW := gT_2 149 _ rfl rfl
set_option maxRecDepth 10000 in
theorem co_Rooms_expects : Cond.code y_Rooms_expects prog_5_method_11_code 2 none ∈ gW := gT_2 150 _ rfl rfl
set_option maxRecDepth 10000 in
theorem ml_Rooms_100 : Cond.methodLink "BesideTom$Rooms" 100 y_Rooms_number ∈ gW := gT_2 151 _ rfl rfl
set_option maxRecDepth 10000 in
theorem im_Rooms_number : Cond.instanceMethod y_Rooms_number ∈ gW := gT_2 153 _ rfl rfl
set_option maxRecDepth 10000 in
theorem co_Rooms_number : Cond.code y_Rooms_number prog_5_method_14_code 2 (some (FieldType.int)) ∈ gW := gT_2 154 _ rfl rfl
set_option maxRecDepth 10000 in
theorem ml_Rooms_115 : Cond.methodLink "BesideTom$Rooms" 115 y_Rooms_isDigit ∈ gW := gT_2 155 _ rfl rfl
set_option maxRecDepth 10000 in
theorem im_Rooms_isDigit : Cond.instanceMethod y_Rooms_isDigit ∈ gW := gT_2 157 _ rfl rfl
set_option maxRecDepth 10000 in
theorem co_Rooms_isDigit : Cond.code y_Rooms_isDigit prog_5_method_15_code 1 (some (FieldType.boolean)) ∈ gW := gT_2 158 _ rfl rfl
set_option maxRecDepth 10000 in
theorem ml_Rooms_58 : Cond.methodLink "BesideTom$Rooms" 58 y_Math_max ∈ gW := gT_2 159 _ rfl rfl
set_option maxRecDepth 10000 in
theorem ml_Rooms_103 : Cond.methodLink "BesideTom$Rooms" 103 y_Rooms_either ∈ gW := gT_2 160 _ rfl rfl
set_option maxRecDepth 10000 in
theorem im_Rooms_either : Cond.instanceMethod y_Rooms_either ∈ gW := gT_2 162 _ rfl rfl
set_option maxRecDepth 10000 in
theorem co_Rooms_either : Cond.code y_Rooms_either prog_5_method_16_code 7 (some (FieldType.boolean)) ∈ gW := gT_2 163 _ rfl rfl
set_option maxRecDepth 10000 in
theorem ml_Rooms_119 : Cond.methodLink "BesideTom$Rooms" 119 y_Rooms_single ∈ gW := gT_2 164 _ rfl rfl
set_option maxRecDepth 10000 in
theorem im_Rooms_single : Cond.instanceMethod y_Rooms_single ∈ gW := gT_2 166 _ rfl rfl
set_option maxRecDepth 10000 in
theorem co_Rooms_single : Cond.code y_Rooms_single prog_5_method_17_code 5 (some (FieldType.boolean)) ∈ gW := gT_2 167 _ rfl rfl
set_option maxRecDepth 10000 in
theorem ml_Rooms_122 : Cond.methodLink "BesideTom$Rooms" 122 y_Rooms_test ∈ gW := gT_2 168 _ rfl rfl
set_option maxRecDepth 10000 in
theorem im_Rooms_test : Cond.instanceMethod y_Rooms_test ∈ gW := gT_2 170 _ rfl rfl
set_option maxRecDepth 10000 in
theorem co_Rooms_test : Cond.code y_Rooms_test prog_5_method_18_code 4 (some (FieldType.boolean)) ∈ gW := gT_2 171 _ rfl rfl
set_option maxRecDepth 10000 in
theorem ml_Rooms_125 : Cond.methodLink "BesideTom$Rooms" 125 y_Rooms_letter ∈ gW := gT_2 172 _ rfl rfl
set_option maxRecDepth 10000 in
theorem im_Rooms_letter : Cond.instanceMethod y_Rooms_letter ∈ gW := gT_2 174 _ rfl rfl
set_option maxRecDepth 10000 in
theorem co_Rooms_letter : Cond.code y_Rooms_letter prog_5_method_19_code 1 (some (FieldType.int)) ∈ gW := gT_2 175 _ rfl rfl
set_option maxRecDepth 10000 in
theorem ml_Law_18 : Cond.methodLink "BesideTomLaw" 18 y_BT_of ∈ gW := gT_2 176 _ rfl rfl
set_option maxRecDepth 10000 in
theorem im_BT_of : Cond.instanceMethod y_BT_of ∈ gW := gT_2 177 _ rfl rfl
set_option maxRecDepth 10000 in
theorem sl_BT_BT_of_BT_of : Cond.selects "BesideTom" y_BT_of y_BT_of ∈ gW := gT_2 178 _ rfl rfl
set_option maxRecDepth 10000 in
theorem co_BT_of : Cond.code y_BT_of prog_1_method_3_code 3 (some (FieldType.int)) ∈ gW := gT_2 179 _ rfl rfl
set_option maxRecDepth 10000 in
theorem ml_BT_92 : Cond.methodLink "BesideTom" 92 y_Seat_has ∈ gW := gT_2 180 _ rfl rfl
set_option maxRecDepth 10000 in
theorem im_Seat_has : Cond.instanceMethod y_Seat_has ∈ gW := gT_2 181 _ rfl rfl
set_option maxRecDepth 10000 in
theorem sl_Seat_Seat_has_Seat_has : Cond.selects "BesideTom$Seating" y_Seat_has y_Seat_has ∈ gW := gT_2 182 _ rfl rfl
set_option maxRecDepth 10000 in
theorem co_Seat_has : Cond.code y_Seat_has prog_7_method_4_code 2 (some (FieldType.boolean)) ∈ gW := gT_2 183 _ rfl rfl
set_option maxRecDepth 10000 in
theorem ml_BT_111 : Cond.methodLink "BesideTom" 111 y_Seat_isAway ∈ gW := gT_2 184 _ rfl rfl
set_option maxRecDepth 10000 in
theorem im_Seat_isAway : Cond.instanceMethod y_Seat_isAway ∈ gW := gT_2 185 _ rfl rfl
set_option maxRecDepth 10000 in
theorem sl_Seat_Seat_isAway_Seat_isAway : Cond.selects "BesideTom$Seating" y_Seat_isAway y_Seat_isAway ∈ gW := gT_2 186 _ rfl rfl
set_option maxRecDepth 10000 in
theorem co_Seat_isAway : Cond.code y_Seat_isAway prog_7_method_6_code 2 (some (FieldType.boolean)) ∈ gW := gT_2 187 _ rfl rfl
set_option maxRecDepth 10000 in
theorem sm_BT_bit : Cond.static y_BT_bit ∈ gW := gT_2 189 _ rfl rfl
set_option maxRecDepth 10000 in
theorem co_BT_bit : Cond.code y_BT_bit prog_1_method_52_code 2 (some (FieldType.boolean)) ∈ gW := gT_2 190 _ rfl rfl
set_option maxRecDepth 10000 in
theorem ml_BT_114 : Cond.methodLink "BesideTom" 114 y_Seat_neighbours ∈ gW := gT_2 191 _ rfl rfl
set_option maxRecDepth 10000 in
theorem im_Seat_neighbours : Cond.instanceMethod y_Seat_neighbours ∈ gW := gT_2 192 _ rfl rfl
set_option maxRecDepth 10000 in
theorem sl_Seat_Seat_neighbours_Seat_neighbours : Cond.selects "BesideTom$Seating" y_Seat_neighbours y_Seat_neighbours ∈ gW := gT_2 193 _ rfl rfl
set_option maxRecDepth 10000 in
theorem co_Seat_neighbours : Cond.code y_Seat_neighbours prog_7_method_12_code 4 (some (FieldType.int)) ∈ gW := gT_2 194 _ rfl rfl
set_option maxRecDepth 10000 in
theorem ml_Seat_100 : Cond.methodLink "BesideTom$Seating" 100 y_Seat_isAway ∈ gW := gT_2 195 _ rfl rfl
set_option maxRecDepth 10000 in
theorem fl_Seat_104 : Cond.fieldLink "BesideTom$Seating" 104 "BesideTom$Seating" "NEXT" "[I" ∈ gW := gT_2 196 _ rfl rfl
set_option maxRecDepth 10000 in
theorem ml_BT_118 : Cond.methodLink "BesideTom" 118 y_Seat_voice ∈ gW := gT_2 198 _ rfl rfl
set_option maxRecDepth 10000 in
theorem im_Seat_voice : Cond.instanceMethod y_Seat_voice ∈ gW := gT_2 199 _ rfl rfl
set_option maxRecDepth 10000 in
theorem sl_Seat_Seat_voice_Seat_voice : Cond.selects "BesideTom$Seating" y_Seat_voice y_Seat_voice ∈ gW := gT_2 200 _ rfl rfl
set_option maxRecDepth 10000 in
theorem co_Seat_voice : Cond.code y_Seat_voice prog_7_method_13_code 5 (some (FieldType.int)) ∈ gW := gT_2 201 _ rfl rfl
set_option maxRecDepth 10000 in
theorem ml_Seat_107 : Cond.methodLink "BesideTom$Seating" 107 y_Seat_neighbours ∈ gW := gT_2 202 _ rfl rfl
set_option maxRecDepth 10000 in
theorem ml_Seat_110 : Cond.methodLink "BesideTom$Seating" 110 y_Int_bitCount ∈ gW := gT_2 203 _ rfl rfl
set_option maxRecDepth 10000 in
theorem sm_Int_bitCount : Cond.static y_Int_bitCount ∈ gW := gT_2 204 _ rfl rfl
set_option maxRecDepth 10000 in
theorem co_Int_bitCount : Cond.code y_Int_bitCount prog_15_method_49_code 1 (some (FieldType.int)) ∈ gW := gT_2 205 _ rfl rfl
set_option maxRecDepth 10000 in
theorem k_Int_265 : Cond.constant "java/lang/Integer" 265 (1431655765) ∈ gW := gT_2 206 _ rfl rfl
set_option maxRecDepth 10000 in
theorem k_Int_266 : Cond.constant "java/lang/Integer" 266 (858993459) ∈ gW := gT_2 207 _ rfl rfl
set_option maxRecDepth 10000 in
theorem k_Int_267 : Cond.constant "java/lang/Integer" 267 (252645135) ∈ gW := gT_2 208 _ rfl rfl
set_option maxRecDepth 10000 in
theorem ml_Seat_115 : Cond.methodLink "BesideTom$Seating" 115 y_Seat_kindOf ∈ gW := gT_2 209 _ rfl rfl
set_option maxRecDepth 10000 in
theorem im_Seat_kindOf : Cond.instanceMethod y_Seat_kindOf ∈ gW := gT_2 210 _ rfl rfl
set_option maxRecDepth 10000 in
theorem sl_Seat_Seat_kindOf_Seat_kindOf : Cond.selects "BesideTom$Seating" y_Seat_kindOf y_Seat_kindOf ∈ gW := gT_2 211 _ rfl rfl
set_option maxRecDepth 10000 in
theorem co_Seat_kindOf : Cond.code y_Seat_kindOf prog_7_method_5_code 2 (some ((FieldType.object "BesideTom$PupilKind"))) ∈ gW := gT_2 212 _ rfl rfl
set_option maxRecDepth 10000 in
theorem ml_Seat_119 : Cond.methodLink "BesideTom$Seating" 119 y_PK_voice ∈ gW := gT_2 213 _ rfl rfl
set_option maxRecDepth 10000 in
theorem im_PK_voice : Cond.instanceMethod y_PK_voice ∈ gW := gT_2 214 _ rfl rfl
set_option maxRecDepth 10000 in
theorem sl_PK_PK_voice_PK_voice : Cond.selects "BesideTom$PupilKind" y_PK_voice y_PK_voice ∈ gW := gT_2 215 _ rfl rfl
set_option maxRecDepth 10000 in
theorem sa_PK_PK_voice : Cond.sameMethod "BesideTom$PupilKind" "BesideTom$PupilKind" "voice" "(IIII)I" ∈ gW := gT_2 216 _ rfl rfl
set_option maxRecDepth 10000 in
theorem sl_Cork_PK_voice_Cork_voice : Cond.selects "BesideTom$CorkKind" y_PK_voice y_Cork_voice ∈ gW := gT_2 217 _ rfl rfl
set_option maxRecDepth 10000 in
theorem im_Cork_voice : Cond.instanceMethod y_Cork_voice ∈ gW := gT_2 218 _ rfl rfl
set_option maxRecDepth 10000 in
theorem co_Cork_voice : Cond.code y_Cork_voice prog_2_method_3_code 5 (some (FieldType.int)) ∈ gW := gT_2 219 _ rfl rfl
set_option maxRecDepth 10000 in
theorem sl_Quiet_PK_voice_Quiet_voice : Cond.selects "BesideTom$QuietKind" y_PK_voice y_Quiet_voice ∈ gW := gT_2 220 _ rfl rfl
set_option maxRecDepth 10000 in
theorem im_Quiet_voice : Cond.instanceMethod y_Quiet_voice ∈ gW := gT_2 221 _ rfl rfl
set_option maxRecDepth 10000 in
theorem co_Quiet_voice : Cond.code y_Quiet_voice prog_4_method_3_code 5 (some (FieldType.int)) ∈ gW := gT_2 222 _ rfl rfl
set_option maxRecDepth 10000 in
theorem ml_Quiet_11 : Cond.methodLink "BesideTom$QuietKind" 11 y_PK_voice ∈ gW := gT_2 223 _ rfl rfl
set_option maxRecDepth 10000 in
theorem sl_Short_PK_voice_PK_voice : Cond.selects "BesideTom$ShortKind" y_PK_voice y_PK_voice ∈ gW := gT_2 224 _ rfl rfl
set_option maxRecDepth 10000 in
theorem sl_Talk_PK_voice_Talk_voice : Cond.selects "BesideTom$TalkerKind" y_PK_voice y_Talk_voice ∈ gW := gT_2 225 _ rfl rfl
set_option maxRecDepth 10000 in
theorem im_Talk_voice : Cond.instanceMethod y_Talk_voice ∈ gW := gT_2 226 _ rfl rfl
set_option maxRecDepth 10000 in
theorem co_Talk_voice : Cond.code y_Talk_voice prog_9_method_3_code 5 (some (FieldType.int)) ∈ gW := gT_2 227 _ rfl rfl
set_option maxRecDepth 10000 in
theorem ml_Talk_11 : Cond.methodLink "BesideTom$TalkerKind" 11 y_PK_voice ∈ gW := gT_2 228 _ rfl rfl
set_option maxRecDepth 10000 in
theorem sl_Told_PK_voice_Told_voice : Cond.selects "BesideTom$ToldKind" y_PK_voice y_Told_voice ∈ gW := gT_2 229 _ rfl rfl
set_option maxRecDepth 10000 in
theorem im_Told_voice : Cond.instanceMethod y_Told_voice ∈ gW := gT_2 230 _ rfl rfl
set_option maxRecDepth 10000 in
theorem co_Told_voice : Cond.code y_Told_voice prog_10_method_3_code 5 (some (FieldType.int)) ∈ gW := gT_2 231 _ rfl rfl
set_option maxRecDepth 10000 in
theorem ml_Told_13 : Cond.methodLink "BesideTom$ToldKind" 13 y_Short_voice ∈ gW := gT_2 232 _ rfl rfl
set_option maxRecDepth 10000 in
theorem sa_Short_PK_voice : Cond.sameMethod "BesideTom$ShortKind" "BesideTom$PupilKind" "voice" "(IIII)I" ∈ gW := gT_2 233 _ rfl rfl
set_option maxRecDepth 10000 in
theorem sl_Tom_PK_voice_Tom_voice : Cond.selects "BesideTom$TomKind" y_PK_voice y_Tom_voice ∈ gW := gT_2 235 _ rfl rfl
set_option maxRecDepth 10000 in
theorem im_Tom_voice : Cond.instanceMethod y_Tom_voice ∈ gW := gT_2 236 _ rfl rfl
set_option maxRecDepth 10000 in
theorem co_Tom_voice : Cond.code y_Tom_voice prog_11_method_3_code 5 (some (FieldType.int)) ∈ gW := gT_2 237 _ rfl rfl
set_option maxRecDepth 10000 in
theorem ml_Tom_11 : Cond.methodLink "BesideTom$TomKind" 11 y_Talk_voice ∈ gW := gT_2 238 _ rfl rfl
set_option maxRecDepth 10000 in
theorem co_PK_voice : Cond.code y_PK_voice prog_3_method_3_code 5 (some (FieldType.int)) ∈ gW := gT_2 239 _ rfl rfl
set_option maxRecDepth 10000 in
theorem ml_BT_121 : Cond.methodLink "BesideTom" 121 y_Seat_talk ∈ gW := gT_3 0 _ rfl rfl
set_option maxRecDepth 10000 in
theorem im_Seat_talk : Cond.instanceMethod y_Seat_talk ∈ gW := gT_3 1 _ rfl rfl
set_option maxRecDepth 10000 in
theorem sl_Seat_Seat_talk_Seat_talk : Cond.selects "BesideTom$Seating" y_Seat_talk y_Seat_talk ∈ gW := gT_3 2 _ rfl rfl
set_option maxRecDepth 10000 in
theorem co_Seat_talk : Cond.code y_Seat_talk prog_7_method_14_code 5 (some (FieldType.int)) ∈ gW := gT_3 3 _ rfl rfl
set_option maxRecDepth 10000 in
theorem ml_Seat_125 : Cond.methodLink "BesideTom$Seating" 125 y_Seat_voice ∈ gW := gT_3 4 _ rfl rfl
set_option maxRecDepth 10000 in
theorem ml_Seat_128 : Cond.methodLink "BesideTom$Seating" 128 y_Math_max ∈ gW := gT_3 5 _ rfl rfl
set_option maxRecDepth 10000 in
theorem ml_Seat_133 : Cond.methodLink "BesideTom$Seating" 133 y_Math_min ∈ gW := gT_3 6 _ rfl rfl
set_option maxRecDepth 10000 in
theorem sm_Math_min : Cond.static y_Math_min ∈ gW := gT_3 7 _ rfl rfl
set_option maxRecDepth 10000 in
theorem co_Math_min : Cond.code y_Math_min prog_16_method_69_code 2 (some (FieldType.int)) ∈ gW := gT_3 8 _ rfl rfl
set_option maxRecDepth 10000 in
theorem sm_BT_cut : Cond.static y_BT_cut ∈ gW := gT_3 10 _ rfl rfl
set_option maxRecDepth 10000 in
theorem co_BT_cut : Cond.code y_BT_cut prog_1_method_53_code 2 (some (FieldType.int)) ∈ gW := gT_3 11 _ rfl rfl
set_option maxRecDepth 10000 in
theorem ml_BT_124 : Cond.methodLink "BesideTom" 124 y_Seat_noise ∈ gW := gT_3 12 _ rfl rfl
set_option maxRecDepth 10000 in
theorem im_Seat_noise : Cond.instanceMethod y_Seat_noise ∈ gW := gT_3 13 _ rfl rfl
set_option maxRecDepth 10000 in
theorem sl_Seat_Seat_noise_Seat_noise : Cond.selects "BesideTom$Seating" y_Seat_noise y_Seat_noise ∈ gW := gT_3 14 _ rfl rfl
set_option maxRecDepth 10000 in
theorem co_Seat_noise : Cond.code y_Seat_noise prog_7_method_15_code 4 (some (FieldType.int)) ∈ gW := gT_3 15 _ rfl rfl
set_option maxRecDepth 10000 in
theorem ml_Seat_139 : Cond.methodLink "BesideTom$Seating" 139 y_Seat_talk ∈ gW := gT_3 16 _ rfl rfl
set_option maxRecDepth 10000 in
theorem ml_BT_127 : Cond.methodLink "BesideTom" 127 y_Seat_learns ∈ gW := gT_3 17 _ rfl rfl
set_option maxRecDepth 10000 in
theorem im_Seat_learns : Cond.instanceMethod y_Seat_learns ∈ gW := gT_3 18 _ rfl rfl
set_option maxRecDepth 10000 in
theorem sl_Seat_Seat_learns_Seat_learns : Cond.selects "BesideTom$Seating" y_Seat_learns y_Seat_learns ∈ gW := gT_3 19 _ rfl rfl
set_option maxRecDepth 10000 in
theorem co_Seat_learns : Cond.code y_Seat_learns prog_7_method_16_code 4 (some (FieldType.int)) ∈ gW := gT_3 20 _ rfl rfl
set_option maxRecDepth 10000 in
theorem ml_Seat_142 : Cond.methodLink "BesideTom$Seating" 142 y_PK_learning ∈ gW := gT_3 21 _ rfl rfl
set_option maxRecDepth 10000 in
theorem im_PK_learning : Cond.instanceMethod y_PK_learning ∈ gW := gT_3 22 _ rfl rfl
set_option maxRecDepth 10000 in
theorem sl_PK_PK_learning_PK_learning : Cond.selects "BesideTom$PupilKind" y_PK_learning y_PK_learning ∈ gW := gT_3 23 _ rfl rfl
set_option maxRecDepth 10000 in
theorem sa_PK_PK_learning : Cond.sameMethod "BesideTom$PupilKind" "BesideTom$PupilKind" "learning" "(IIII)I" ∈ gW := gT_3 24 _ rfl rfl
set_option maxRecDepth 10000 in
theorem sl_Cork_PK_learning_Cork_learning : Cond.selects "BesideTom$CorkKind" y_PK_learning y_Cork_learning ∈ gW := gT_3 25 _ rfl rfl
set_option maxRecDepth 10000 in
theorem im_Cork_learning : Cond.instanceMethod y_Cork_learning ∈ gW := gT_3 26 _ rfl rfl
set_option maxRecDepth 10000 in
theorem co_Cork_learning : Cond.code y_Cork_learning prog_2_method_4_code 5 (some (FieldType.int)) ∈ gW := gT_3 27 _ rfl rfl
set_option maxRecDepth 10000 in
theorem ml_Cork_13 : Cond.methodLink "BesideTom$CorkKind" 13 y_Quiet_learning ∈ gW := gT_3 28 _ rfl rfl
set_option maxRecDepth 10000 in
theorem im_Quiet_learning : Cond.instanceMethod y_Quiet_learning ∈ gW := gT_3 29 _ rfl rfl
set_option maxRecDepth 10000 in
theorem co_Quiet_learning : Cond.code y_Quiet_learning prog_4_method_4_code 5 (some (FieldType.int)) ∈ gW := gT_3 30 _ rfl rfl
set_option maxRecDepth 10000 in
theorem ml_Quiet_15 : Cond.methodLink "BesideTom$QuietKind" 15 y_PK_learning ∈ gW := gT_3 31 _ rfl rfl
set_option maxRecDepth 10000 in
theorem sl_Quiet_PK_learning_Quiet_learning : Cond.selects "BesideTom$QuietKind" y_PK_learning y_Quiet_learning ∈ gW := gT_3 32 _ rfl rfl
set_option maxRecDepth 10000 in
theorem sl_Short_PK_learning_Short_learning : Cond.selects "BesideTom$ShortKind" y_PK_learning y_Short_learning ∈ gW := gT_3 33 _ rfl rfl
set_option maxRecDepth 10000 in
theorem im_Short_learning : Cond.instanceMethod y_Short_learning ∈ gW := gT_3 34 _ rfl rfl
set_option maxRecDepth 10000 in
theorem co_Short_learning : Cond.code y_Short_learning prog_8_method_3_code 5 (some (FieldType.int)) ∈ gW := gT_3 35 _ rfl rfl
set_option maxRecDepth 10000 in
theorem ml_Short_11 : Cond.methodLink "BesideTom$ShortKind" 11 y_PK_learning ∈ gW := gT_3 36 _ rfl rfl
set_option maxRecDepth 10000 in
theorem sl_Talk_PK_learning_PK_learning : Cond.selects "BesideTom$TalkerKind" y_PK_learning y_PK_learning ∈ gW := gT_3 37 _ rfl rfl
set_option maxRecDepth 10000 in
theorem sl_Told_PK_learning_Short_learning : Cond.selects "BesideTom$ToldKind" y_PK_learning y_Short_learning ∈ gW := gT_3 38 _ rfl rfl
set_option maxRecDepth 10000 in
theorem sl_Tom_PK_learning_PK_learning : Cond.selects "BesideTom$TomKind" y_PK_learning y_PK_learning ∈ gW := gT_3 39 _ rfl rfl
set_option maxRecDepth 10000 in
theorem co_PK_learning : Cond.code y_PK_learning prog_3_method_4_code 5 (some (FieldType.int)) ∈ gW := gT_3 40 _ rfl rfl
set_option maxRecDepth 10000 in
theorem ml_Law_22 : Cond.methodLink "BesideTomLaw" 22 y_BT_move ∈ gW := gT_3 41 _ rfl rfl
set_option maxRecDepth 10000 in
theorem im_BT_move : Cond.instanceMethod y_BT_move ∈ gW := gT_3 42 _ rfl rfl
set_option maxRecDepth 10000 in
theorem sl_BT_BT_move_BT_move : Cond.selects "BesideTom" y_BT_move y_BT_move ∈ gW := gT_3 43 _ rfl rfl
set_option maxRecDepth 10000 in
theorem co_BT_move : Cond.code y_BT_move prog_1_method_4_code 3 (some (FieldType.int)) ∈ gW := gT_3 44 _ rfl rfl
set_option maxRecDepth 10000 in
theorem ml_BT_130 : Cond.methodLink "BesideTom" 130 y_BT_isDesk ∈ gW := gT_3 45 _ rfl rfl
set_option maxRecDepth 10000 in
theorem sm_BT_isDesk : Cond.static y_BT_isDesk ∈ gW := gT_3 46 _ rfl rfl
set_option maxRecDepth 10000 in
theorem co_BT_isDesk : Cond.code y_BT_isDesk prog_1_method_49_code 1 (some (FieldType.boolean)) ∈ gW := gT_3 47 _ rfl rfl
set_option maxRecDepth 10000 in
theorem ml_BT_133 : Cond.methodLink "BesideTom" 133 y_Seat_moves ∈ gW := gT_3 48 _ rfl rfl
set_option maxRecDepth 10000 in
theorem im_Seat_moves : Cond.instanceMethod y_Seat_moves ∈ gW := gT_3 49 _ rfl rfl
set_option maxRecDepth 10000 in
theorem sl_Seat_Seat_moves_Seat_moves : Cond.selects "BesideTom$Seating" y_Seat_moves y_Seat_moves ∈ gW := gT_3 50 _ rfl rfl
set_option maxRecDepth 10000 in
theorem co_Seat_moves : Cond.code y_Seat_moves prog_7_method_10_code 3 none ∈ gW := gT_3 51 _ rfl rfl
set_option maxRecDepth 10000 in
theorem ml_Seat_96 : Cond.methodLink "BesideTom$Seating" 96 y_Seat_sits ∈ gW := gT_3 52 _ rfl rfl
set_option maxRecDepth 10000 in
theorem im_Seat_sits : Cond.instanceMethod y_Seat_sits ∈ gW := gT_3 53 _ rfl rfl
set_option maxRecDepth 10000 in
theorem sl_Seat_Seat_sits_Seat_sits : Cond.selects "BesideTom$Seating" y_Seat_sits y_Seat_sits ∈ gW := gT_3 54 _ rfl rfl
set_option maxRecDepth 10000 in
theorem co_Seat_sits : Cond.code y_Seat_sits prog_7_method_9_code 4 none ∈ gW := gT_3 55 _ rfl rfl
set_option maxRecDepth 10000 in
theorem ml_Law_26 : Cond.methodLink "BesideTomLaw" 26 y_BT_away ∈ gW := gT_3 56 _ rfl rfl
set_option maxRecDepth 10000 in
theorem im_BT_away : Cond.instanceMethod y_BT_away ∈ gW := gT_3 57 _ rfl rfl
set_option maxRecDepth 10000 in
theorem sl_BT_BT_away_BT_away : Cond.selects "BesideTom" y_BT_away y_BT_away ∈ gW := gT_3 58 _ rfl rfl
set_option maxRecDepth 10000 in
theorem co_BT_away : Cond.code y_BT_away prog_1_method_5_code 4 (some (FieldType.int)) ∈ gW := gT_3 59 _ rfl rfl
set_option maxRecDepth 10000 in
theorem ml_BT_137 : Cond.methodLink "BesideTom" 137 y_Seat_setAway ∈ gW := gT_3 60 _ rfl rfl
set_option maxRecDepth 10000 in
theorem ml_Law_31 : Cond.methodLink "BesideTomLaw" 31 y_BT_knows ∈ gW := gT_3 61 _ rfl rfl
set_option maxRecDepth 10000 in
theorem im_BT_knows : Cond.instanceMethod y_BT_knows ∈ gW := gT_3 62 _ rfl rfl
set_option maxRecDepth 10000 in
theorem sl_BT_BT_knows_BT_knows : Cond.selects "BesideTom" y_BT_knows y_BT_knows ∈ gW := gT_3 63 _ rfl rfl
set_option maxRecDepth 10000 in
theorem co_BT_knows : Cond.code y_BT_knows prog_1_method_6_code 4 (some (FieldType.int)) ∈ gW := gT_3 64 _ rfl rfl
set_option maxRecDepth 10000 in
theorem ml_Law_35 : Cond.methodLink "BesideTomLaw" 35 y_BT_line ∈ gW := gT_3 65 _ rfl rfl
set_option maxRecDepth 10000 in
theorem im_BT_line : Cond.instanceMethod y_BT_line ∈ gW := gT_3 66 _ rfl rfl
set_option maxRecDepth 10000 in
theorem sl_BT_BT_line_BT_line : Cond.selects "BesideTom" y_BT_line y_BT_line ∈ gW := gT_3 67 _ rfl rfl
set_option maxRecDepth 10000 in
theorem co_BT_line : Cond.code y_BT_line prog_1_method_7_code 6 (some (FieldType.int)) ∈ gW := gT_3 68 _ rfl rfl
set_option maxRecDepth 10000 in
theorem ml_Law_40 : Cond.methodLink "BesideTomLaw" 40 y_BT_feed ∈ gW := gT_3 69 _ rfl rfl
set_option maxRecDepth 10000 in
theorem im_BT_feed : Cond.instanceMethod y_BT_feed ∈ gW := gT_3 70 _ rfl rfl
set_option maxRecDepth 10000 in
theorem sl_BT_BT_feed_BT_feed : Cond.selects "BesideTom" y_BT_feed y_BT_feed ∈ gW := gT_3 71 _ rfl rfl
set_option maxRecDepth 10000 in
theorem co_BT_feed : Cond.code y_BT_feed prog_1_method_8_code 2 (some (FieldType.int)) ∈ gW := gT_3 72 _ rfl rfl
set_option maxRecDepth 10000 in
theorem ml_BT_144 : Cond.methodLink "BesideTom" 144 y_Rooms_takes ∈ gW := gT_3 73 _ rfl rfl
set_option maxRecDepth 10000 in
theorem im_Rooms_takes : Cond.instanceMethod y_Rooms_takes ∈ gW := gT_3 74 _ rfl rfl
set_option maxRecDepth 10000 in
theorem sl_Rooms_Rooms_takes_Rooms_takes : Cond.selects "BesideTom$Rooms" y_Rooms_takes y_Rooms_takes ∈ gW := gT_3 75 _ rfl rfl
set_option maxRecDepth 10000 in
theorem co_Rooms_takes : Cond.code y_Rooms_takes prog_5_method_3_code 2 (some (FieldType.int)) ∈ gW := gT_3 76 _ rfl rfl
set_option maxRecDepth 10000 in
theorem ml_Law_45 : Cond.methodLink "BesideTomLaw" 45 y_BT_room ∈ gW := gT_3 77 _ rfl rfl
set_option maxRecDepth 10000 in
theorem im_BT_room : Cond.instanceMethod y_BT_room ∈ gW := gT_3 78 _ rfl rfl
set_option maxRecDepth 10000 in
theorem sl_BT_BT_room_BT_room : Cond.selects "BesideTom" y_BT_room y_BT_room ∈ gW := gT_3 79 _ rfl rfl
set_option maxRecDepth 10000 in
theorem co_BT_room : Cond.code y_BT_room prog_1_method_9_code 2 (some (FieldType.int)) ∈ gW := gT_3 80 _ rfl rfl
set_option maxRecDepth 10000 in
theorem ml_BT_148 : Cond.methodLink "BesideTom" 148 y_Rooms_reads ∈ gW := gT_3 81 _ rfl rfl
set_option maxRecDepth 10000 in
theorem ml_BT_152 : Cond.methodLink "BesideTom" 152 y_Rooms_forgetsText ∈ gW := gT_3 82 _ rfl rfl
set_option maxRecDepth 10000 in
theorem im_Rooms_forgetsText : Cond.instanceMethod y_Rooms_forgetsText ∈ gW := gT_3 83 _ rfl rfl
set_option maxRecDepth 10000 in
theorem sl_Rooms_Rooms_forgetsText_Rooms_forgetsText : Cond.selects "BesideTom$Rooms" y_Rooms_forgetsText y_Rooms_forgetsText ∈ gW := gT_3 84 _ rfl rfl
set_option maxRecDepth 10000 in
theorem co_Rooms_forgetsText : Cond.code y_Rooms_forgetsText prog_5_method_4_code 1 none ∈ gW := gT_3 85 _ rfl rfl
set_option maxRecDepth 10000 in
theorem ml_BT_163 : Cond.methodLink "BesideTom" 163 y_Rooms_keepsText ∈ gW := gT_3 86 _ rfl rfl
set_option maxRecDepth 10000 in
theorem im_Rooms_keepsText : Cond.instanceMethod y_Rooms_keepsText ∈ gW := gT_3 87 _ rfl rfl
set_option maxRecDepth 10000 in
theorem sl_Rooms_Rooms_keepsText_Rooms_keepsText : Cond.selects "BesideTom$Rooms" y_Rooms_keepsText y_Rooms_keepsText ∈ gW := gT_3 88 _ rfl rfl
set_option maxRecDepth 10000 in
theorem co_Rooms_keepsText : Cond.code y_Rooms_keepsText prog_5_method_5_code 1 (some (FieldType.int)) ∈ gW := gT_3 89 _ rfl rfl
set_option maxRecDepth 10000 in
theorem ml_Law_50 : Cond.methodLink "BesideTomLaw" 50 y_BT_told ∈ gW := gT_3 90 _ rfl rfl
set_option maxRecDepth 10000 in
theorem im_BT_told : Cond.instanceMethod y_BT_told ∈ gW := gT_3 91 _ rfl rfl
set_option maxRecDepth 10000 in
theorem sl_BT_BT_told_BT_told : Cond.selects "BesideTom" y_BT_told y_BT_told ∈ gW := gT_3 92 _ rfl rfl
set_option maxRecDepth 10000 in
theorem co_BT_told : Cond.code y_BT_told prog_1_method_10_code 3 (some (FieldType.int)) ∈ gW := gT_3 93 _ rfl rfl
set_option maxRecDepth 10000 in
theorem ml_BT_170 : Cond.methodLink "BesideTom" 170 y_Seat_whoHas ∈ gW := gT_3 94 _ rfl rfl
set_option maxRecDepth 10000 in
theorem ml_BT_179 : Cond.methodLink "BesideTom" 179 y_Seat_knowsOfAll ∈ gW := gT_3 95 _ rfl rfl
set_option maxRecDepth 10000 in
theorem im_Seat_knowsOfAll : Cond.instanceMethod y_Seat_knowsOfAll ∈ gW := gT_3 96 _ rfl rfl
set_option maxRecDepth 10000 in
theorem sl_Seat_Seat_knowsOfAll_Seat_knowsOfAll : Cond.selects "BesideTom$Seating" y_Seat_knowsOfAll y_Seat_knowsOfAll ∈ gW := gT_3 97 _ rfl rfl
set_option maxRecDepth 10000 in
theorem co_Seat_knowsOfAll : Cond.code y_Seat_knowsOfAll prog_7_method_18_code 3 (some (FieldType.int)) ∈ gW := gT_3 98 _ rfl rfl
set_option maxRecDepth 10000 in
theorem ml_BT_182 : Cond.methodLink "BesideTom" 182 y_Seat_learnsOfAll ∈ gW := gT_3 99 _ rfl rfl
set_option maxRecDepth 10000 in
theorem im_Seat_learnsOfAll : Cond.instanceMethod y_Seat_learnsOfAll ∈ gW := gT_3 100 _ rfl rfl
set_option maxRecDepth 10000 in
theorem sl_Seat_Seat_learnsOfAll_Seat_learnsOfAll : Cond.selects "BesideTom$Seating" y_Seat_learnsOfAll y_Seat_learnsOfAll ∈ gW := gT_3 101 _ rfl rfl
set_option maxRecDepth 10000 in
theorem co_Seat_learnsOfAll : Cond.code y_Seat_learnsOfAll prog_7_method_17_code 4 (some (FieldType.int)) ∈ gW := gT_3 102 _ rfl rfl
set_option maxRecDepth 10000 in
theorem ml_Seat_145 : Cond.methodLink "BesideTom$Seating" 145 y_Seat_learns ∈ gW := gT_3 103 _ rfl rfl
set_option maxRecDepth 10000 in
theorem ml_Law_54 : Cond.methodLink "BesideTomLaw" 54 y_BT_pass ∈ gW := gT_3 104 _ rfl rfl
set_option maxRecDepth 10000 in
theorem im_BT_pass : Cond.instanceMethod y_BT_pass ∈ gW := gT_3 105 _ rfl rfl
set_option maxRecDepth 10000 in
theorem sl_BT_BT_pass_BT_pass : Cond.selects "BesideTom" y_BT_pass y_BT_pass ∈ gW := gT_3 106 _ rfl rfl
set_option maxRecDepth 10000 in
theorem co_BT_pass : Cond.code y_BT_pass prog_1_method_11_code 3 (some (FieldType.int)) ∈ gW := gT_3 107 _ rfl rfl
set_option maxRecDepth 10000 in
theorem ml_BT_185 : Cond.methodLink "BesideTom" 185 y_Seat_weekGoes ∈ gW := gT_3 108 _ rfl rfl
set_option maxRecDepth 10000 in
theorem im_Seat_weekGoes : Cond.instanceMethod y_Seat_weekGoes ∈ gW := gT_3 109 _ rfl rfl
set_option maxRecDepth 10000 in
theorem sl_Seat_Seat_weekGoes_Seat_weekGoes : Cond.selects "BesideTom$Seating" y_Seat_weekGoes y_Seat_weekGoes ∈ gW := gT_3 110 _ rfl rfl
set_option maxRecDepth 10000 in
theorem co_Seat_weekGoes : Cond.code y_Seat_weekGoes prog_7_method_19_code 4 none ∈ gW := gT_3 111 _ rfl rfl
set_option maxRecDepth 10000 in
theorem ml_Seat_148 : Cond.methodLink "BesideTom$Seating" 148 y_Seat_noise ∈ gW := gT_3 112 _ rfl rfl
set_option maxRecDepth 10000 in
theorem ml_Law_58 : Cond.methodLink "BesideTomLaw" 58 y_BT_on ∈ gW := gT_3 113 _ rfl rfl
set_option maxRecDepth 10000 in
theorem im_BT_on : Cond.instanceMethod y_BT_on ∈ gW := gT_3 114 _ rfl rfl
set_option maxRecDepth 10000 in
theorem sl_BT_BT_on_BT_on : Cond.selects "BesideTom" y_BT_on y_BT_on ∈ gW := gT_3 115 _ rfl rfl
set_option maxRecDepth 10000 in
theorem co_BT_on : Cond.code y_BT_on prog_1_method_12_code 4 (some (FieldType.int)) ∈ gW := gT_3 116 _ rfl rfl
set_option maxRecDepth 10000 in
theorem ml_BT_189 : Cond.methodLink "BesideTom" 189 y_BT_isOfPupil ∈ gW := gT_3 117 _ rfl rfl
set_option maxRecDepth 10000 in
theorem im_BT_isOfPupil : Cond.instanceMethod y_BT_isOfPupil ∈ gW := gT_3 119 _ rfl rfl
set_option maxRecDepth 10000 in
theorem co_BT_isOfPupil : Cond.code y_BT_isOfPupil prog_1_method_48_code 2 (some (FieldType.boolean)) ∈ gW := gT_3 120 _ rfl rfl
set_option maxRecDepth 10000 in
theorem ml_BT_192 : Cond.methodLink "BesideTom" 192 y_Seat_becomes ∈ gW := gT_3 121 _ rfl rfl
set_option maxRecDepth 10000 in
theorem im_Seat_becomes : Cond.instanceMethod y_Seat_becomes ∈ gW := gT_3 122 _ rfl rfl
set_option maxRecDepth 10000 in
theorem sl_Seat_Seat_becomes_Seat_becomes : Cond.selects "BesideTom$Seating" y_Seat_becomes y_Seat_becomes ∈ gW := gT_3 123 _ rfl rfl
set_option maxRecDepth 10000 in
theorem co_Seat_becomes : Cond.code y_Seat_becomes prog_7_method_2_code 2 none ∈ gW := gT_3 124 _ rfl rfl
set_option maxRecDepth 10000 in
theorem ml_Seat_74 : Cond.methodLink "BesideTom$Seating" 74 y_Sys_arraycopy ∈ gW := gT_3 125 _ rfl rfl
set_option maxRecDepth 10000 in
theorem sm_Sys_arraycopy : Cond.static y_Sys_arraycopy ∈ gW := gT_3 126 _ rfl rfl
set_option maxRecDepth 10000 in
theorem nt_Sys_arraycopy : Cond.native y_Sys_arraycopy ∈ gW := gT_3 127 _ rfl rfl
set_option maxRecDepth 10000 in
theorem ml_Seat_80 : Cond.methodLink "BesideTom$Seating" 80 y_Rows_becomes ∈ gW := gT_3 128 _ rfl rfl
set_option maxRecDepth 10000 in
theorem im_Rows_becomes : Cond.instanceMethod y_Rows_becomes ∈ gW := gT_3 129 _ rfl rfl
set_option maxRecDepth 10000 in
theorem sl_Rows_Rows_becomes_Rows_becomes : Cond.selects "BesideTom$Rows" y_Rows_becomes y_Rows_becomes ∈ gW := gT_3 130 _ rfl rfl
set_option maxRecDepth 10000 in
theorem co_Rows_becomes : Cond.code y_Rows_becomes prog_6_method_4_code 3 none ∈ gW := gT_3 131 _ rfl rfl
set_option maxRecDepth 10000 in
theorem ml_Rows_28 : Cond.methodLink "BesideTom$Rows" 28 y_Rows_takes ∈ gW := gT_3 132 _ rfl rfl
set_option maxRecDepth 10000 in
theorem im_Rows_takes : Cond.instanceMethod y_Rows_takes ∈ gW := gT_3 133 _ rfl rfl
set_option maxRecDepth 10000 in
theorem sl_Rows_Rows_takes_Rows_takes : Cond.selects "BesideTom$Rows" y_Rows_takes y_Rows_takes ∈ gW := gT_3 134 _ rfl rfl
set_option maxRecDepth 10000 in
theorem co_Rows_takes : Cond.code y_Rows_takes prog_6_method_2_code 3 (some (FieldType.int)) ∈ gW := gT_3 135 _ rfl rfl
set_option maxRecDepth 10000 in
theorem k_BT_196 : Cond.constant "BesideTom" 196 (1000000000) ∈ gW := gT_3 136 _ rfl rfl
set_option maxRecDepth 10000 in
theorem ml_Law_62 : Cond.methodLink "BesideTomLaw" 62 y_BT_loud ∈ gW := gT_3 137 _ rfl rfl
set_option maxRecDepth 10000 in
theorem im_BT_loud : Cond.instanceMethod y_BT_loud ∈ gW := gT_3 138 _ rfl rfl
set_option maxRecDepth 10000 in
theorem sl_BT_BT_loud_BT_loud : Cond.selects "BesideTom" y_BT_loud y_BT_loud ∈ gW := gT_3 139 _ rfl rfl
set_option maxRecDepth 10000 in
theorem co_BT_loud : Cond.code y_BT_loud prog_1_method_13_code 3 (some (FieldType.int)) ∈ gW := gT_3 140 _ rfl rfl
set_option maxRecDepth 10000 in
theorem ml_Law_66 : Cond.methodLink "BesideTomLaw" 66 y_BT_quietest ∈ gW := gT_3 141 _ rfl rfl
set_option maxRecDepth 10000 in
theorem im_BT_quietest : Cond.instanceMethod y_BT_quietest ∈ gW := gT_3 142 _ rfl rfl
set_option maxRecDepth 10000 in
theorem sl_BT_BT_quietest_BT_quietest : Cond.selects "BesideTom" y_BT_quietest y_BT_quietest ∈ gW := gT_3 143 _ rfl rfl
set_option maxRecDepth 10000 in
theorem co_BT_quietest : Cond.code y_BT_quietest prog_1_method_14_code 3 (some (FieldType.int)) ∈ gW := gT_3 144 _ rfl rfl
set_option maxRecDepth 10000 in
theorem ml_BT_197 : Cond.methodLink "BesideTom" 197 y_BT_plansFromNow ∈ gW := gT_3 145 _ rfl rfl
set_option maxRecDepth 10000 in
theorem im_BT_plansFromNow : Cond.instanceMethod y_BT_plansFromNow ∈ gW := gT_3 147 _ rfl rfl
set_option maxRecDepth 10000 in
theorem co_BT_plansFromNow : Cond.code y_BT_plansFromNow prog_1_method_19_code 1 none ∈ gW := gT_3 148 _ rfl rfl
set_option maxRecDepth 10000 in
theorem k_BT_200 : Cond.constant "BesideTom" 200 (-1000000000) ∈ gW := gT_3 149 _ rfl rfl
set_option maxRecDepth 10000 in
theorem ml_BT_201 : Cond.methodLink "BesideTom" 201 y_BT_arrange ∈ gW := gT_3 150 _ rfl rfl
set_option maxRecDepth 10000 in
theorem sm_BT_arrange : Cond.static y_BT_arrange ∈ gW := gT_3 151 _ rfl rfl
set_option maxRecDepth 10000 in
theorem co_BT_arrange : Cond.code y_BT_arrange prog_1_method_20_code 8 (some (FieldType.int)) ∈ gW := gT_3 152 _ rfl rfl
set_option maxRecDepth 10000 in
theorem ml_BT_215 : Cond.methodLink "BesideTom" 215 y_Sys_arraycopy ∈ gW := gT_3 153 _ rfl rfl
set_option maxRecDepth 10000 in
theorem ml_BT_221 : Cond.methodLink "BesideTom" 221 y_Math_max ∈ gW := gT_3 154 _ rfl rfl
set_option maxRecDepth 10000 in
theorem ml_BT_226 : Cond.methodLink "BesideTom" 226 y_BT_bit ∈ gW := gT_3 155 _ rfl rfl
set_option maxRecDepth 10000 in
theorem ml_Law_70 : Cond.methodLink "BesideTomLaw" 70 y_BT_wisest ∈ gW := gT_3 156 _ rfl rfl
set_option maxRecDepth 10000 in
theorem im_BT_wisest : Cond.instanceMethod y_BT_wisest ∈ gW := gT_3 157 _ rfl rfl
set_option maxRecDepth 10000 in
theorem sl_BT_BT_wisest_BT_wisest : Cond.selects "BesideTom" y_BT_wisest y_BT_wisest ∈ gW := gT_3 158 _ rfl rfl
set_option maxRecDepth 10000 in
theorem co_BT_wisest : Cond.code y_BT_wisest prog_1_method_15_code 3 (some (FieldType.int)) ∈ gW := gT_3 159 _ rfl rfl
set_option maxRecDepth 10000 in
theorem ml_Law_74 : Cond.methodLink "BesideTomLaw" 74 y_BT_seat ∈ gW := gT_3 160 _ rfl rfl
set_option maxRecDepth 10000 in
theorem im_BT_seat : Cond.instanceMethod y_BT_seat ∈ gW := gT_3 161 _ rfl rfl
set_option maxRecDepth 10000 in
theorem sl_BT_BT_seat_BT_seat : Cond.selects "BesideTom" y_BT_seat y_BT_seat ∈ gW := gT_3 162 _ rfl rfl
set_option maxRecDepth 10000 in
theorem co_BT_seat : Cond.code y_BT_seat prog_1_method_16_code 6 (some (FieldType.int)) ∈ gW := gT_3 163 _ rfl rfl
set_option maxRecDepth 10000 in
theorem ml_Law_78 : Cond.methodLink "BesideTomLaw" 78 y_BT_best ∈ gW := gT_3 164 _ rfl rfl
set_option maxRecDepth 10000 in
theorem im_BT_best : Cond.instanceMethod y_BT_best ∈ gW := gT_3 165 _ rfl rfl
set_option maxRecDepth 10000 in
theorem sl_BT_BT_best_BT_best : Cond.selects "BesideTom" y_BT_best y_BT_best ∈ gW := gT_3 166 _ rfl rfl
set_option maxRecDepth 10000 in
theorem co_BT_best : Cond.code y_BT_best prog_1_method_17_code 2 (some (FieldType.int)) ∈ gW := gT_3 167 _ rfl rfl
set_option maxRecDepth 10000 in
theorem ml_BT_205 : Cond.methodLink "BesideTom" 205 y_BT_change ∈ gW := gT_3 168 _ rfl rfl
set_option maxRecDepth 10000 in
theorem im_BT_change : Cond.instanceMethod y_BT_change ∈ gW := gT_3 170 _ rfl rfl
set_option maxRecDepth 10000 in
theorem co_BT_change : Cond.code y_BT_change prog_1_method_21_code 6 (some (FieldType.int)) ∈ gW := gT_3 171 _ rfl rfl
set_option maxRecDepth 10000 in
theorem ml_BT_230 : Cond.methodLink "BesideTom" 230 y_Seat_swaps ∈ gW := gT_3 172 _ rfl rfl
set_option maxRecDepth 10000 in
theorem im_Seat_swaps : Cond.instanceMethod y_Seat_swaps ∈ gW := gT_3 173 _ rfl rfl
set_option maxRecDepth 10000 in
theorem sl_Seat_Seat_swaps_Seat_swaps : Cond.selects "BesideTom$Seating" y_Seat_swaps y_Seat_swaps ∈ gW := gT_3 174 _ rfl rfl
set_option maxRecDepth 10000 in
theorem co_Seat_swaps : Cond.code y_Seat_swaps prog_7_method_11_code 4 none ∈ gW := gT_3 175 _ rfl rfl
set_option maxRecDepth 10000 in
theorem ml_BT_208 : Cond.methodLink "BesideTom" 208 y_BT_worst ∈ gW := gT_3 176 _ rfl rfl
set_option maxRecDepth 10000 in
theorem im_BT_worst : Cond.instanceMethod y_BT_worst ∈ gW := gT_3 178 _ rfl rfl
set_option maxRecDepth 10000 in
theorem co_BT_worst : Cond.code y_BT_worst prog_1_method_22_code 5 (some (FieldType.int)) ∈ gW := gT_3 179 _ rfl rfl
set_option maxRecDepth 10000 in
theorem ml_BT_233 : Cond.methodLink "BesideTom" 233 y_BT_without ∈ gW := gT_3 180 _ rfl rfl
set_option maxRecDepth 10000 in
theorem im_BT_without : Cond.instanceMethod y_BT_without ∈ gW := gT_3 182 _ rfl rfl
set_option maxRecDepth 10000 in
theorem co_BT_without : Cond.code y_BT_without prog_1_method_23_code 2 none ∈ gW := gT_3 183 _ rfl rfl
set_option maxRecDepth 10000 in
theorem ml_Law_82 : Cond.methodLink "BesideTomLaw" 82 y_BT_few ∈ gW := gT_3 184 _ rfl rfl
set_option maxRecDepth 10000 in
theorem im_BT_few : Cond.instanceMethod y_BT_few ∈ gW := gT_3 185 _ rfl rfl
set_option maxRecDepth 10000 in
theorem sl_BT_BT_few_BT_few : Cond.selects "BesideTom" y_BT_few y_BT_few ∈ gW := gT_3 186 _ rfl rfl
set_option maxRecDepth 10000 in
theorem co_BT_few : Cond.code y_BT_few prog_1_method_18_code 3 (some (FieldType.int)) ∈ gW := gT_3 187 _ rfl rfl
set_option maxRecDepth 10000 in
theorem ml_BT_211 : Cond.methodLink "BesideTom" 211 y_BT_calmsBy ∈ gW := gT_3 188 _ rfl rfl
set_option maxRecDepth 10000 in
theorem sm_BT_calmsBy : Cond.static y_BT_calmsBy ∈ gW := gT_3 189 _ rfl rfl
set_option maxRecDepth 10000 in
theorem co_BT_calmsBy : Cond.code y_BT_calmsBy prog_1_method_24_code 7 (some (FieldType.boolean)) ∈ gW := gT_3 190 _ rfl rfl
set_option maxRecDepth 10000 in
theorem ml_Law_86 : Cond.methodLink "BesideTomLaw" 86 y_BT_hear ∈ gW := gT_3 191 _ rfl rfl
set_option maxRecDepth 10000 in
theorem im_BT_hear : Cond.instanceMethod y_BT_hear ∈ gW := gT_3 192 _ rfl rfl
set_option maxRecDepth 10000 in
theorem sl_BT_BT_hear_BT_hear : Cond.selects "BesideTom" y_BT_hear y_BT_hear ∈ gW := gT_3 193 _ rfl rfl
set_option maxRecDepth 10000 in
theorem co_BT_hear : Cond.code y_BT_hear prog_1_method_25_code 3 (some (FieldType.int)) ∈ gW := gT_3 194 _ rfl rfl
set_option maxRecDepth 10000 in
theorem ml_BT_240 : Cond.methodLink "BesideTom" 240 y_Rows_empties ∈ gW := gT_3 195 _ rfl rfl
set_option maxRecDepth 10000 in
theorem im_Rows_empties : Cond.instanceMethod y_Rows_empties ∈ gW := gT_3 196 _ rfl rfl
set_option maxRecDepth 10000 in
theorem sl_Rows_Rows_empties_Rows_empties : Cond.selects "BesideTom$Rows" y_Rows_empties y_Rows_empties ∈ gW := gT_3 197 _ rfl rfl
set_option maxRecDepth 10000 in
theorem co_Rows_empties : Cond.code y_Rows_empties prog_6_method_3_code 1 (some (FieldType.int)) ∈ gW := gT_3 198 _ rfl rfl
set_option maxRecDepth 10000 in
theorem ml_BT_245 : Cond.methodLink "BesideTom" 245 y_Rows_takes ∈ gW := gT_3 199 _ rfl rfl
set_option maxRecDepth 10000 in
theorem ml_Law_90 : Cond.methodLink "BesideTomLaw" 90 y_BT_where ∈ gW := gT_3 200 _ rfl rfl
set_option maxRecDepth 10000 in
theorem im_BT_where : Cond.instanceMethod y_BT_where ∈ gW := gT_3 201 _ rfl rfl
set_option maxRecDepth 10000 in
theorem sl_BT_BT_where_BT_where : Cond.selects "BesideTom" y_BT_where y_BT_where ∈ gW := gT_3 202 _ rfl rfl
set_option maxRecDepth 10000 in
theorem co_BT_where : Cond.code y_BT_where prog_1_method_26_code 4 (some (FieldType.int)) ∈ gW := gT_3 203 _ rfl rfl
set_option maxRecDepth 10000 in
theorem ml_BT_247 : Cond.methodLink "BesideTom" 247 y_Seat_sits ∈ gW := gT_3 204 _ rfl rfl
set_option maxRecDepth 10000 in
theorem ml_BT_250 : Cond.methodLink "BesideTom" 250 y_Seat_isAsHeard ∈ gW := gT_3 205 _ rfl rfl
set_option maxRecDepth 10000 in
theorem im_Seat_isAsHeard : Cond.instanceMethod y_Seat_isAsHeard ∈ gW := gT_3 206 _ rfl rfl
set_option maxRecDepth 10000 in
theorem sl_Seat_Seat_isAsHeard_Seat_isAsHeard : Cond.selects "BesideTom$Seating" y_Seat_isAsHeard y_Seat_isAsHeard ∈ gW := gT_3 207 _ rfl rfl
set_option maxRecDepth 10000 in
theorem co_Seat_isAsHeard : Cond.code y_Seat_isAsHeard prog_7_method_20_code 2 (some (FieldType.boolean)) ∈ gW := gT_3 208 _ rfl rfl
set_option maxRecDepth 10000 in
theorem ml_Law_94 : Cond.methodLink "BesideTomLaw" 94 y_BT_can ∈ gW := gT_3 209 _ rfl rfl
set_option maxRecDepth 10000 in
theorem im_BT_can : Cond.instanceMethod y_BT_can ∈ gW := gT_3 210 _ rfl rfl
set_option maxRecDepth 10000 in
theorem sl_BT_BT_can_BT_can : Cond.selects "BesideTom" y_BT_can y_BT_can ∈ gW := gT_3 211 _ rfl rfl
set_option maxRecDepth 10000 in
theorem co_BT_can : Cond.code y_BT_can prog_1_method_27_code 6 (some (FieldType.int)) ∈ gW := gT_3 212 _ rfl rfl
set_option maxRecDepth 10000 in
theorem ml_Law_98 : Cond.methodLink "BesideTomLaw" 98 y_BT_odds ∈ gW := gT_3 213 _ rfl rfl
set_option maxRecDepth 10000 in
theorem im_BT_odds : Cond.instanceMethod y_BT_odds ∈ gW := gT_3 214 _ rfl rfl
set_option maxRecDepth 10000 in
theorem sl_BT_BT_odds_BT_odds : Cond.selects "BesideTom" y_BT_odds y_BT_odds ∈ gW := gT_3 215 _ rfl rfl
set_option maxRecDepth 10000 in
theorem co_BT_odds : Cond.code y_BT_odds prog_1_method_28_code 5 (some (FieldType.long)) ∈ gW := gT_3 216 _ rfl rfl
set_option maxRecDepth 10000 in
theorem k_BT_254 : Cond.constantLong "BesideTom" 254 (-9223372036854775808) ∈ gW := gT_3 217 _ rfl rfl
set_option maxRecDepth 10000 in
theorem ml_BT_256 : Cond.methodLink "BesideTom" 256 y_BT_partOf ∈ gW := gT_3 218 _ rfl rfl
set_option maxRecDepth 10000 in
theorem sm_BT_partOf : Cond.static y_BT_partOf ∈ gW := gT_3 219 _ rfl rfl
set_option maxRecDepth 10000 in
theorem co_BT_partOf : Cond.code y_BT_partOf prog_1_method_30_code 5 (some (FieldType.long)) ∈ gW := gT_3 220 _ rfl rfl
set_option maxRecDepth 10000 in
theorem ml_BT_260 : Cond.methodLink "BesideTom" 260 y_BT_cut ∈ gW := gT_3 221 _ rfl rfl
set_option maxRecDepth 10000 in
theorem ml_Law_103 : Cond.methodLink "BesideTomLaw" 103 y_BT_mean ∈ gW := gT_3 222 _ rfl rfl
set_option maxRecDepth 10000 in
theorem im_BT_mean : Cond.instanceMethod y_BT_mean ∈ gW := gT_3 223 _ rfl rfl
set_option maxRecDepth 10000 in
theorem sl_BT_BT_mean_BT_mean : Cond.selects "BesideTom" y_BT_mean y_BT_mean ∈ gW := gT_3 224 _ rfl rfl
set_option maxRecDepth 10000 in
theorem co_BT_mean : Cond.code y_BT_mean prog_1_method_29_code 2 (some (FieldType.long)) ∈ gW := gT_3 225 _ rfl rfl
set_option maxRecDepth 10000 in
theorem ml_Law_108 : Cond.methodLink "BesideTomLaw" 108 y_BT_term ∈ gW := gT_3 226 _ rfl rfl
set_option maxRecDepth 10000 in
theorem im_BT_term : Cond.instanceMethod y_BT_term ∈ gW := gT_3 227 _ rfl rfl
set_option maxRecDepth 10000 in
theorem sl_BT_BT_term_BT_term : Cond.selects "BesideTom" y_BT_term y_BT_term ∈ gW := gT_3 228 _ rfl rfl
set_option maxRecDepth 10000 in
theorem co_BT_term : Cond.code y_BT_term prog_1_method_31_code 3 (some (FieldType.int)) ∈ gW := gT_3 229 _ rfl rfl
set_option maxRecDepth 10000 in
theorem ml_Law_112 : Cond.methodLink "BesideTomLaw" 112 y_BT_ends ∈ gW := gT_3 230 _ rfl rfl
set_option maxRecDepth 10000 in
theorem im_BT_ends : Cond.instanceMethod y_BT_ends ∈ gW := gT_3 231 _ rfl rfl
set_option maxRecDepth 10000 in
theorem sl_BT_BT_ends_BT_ends : Cond.selects "BesideTom" y_BT_ends y_BT_ends ∈ gW := gT_3 232 _ rfl rfl
set_option maxRecDepth 10000 in
theorem co_BT_ends : Cond.code y_BT_ends prog_1_method_32_code 4 (some (FieldType.int)) ∈ gW := gT_3 233 _ rfl rfl
set_option maxRecDepth 10000 in
theorem ml_Law_116 : Cond.methodLink "BesideTomLaw" 116 y_BT_book ∈ gW := gT_3 234 _ rfl rfl
set_option maxRecDepth 10000 in
theorem im_BT_book : Cond.instanceMethod y_BT_book ∈ gW := gT_3 235 _ rfl rfl
set_option maxRecDepth 10000 in
theorem sl_BT_BT_book_BT_book : Cond.selects "BesideTom" y_BT_book y_BT_book ∈ gW := gT_3 236 _ rfl rfl
set_option maxRecDepth 10000 in
theorem co_BT_book : Cond.code y_BT_book prog_1_method_33_code 3 (some (FieldType.int)) ∈ gW := gT_3 237 _ rfl rfl
set_option maxRecDepth 10000 in
theorem ml_Law_120 : Cond.methodLink "BesideTomLaw" 120 y_BT_looked ∈ gW := gT_3 238 _ rfl rfl
set_option maxRecDepth 10000 in
theorem im_BT_looked : Cond.instanceMethod y_BT_looked ∈ gW := gT_3 239 _ rfl rfl
set_option maxRecDepth 10000 in
theorem sl_BT_BT_looked_BT_looked : Cond.selects "BesideTom" y_BT_looked y_BT_looked ∈ gW := gT_4 0 _ rfl rfl
set_option maxRecDepth 10000 in
theorem co_BT_looked : Cond.code y_BT_looked prog_1_method_34_code 2 (some (FieldType.int)) ∈ gW := gT_4 1 _ rfl rfl
set_option maxRecDepth 10000 in
theorem ml_Law_124 : Cond.methodLink "BesideTomLaw" 124 y_BT_judge ∈ gW := gT_4 2 _ rfl rfl
set_option maxRecDepth 10000 in
theorem im_BT_judge : Cond.instanceMethod y_BT_judge ∈ gW := gT_4 3 _ rfl rfl
set_option maxRecDepth 10000 in
theorem sl_BT_BT_judge_BT_judge : Cond.selects "BesideTom" y_BT_judge y_BT_judge ∈ gW := gT_4 4 _ rfl rfl
set_option maxRecDepth 10000 in
theorem co_BT_judge : Cond.code y_BT_judge prog_1_method_35_code 4 (some (FieldType.int)) ∈ gW := gT_4 5 _ rfl rfl
set_option maxRecDepth 10000 in
theorem ml_BT_276 : Cond.methodLink "BesideTom" 276 y_BT_isTape ∈ gW := gT_4 6 _ rfl rfl
set_option maxRecDepth 10000 in
theorem sm_BT_isTape : Cond.static y_BT_isTape ∈ gW := gT_4 7 _ rfl rfl
set_option maxRecDepth 10000 in
theorem co_BT_isTape : Cond.code y_BT_isTape prog_1_method_50_code 1 (some (FieldType.boolean)) ∈ gW := gT_4 8 _ rfl rfl
set_option maxRecDepth 10000 in
theorem ml_Law_128 : Cond.methodLink "BesideTomLaw" 128 y_BT_image ∈ gW := gT_4 9 _ rfl rfl
set_option maxRecDepth 10000 in
theorem im_BT_image : Cond.instanceMethod y_BT_image ∈ gW := gT_4 10 _ rfl rfl
set_option maxRecDepth 10000 in
theorem sl_BT_BT_image_BT_image : Cond.selects "BesideTom" y_BT_image y_BT_image ∈ gW := gT_4 11 _ rfl rfl
set_option maxRecDepth 10000 in
theorem co_BT_image : Cond.code y_BT_image prog_1_method_36_code 1 (some (FieldType.int)) ∈ gW := gT_4 12 _ rfl rfl
set_option maxRecDepth 10000 in
theorem ml_Law_132 : Cond.methodLink "BesideTomLaw" 132 y_BT_undo ∈ gW := gT_4 13 _ rfl rfl
set_option maxRecDepth 10000 in
theorem im_BT_undo : Cond.instanceMethod y_BT_undo ∈ gW := gT_4 14 _ rfl rfl
set_option maxRecDepth 10000 in
theorem sl_BT_BT_undo_BT_undo : Cond.selects "BesideTom" y_BT_undo y_BT_undo ∈ gW := gT_4 15 _ rfl rfl
set_option maxRecDepth 10000 in
theorem co_BT_undo : Cond.code y_BT_undo prog_1_method_37_code 1 (some (FieldType.int)) ∈ gW := gT_4 16 _ rfl rfl
set_option maxRecDepth 10000 in
theorem ml_Law_136 : Cond.methodLink "BesideTomLaw" 136 y_BT_act ∈ gW := gT_4 17 _ rfl rfl
set_option maxRecDepth 10000 in
theorem im_BT_act : Cond.instanceMethod y_BT_act ∈ gW := gT_4 18 _ rfl rfl
set_option maxRecDepth 10000 in
theorem sl_BT_BT_act_BT_act : Cond.selects "BesideTom" y_BT_act y_BT_act ∈ gW := gT_4 19 _ rfl rfl
set_option maxRecDepth 10000 in
theorem co_BT_act : Cond.code y_BT_act prog_1_method_38_code 5 (some (FieldType.int)) ∈ gW := gT_4 20 _ rfl rfl
set_option maxRecDepth 10000 in
theorem ml_BT_291 : Cond.methodLink "BesideTom" 291 y_Seat_kindOf ∈ gW := gT_4 21 _ rfl rfl
set_option maxRecDepth 10000 in
theorem ml_BT_295 : Cond.methodLink "BesideTom" 295 y_PK_whispers ∈ gW := gT_4 22 _ rfl rfl
set_option maxRecDepth 10000 in
theorem im_PK_whispers : Cond.instanceMethod y_PK_whispers ∈ gW := gT_4 23 _ rfl rfl
set_option maxRecDepth 10000 in
theorem sl_PK_PK_whispers_PK_whispers : Cond.selects "BesideTom$PupilKind" y_PK_whispers y_PK_whispers ∈ gW := gT_4 24 _ rfl rfl
set_option maxRecDepth 10000 in
theorem sa_PK_PK_whispers : Cond.sameMethod "BesideTom$PupilKind" "BesideTom$PupilKind" "whispers" "(LBesideTom$Trace;I)I" ∈ gW := gT_4 25 _ rfl rfl
set_option maxRecDepth 10000 in
theorem sl_Cork_PK_whispers_Quiet_whispers : Cond.selects "BesideTom$CorkKind" y_PK_whispers y_Quiet_whispers ∈ gW := gT_4 26 _ rfl rfl
set_option maxRecDepth 10000 in
theorem im_Quiet_whispers : Cond.instanceMethod y_Quiet_whispers ∈ gW := gT_4 27 _ rfl rfl
set_option maxRecDepth 10000 in
theorem co_Quiet_whispers : Cond.code y_Quiet_whispers prog_4_method_5_code 3 (some (FieldType.int)) ∈ gW := gT_4 28 _ rfl rfl
set_option maxRecDepth 10000 in
theorem ml_Quiet_18 : Cond.methodLink "BesideTom$QuietKind" 18 y_Trace_begins ∈ gW := gT_4 29 _ rfl rfl
set_option maxRecDepth 10000 in
theorem im_Trace_begins : Cond.instanceMethod y_Trace_begins ∈ gW := gT_4 30 _ rfl rfl
set_option maxRecDepth 10000 in
theorem sl_Trace_Trace_begins_Trace_begins : Cond.selects "BesideTom$Trace" y_Trace_begins y_Trace_begins ∈ gW := gT_4 31 _ rfl rfl
set_option maxRecDepth 10000 in
theorem co_Trace_begins : Cond.code y_Trace_begins prog_12_method_2_code 2 none ∈ gW := gT_4 32 _ rfl rfl
set_option maxRecDepth 10000 in
theorem ml_Quiet_24 : Cond.methodLink "BesideTom$QuietKind" 24 y_PK_whispers ∈ gW := gT_4 33 _ rfl rfl
set_option maxRecDepth 10000 in
theorem sl_Quiet_PK_whispers_Quiet_whispers : Cond.selects "BesideTom$QuietKind" y_PK_whispers y_Quiet_whispers ∈ gW := gT_4 34 _ rfl rfl
set_option maxRecDepth 10000 in
theorem sl_Short_PK_whispers_PK_whispers : Cond.selects "BesideTom$ShortKind" y_PK_whispers y_PK_whispers ∈ gW := gT_4 35 _ rfl rfl
set_option maxRecDepth 10000 in
theorem sl_Talk_PK_whispers_PK_whispers : Cond.selects "BesideTom$TalkerKind" y_PK_whispers y_PK_whispers ∈ gW := gT_4 36 _ rfl rfl
set_option maxRecDepth 10000 in
theorem sl_Told_PK_whispers_Told_whispers : Cond.selects "BesideTom$ToldKind" y_PK_whispers y_Told_whispers ∈ gW := gT_4 37 _ rfl rfl
set_option maxRecDepth 10000 in
theorem im_Told_whispers : Cond.instanceMethod y_Told_whispers ∈ gW := gT_4 38 _ rfl rfl
set_option maxRecDepth 10000 in
theorem co_Told_whispers : Cond.code y_Told_whispers prog_10_method_5_code 3 (some (FieldType.int)) ∈ gW := gT_4 39 _ rfl rfl
set_option maxRecDepth 10000 in
theorem ml_Told_17 : Cond.methodLink "BesideTom$ToldKind" 17 y_Trace_begins ∈ gW := gT_4 40 _ rfl rfl
set_option maxRecDepth 10000 in
theorem ml_Told_27 : Cond.methodLink "BesideTom$ToldKind" 27 y_Short_whispers ∈ gW := gT_4 41 _ rfl rfl
set_option maxRecDepth 10000 in
theorem sa_Short_PK_whispers : Cond.sameMethod "BesideTom$ShortKind" "BesideTom$PupilKind" "whispers" "(LBesideTom$Trace;I)I" ∈ gW := gT_4 42 _ rfl rfl
set_option maxRecDepth 10000 in
theorem sl_Tom_PK_whispers_Tom_whispers : Cond.selects "BesideTom$TomKind" y_PK_whispers y_Tom_whispers ∈ gW := gT_4 44 _ rfl rfl
set_option maxRecDepth 10000 in
theorem im_Tom_whispers : Cond.instanceMethod y_Tom_whispers ∈ gW := gT_4 45 _ rfl rfl
set_option maxRecDepth 10000 in
theorem co_Tom_whispers : Cond.code y_Tom_whispers prog_11_method_4_code 3 (some (FieldType.int)) ∈ gW := gT_4 46 _ rfl rfl
set_option maxRecDepth 10000 in
theorem ml_Tom_15 : Cond.methodLink "BesideTom$TomKind" 15 y_Trace_begins ∈ gW := gT_4 47 _ rfl rfl
set_option maxRecDepth 10000 in
theorem ml_Tom_21 : Cond.methodLink "BesideTom$TomKind" 21 y_Talk_whispers ∈ gW := gT_4 48 _ rfl rfl
set_option maxRecDepth 10000 in
theorem sa_Talk_PK_whispers : Cond.sameMethod "BesideTom$TalkerKind" "BesideTom$PupilKind" "whispers" "(LBesideTom$Trace;I)I" ∈ gW := gT_4 49 _ rfl rfl
set_option maxRecDepth 10000 in
theorem co_PK_whispers : Cond.code y_PK_whispers prog_3_method_5_code 3 (some (FieldType.int)) ∈ gW := gT_4 50 _ rfl rfl
set_option maxRecDepth 10000 in
theorem ml_PK_7 : Cond.methodLink "BesideTom$PupilKind" 7 y_Trace_begins ∈ gW := gT_4 51 _ rfl rfl
set_option maxRecDepth 10000 in
theorem ml_BT_299 : Cond.methodLink "BesideTom" 299 y_PK_chats ∈ gW := gT_4 52 _ rfl rfl
set_option maxRecDepth 10000 in
theorem im_PK_chats : Cond.instanceMethod y_PK_chats ∈ gW := gT_4 53 _ rfl rfl
set_option maxRecDepth 10000 in
theorem sl_PK_PK_chats_PK_chats : Cond.selects "BesideTom$PupilKind" y_PK_chats y_PK_chats ∈ gW := gT_4 54 _ rfl rfl
set_option maxRecDepth 10000 in
theorem sa_PK_PK_chats : Cond.sameMethod "BesideTom$PupilKind" "BesideTom$PupilKind" "chats" "(LBesideTom$Trace;I)I" ∈ gW := gT_4 55 _ rfl rfl
set_option maxRecDepth 10000 in
theorem sl_Cork_PK_chats_PK_chats : Cond.selects "BesideTom$CorkKind" y_PK_chats y_PK_chats ∈ gW := gT_4 56 _ rfl rfl
set_option maxRecDepth 10000 in
theorem sl_Quiet_PK_chats_PK_chats : Cond.selects "BesideTom$QuietKind" y_PK_chats y_PK_chats ∈ gW := gT_4 57 _ rfl rfl
set_option maxRecDepth 10000 in
theorem sl_Short_PK_chats_PK_chats : Cond.selects "BesideTom$ShortKind" y_PK_chats y_PK_chats ∈ gW := gT_4 58 _ rfl rfl
set_option maxRecDepth 10000 in
theorem sl_Talk_PK_chats_Talk_chats : Cond.selects "BesideTom$TalkerKind" y_PK_chats y_Talk_chats ∈ gW := gT_4 59 _ rfl rfl
set_option maxRecDepth 10000 in
theorem im_Talk_chats : Cond.instanceMethod y_Talk_chats ∈ gW := gT_4 60 _ rfl rfl
set_option maxRecDepth 10000 in
theorem co_Talk_chats : Cond.code y_Talk_chats prog_9_method_4_code 3 (some (FieldType.int)) ∈ gW := gT_4 61 _ rfl rfl
set_option maxRecDepth 10000 in
theorem ml_Talk_15 : Cond.methodLink "BesideTom$TalkerKind" 15 y_Trace_begins ∈ gW := gT_4 62 _ rfl rfl
set_option maxRecDepth 10000 in
theorem ml_Talk_21 : Cond.methodLink "BesideTom$TalkerKind" 21 y_PK_chats ∈ gW := gT_4 63 _ rfl rfl
set_option maxRecDepth 10000 in
theorem sl_Told_PK_chats_Told_chats : Cond.selects "BesideTom$ToldKind" y_PK_chats y_Told_chats ∈ gW := gT_4 64 _ rfl rfl
set_option maxRecDepth 10000 in
theorem im_Told_chats : Cond.instanceMethod y_Told_chats ∈ gW := gT_4 65 _ rfl rfl
set_option maxRecDepth 10000 in
theorem co_Told_chats : Cond.code y_Told_chats prog_10_method_4_code 3 (some (FieldType.int)) ∈ gW := gT_4 66 _ rfl rfl
set_option maxRecDepth 10000 in
theorem ml_Told_23 : Cond.methodLink "BesideTom$ToldKind" 23 y_Short_chats ∈ gW := gT_4 67 _ rfl rfl
set_option maxRecDepth 10000 in
theorem sa_Short_PK_chats : Cond.sameMethod "BesideTom$ShortKind" "BesideTom$PupilKind" "chats" "(LBesideTom$Trace;I)I" ∈ gW := gT_4 68 _ rfl rfl
set_option maxRecDepth 10000 in
theorem sl_Tom_PK_chats_Tom_chats : Cond.selects "BesideTom$TomKind" y_PK_chats y_Tom_chats ∈ gW := gT_4 70 _ rfl rfl
set_option maxRecDepth 10000 in
theorem im_Tom_chats : Cond.instanceMethod y_Tom_chats ∈ gW := gT_4 71 _ rfl rfl
set_option maxRecDepth 10000 in
theorem co_Tom_chats : Cond.code y_Tom_chats prog_11_method_5_code 3 (some (FieldType.int)) ∈ gW := gT_4 72 _ rfl rfl
set_option maxRecDepth 10000 in
theorem ml_Tom_25 : Cond.methodLink "BesideTom$TomKind" 25 y_Talk_chats ∈ gW := gT_4 73 _ rfl rfl
set_option maxRecDepth 10000 in
theorem co_PK_chats : Cond.code y_PK_chats prog_3_method_6_code 3 (some (FieldType.int)) ∈ gW := gT_4 74 _ rfl rfl
set_option maxRecDepth 10000 in
theorem ml_PK_17 : Cond.methodLink "BesideTom$PupilKind" 17 y_PK_whispers ∈ gW := gT_4 75 _ rfl rfl
set_option maxRecDepth 10000 in
theorem ml_BT_302 : Cond.methodLink "BesideTom" 302 y_PK_tells ∈ gW := gT_4 76 _ rfl rfl
set_option maxRecDepth 10000 in
theorem im_PK_tells : Cond.instanceMethod y_PK_tells ∈ gW := gT_4 77 _ rfl rfl
set_option maxRecDepth 10000 in
theorem sl_PK_PK_tells_PK_tells : Cond.selects "BesideTom$PupilKind" y_PK_tells y_PK_tells ∈ gW := gT_4 78 _ rfl rfl
set_option maxRecDepth 10000 in
theorem sa_PK_PK_tells : Cond.sameMethod "BesideTom$PupilKind" "BesideTom$PupilKind" "tells" "(LBesideTom$Trace;I)I" ∈ gW := gT_4 79 _ rfl rfl
set_option maxRecDepth 10000 in
theorem sl_Cork_PK_tells_Cork_tells : Cond.selects "BesideTom$CorkKind" y_PK_tells y_Cork_tells ∈ gW := gT_4 80 _ rfl rfl
set_option maxRecDepth 10000 in
theorem im_Cork_tells : Cond.instanceMethod y_Cork_tells ∈ gW := gT_4 81 _ rfl rfl
set_option maxRecDepth 10000 in
theorem co_Cork_tells : Cond.code y_Cork_tells prog_2_method_5_code 3 (some (FieldType.int)) ∈ gW := gT_4 82 _ rfl rfl
set_option maxRecDepth 10000 in
theorem ml_Cork_17 : Cond.methodLink "BesideTom$CorkKind" 17 y_Trace_begins ∈ gW := gT_4 83 _ rfl rfl
set_option maxRecDepth 10000 in
theorem ml_Cork_27 : Cond.methodLink "BesideTom$CorkKind" 27 y_Quiet_tells ∈ gW := gT_4 84 _ rfl rfl
set_option maxRecDepth 10000 in
theorem sa_Quiet_PK_tells : Cond.sameMethod "BesideTom$QuietKind" "BesideTom$PupilKind" "tells" "(LBesideTom$Trace;I)I" ∈ gW := gT_4 85 _ rfl rfl
set_option maxRecDepth 10000 in
theorem sl_Quiet_PK_tells_PK_tells : Cond.selects "BesideTom$QuietKind" y_PK_tells y_PK_tells ∈ gW := gT_4 87 _ rfl rfl
set_option maxRecDepth 10000 in
theorem sl_Short_PK_tells_Short_tells : Cond.selects "BesideTom$ShortKind" y_PK_tells y_Short_tells ∈ gW := gT_4 88 _ rfl rfl
set_option maxRecDepth 10000 in
theorem im_Short_tells : Cond.instanceMethod y_Short_tells ∈ gW := gT_4 89 _ rfl rfl
set_option maxRecDepth 10000 in
theorem co_Short_tells : Cond.code y_Short_tells prog_8_method_4_code 3 (some (FieldType.int)) ∈ gW := gT_4 90 _ rfl rfl
set_option maxRecDepth 10000 in
theorem ml_Short_15 : Cond.methodLink "BesideTom$ShortKind" 15 y_Trace_begins ∈ gW := gT_4 91 _ rfl rfl
set_option maxRecDepth 10000 in
theorem ml_Short_21 : Cond.methodLink "BesideTom$ShortKind" 21 y_PK_tells ∈ gW := gT_4 92 _ rfl rfl
set_option maxRecDepth 10000 in
theorem ml_Short_25 : Cond.methodLink "BesideTom$ShortKind" 25 y_Short_chats ∈ gW := gT_4 93 _ rfl rfl
set_option maxRecDepth 10000 in
theorem sl_Short_Short_chats_PK_chats : Cond.selects "BesideTom$ShortKind" y_Short_chats y_PK_chats ∈ gW := gT_4 94 _ rfl rfl
set_option maxRecDepth 10000 in
theorem sl_Told_Short_chats_Told_chats : Cond.selects "BesideTom$ToldKind" y_Short_chats y_Told_chats ∈ gW := gT_4 95 _ rfl rfl
set_option maxRecDepth 10000 in
theorem sl_Talk_PK_tells_PK_tells : Cond.selects "BesideTom$TalkerKind" y_PK_tells y_PK_tells ∈ gW := gT_4 96 _ rfl rfl
set_option maxRecDepth 10000 in
theorem sl_Told_PK_tells_Short_tells : Cond.selects "BesideTom$ToldKind" y_PK_tells y_Short_tells ∈ gW := gT_4 97 _ rfl rfl
set_option maxRecDepth 10000 in
theorem sl_Tom_PK_tells_PK_tells : Cond.selects "BesideTom$TomKind" y_PK_tells y_PK_tells ∈ gW := gT_4 98 _ rfl rfl
set_option maxRecDepth 10000 in
theorem co_PK_tells : Cond.code y_PK_tells prog_3_method_7_code 3 (some (FieldType.int)) ∈ gW := gT_4 99 _ rfl rfl
set_option maxRecDepth 10000 in
theorem ml_PK_26 : Cond.methodLink "BesideTom$PupilKind" 26 y_PK_chats ∈ gW := gT_4 100 _ rfl rfl
set_option maxRecDepth 10000 in
theorem ml_Law_140 : Cond.methodLink "BesideTomLaw" 140 y_BT_trace ∈ gW := gT_4 101 _ rfl rfl
set_option maxRecDepth 10000 in
theorem im_BT_trace : Cond.instanceMethod y_BT_trace ∈ gW := gT_4 102 _ rfl rfl
set_option maxRecDepth 10000 in
theorem sl_BT_BT_trace_BT_trace : Cond.selects "BesideTom" y_BT_trace y_BT_trace ∈ gW := gT_4 103 _ rfl rfl
set_option maxRecDepth 10000 in
theorem co_BT_trace : Cond.code y_BT_trace prog_1_method_39_code 2 (some (FieldType.int)) ∈ gW := gT_4 104 _ rfl rfl
set_option maxRecDepth 10000 in
theorem ml_BT_305 : Cond.methodLink "BesideTom" 305 y_Math_min ∈ gW := gT_4 105 _ rfl rfl
set_option maxRecDepth 10000 in
theorem ml_Law_144 : Cond.methodLink "BesideTomLaw" 144 y_BT_taken ∈ gW := gT_4 106 _ rfl rfl
set_option maxRecDepth 10000 in
theorem im_BT_taken : Cond.instanceMethod y_BT_taken ∈ gW := gT_4 107 _ rfl rfl
set_option maxRecDepth 10000 in
theorem sl_BT_BT_taken_BT_taken : Cond.selects "BesideTom" y_BT_taken y_BT_taken ∈ gW := gT_4 108 _ rfl rfl
set_option maxRecDepth 10000 in
theorem co_BT_taken : Cond.code y_BT_taken prog_1_method_40_code 3 (some (FieldType.int)) ∈ gW := gT_4 109 _ rfl rfl
set_option maxRecDepth 10000 in
theorem ml_BT_311 : Cond.methodLink "BesideTom" 311 y_PK_isUnder ∈ gW := gT_4 110 _ rfl rfl
set_option maxRecDepth 10000 in
theorem im_PK_isUnder : Cond.instanceMethod y_PK_isUnder ∈ gW := gT_4 111 _ rfl rfl
set_option maxRecDepth 10000 in
theorem sl_PK_PK_isUnder_PK_isUnder : Cond.selects "BesideTom$PupilKind" y_PK_isUnder y_PK_isUnder ∈ gW := gT_4 112 _ rfl rfl
set_option maxRecDepth 10000 in
theorem sa_PK_PK_isUnder : Cond.sameMethod "BesideTom$PupilKind" "BesideTom$PupilKind" "isUnder" "(I)Z" ∈ gW := gT_4 113 _ rfl rfl
set_option maxRecDepth 10000 in
theorem sl_Cork_PK_isUnder_Cork_isUnder : Cond.selects "BesideTom$CorkKind" y_PK_isUnder y_Cork_isUnder ∈ gW := gT_4 114 _ rfl rfl
set_option maxRecDepth 10000 in
theorem im_Cork_isUnder : Cond.instanceMethod y_Cork_isUnder ∈ gW := gT_4 115 _ rfl rfl
set_option maxRecDepth 10000 in
theorem co_Cork_isUnder : Cond.code y_Cork_isUnder prog_2_method_2_code 2 (some (FieldType.boolean)) ∈ gW := gT_4 116 _ rfl rfl
set_option maxRecDepth 10000 in
theorem ml_Cork_9 : Cond.methodLink "BesideTom$CorkKind" 9 y_Quiet_isUnder ∈ gW := gT_4 117 _ rfl rfl
set_option maxRecDepth 10000 in
theorem im_Quiet_isUnder : Cond.instanceMethod y_Quiet_isUnder ∈ gW := gT_4 118 _ rfl rfl
set_option maxRecDepth 10000 in
theorem co_Quiet_isUnder : Cond.code y_Quiet_isUnder prog_4_method_2_code 2 (some (FieldType.boolean)) ∈ gW := gT_4 119 _ rfl rfl
set_option maxRecDepth 10000 in
theorem ml_Quiet_7 : Cond.methodLink "BesideTom$QuietKind" 7 y_PK_isUnder ∈ gW := gT_4 120 _ rfl rfl
set_option maxRecDepth 10000 in
theorem sl_Quiet_PK_isUnder_Quiet_isUnder : Cond.selects "BesideTom$QuietKind" y_PK_isUnder y_Quiet_isUnder ∈ gW := gT_4 121 _ rfl rfl
set_option maxRecDepth 10000 in
theorem sl_Short_PK_isUnder_Short_isUnder : Cond.selects "BesideTom$ShortKind" y_PK_isUnder y_Short_isUnder ∈ gW := gT_4 122 _ rfl rfl
set_option maxRecDepth 10000 in
theorem im_Short_isUnder : Cond.instanceMethod y_Short_isUnder ∈ gW := gT_4 123 _ rfl rfl
set_option maxRecDepth 10000 in
theorem co_Short_isUnder : Cond.code y_Short_isUnder prog_8_method_2_code 2 (some (FieldType.boolean)) ∈ gW := gT_4 124 _ rfl rfl
set_option maxRecDepth 10000 in
theorem ml_Short_7 : Cond.methodLink "BesideTom$ShortKind" 7 y_PK_isUnder ∈ gW := gT_4 125 _ rfl rfl
set_option maxRecDepth 10000 in
theorem sl_Talk_PK_isUnder_Talk_isUnder : Cond.selects "BesideTom$TalkerKind" y_PK_isUnder y_Talk_isUnder ∈ gW := gT_4 126 _ rfl rfl
set_option maxRecDepth 10000 in
theorem im_Talk_isUnder : Cond.instanceMethod y_Talk_isUnder ∈ gW := gT_4 127 _ rfl rfl
set_option maxRecDepth 10000 in
theorem co_Talk_isUnder : Cond.code y_Talk_isUnder prog_9_method_2_code 2 (some (FieldType.boolean)) ∈ gW := gT_4 128 _ rfl rfl
set_option maxRecDepth 10000 in
theorem ml_Talk_7 : Cond.methodLink "BesideTom$TalkerKind" 7 y_PK_isUnder ∈ gW := gT_4 129 _ rfl rfl
set_option maxRecDepth 10000 in
theorem sl_Told_PK_isUnder_Told_isUnder : Cond.selects "BesideTom$ToldKind" y_PK_isUnder y_Told_isUnder ∈ gW := gT_4 130 _ rfl rfl
set_option maxRecDepth 10000 in
theorem im_Told_isUnder : Cond.instanceMethod y_Told_isUnder ∈ gW := gT_4 131 _ rfl rfl
set_option maxRecDepth 10000 in
theorem co_Told_isUnder : Cond.code y_Told_isUnder prog_10_method_2_code 2 (some (FieldType.boolean)) ∈ gW := gT_4 132 _ rfl rfl
set_option maxRecDepth 10000 in
theorem ml_Told_9 : Cond.methodLink "BesideTom$ToldKind" 9 y_Short_isUnder ∈ gW := gT_4 133 _ rfl rfl
set_option maxRecDepth 10000 in
theorem sl_Tom_PK_isUnder_Tom_isUnder : Cond.selects "BesideTom$TomKind" y_PK_isUnder y_Tom_isUnder ∈ gW := gT_4 134 _ rfl rfl
set_option maxRecDepth 10000 in
theorem im_Tom_isUnder : Cond.instanceMethod y_Tom_isUnder ∈ gW := gT_4 135 _ rfl rfl
set_option maxRecDepth 10000 in
theorem co_Tom_isUnder : Cond.code y_Tom_isUnder prog_11_method_2_code 2 (some (FieldType.boolean)) ∈ gW := gT_4 136 _ rfl rfl
set_option maxRecDepth 10000 in
theorem ml_Tom_7 : Cond.methodLink "BesideTom$TomKind" 7 y_Talk_isUnder ∈ gW := gT_4 137 _ rfl rfl
set_option maxRecDepth 10000 in
theorem co_PK_isUnder : Cond.code y_PK_isUnder prog_3_method_2_code 2 (some (FieldType.boolean)) ∈ gW := gT_4 138 _ rfl rfl
set_option maxRecDepth 10000 in
theorem ml_Law_148 : Cond.methodLink "BesideTomLaw" 148 y_BT_count ∈ gW := gT_4 139 _ rfl rfl
set_option maxRecDepth 10000 in
theorem im_BT_count : Cond.instanceMethod y_BT_count ∈ gW := gT_4 140 _ rfl rfl
set_option maxRecDepth 10000 in
theorem sl_BT_BT_count_BT_count : Cond.selects "BesideTom" y_BT_count y_BT_count ∈ gW := gT_4 141 _ rfl rfl
set_option maxRecDepth 10000 in
theorem co_BT_count : Cond.code y_BT_count prog_1_method_41_code 2 (some (FieldType.int)) ∈ gW := gT_4 142 _ rfl rfl
set_option maxRecDepth 10000 in
theorem ml_BT_314 : Cond.methodLink "BesideTom" 314 y_Rooms_signs ∈ gW := gT_4 143 _ rfl rfl
set_option maxRecDepth 10000 in
theorem im_Rooms_signs : Cond.instanceMethod y_Rooms_signs ∈ gW := gT_4 144 _ rfl rfl
set_option maxRecDepth 10000 in
theorem sl_Rooms_Rooms_signs_Rooms_signs : Cond.selects "BesideTom$Rooms" y_Rooms_signs y_Rooms_signs ∈ gW := gT_4 145 _ rfl rfl
set_option maxRecDepth 10000 in
theorem co_Rooms_signs : Cond.code y_Rooms_signs prog_5_method_2_code 1 (some (FieldType.int)) ∈ gW := gT_4 146 _ rfl rfl
set_option maxRecDepth 10000 in
theorem ml_Law_152 : Cond.methodLink "BesideTomLaw" 152 y_BT_tape ∈ gW := gT_4 147 _ rfl rfl
set_option maxRecDepth 10000 in
theorem im_BT_tape : Cond.instanceMethod y_BT_tape ∈ gW := gT_4 148 _ rfl rfl
set_option maxRecDepth 10000 in
theorem sl_BT_BT_tape_BT_tape : Cond.selects "BesideTom" y_BT_tape y_BT_tape ∈ gW := gT_4 149 _ rfl rfl
set_option maxRecDepth 10000 in
theorem co_BT_tape : Cond.code y_BT_tape prog_1_method_42_code 5 (some (FieldType.int)) ∈ gW := gT_4 150 _ rfl rfl
set_option maxRecDepth 10000 in
theorem ml_Law_158 : Cond.methodLink "BesideTomLaw" 158 y_BT_item ∈ gW := gT_4 151 _ rfl rfl
set_option maxRecDepth 10000 in
theorem im_BT_item : Cond.instanceMethod y_BT_item ∈ gW := gT_4 152 _ rfl rfl
set_option maxRecDepth 10000 in
theorem sl_BT_BT_item_BT_item : Cond.selects "BesideTom" y_BT_item y_BT_item ∈ gW := gT_4 153 _ rfl rfl
set_option maxRecDepth 10000 in
theorem co_BT_item : Cond.code y_BT_item prog_1_method_43_code 5 (some (FieldType.int)) ∈ gW := gT_4 154 _ rfl rfl
set_option maxRecDepth 10000 in
theorem ml_BT_317 : Cond.methodLink "BesideTom" 317 y_BT_asItem ∈ gW := gT_4 155 _ rfl rfl
set_option maxRecDepth 10000 in
theorem sm_BT_asItem : Cond.static y_BT_asItem ∈ gW := gT_4 156 _ rfl rfl
set_option maxRecDepth 10000 in
theorem co_BT_asItem : Cond.code y_BT_asItem prog_1_method_47_code 3 (some (FieldType.long)) ∈ gW := gT_4 157 _ rfl rfl
set_option maxRecDepth 10000 in
theorem ml_Law_163 : Cond.methodLink "BesideTomLaw" 163 y_BT_read ∈ gW := gT_4 158 _ rfl rfl
set_option maxRecDepth 10000 in
theorem im_BT_read : Cond.instanceMethod y_BT_read ∈ gW := gT_4 159 _ rfl rfl
set_option maxRecDepth 10000 in
theorem sl_BT_BT_read_BT_read : Cond.selects "BesideTom" y_BT_read y_BT_read ∈ gW := gT_4 160 _ rfl rfl
set_option maxRecDepth 10000 in
theorem co_BT_read : Cond.code y_BT_read prog_1_method_44_code 3 (some (FieldType.long)) ∈ gW := gT_4 161 _ rfl rfl
set_option maxRecDepth 10000 in
theorem ml_Law_167 : Cond.methodLink "BesideTomLaw" 167 y_BT_shift ∈ gW := gT_4 162 _ rfl rfl
set_option maxRecDepth 10000 in
theorem im_BT_shift : Cond.instanceMethod y_BT_shift ∈ gW := gT_4 163 _ rfl rfl
set_option maxRecDepth 10000 in
theorem sl_BT_BT_shift_BT_shift : Cond.selects "BesideTom" y_BT_shift y_BT_shift ∈ gW := gT_4 164 _ rfl rfl
set_option maxRecDepth 10000 in
theorem co_BT_shift : Cond.code y_BT_shift prog_1_method_45_code 6 (some (FieldType.int)) ∈ gW := gT_4 165 _ rfl rfl
set_option maxRecDepth 10000 in
theorem ml_BT_321 : Cond.methodLink "BesideTom" 321 y_BT_isRange ∈ gW := gT_4 166 _ rfl rfl
set_option maxRecDepth 10000 in
theorem im_BT_isRange : Cond.instanceMethod y_BT_isRange ∈ gW := gT_4 168 _ rfl rfl
set_option maxRecDepth 10000 in
theorem co_BT_isRange : Cond.code y_BT_isRange prog_1_method_46_code 4 (some (FieldType.boolean)) ∈ gW := gT_4 169 _ rfl rfl
set_option maxRecDepth 10000 in
theorem ml_Law_12 : Cond.methodLink "BesideTomLaw" 12 y_M_init ∈ gW := gT_4 172 _ rfl rfl
set_option maxRecDepth 10000 in
theorem im_M_init : Cond.instanceMethod y_M_init ∈ gW := gT_4 173 _ rfl rfl
set_option maxRecDepth 10000 in
theorem co_M_init : Cond.code y_M_init prog_14_method_1_code 1 none ∈ gW := gT_4 174 _ rfl rfl
set_option maxRecDepth 10000 in
theorem ml_M_1 : Cond.methodLink "BesideTomModel" 1 y_Obj_init ∈ gW := gT_4 175 _ rfl rfl
set_option maxRecDepth 10000 in
theorem fl_M_7 : Cond.fieldLink "BesideTomModel" 7 "BesideTomModel" "pupils" "I" ∈ gW := gT_4 176 _ rfl rfl
set_option maxRecDepth 10000 in
theorem fl_M_13 : Cond.fieldLink "BesideTomModel" 13 "BesideTomModel" "gone" "I" ∈ gW := gT_4 177 _ rfl rfl
set_option maxRecDepth 10000 in
theorem fl_M_16 : Cond.fieldLink "BesideTomModel" 16 "BesideTomModel" "worn" "I" ∈ gW := gT_4 178 _ rfl rfl
set_option maxRecDepth 10000 in
theorem fl_M_19 : Cond.fieldLink "BesideTomModel" 19 "BesideTomModel" "weeks" "I" ∈ gW := gT_4 179 _ rfl rfl
set_option maxRecDepth 10000 in
theorem fl_M_22 : Cond.fieldLink "BesideTomModel" 22 "BesideTomModel" "kind" "[I" ∈ gW := gT_4 180 _ rfl rfl
set_option maxRecDepth 10000 in
theorem fl_M_26 : Cond.fieldLink "BesideTomModel" 26 "BesideTomModel" "v" "[I" ∈ gW := gT_4 181 _ rfl rfl
set_option maxRecDepth 10000 in
theorem fl_M_29 : Cond.fieldLink "BesideTomModel" 29 "BesideTomModel" "desk" "[I" ∈ gW := gT_4 182 _ rfl rfl
set_option maxRecDepth 10000 in
theorem fl_M_32 : Cond.fieldLink "BesideTomModel" 32 "BesideTomModel" "knew" "[I" ∈ gW := gT_4 183 _ rfl rfl
set_option maxRecDepth 10000 in
theorem fl_M_35 : Cond.fieldLink "BesideTomModel" 35 "BesideTomModel" "lines" "[I" ∈ gW := gT_4 184 _ rfl rfl
set_option maxRecDepth 10000 in
theorem fl_M_38 : Cond.fieldLink "BesideTomModel" 38 "BesideTomModel" "rooms" "I" ∈ gW := gT_4 185 _ rfl rfl
set_option maxRecDepth 10000 in
theorem fl_M_41 : Cond.fieldLink "BesideTomModel" 41 "BesideTomModel" "the" "I" ∈ gW := gT_4 186 _ rfl rfl
set_option maxRecDepth 10000 in
theorem fl_M_44 : Cond.fieldLink "BesideTomModel" 44 "BesideTomModel" "fed" "I" ∈ gW := gT_4 187 _ rfl rfl
set_option maxRecDepth 10000 in
theorem fl_M_47 : Cond.fieldLink "BesideTomModel" 47 "BesideTomModel" "at" "I" ∈ gW := gT_4 188 _ rfl rfl
set_option maxRecDepth 10000 in
theorem fl_M_50 : Cond.fieldLink "BesideTomModel" 50 "BesideTomModel" "digits" "I" ∈ gW := gT_4 189 _ rfl rfl
set_option maxRecDepth 10000 in
theorem fl_M_53 : Cond.fieldLink "BesideTomModel" 53 "BesideTomModel" "text" "[I" ∈ gW := gT_4 190 _ rfl rfl
set_option maxRecDepth 10000 in
theorem fl_M_56 : Cond.fieldLink "BesideTomModel" 56 "BesideTomModel" "clauses" "[I" ∈ gW := gT_4 191 _ rfl rfl
set_option maxRecDepth 10000 in
theorem fl_M_59 : Cond.fieldLink "BesideTomModel" 59 "BesideTomModel" "word" "[I" ∈ gW := gT_4 192 _ rfl rfl
set_option maxRecDepth 10000 in
theorem fl_M_62 : Cond.fieldLink "BesideTomModel" 62 "BesideTomModel" "number" "[I" ∈ gW := gT_4 193 _ rfl rfl
set_option maxRecDepth 10000 in
theorem fl_M_65 : Cond.fieldLink "BesideTomModel" 65 "BesideTomModel" "from" "[I" ∈ gW := gT_4 194 _ rfl rfl
set_option maxRecDepth 10000 in
theorem fl_M_68 : Cond.fieldLink "BesideTomModel" 68 "BesideTomModel" "to" "[I" ∈ gW := gT_4 195 _ rfl rfl
set_option maxRecDepth 10000 in
theorem fl_M_71 : Cond.fieldLink "BesideTomModel" 71 "BesideTomModel" "sign" "[I" ∈ gW := gT_4 196 _ rfl rfl
set_option maxRecDepth 10000 in
theorem fl_M_74 : Cond.fieldLink "BesideTomModel" 74 "BesideTomModel" "waits" "[I" ∈ gW := gT_4 197 _ rfl rfl
set_option maxRecDepth 10000 in
theorem fl_M_77 : Cond.fieldLink "BesideTomModel" 77 "BesideTomModel" "signs" "I" ∈ gW := gT_4 198 _ rfl rfl
set_option maxRecDepth 10000 in
theorem fl_M_80 : Cond.fieldLink "BesideTomModel" 80 "BesideTomModel" "waiting" "I" ∈ gW := gT_4 199 _ rfl rfl
set_option maxRecDepth 10000 in
theorem fl_M_83 : Cond.fieldLink "BesideTomModel" 83 "BesideTomModel" "open" "I" ∈ gW := gT_4 200 _ rfl rfl
set_option maxRecDepth 10000 in
theorem fl_M_86 : Cond.fieldLink "BesideTomModel" 86 "BesideTomModel" "letters" "[I" ∈ gW := gT_4 201 _ rfl rfl
set_option maxRecDepth 10000 in
theorem fl_M_89 : Cond.fieldLink "BesideTomModel" 89 "BesideTomModel" "pile" "[Z" ∈ gW := gT_4 202 _ rfl rfl
set_option maxRecDepth 10000 in
theorem fl_M_93 : Cond.fieldLink "BesideTomModel" 93 "BesideTomModel" "mostKnown" "I" ∈ gW := gT_4 203 _ rfl rfl
set_option maxRecDepth 10000 in
theorem fl_M_96 : Cond.fieldLink "BesideTomModel" 96 "BesideTomModel" "keptGone" "I" ∈ gW := gT_4 204 _ rfl rfl
set_option maxRecDepth 10000 in
theorem fl_M_99 : Cond.fieldLink "BesideTomModel" 99 "BesideTomModel" "keptWorn" "I" ∈ gW := gT_4 205 _ rfl rfl
set_option maxRecDepth 10000 in
theorem fl_M_102 : Cond.fieldLink "BesideTomModel" 102 "BesideTomModel" "keptWeeks" "I" ∈ gW := gT_4 206 _ rfl rfl
set_option maxRecDepth 10000 in
theorem fl_M_105 : Cond.fieldLink "BesideTomModel" 105 "BesideTomModel" "keptDesk" "[I" ∈ gW := gT_4 207 _ rfl rfl
set_option maxRecDepth 10000 in
theorem fl_M_108 : Cond.fieldLink "BesideTomModel" 108 "BesideTomModel" "keptKnew" "[I" ∈ gW := gT_4 208 _ rfl rfl
set_option maxRecDepth 10000 in
theorem fl_M_111 : Cond.fieldLink "BesideTomModel" 111 "BesideTomModel" "bestDesk" "[I" ∈ gW := gT_4 209 _ rfl rfl
set_option maxRecDepth 10000 in
theorem fl_M_114 : Cond.fieldLink "BesideTomModel" 114 "BesideTomModel" "heard" "I" ∈ gW := gT_4 210 _ rfl rfl
set_option maxRecDepth 10000 in
theorem fl_M_117 : Cond.fieldLink "BesideTomModel" 117 "BesideTomModel" "heardNoise" "[I" ∈ gW := gT_4 211 _ rfl rfl
set_option maxRecDepth 10000 in
theorem fl_M_120 : Cond.fieldLink "BesideTomModel" 120 "BesideTomModel" "heardWhen" "[I" ∈ gW := gT_4 212 _ rfl rfl
set_option maxRecDepth 10000 in
theorem fl_M_123 : Cond.fieldLink "BesideTomModel" 123 "BesideTomModel" "terms" "I" ∈ gW := gT_4 213 _ rfl rfl
set_option maxRecDepth 10000 in
theorem fl_M_126 : Cond.fieldLink "BesideTomModel" 126 "BesideTomModel" "books" "I" ∈ gW := gT_4 214 _ rfl rfl
set_option maxRecDepth 10000 in
theorem fl_M_129 : Cond.fieldLink "BesideTomModel" 129 "BesideTomModel" "termWhat" "[I" ∈ gW := gT_4 215 _ rfl rfl
set_option maxRecDepth 10000 in
theorem fl_M_132 : Cond.fieldLink "BesideTomModel" 132 "BesideTomModel" "termNumber" "[I" ∈ gW := gT_4 216 _ rfl rfl
set_option maxRecDepth 10000 in
theorem fl_M_135 : Cond.fieldLink "BesideTomModel" 135 "BesideTomModel" "bookWho" "[I" ∈ gW := gT_4 217 _ rfl rfl
set_option maxRecDepth 10000 in
theorem fl_M_138 : Cond.fieldLink "BesideTomModel" 138 "BesideTomModel" "bookDesk" "[I" ∈ gW := gT_4 218 _ rfl rfl
set_option maxRecDepth 10000 in
theorem fl_M_141 : Cond.fieldLink "BesideTomModel" 141 "BesideTomModel" "hasImage" "Z" ∈ gW := gT_4 219 _ rfl rfl
set_option maxRecDepth 10000 in
theorem fl_M_145 : Cond.fieldLink "BesideTomModel" 145 "BesideTomModel" "imageThe" "I" ∈ gW := gT_4 220 _ rfl rfl
set_option maxRecDepth 10000 in
theorem fl_M_148 : Cond.fieldLink "BesideTomModel" 148 "BesideTomModel" "imagePupils" "I" ∈ gW := gT_4 221 _ rfl rfl
set_option maxRecDepth 10000 in
theorem fl_M_151 : Cond.fieldLink "BesideTomModel" 151 "BesideTomModel" "imageGone" "I" ∈ gW := gT_4 222 _ rfl rfl
set_option maxRecDepth 10000 in
theorem fl_M_154 : Cond.fieldLink "BesideTomModel" 154 "BesideTomModel" "imageWorn" "I" ∈ gW := gT_4 223 _ rfl rfl
set_option maxRecDepth 10000 in
theorem fl_M_157 : Cond.fieldLink "BesideTomModel" 157 "BesideTomModel" "imageWeeks" "I" ∈ gW := gT_4 224 _ rfl rfl
set_option maxRecDepth 10000 in
theorem fl_M_160 : Cond.fieldLink "BesideTomModel" 160 "BesideTomModel" "imageHeard" "I" ∈ gW := gT_4 225 _ rfl rfl
set_option maxRecDepth 10000 in
theorem fl_M_163 : Cond.fieldLink "BesideTomModel" 163 "BesideTomModel" "imageTerms" "I" ∈ gW := gT_4 226 _ rfl rfl
set_option maxRecDepth 10000 in
theorem fl_M_166 : Cond.fieldLink "BesideTomModel" 166 "BesideTomModel" "imageBooks" "I" ∈ gW := gT_4 227 _ rfl rfl
set_option maxRecDepth 10000 in
theorem fl_M_169 : Cond.fieldLink "BesideTomModel" 169 "BesideTomModel" "imageKind" "[I" ∈ gW := gT_4 228 _ rfl rfl
set_option maxRecDepth 10000 in
theorem fl_M_172 : Cond.fieldLink "BesideTomModel" 172 "BesideTomModel" "imageV" "[I" ∈ gW := gT_4 229 _ rfl rfl
set_option maxRecDepth 10000 in
theorem fl_M_175 : Cond.fieldLink "BesideTomModel" 175 "BesideTomModel" "imageDesk" "[I" ∈ gW := gT_4 230 _ rfl rfl
set_option maxRecDepth 10000 in
theorem fl_M_178 : Cond.fieldLink "BesideTomModel" 178 "BesideTomModel" "imageKnew" "[I" ∈ gW := gT_4 231 _ rfl rfl
set_option maxRecDepth 10000 in
theorem fl_M_181 : Cond.fieldLink "BesideTomModel" 181 "BesideTomModel" "imageLines" "[I" ∈ gW := gT_4 232 _ rfl rfl
set_option maxRecDepth 10000 in
theorem fl_M_184 : Cond.fieldLink "BesideTomModel" 184 "BesideTomModel" "imageNoise" "[I" ∈ gW := gT_4 233 _ rfl rfl
set_option maxRecDepth 10000 in
theorem fl_M_187 : Cond.fieldLink "BesideTomModel" 187 "BesideTomModel" "imageWhen" "[I" ∈ gW := gT_4 234 _ rfl rfl
set_option maxRecDepth 10000 in
theorem fl_M_190 : Cond.fieldLink "BesideTomModel" 190 "BesideTomModel" "imageWhat" "[I" ∈ gW := gT_4 235 _ rfl rfl
set_option maxRecDepth 10000 in
theorem fl_M_193 : Cond.fieldLink "BesideTomModel" 193 "BesideTomModel" "imageNumber" "[I" ∈ gW := gT_4 236 _ rfl rfl
set_option maxRecDepth 10000 in
theorem fl_M_196 : Cond.fieldLink "BesideTomModel" 196 "BesideTomModel" "imageBookWho" "[I" ∈ gW := gT_4 237 _ rfl rfl
set_option maxRecDepth 10000 in
theorem fl_M_199 : Cond.fieldLink "BesideTomModel" 199 "BesideTomModel" "imageBookDesk" "[I" ∈ gW := gT_4 238 _ rfl rfl
set_option maxRecDepth 10000 in
theorem fl_M_202 : Cond.fieldLink "BesideTomModel" 202 "BesideTomModel" "ran" "I" ∈ gW := gT_4 239 _ rfl rfl
set_option maxRecDepth 10000 in
theorem fl_M_205 : Cond.fieldLink "BesideTomModel" 205 "BesideTomModel" "bodies" "[I" ∈ gW := gT_5 0 _ rfl rfl
set_option maxRecDepth 10000 in
theorem fl_M_208 : Cond.fieldLink "BesideTomModel" 208 "BesideTomModel" "sort" "[I" ∈ gW := gT_5 1 _ rfl rfl
set_option maxRecDepth 10000 in
theorem fl_M_211 : Cond.fieldLink "BesideTomModel" 211 "BesideTomModel" "length" "[I" ∈ gW := gT_5 2 _ rfl rfl
set_option maxRecDepth 10000 in
theorem fl_M_214 : Cond.fieldLink "BesideTomModel" 214 "BesideTomModel" "item" "[J" ∈ gW := gT_5 3 _ rfl rfl
set_option maxRecDepth 10000 in
theorem fl_M_218 : Cond.fieldLink "BesideTomModel" 218 "BesideTomModel" "aside" "[J" ∈ gW := gT_5 4 _ rfl rfl
set_option maxRecDepth 10000 in
theorem su_M_Obj : Cond.superclass "BesideTomModel" "java/lang/Object" ∈ gW := gT_5 143 _ rfl rfl
set_option maxRecDepth 10000 in
theorem ml_Law_17 : Cond.methodLink "BesideTomLaw" 17 y_M_pupil ∈ gW := gT_5 145 _ rfl rfl
set_option maxRecDepth 10000 in
theorem im_M_pupil : Cond.instanceMethod y_M_pupil ∈ gW := gT_5 146 _ rfl rfl
set_option maxRecDepth 10000 in
theorem sl_M_M_pupil_M_pupil : Cond.selects "BesideTomModel" y_M_pupil y_M_pupil ∈ gW := gT_5 147 _ rfl rfl
set_option maxRecDepth 10000 in
theorem co_M_pupil : Cond.code y_M_pupil prog_14_method_12_code 5 (some (FieldType.int)) ∈ gW := gT_5 148 _ rfl rfl
set_option maxRecDepth 10000 in
theorem ml_M_225 : Cond.methodLink "BesideTomModel" 225 y_M_in ∈ gW := gT_5 149 _ rfl rfl
set_option maxRecDepth 10000 in
theorem im_M_in : Cond.instanceMethod y_M_in ∈ gW := gT_5 151 _ rfl rfl
set_option maxRecDepth 10000 in
theorem co_M_in : Cond.code y_M_in prog_14_method_2_code 4 (some (FieldType.boolean)) ∈ gW := gT_5 152 _ rfl rfl
set_option maxRecDepth 10000 in
theorem ml_M_229 : Cond.methodLink "BesideTomModel" 229 y_M_whoHas ∈ gW := gT_5 153 _ rfl rfl
set_option maxRecDepth 10000 in
theorem im_M_whoHas : Cond.instanceMethod y_M_whoHas ∈ gW := gT_5 155 _ rfl rfl
set_option maxRecDepth 10000 in
theorem co_M_whoHas : Cond.code y_M_whoHas prog_14_method_11_code 3 (some (FieldType.int)) ∈ gW := gT_5 156 _ rfl rfl
set_option maxRecDepth 10000 in
theorem ml_Law_30 : Cond.methodLink "BesideTomLaw" 30 y_M_away ∈ gW := gT_5 157 _ rfl rfl
set_option maxRecDepth 10000 in
theorem im_M_away : Cond.instanceMethod y_M_away ∈ gW := gT_5 158 _ rfl rfl
set_option maxRecDepth 10000 in
theorem sl_M_M_away_M_away : Cond.selects "BesideTomModel" y_M_away y_M_away ∈ gW := gT_5 159 _ rfl rfl
set_option maxRecDepth 10000 in
theorem co_M_away : Cond.code y_M_away prog_14_method_14_code 4 (some (FieldType.int)) ∈ gW := gT_5 160 _ rfl rfl
set_option maxRecDepth 10000 in
theorem ml_M_233 : Cond.methodLink "BesideTomModel" 233 y_M_isPupil ∈ gW := gT_5 161 _ rfl rfl
set_option maxRecDepth 10000 in
theorem im_M_isPupil : Cond.instanceMethod y_M_isPupil ∈ gW := gT_5 163 _ rfl rfl
set_option maxRecDepth 10000 in
theorem co_M_isPupil : Cond.code y_M_isPupil prog_14_method_7_code 2 (some (FieldType.boolean)) ∈ gW := gT_5 164 _ rfl rfl
set_option maxRecDepth 10000 in
theorem ml_M_221 : Cond.methodLink "BesideTomModel" 221 y_M_has ∈ gW := gT_5 165 _ rfl rfl
set_option maxRecDepth 10000 in
theorem im_M_has : Cond.instanceMethod y_M_has ∈ gW := gT_5 167 _ rfl rfl
set_option maxRecDepth 10000 in
theorem co_M_has : Cond.code y_M_has prog_14_method_3_code 3 (some (FieldType.boolean)) ∈ gW := gT_5 168 _ rfl rfl
set_option maxRecDepth 10000 in
theorem ml_M_237 : Cond.methodLink "BesideTomModel" 237 y_M_goes ∈ gW := gT_5 169 _ rfl rfl
set_option maxRecDepth 10000 in
theorem im_M_goes : Cond.instanceMethod y_M_goes ∈ gW := gT_5 171 _ rfl rfl
set_option maxRecDepth 10000 in
theorem co_M_goes : Cond.code y_M_goes prog_14_method_13_code 3 none ∈ gW := gT_5 172 _ rfl rfl
set_option maxRecDepth 10000 in
theorem ml_Law_34 : Cond.methodLink "BesideTomLaw" 34 y_M_knows ∈ gW := gT_5 173 _ rfl rfl
set_option maxRecDepth 10000 in
theorem im_M_knows : Cond.instanceMethod y_M_knows ∈ gW := gT_5 174 _ rfl rfl
set_option maxRecDepth 10000 in
theorem sl_M_M_knows_M_knows : Cond.selects "BesideTomModel" y_M_knows y_M_knows ∈ gW := gT_5 175 _ rfl rfl
set_option maxRecDepth 10000 in
theorem co_M_knows : Cond.code y_M_knows prog_14_method_15_code 4 (some (FieldType.int)) ∈ gW := gT_5 176 _ rfl rfl
set_option maxRecDepth 10000 in
theorem ml_Law_39 : Cond.methodLink "BesideTomLaw" 39 y_M_line ∈ gW := gT_5 177 _ rfl rfl
set_option maxRecDepth 10000 in
theorem im_M_line : Cond.instanceMethod y_M_line ∈ gW := gT_5 178 _ rfl rfl
set_option maxRecDepth 10000 in
theorem sl_M_M_line_M_line : Cond.selects "BesideTomModel" y_M_line y_M_line ∈ gW := gT_5 179 _ rfl rfl
set_option maxRecDepth 10000 in
theorem co_M_line : Cond.code y_M_line prog_14_method_16_code 5 (some (FieldType.int)) ∈ gW := gT_5 180 _ rfl rfl
set_option maxRecDepth 10000 in
theorem ml_Law_25 : Cond.methodLink "BesideTomLaw" 25 y_M_move ∈ gW := gT_5 181 _ rfl rfl
set_option maxRecDepth 10000 in
theorem im_M_move : Cond.instanceMethod y_M_move ∈ gW := gT_5 182 _ rfl rfl
set_option maxRecDepth 10000 in
theorem sl_M_M_move_M_move : Cond.selects "BesideTomModel" y_M_move y_M_move ∈ gW := gT_5 183 _ rfl rfl
set_option maxRecDepth 10000 in
theorem co_M_move : Cond.code y_M_move prog_14_method_19_code 3 (some (FieldType.int)) ∈ gW := gT_5 184 _ rfl rfl
set_option maxRecDepth 10000 in
theorem ml_M_245 : Cond.methodLink "BesideTomModel" 245 y_M_isDesk ∈ gW := gT_5 185 _ rfl rfl
set_option maxRecDepth 10000 in
theorem im_M_isDesk : Cond.instanceMethod y_M_isDesk ∈ gW := gT_5 187 _ rfl rfl
set_option maxRecDepth 10000 in
theorem co_M_isDesk : Cond.code y_M_isDesk prog_14_method_8_code 2 (some (FieldType.boolean)) ∈ gW := gT_5 188 _ rfl rfl
set_option maxRecDepth 10000 in
theorem ml_M_248 : Cond.methodLink "BesideTomModel" 248 y_M_moves ∈ gW := gT_5 189 _ rfl rfl
set_option maxRecDepth 10000 in
theorem im_M_moves : Cond.instanceMethod y_M_moves ∈ gW := gT_5 191 _ rfl rfl
set_option maxRecDepth 10000 in
theorem co_M_moves : Cond.code y_M_moves prog_14_method_18_code 3 none ∈ gW := gT_5 192 _ rfl rfl
set_option maxRecDepth 10000 in
theorem ml_M_241 : Cond.methodLink "BesideTomModel" 241 y_M_takesDesk ∈ gW := gT_5 193 _ rfl rfl
set_option maxRecDepth 10000 in
theorem im_M_takesDesk : Cond.instanceMethod y_M_takesDesk ∈ gW := gT_5 195 _ rfl rfl
set_option maxRecDepth 10000 in
theorem co_M_takesDesk : Cond.code y_M_takesDesk prog_14_method_17_code 4 none ∈ gW := gT_5 196 _ rfl rfl
set_option maxRecDepth 10000 in
theorem ml_M_251 : Cond.methodLink "BesideTomModel" 251 y_M_noise ∈ gW := gT_5 197 _ rfl rfl
set_option maxRecDepth 10000 in
theorem im_M_noise : Cond.instanceMethod y_M_noise ∈ gW := gT_5 199 _ rfl rfl
set_option maxRecDepth 10000 in
theorem co_M_noise : Cond.code y_M_noise prog_14_method_49_code 3 (some (FieldType.int)) ∈ gW := gT_5 200 _ rfl rfl
set_option maxRecDepth 10000 in
theorem ml_M_340 : Cond.methodLink "BesideTomModel" 340 y_M_talk ∈ gW := gT_5 201 _ rfl rfl
set_option maxRecDepth 10000 in
theorem im_M_talk : Cond.instanceMethod y_M_talk ∈ gW := gT_5 203 _ rfl rfl
set_option maxRecDepth 10000 in
theorem co_M_talk : Cond.code y_M_talk prog_14_method_48_code 5 (some (FieldType.int)) ∈ gW := gT_5 204 _ rfl rfl
set_option maxRecDepth 10000 in
theorem ml_M_325 : Cond.methodLink "BesideTomModel" 325 y_M_beside ∈ gW := gT_5 205 _ rfl rfl
set_option maxRecDepth 10000 in
theorem im_M_beside : Cond.instanceMethod y_M_beside ∈ gW := gT_5 207 _ rfl rfl
set_option maxRecDepth 10000 in
theorem co_M_beside : Cond.code y_M_beside prog_14_method_46_code 4 (some (FieldType.int)) ∈ gW := gT_5 208 _ rfl rfl
set_option maxRecDepth 10000 in
theorem ml_M_322 : Cond.methodLink "BesideTomModel" 322 y_M_isNext ∈ gW := gT_5 209 _ rfl rfl
set_option maxRecDepth 10000 in
theorem im_M_isNext : Cond.instanceMethod y_M_isNext ∈ gW := gT_5 211 _ rfl rfl
set_option maxRecDepth 10000 in
theorem co_M_isNext : Cond.code y_M_isNext prog_14_method_45_code 4 (some (FieldType.boolean)) ∈ gW := gT_5 212 _ rfl rfl
set_option maxRecDepth 10000 in
theorem ml_M_334 : Cond.methodLink "BesideTomModel" 334 y_M_voice ∈ gW := gT_5 213 _ rfl rfl
set_option maxRecDepth 10000 in
theorem im_M_voice : Cond.instanceMethod y_M_voice ∈ gW := gT_5 215 _ rfl rfl
set_option maxRecDepth 10000 in
theorem co_M_voice : Cond.code y_M_voice prog_14_method_47_code 4 (some (FieldType.int)) ∈ gW := gT_5 216 _ rfl rfl
set_option maxRecDepth 10000 in
theorem ml_M_328 : Cond.methodLink "BesideTomModel" 328 y_M_many ∈ gW := gT_5 217 _ rfl rfl
set_option maxRecDepth 10000 in
theorem im_M_many : Cond.instanceMethod y_M_many ∈ gW := gT_5 219 _ rfl rfl
set_option maxRecDepth 10000 in
theorem co_M_many : Cond.code y_M_many prog_14_method_6_code 4 (some (FieldType.int)) ∈ gW := gT_5 220 _ rfl rfl
set_option maxRecDepth 10000 in
theorem ml_M_331 : Cond.methodLink "BesideTomModel" 331 y_M_mouth ∈ gW := gT_5 221 _ rfl rfl
set_option maxRecDepth 10000 in
theorem im_M_mouth : Cond.instanceMethod y_M_mouth ∈ gW := gT_5 223 _ rfl rfl
set_option maxRecDepth 10000 in
theorem co_M_mouth : Cond.code y_M_mouth prog_14_method_44_code 5 (some (FieldType.int)) ∈ gW := gT_5 224 _ rfl rfl
set_option maxRecDepth 10000 in
theorem ml_M_302 : Cond.methodLink "BesideTomModel" 302 y_M_begin ∈ gW := gT_5 225 _ rfl rfl
set_option maxRecDepth 10000 in
theorem im_M_begin : Cond.instanceMethod y_M_begin ∈ gW := gT_5 227 _ rfl rfl
set_option maxRecDepth 10000 in
theorem co_M_begin : Cond.code y_M_begin prog_14_method_37_code 1 (some (FieldType.int)) ∈ gW := gT_5 228 _ rfl rfl
set_option maxRecDepth 10000 in
theorem ml_M_305 : Cond.methodLink "BesideTomModel" 305 y_M_behind ∈ gW := gT_5 229 _ rfl rfl
set_option maxRecDepth 10000 in
theorem im_M_behind : Cond.instanceMethod y_M_behind ∈ gW := gT_5 231 _ rfl rfl
set_option maxRecDepth 10000 in
theorem co_M_behind : Cond.code y_M_behind prog_14_method_38_code 1 (some (FieldType.int)) ∈ gW := gT_5 232 _ rfl rfl
set_option maxRecDepth 10000 in
theorem ml_M_316 : Cond.methodLink "BesideTomModel" 316 y_M_holds ∈ gW := gT_5 233 _ rfl rfl
set_option maxRecDepth 10000 in
theorem im_M_holds : Cond.instanceMethod y_M_holds ∈ gW := gT_5 235 _ rfl rfl
set_option maxRecDepth 10000 in
theorem co_M_holds : Cond.code y_M_holds prog_14_method_43_code 9 (some (FieldType.boolean)) ∈ gW := gT_5 236 _ rfl rfl
set_option maxRecDepth 10000 in
theorem ml_M_312 : Cond.methodLink "BesideTomModel" 312 y_M_factOf ∈ gW := gT_5 237 _ rfl rfl
set_option maxRecDepth 10000 in
theorem im_M_factOf : Cond.instanceMethod y_M_factOf ∈ gW := gT_5 239 _ rfl rfl
set_option maxRecDepth 10000 in
theorem co_M_factOf : Cond.code y_M_factOf prog_14_method_42_code 4 (some (FieldType.int)) ∈ gW := gT_6 0 _ rfl rfl
set_option maxRecDepth 10000 in
theorem ml_M_319 : Cond.methodLink "BesideTomModel" 319 y_M_least0 ∈ gW := gT_6 1 _ rfl rfl
set_option maxRecDepth 10000 in
theorem im_M_least0 : Cond.instanceMethod y_M_least0 ∈ gW := gT_6 3 _ rfl rfl
set_option maxRecDepth 10000 in
theorem co_M_least0 : Cond.code y_M_least0 prog_14_method_5_code 2 (some (FieldType.int)) ∈ gW := gT_6 4 _ rfl rfl
set_option maxRecDepth 10000 in
theorem ml_M_337 : Cond.methodLink "BesideTomModel" 337 y_M_wears ∈ gW := gT_6 5 _ rfl rfl
set_option maxRecDepth 10000 in
theorem im_M_wears : Cond.instanceMethod y_M_wears ∈ gW := gT_6 7 _ rfl rfl
set_option maxRecDepth 10000 in
theorem co_M_wears : Cond.code y_M_wears prog_14_method_40_code 1 (some (FieldType.int)) ∈ gW := gT_6 8 _ rfl rfl
set_option maxRecDepth 10000 in
theorem ml_M_308 : Cond.methodLink "BesideTomModel" 308 y_M_lastOf ∈ gW := gT_6 9 _ rfl rfl
set_option maxRecDepth 10000 in
theorem im_M_lastOf : Cond.instanceMethod y_M_lastOf ∈ gW := gT_6 11 _ rfl rfl
set_option maxRecDepth 10000 in
theorem co_M_lastOf : Cond.code y_M_lastOf prog_14_method_39_code 5 (some (FieldType.int)) ∈ gW := gT_6 12 _ rfl rfl
set_option maxRecDepth 10000 in
theorem ml_Law_44 : Cond.methodLink "BesideTomLaw" 44 y_M_feed ∈ gW := gT_6 13 _ rfl rfl
set_option maxRecDepth 10000 in
theorem im_M_feed : Cond.instanceMethod y_M_feed ∈ gW := gT_6 14 _ rfl rfl
set_option maxRecDepth 10000 in
theorem sl_M_M_feed_M_feed : Cond.selects "BesideTomModel" y_M_feed y_M_feed ∈ gW := gT_6 15 _ rfl rfl
set_option maxRecDepth 10000 in
theorem co_M_feed : Cond.code y_M_feed prog_14_method_20_code 2 (some (FieldType.int)) ∈ gW := gT_6 16 _ rfl rfl
set_option maxRecDepth 10000 in
theorem ml_Law_49 : Cond.methodLink "BesideTomLaw" 49 y_M_room ∈ gW := gT_6 17 _ rfl rfl
set_option maxRecDepth 10000 in
theorem im_M_room : Cond.instanceMethod y_M_room ∈ gW := gT_6 18 _ rfl rfl
set_option maxRecDepth 10000 in
theorem sl_M_M_room_M_room : Cond.selects "BesideTomModel" y_M_room y_M_room ∈ gW := gT_6 19 _ rfl rfl
set_option maxRecDepth 10000 in
theorem co_M_room : Cond.code y_M_room prog_14_method_36_code 2 (some (FieldType.int)) ∈ gW := gT_6 20 _ rfl rfl
set_option maxRecDepth 10000 in
theorem ml_M_299 : Cond.methodLink "BesideTomModel" 299 y_M_goesText ∈ gW := gT_6 21 _ rfl rfl
set_option maxRecDepth 10000 in
theorem im_M_goesText : Cond.instanceMethod y_M_goesText ∈ gW := gT_6 23 _ rfl rfl
set_option maxRecDepth 10000 in
theorem co_M_goesText : Cond.code y_M_goesText prog_14_method_35_code 3 (some (FieldType.boolean)) ∈ gW := gT_6 24 _ rfl rfl
set_option maxRecDepth 10000 in
theorem ml_M_296 : Cond.methodLink "BesideTomModel" 296 y_M_takesClause ∈ gW := gT_6 25 _ rfl rfl
set_option maxRecDepth 10000 in
theorem im_M_takesClause : Cond.instanceMethod y_M_takesClause ∈ gW := gT_6 27 _ rfl rfl
set_option maxRecDepth 10000 in
theorem co_M_takesClause : Cond.code y_M_takesClause prog_14_method_34_code 2 (some (FieldType.boolean)) ∈ gW := gT_6 28 _ rfl rfl
set_option maxRecDepth 10000 in
theorem ml_M_290 : Cond.methodLink "BesideTomModel" 290 y_M_takesHead ∈ gW := gT_6 29 _ rfl rfl
set_option maxRecDepth 10000 in
theorem im_M_takesHead : Cond.instanceMethod y_M_takesHead ∈ gW := gT_6 31 _ rfl rfl
set_option maxRecDepth 10000 in
theorem co_M_takesHead : Cond.code y_M_takesHead prog_14_method_33_code 2 (some (FieldType.boolean)) ∈ gW := gT_6 32 _ rfl rfl
set_option maxRecDepth 10000 in
theorem ml_M_255 : Cond.methodLink "BesideTomModel" 255 y_M_next ∈ gW := gT_6 33 _ rfl rfl
set_option maxRecDepth 10000 in
theorem im_M_next : Cond.instanceMethod y_M_next ∈ gW := gT_6 35 _ rfl rfl
set_option maxRecDepth 10000 in
theorem co_M_next : Cond.code y_M_next prog_14_method_21_code 1 (some (FieldType.int)) ∈ gW := gT_6 36 _ rfl rfl
set_option maxRecDepth 10000 in
theorem ml_M_284 : Cond.methodLink "BesideTomModel" 284 y_M_takesWord ∈ gW := gT_6 37 _ rfl rfl
set_option maxRecDepth 10000 in
theorem im_M_takesWord : Cond.instanceMethod y_M_takesWord ∈ gW := gT_6 39 _ rfl rfl
set_option maxRecDepth 10000 in
theorem co_M_takesWord : Cond.code y_M_takesWord prog_14_method_24_code 4 (some (FieldType.boolean)) ∈ gW := gT_6 40 _ rfl rfl
set_option maxRecDepth 10000 in
theorem ml_M_258 : Cond.methodLink "BesideTomModel" 258 y_M_takes ∈ gW := gT_6 41 _ rfl rfl
set_option maxRecDepth 10000 in
theorem im_M_takes : Cond.instanceMethod y_M_takes ∈ gW := gT_6 43 _ rfl rfl
set_option maxRecDepth 10000 in
theorem co_M_takes : Cond.code y_M_takes prog_14_method_23_code 2 (some (FieldType.boolean)) ∈ gW := gT_6 44 _ rfl rfl
set_option maxRecDepth 10000 in
theorem ml_M_287 : Cond.methodLink "BesideTomModel" 287 y_M_second ∈ gW := gT_6 45 _ rfl rfl
set_option maxRecDepth 10000 in
theorem im_M_second : Cond.instanceMethod y_M_second ∈ gW := gT_6 47 _ rfl rfl
set_option maxRecDepth 10000 in
theorem co_M_second : Cond.code y_M_second prog_14_method_22_code 1 (some (FieldType.int)) ∈ gW := gT_6 48 _ rfl rfl
set_option maxRecDepth 10000 in
theorem ml_M_272 : Cond.methodLink "BesideTomModel" 272 y_M_takesNumber ∈ gW := gT_6 49 _ rfl rfl
set_option maxRecDepth 10000 in
theorem im_M_takesNumber : Cond.instanceMethod y_M_takesNumber ∈ gW := gT_6 51 _ rfl rfl
set_option maxRecDepth 10000 in
theorem co_M_takesNumber : Cond.code y_M_takesNumber prog_14_method_26_code 2 (some (FieldType.boolean)) ∈ gW := gT_6 52 _ rfl rfl
set_option maxRecDepth 10000 in
theorem ml_M_261 : Cond.methodLink "BesideTomModel" 261 y_M_isDigit ∈ gW := gT_6 53 _ rfl rfl
set_option maxRecDepth 10000 in
theorem im_M_isDigit : Cond.instanceMethod y_M_isDigit ∈ gW := gT_6 55 _ rfl rfl
set_option maxRecDepth 10000 in
theorem co_M_isDigit : Cond.code y_M_isDigit prog_14_method_25_code 1 (some (FieldType.boolean)) ∈ gW := gT_6 56 _ rfl rfl
set_option maxRecDepth 10000 in
theorem ml_M_293 : Cond.methodLink "BesideTomModel" 293 y_M_takesE ∈ gW := gT_6 57 _ rfl rfl
set_option maxRecDepth 10000 in
theorem im_M_takesE : Cond.instanceMethod y_M_takesE ∈ gW := gT_6 59 _ rfl rfl
set_option maxRecDepth 10000 in
theorem co_M_takesE : Cond.code y_M_takesE prog_14_method_32_code 4 (some (FieldType.boolean)) ∈ gW := gT_6 60 _ rfl rfl
set_option maxRecDepth 10000 in
theorem ml_M_278 : Cond.methodLink "BesideTomModel" 278 y_M_takesTest ∈ gW := gT_6 61 _ rfl rfl
set_option maxRecDepth 10000 in
theorem im_M_takesTest : Cond.instanceMethod y_M_takesTest ∈ gW := gT_6 63 _ rfl rfl
set_option maxRecDepth 10000 in
theorem co_M_takesTest : Cond.code y_M_takesTest prog_14_method_31_code 3 (some (FieldType.boolean)) ∈ gW := gT_6 64 _ rfl rfl
set_option maxRecDepth 10000 in
theorem ml_M_269 : Cond.methodLink "BesideTomModel" 269 y_M_place ∈ gW := gT_6 65 _ rfl rfl
set_option maxRecDepth 10000 in
theorem im_M_place : Cond.instanceMethod y_M_place ∈ gW := gT_6 67 _ rfl rfl
set_option maxRecDepth 10000 in
theorem co_M_place : Cond.code y_M_place prog_14_method_30_code 2 (some (FieldType.int)) ∈ gW := gT_6 68 _ rfl rfl
set_option maxRecDepth 10000 in
theorem ml_M_265 : Cond.methodLink "BesideTomModel" 265 y_M_emits ∈ gW := gT_6 69 _ rfl rfl
set_option maxRecDepth 10000 in
theorem im_M_emits : Cond.instanceMethod y_M_emits ∈ gW := gT_6 71 _ rfl rfl
set_option maxRecDepth 10000 in
theorem co_M_emits : Cond.code y_M_emits prog_14_method_27_code 2 none ∈ gW := gT_6 72 _ rfl rfl
set_option maxRecDepth 10000 in
theorem ml_M_275 : Cond.methodLink "BesideTomModel" 275 y_M_whole ∈ gW := gT_6 73 _ rfl rfl
set_option maxRecDepth 10000 in
theorem im_M_whole : Cond.instanceMethod y_M_whole ∈ gW := gT_6 75 _ rfl rfl
set_option maxRecDepth 10000 in
theorem co_M_whole : Cond.code y_M_whole prog_14_method_28_code 1 none ∈ gW := gT_6 76 _ rfl rfl
set_option maxRecDepth 10000 in
theorem ml_M_281 : Cond.methodLink "BesideTomModel" 281 y_M_settle ∈ gW := gT_6 77 _ rfl rfl
set_option maxRecDepth 10000 in
theorem im_M_settle : Cond.instanceMethod y_M_settle ∈ gW := gT_6 79 _ rfl rfl
set_option maxRecDepth 10000 in
theorem co_M_settle : Cond.code y_M_settle prog_14_method_29_code 2 none ∈ gW := gT_6 80 _ rfl rfl
set_option maxRecDepth 10000 in
theorem ml_Law_21 : Cond.methodLink "BesideTomLaw" 21 y_M_of ∈ gW := gT_6 81 _ rfl rfl
set_option maxRecDepth 10000 in
theorem im_M_of : Cond.instanceMethod y_M_of ∈ gW := gT_6 82 _ rfl rfl
set_option maxRecDepth 10000 in
theorem sl_M_M_of_M_of : Cond.selects "BesideTomModel" y_M_of y_M_of ∈ gW := gT_6 83 _ rfl rfl
set_option maxRecDepth 10000 in
theorem co_M_of : Cond.code y_M_of prog_14_method_54_code 3 (some (FieldType.int)) ∈ gW := gT_6 84 _ rfl rfl
set_option maxRecDepth 10000 in
theorem ml_M_349 : Cond.methodLink "BesideTomModel" 349 y_M_learns ∈ gW := gT_6 85 _ rfl rfl
set_option maxRecDepth 10000 in
theorem im_M_learns : Cond.instanceMethod y_M_learns ∈ gW := gT_6 87 _ rfl rfl
set_option maxRecDepth 10000 in
theorem co_M_learns : Cond.code y_M_learns prog_14_method_51_code 2 (some (FieldType.int)) ∈ gW := gT_6 88 _ rfl rfl
set_option maxRecDepth 10000 in
theorem ml_M_346 : Cond.methodLink "BesideTomModel" 346 y_M_learnsBy ∈ gW := gT_6 89 _ rfl rfl
set_option maxRecDepth 10000 in
theorem im_M_learnsBy : Cond.instanceMethod y_M_learnsBy ∈ gW := gT_6 91 _ rfl rfl
set_option maxRecDepth 10000 in
theorem co_M_learnsBy : Cond.code y_M_learnsBy prog_14_method_50_code 4 (some (FieldType.int)) ∈ gW := gT_6 92 _ rfl rfl
set_option maxRecDepth 10000 in
theorem ml_M_343 : Cond.methodLink "BesideTomModel" 343 y_M_cost ∈ gW := gT_6 93 _ rfl rfl
set_option maxRecDepth 10000 in
theorem im_M_cost : Cond.instanceMethod y_M_cost ∈ gW := gT_6 95 _ rfl rfl
set_option maxRecDepth 10000 in
theorem co_M_cost : Cond.code y_M_cost prog_14_method_41_code 1 (some (FieldType.int)) ∈ gW := gT_6 96 _ rfl rfl
set_option maxRecDepth 10000 in
theorem ml_Law_53 : Cond.methodLink "BesideTomLaw" 53 y_M_told ∈ gW := gT_6 97 _ rfl rfl
set_option maxRecDepth 10000 in
theorem im_M_told : Cond.instanceMethod y_M_told ∈ gW := gT_6 98 _ rfl rfl
set_option maxRecDepth 10000 in
theorem sl_M_M_told_M_told : Cond.selects "BesideTomModel" y_M_told y_M_told ∈ gW := gT_6 99 _ rfl rfl
set_option maxRecDepth 10000 in
theorem co_M_told : Cond.code y_M_told prog_14_method_55_code 2 (some (FieldType.int)) ∈ gW := gT_6 100 _ rfl rfl
set_option maxRecDepth 10000 in
theorem ml_M_352 : Cond.methodLink "BesideTomModel" 352 y_M_allKnow ∈ gW := gT_6 101 _ rfl rfl
set_option maxRecDepth 10000 in
theorem im_M_allKnow : Cond.instanceMethod y_M_allKnow ∈ gW := gT_6 103 _ rfl rfl
set_option maxRecDepth 10000 in
theorem co_M_allKnow : Cond.code y_M_allKnow prog_14_method_53_code 3 (some (FieldType.int)) ∈ gW := gT_6 104 _ rfl rfl
set_option maxRecDepth 10000 in
theorem ml_M_355 : Cond.methodLink "BesideTomModel" 355 y_M_allLearn ∈ gW := gT_6 105 _ rfl rfl
set_option maxRecDepth 10000 in
theorem im_M_allLearn : Cond.instanceMethod y_M_allLearn ∈ gW := gT_6 107 _ rfl rfl
set_option maxRecDepth 10000 in
theorem co_M_allLearn : Cond.code y_M_allLearn prog_14_method_52_code 4 (some (FieldType.int)) ∈ gW := gT_6 108 _ rfl rfl
set_option maxRecDepth 10000 in
theorem ml_Law_57 : Cond.methodLink "BesideTomLaw" 57 y_M_pass ∈ gW := gT_6 109 _ rfl rfl
set_option maxRecDepth 10000 in
theorem im_M_pass : Cond.instanceMethod y_M_pass ∈ gW := gT_6 110 _ rfl rfl
set_option maxRecDepth 10000 in
theorem sl_M_M_pass_M_pass : Cond.selects "BesideTomModel" y_M_pass y_M_pass ∈ gW := gT_6 111 _ rfl rfl
set_option maxRecDepth 10000 in
theorem co_M_pass : Cond.code y_M_pass prog_14_method_58_code 2 (some (FieldType.int)) ∈ gW := gT_6 112 _ rfl rfl
set_option maxRecDepth 10000 in
theorem ml_M_364 : Cond.methodLink "BesideTomModel" 364 y_M_isWeeks ∈ gW := gT_6 113 _ rfl rfl
set_option maxRecDepth 10000 in
theorem im_M_isWeeks : Cond.instanceMethod y_M_isWeeks ∈ gW := gT_6 115 _ rfl rfl
set_option maxRecDepth 10000 in
theorem co_M_isWeeks : Cond.code y_M_isWeeks prog_14_method_9_code 2 (some (FieldType.boolean)) ∈ gW := gT_6 116 _ rfl rfl
set_option maxRecDepth 10000 in
theorem ml_M_367 : Cond.methodLink "BesideTomModel" 367 y_M_goWeeks ∈ gW := gT_6 117 _ rfl rfl
set_option maxRecDepth 10000 in
theorem im_M_goWeeks : Cond.instanceMethod y_M_goWeeks ∈ gW := gT_6 119 _ rfl rfl
set_option maxRecDepth 10000 in
theorem co_M_goWeeks : Cond.code y_M_goWeeks prog_14_method_57_code 3 none ∈ gW := gT_6 120 _ rfl rfl
set_option maxRecDepth 10000 in
theorem ml_M_361 : Cond.methodLink "BesideTomModel" 361 y_M_goWeek ∈ gW := gT_6 121 _ rfl rfl
set_option maxRecDepth 10000 in
theorem im_M_goWeek : Cond.instanceMethod y_M_goWeek ∈ gW := gT_6 123 _ rfl rfl
set_option maxRecDepth 10000 in
theorem co_M_goWeek : Cond.code y_M_goWeek prog_14_method_56_code 3 none ∈ gW := gT_6 124 _ rfl rfl
set_option maxRecDepth 10000 in
theorem ml_M_358 : Cond.methodLink "BesideTomModel" 358 y_M_least ∈ gW := gT_6 125 _ rfl rfl
set_option maxRecDepth 10000 in
theorem im_M_least : Cond.instanceMethod y_M_least ∈ gW := gT_6 127 _ rfl rfl
set_option maxRecDepth 10000 in
theorem co_M_least : Cond.code y_M_least prog_14_method_4_code 3 (some (FieldType.int)) ∈ gW := gT_6 128 _ rfl rfl
set_option maxRecDepth 10000 in
theorem ml_Law_61 : Cond.methodLink "BesideTomLaw" 61 y_M_on ∈ gW := gT_6 129 _ rfl rfl
set_option maxRecDepth 10000 in
theorem im_M_on : Cond.instanceMethod y_M_on ∈ gW := gT_6 130 _ rfl rfl
set_option maxRecDepth 10000 in
theorem sl_M_M_on_M_on : Cond.selects "BesideTomModel" y_M_on y_M_on ∈ gW := gT_6 131 _ rfl rfl
set_option maxRecDepth 10000 in
theorem co_M_on : Cond.code y_M_on prog_14_method_61_code 4 (some (FieldType.int)) ∈ gW := gT_6 132 _ rfl rfl
set_option maxRecDepth 10000 in
theorem ml_M_371 : Cond.methodLink "BesideTomModel" 371 y_M_save ∈ gW := gT_6 133 _ rfl rfl
set_option maxRecDepth 10000 in
theorem im_M_save : Cond.instanceMethod y_M_save ∈ gW := gT_6 135 _ rfl rfl
set_option maxRecDepth 10000 in
theorem co_M_save : Cond.code y_M_save prog_14_method_59_code 2 none ∈ gW := gT_6 136 _ rfl rfl
set_option maxRecDepth 10000 in
theorem k_M_370 : Cond.constant "BesideTomModel" 370 (2000000000) ∈ gW := gT_6 137 _ rfl rfl
set_option maxRecDepth 10000 in
theorem ml_M_374 : Cond.methodLink "BesideTomModel" 374 y_M_putBack ∈ gW := gT_6 138 _ rfl rfl
set_option maxRecDepth 10000 in
theorem im_M_putBack : Cond.instanceMethod y_M_putBack ∈ gW := gT_6 140 _ rfl rfl
set_option maxRecDepth 10000 in
theorem co_M_putBack : Cond.code y_M_putBack prog_14_method_60_code 2 none ∈ gW := gT_6 141 _ rfl rfl
set_option maxRecDepth 10000 in
theorem ml_Law_65 : Cond.methodLink "BesideTomLaw" 65 y_M_loud ∈ gW := gT_6 142 _ rfl rfl
set_option maxRecDepth 10000 in
theorem im_M_loud : Cond.instanceMethod y_M_loud ∈ gW := gT_6 143 _ rfl rfl
set_option maxRecDepth 10000 in
theorem sl_M_M_loud_M_loud : Cond.selects "BesideTomModel" y_M_loud y_M_loud ∈ gW := gT_6 144 _ rfl rfl
set_option maxRecDepth 10000 in
theorem co_M_loud : Cond.code y_M_loud prog_14_method_62_code 3 (some (FieldType.int)) ∈ gW := gT_6 145 _ rfl rfl
set_option maxRecDepth 10000 in
theorem ml_M_377 : Cond.methodLink "BesideTomModel" 377 y_M_isNoise ∈ gW := gT_6 146 _ rfl rfl
set_option maxRecDepth 10000 in
theorem im_M_isNoise : Cond.instanceMethod y_M_isNoise ∈ gW := gT_6 148 _ rfl rfl
set_option maxRecDepth 10000 in
theorem co_M_isNoise : Cond.code y_M_isNoise prog_14_method_10_code 2 (some (FieldType.boolean)) ∈ gW := gT_6 149 _ rfl rfl
set_option maxRecDepth 10000 in
theorem ml_Law_69 : Cond.methodLink "BesideTomLaw" 69 y_M_quietest ∈ gW := gT_6 150 _ rfl rfl
set_option maxRecDepth 10000 in
theorem im_M_quietest : Cond.instanceMethod y_M_quietest ∈ gW := gT_6 151 _ rfl rfl
set_option maxRecDepth 10000 in
theorem sl_M_M_quietest_M_quietest : Cond.selects "BesideTomModel" y_M_quietest y_M_quietest ∈ gW := gT_6 152 _ rfl rfl
set_option maxRecDepth 10000 in
theorem co_M_quietest : Cond.code y_M_quietest prog_14_method_65_code 3 (some (FieldType.int)) ∈ gW := gT_6 153 _ rfl rfl
set_option maxRecDepth 10000 in
theorem ml_M_383 : Cond.methodLink "BesideTomModel" 383 y_M_layBest ∈ gW := gT_6 154 _ rfl rfl
set_option maxRecDepth 10000 in
theorem im_M_layBest : Cond.instanceMethod y_M_layBest ∈ gW := gT_6 156 _ rfl rfl
set_option maxRecDepth 10000 in
theorem co_M_layBest : Cond.code y_M_layBest prog_14_method_64_code 7 (some (FieldType.int)) ∈ gW := gT_6 157 _ rfl rfl
set_option maxRecDepth 10000 in
theorem ml_M_380 : Cond.methodLink "BesideTomModel" 380 y_M_layPlan ∈ gW := gT_6 158 _ rfl rfl
set_option maxRecDepth 10000 in
theorem im_M_layPlan : Cond.instanceMethod y_M_layPlan ∈ gW := gT_6 160 _ rfl rfl
set_option maxRecDepth 10000 in
theorem co_M_layPlan : Cond.code y_M_layPlan prog_14_method_63_code 5 (some (FieldType.boolean)) ∈ gW := gT_6 161 _ rfl rfl
set_option maxRecDepth 10000 in
theorem ml_Law_73 : Cond.methodLink "BesideTomLaw" 73 y_M_wisest ∈ gW := gT_6 162 _ rfl rfl
set_option maxRecDepth 10000 in
theorem im_M_wisest : Cond.instanceMethod y_M_wisest ∈ gW := gT_6 163 _ rfl rfl
set_option maxRecDepth 10000 in
theorem sl_M_M_wisest_M_wisest : Cond.selects "BesideTomModel" y_M_wisest y_M_wisest ∈ gW := gT_6 164 _ rfl rfl
set_option maxRecDepth 10000 in
theorem co_M_wisest : Cond.code y_M_wisest prog_14_method_66_code 3 (some (FieldType.int)) ∈ gW := gT_6 165 _ rfl rfl
set_option maxRecDepth 10000 in
theorem ml_Law_77 : Cond.methodLink "BesideTomLaw" 77 y_M_seat ∈ gW := gT_6 166 _ rfl rfl
set_option maxRecDepth 10000 in
theorem im_M_seat : Cond.instanceMethod y_M_seat ∈ gW := gT_6 167 _ rfl rfl
set_option maxRecDepth 10000 in
theorem sl_M_M_seat_M_seat : Cond.selects "BesideTomModel" y_M_seat y_M_seat ∈ gW := gT_6 168 _ rfl rfl
set_option maxRecDepth 10000 in
theorem co_M_seat : Cond.code y_M_seat prog_14_method_68_code 4 (some (FieldType.int)) ∈ gW := gT_6 169 _ rfl rfl
set_option maxRecDepth 10000 in
theorem ml_M_387 : Cond.methodLink "BesideTomModel" 387 y_M_noiseIfMoved ∈ gW := gT_6 170 _ rfl rfl
set_option maxRecDepth 10000 in
theorem im_M_noiseIfMoved : Cond.instanceMethod y_M_noiseIfMoved ∈ gW := gT_6 172 _ rfl rfl
set_option maxRecDepth 10000 in
theorem co_M_noiseIfMoved : Cond.code y_M_noiseIfMoved prog_14_method_67_code 4 (some (FieldType.int)) ∈ gW := gT_6 173 _ rfl rfl
set_option maxRecDepth 10000 in
theorem ml_Law_81 : Cond.methodLink "BesideTomLaw" 81 y_M_best ∈ gW := gT_6 174 _ rfl rfl
set_option maxRecDepth 10000 in
theorem im_M_best : Cond.instanceMethod y_M_best ∈ gW := gT_6 175 _ rfl rfl
set_option maxRecDepth 10000 in
theorem sl_M_M_best_M_best : Cond.selects "BesideTomModel" y_M_best y_M_best ∈ gW := gT_6 176 _ rfl rfl
set_option maxRecDepth 10000 in
theorem co_M_best : Cond.code y_M_best prog_14_method_72_code 2 (some (FieldType.int)) ∈ gW := gT_6 177 _ rfl rfl
set_option maxRecDepth 10000 in
theorem ml_M_393 : Cond.methodLink "BesideTomModel" 393 y_M_changeOf ∈ gW := gT_6 178 _ rfl rfl
set_option maxRecDepth 10000 in
theorem im_M_changeOf : Cond.instanceMethod y_M_changeOf ∈ gW := gT_6 180 _ rfl rfl
set_option maxRecDepth 10000 in
theorem co_M_changeOf : Cond.code y_M_changeOf prog_14_method_69_code 6 (some (FieldType.int)) ∈ gW := gT_6 181 _ rfl rfl
set_option maxRecDepth 10000 in
theorem ml_M_396 : Cond.methodLink "BesideTomModel" 396 y_M_worstOf ∈ gW := gT_6 182 _ rfl rfl
set_option maxRecDepth 10000 in
theorem im_M_worstOf : Cond.instanceMethod y_M_worstOf ∈ gW := gT_6 184 _ rfl rfl
set_option maxRecDepth 10000 in
theorem co_M_worstOf : Cond.code y_M_worstOf prog_14_method_71_code 5 (some (FieldType.int)) ∈ gW := gT_6 185 _ rfl rfl
set_option maxRecDepth 10000 in
theorem ml_M_390 : Cond.methodLink "BesideTomModel" 390 y_M_noiseWithout ∈ gW := gT_6 186 _ rfl rfl
set_option maxRecDepth 10000 in
theorem im_M_noiseWithout : Cond.instanceMethod y_M_noiseWithout ∈ gW := gT_6 188 _ rfl rfl
set_option maxRecDepth 10000 in
theorem co_M_noiseWithout : Cond.code y_M_noiseWithout prog_14_method_70_code 4 (some (FieldType.int)) ∈ gW := gT_6 189 _ rfl rfl
set_option maxRecDepth 10000 in
theorem ml_Law_85 : Cond.methodLink "BesideTomLaw" 85 y_M_few ∈ gW := gT_6 190 _ rfl rfl
set_option maxRecDepth 10000 in
theorem im_M_few : Cond.instanceMethod y_M_few ∈ gW := gT_6 191 _ rfl rfl
set_option maxRecDepth 10000 in
theorem sl_M_M_few_M_few : Cond.selects "BesideTomModel" y_M_few y_M_few ∈ gW := gT_6 192 _ rfl rfl
set_option maxRecDepth 10000 in
theorem co_M_few : Cond.code y_M_few prog_14_method_76_code 5 (some (FieldType.int)) ∈ gW := gT_6 193 _ rfl rfl
set_option maxRecDepth 10000 in
theorem ml_M_405 : Cond.methodLink "BesideTomModel" 405 y_M_isQuietBy ∈ gW := gT_6 194 _ rfl rfl
set_option maxRecDepth 10000 in
theorem im_M_isQuietBy : Cond.instanceMethod y_M_isQuietBy ∈ gW := gT_6 196 _ rfl rfl
set_option maxRecDepth 10000 in
theorem co_M_isQuietBy : Cond.code y_M_isQuietBy prog_14_method_75_code 7 (some (FieldType.boolean)) ∈ gW := gT_6 197 _ rfl rfl
set_option maxRecDepth 10000 in
theorem ml_M_399 : Cond.methodLink "BesideTomModel" 399 y_M_isPair ∈ gW := gT_6 198 _ rfl rfl
set_option maxRecDepth 10000 in
theorem im_M_isPair : Cond.instanceMethod y_M_isPair ∈ gW := gT_6 200 _ rfl rfl
set_option maxRecDepth 10000 in
theorem co_M_isPair : Cond.code y_M_isPair prog_14_method_74_code 2 (some (FieldType.boolean)) ∈ gW := gT_6 201 _ rfl rfl
set_option maxRecDepth 10000 in
theorem ml_M_402 : Cond.methodLink "BesideTomModel" 402 y_M_swaps ∈ gW := gT_6 202 _ rfl rfl
set_option maxRecDepth 10000 in
theorem im_M_swaps : Cond.instanceMethod y_M_swaps ∈ gW := gT_6 204 _ rfl rfl
set_option maxRecDepth 10000 in
theorem co_M_swaps : Cond.code y_M_swaps prog_14_method_73_code 3 none ∈ gW := gT_6 205 _ rfl rfl
set_option maxRecDepth 10000 in
theorem ml_Law_89 : Cond.methodLink "BesideTomLaw" 89 y_M_hear ∈ gW := gT_6 206 _ rfl rfl
set_option maxRecDepth 10000 in
theorem im_M_hear : Cond.instanceMethod y_M_hear ∈ gW := gT_6 207 _ rfl rfl
set_option maxRecDepth 10000 in
theorem sl_M_M_hear_M_hear : Cond.selects "BesideTomModel" y_M_hear y_M_hear ∈ gW := gT_6 208 _ rfl rfl
set_option maxRecDepth 10000 in
theorem co_M_hear : Cond.code y_M_hear prog_14_method_77_code 3 (some (FieldType.int)) ∈ gW := gT_6 209 _ rfl rfl
set_option maxRecDepth 10000 in
theorem ml_Law_93 : Cond.methodLink "BesideTomLaw" 93 y_M_where ∈ gW := gT_6 210 _ rfl rfl
set_option maxRecDepth 10000 in
theorem im_M_where : Cond.instanceMethod y_M_where ∈ gW := gT_6 211 _ rfl rfl
set_option maxRecDepth 10000 in
theorem sl_M_M_where_M_where : Cond.selects "BesideTomModel" y_M_where y_M_where ∈ gW := gT_6 212 _ rfl rfl
set_option maxRecDepth 10000 in
theorem co_M_where : Cond.code y_M_where prog_14_method_79_code 4 (some (FieldType.int)) ∈ gW := gT_6 213 _ rfl rfl
set_option maxRecDepth 10000 in
theorem ml_M_408 : Cond.methodLink "BesideTomModel" 408 y_M_isHeard ∈ gW := gT_6 214 _ rfl rfl
set_option maxRecDepth 10000 in
theorem im_M_isHeard : Cond.instanceMethod y_M_isHeard ∈ gW := gT_6 216 _ rfl rfl
set_option maxRecDepth 10000 in
theorem co_M_isHeard : Cond.code y_M_isHeard prog_14_method_78_code 5 (some (FieldType.boolean)) ∈ gW := gT_6 217 _ rfl rfl
set_option maxRecDepth 10000 in
theorem ml_Law_97 : Cond.methodLink "BesideTomLaw" 97 y_M_can ∈ gW := gT_6 218 _ rfl rfl
set_option maxRecDepth 10000 in
theorem im_M_can : Cond.instanceMethod y_M_can ∈ gW := gT_6 219 _ rfl rfl
set_option maxRecDepth 10000 in
theorem sl_M_M_can_M_can : Cond.selects "BesideTomModel" y_M_can y_M_can ∈ gW := gT_6 220 _ rfl rfl
set_option maxRecDepth 10000 in
theorem co_M_can : Cond.code y_M_can prog_14_method_80_code 7 (some (FieldType.int)) ∈ gW := gT_6 221 _ rfl rfl
set_option maxRecDepth 10000 in
theorem ml_Law_102 : Cond.methodLink "BesideTomLaw" 102 y_M_odds ∈ gW := gT_6 222 _ rfl rfl
set_option maxRecDepth 10000 in
theorem im_M_odds : Cond.instanceMethod y_M_odds ∈ gW := gT_6 223 _ rfl rfl
set_option maxRecDepth 10000 in
theorem sl_M_M_odds_M_odds : Cond.selects "BesideTomModel" y_M_odds y_M_odds ∈ gW := gT_6 224 _ rfl rfl
set_option maxRecDepth 10000 in
theorem co_M_odds : Cond.code y_M_odds prog_14_method_83_code 5 (some (FieldType.long)) ∈ gW := gT_6 225 _ rfl rfl
set_option maxRecDepth 10000 in
theorem k_M_414 : Cond.constantLong "BesideTomModel" 414 (-9223372036854775808) ∈ gW := gT_6 226 _ rfl rfl
set_option maxRecDepth 10000 in
theorem ml_M_416 : Cond.methodLink "BesideTomModel" 416 y_M_lowest ∈ gW := gT_6 227 _ rfl rfl
set_option maxRecDepth 10000 in
theorem im_M_lowest : Cond.instanceMethod y_M_lowest ∈ gW := gT_6 229 _ rfl rfl
set_option maxRecDepth 10000 in
theorem co_M_lowest : Cond.code y_M_lowest prog_14_method_82_code 5 (some (FieldType.long)) ∈ gW := gT_6 230 _ rfl rfl
set_option maxRecDepth 10000 in
theorem ml_M_411 : Cond.methodLink "BesideTomModel" 411 y_M_divisor ∈ gW := gT_6 231 _ rfl rfl
set_option maxRecDepth 10000 in
theorem im_M_divisor : Cond.instanceMethod y_M_divisor ∈ gW := gT_6 233 _ rfl rfl
set_option maxRecDepth 10000 in
theorem co_M_divisor : Cond.code y_M_divisor prog_14_method_81_code 6 (some (FieldType.int)) ∈ gW := gT_6 234 _ rfl rfl
set_option maxRecDepth 10000 in
theorem ml_Law_107 : Cond.methodLink "BesideTomLaw" 107 y_M_mean ∈ gW := gT_6 235 _ rfl rfl
set_option maxRecDepth 10000 in
theorem im_M_mean : Cond.instanceMethod y_M_mean ∈ gW := gT_6 236 _ rfl rfl
set_option maxRecDepth 10000 in
theorem sl_M_M_mean_M_mean : Cond.selects "BesideTomModel" y_M_mean y_M_mean ∈ gW := gT_6 237 _ rfl rfl
set_option maxRecDepth 10000 in
theorem co_M_mean : Cond.code y_M_mean prog_14_method_84_code 2 (some (FieldType.long)) ∈ gW := gT_6 238 _ rfl rfl
set_option maxRecDepth 10000 in
theorem ml_Law_111 : Cond.methodLink "BesideTomLaw" 111 y_M_term ∈ gW := gT_6 239 _ rfl rfl
set_option maxRecDepth 10000 in
theorem im_M_term : Cond.instanceMethod y_M_term ∈ gW := gT_7 0 _ rfl rfl
set_option maxRecDepth 10000 in
theorem sl_M_M_term_M_term : Cond.selects "BesideTomModel" y_M_term y_M_term ∈ gW := gT_7 1 _ rfl rfl
set_option maxRecDepth 10000 in
theorem co_M_term : Cond.code y_M_term prog_14_method_85_code 3 (some (FieldType.int)) ∈ gW := gT_7 2 _ rfl rfl
set_option maxRecDepth 10000 in
theorem ml_Law_115 : Cond.methodLink "BesideTomLaw" 115 y_M_ends ∈ gW := gT_7 3 _ rfl rfl
set_option maxRecDepth 10000 in
theorem im_M_ends : Cond.instanceMethod y_M_ends ∈ gW := gT_7 4 _ rfl rfl
set_option maxRecDepth 10000 in
theorem sl_M_M_ends_M_ends : Cond.selects "BesideTomModel" y_M_ends y_M_ends ∈ gW := gT_7 5 _ rfl rfl
set_option maxRecDepth 10000 in
theorem co_M_ends : Cond.code y_M_ends prog_14_method_86_code 3 (some (FieldType.int)) ∈ gW := gT_7 6 _ rfl rfl
set_option maxRecDepth 10000 in
theorem ml_Law_119 : Cond.methodLink "BesideTomLaw" 119 y_M_book ∈ gW := gT_7 7 _ rfl rfl
set_option maxRecDepth 10000 in
theorem im_M_book : Cond.instanceMethod y_M_book ∈ gW := gT_7 8 _ rfl rfl
set_option maxRecDepth 10000 in
theorem sl_M_M_book_M_book : Cond.selects "BesideTomModel" y_M_book y_M_book ∈ gW := gT_7 9 _ rfl rfl
set_option maxRecDepth 10000 in
theorem co_M_book : Cond.code y_M_book prog_14_method_87_code 3 (some (FieldType.int)) ∈ gW := gT_7 10 _ rfl rfl
set_option maxRecDepth 10000 in
theorem ml_Law_123 : Cond.methodLink "BesideTomLaw" 123 y_M_looked ∈ gW := gT_7 11 _ rfl rfl
set_option maxRecDepth 10000 in
theorem im_M_looked : Cond.instanceMethod y_M_looked ∈ gW := gT_7 12 _ rfl rfl
set_option maxRecDepth 10000 in
theorem sl_M_M_looked_M_looked : Cond.selects "BesideTomModel" y_M_looked y_M_looked ∈ gW := gT_7 13 _ rfl rfl
set_option maxRecDepth 10000 in
theorem co_M_looked : Cond.code y_M_looked prog_14_method_88_code 2 (some (FieldType.int)) ∈ gW := gT_7 14 _ rfl rfl
set_option maxRecDepth 10000 in
theorem ml_Law_127 : Cond.methodLink "BesideTomLaw" 127 y_M_judge ∈ gW := gT_7 15 _ rfl rfl
set_option maxRecDepth 10000 in
theorem im_M_judge : Cond.instanceMethod y_M_judge ∈ gW := gT_7 16 _ rfl rfl
set_option maxRecDepth 10000 in
theorem sl_M_M_judge_M_judge : Cond.selects "BesideTomModel" y_M_judge y_M_judge ∈ gW := gT_7 17 _ rfl rfl
set_option maxRecDepth 10000 in
theorem co_M_judge : Cond.code y_M_judge prog_14_method_89_code 4 (some (FieldType.int)) ∈ gW := gT_7 18 _ rfl rfl
set_option maxRecDepth 10000 in
theorem ml_M_420 : Cond.methodLink "BesideTomModel" 420 y_M_isTape ∈ gW := gT_7 19 _ rfl rfl
set_option maxRecDepth 10000 in
theorem im_M_isTape : Cond.instanceMethod y_M_isTape ∈ gW := gT_7 21 _ rfl rfl
set_option maxRecDepth 10000 in
theorem co_M_isTape : Cond.code y_M_isTape prog_14_method_104_code 2 (some (FieldType.boolean)) ∈ gW := gT_7 22 _ rfl rfl
set_option maxRecDepth 10000 in
theorem ml_Law_131 : Cond.methodLink "BesideTomLaw" 131 y_M_image ∈ gW := gT_7 23 _ rfl rfl
set_option maxRecDepth 10000 in
theorem im_M_image : Cond.instanceMethod y_M_image ∈ gW := gT_7 24 _ rfl rfl
set_option maxRecDepth 10000 in
theorem sl_M_M_image_M_image : Cond.selects "BesideTomModel" y_M_image y_M_image ∈ gW := gT_7 25 _ rfl rfl
set_option maxRecDepth 10000 in
theorem co_M_image : Cond.code y_M_image prog_14_method_90_code 2 (some (FieldType.int)) ∈ gW := gT_7 26 _ rfl rfl
set_option maxRecDepth 10000 in
theorem ml_Law_135 : Cond.methodLink "BesideTomLaw" 135 y_M_undo ∈ gW := gT_7 27 _ rfl rfl
set_option maxRecDepth 10000 in
theorem im_M_undo : Cond.instanceMethod y_M_undo ∈ gW := gT_7 28 _ rfl rfl
set_option maxRecDepth 10000 in
theorem sl_M_M_undo_M_undo : Cond.selects "BesideTomModel" y_M_undo y_M_undo ∈ gW := gT_7 29 _ rfl rfl
set_option maxRecDepth 10000 in
theorem co_M_undo : Cond.code y_M_undo prog_14_method_91_code 2 (some (FieldType.int)) ∈ gW := gT_7 30 _ rfl rfl
set_option maxRecDepth 10000 in
theorem ml_Law_139 : Cond.methodLink "BesideTomLaw" 139 y_M_act ∈ gW := gT_7 31 _ rfl rfl
set_option maxRecDepth 10000 in
theorem im_M_act : Cond.instanceMethod y_M_act ∈ gW := gT_7 32 _ rfl rfl
set_option maxRecDepth 10000 in
theorem sl_M_M_act_M_act : Cond.selects "BesideTomModel" y_M_act y_M_act ∈ gW := gT_7 33 _ rfl rfl
set_option maxRecDepth 10000 in
theorem co_M_act : Cond.code y_M_act prog_14_method_100_code 4 (some (FieldType.int)) ∈ gW := gT_7 34 _ rfl rfl
set_option maxRecDepth 10000 in
theorem ml_M_429 : Cond.methodLink "BesideTomModel" 429 y_M_whispersAct ∈ gW := gT_7 35 _ rfl rfl
set_option maxRecDepth 10000 in
theorem im_M_whispersAct : Cond.instanceMethod y_M_whispersAct ∈ gW := gT_7 37 _ rfl rfl
set_option maxRecDepth 10000 in
theorem co_M_whispersAct : Cond.code y_M_whispersAct prog_14_method_94_code 3 (some (FieldType.int)) ∈ gW := gT_7 38 _ rfl rfl
set_option maxRecDepth 10000 in
theorem ml_M_423 : Cond.methodLink "BesideTomModel" 423 y_M_body ∈ gW := gT_7 39 _ rfl rfl
set_option maxRecDepth 10000 in
theorem im_M_body : Cond.instanceMethod y_M_body ∈ gW := gT_7 41 _ rfl rfl
set_option maxRecDepth 10000 in
theorem co_M_body : Cond.code y_M_body prog_14_method_92_code 2 none ∈ gW := gT_7 42 _ rfl rfl
set_option maxRecDepth 10000 in
theorem ml_M_426 : Cond.methodLink "BesideTomModel" 426 y_M_pupilWhispers ∈ gW := gT_7 43 _ rfl rfl
set_option maxRecDepth 10000 in
theorem im_M_pupilWhispers : Cond.instanceMethod y_M_pupilWhispers ∈ gW := gT_7 45 _ rfl rfl
set_option maxRecDepth 10000 in
theorem co_M_pupilWhispers : Cond.code y_M_pupilWhispers prog_14_method_93_code 3 (some (FieldType.int)) ∈ gW := gT_7 46 _ rfl rfl
set_option maxRecDepth 10000 in
theorem ml_M_438 : Cond.methodLink "BesideTomModel" 438 y_M_chatsAct ∈ gW := gT_7 47 _ rfl rfl
set_option maxRecDepth 10000 in
theorem im_M_chatsAct : Cond.instanceMethod y_M_chatsAct ∈ gW := gT_7 49 _ rfl rfl
set_option maxRecDepth 10000 in
theorem co_M_chatsAct : Cond.code y_M_chatsAct prog_14_method_97_code 4 (some (FieldType.int)) ∈ gW := gT_7 50 _ rfl rfl
set_option maxRecDepth 10000 in
theorem ml_M_435 : Cond.methodLink "BesideTomModel" 435 y_M_talkerChats ∈ gW := gT_7 51 _ rfl rfl
set_option maxRecDepth 10000 in
theorem im_M_talkerChats : Cond.instanceMethod y_M_talkerChats ∈ gW := gT_7 53 _ rfl rfl
set_option maxRecDepth 10000 in
theorem co_M_talkerChats : Cond.code y_M_talkerChats prog_14_method_96_code 3 (some (FieldType.int)) ∈ gW := gT_7 54 _ rfl rfl
set_option maxRecDepth 10000 in
theorem ml_M_432 : Cond.methodLink "BesideTomModel" 432 y_M_pupilChats ∈ gW := gT_7 55 _ rfl rfl
set_option maxRecDepth 10000 in
theorem im_M_pupilChats : Cond.instanceMethod y_M_pupilChats ∈ gW := gT_7 57 _ rfl rfl
set_option maxRecDepth 10000 in
theorem co_M_pupilChats : Cond.code y_M_pupilChats prog_14_method_95_code 3 (some (FieldType.int)) ∈ gW := gT_7 58 _ rfl rfl
set_option maxRecDepth 10000 in
theorem ml_M_444 : Cond.methodLink "BesideTomModel" 444 y_M_tellsAct ∈ gW := gT_7 59 _ rfl rfl
set_option maxRecDepth 10000 in
theorem im_M_tellsAct : Cond.instanceMethod y_M_tellsAct ∈ gW := gT_7 61 _ rfl rfl
set_option maxRecDepth 10000 in
theorem co_M_tellsAct : Cond.code y_M_tellsAct prog_14_method_99_code 4 (some (FieldType.int)) ∈ gW := gT_7 62 _ rfl rfl
set_option maxRecDepth 10000 in
theorem ml_M_441 : Cond.methodLink "BesideTomModel" 441 y_M_pupilTells ∈ gW := gT_7 63 _ rfl rfl
set_option maxRecDepth 10000 in
theorem im_M_pupilTells : Cond.instanceMethod y_M_pupilTells ∈ gW := gT_7 65 _ rfl rfl
set_option maxRecDepth 10000 in
theorem co_M_pupilTells : Cond.code y_M_pupilTells prog_14_method_98_code 3 (some (FieldType.int)) ∈ gW := gT_7 66 _ rfl rfl
set_option maxRecDepth 10000 in
theorem ml_Law_143 : Cond.methodLink "BesideTomLaw" 143 y_M_trace ∈ gW := gT_7 67 _ rfl rfl
set_option maxRecDepth 10000 in
theorem im_M_trace : Cond.instanceMethod y_M_trace ∈ gW := gT_7 68 _ rfl rfl
set_option maxRecDepth 10000 in
theorem sl_M_M_trace_M_trace : Cond.selects "BesideTomModel" y_M_trace y_M_trace ∈ gW := gT_7 69 _ rfl rfl
set_option maxRecDepth 10000 in
theorem co_M_trace : Cond.code y_M_trace prog_14_method_101_code 2 (some (FieldType.int)) ∈ gW := gT_7 70 _ rfl rfl
set_option maxRecDepth 10000 in
theorem ml_Law_147 : Cond.methodLink "BesideTomLaw" 147 y_M_taken ∈ gW := gT_7 71 _ rfl rfl
set_option maxRecDepth 10000 in
theorem im_M_taken : Cond.instanceMethod y_M_taken ∈ gW := gT_7 72 _ rfl rfl
set_option maxRecDepth 10000 in
theorem sl_M_M_taken_M_taken : Cond.selects "BesideTomModel" y_M_taken y_M_taken ∈ gW := gT_7 73 _ rfl rfl
set_option maxRecDepth 10000 in
theorem co_M_taken : Cond.code y_M_taken prog_14_method_102_code 4 (some (FieldType.int)) ∈ gW := gT_7 74 _ rfl rfl
set_option maxRecDepth 10000 in
theorem ml_Law_151 : Cond.methodLink "BesideTomLaw" 151 y_M_count ∈ gW := gT_7 75 _ rfl rfl
set_option maxRecDepth 10000 in
theorem im_M_count : Cond.instanceMethod y_M_count ∈ gW := gT_7 76 _ rfl rfl
set_option maxRecDepth 10000 in
theorem sl_M_M_count_M_count : Cond.selects "BesideTomModel" y_M_count y_M_count ∈ gW := gT_7 77 _ rfl rfl
set_option maxRecDepth 10000 in
theorem co_M_count : Cond.code y_M_count prog_14_method_103_code 2 (some (FieldType.int)) ∈ gW := gT_7 78 _ rfl rfl
set_option maxRecDepth 10000 in
theorem ml_Law_155 : Cond.methodLink "BesideTomLaw" 155 y_M_tape ∈ gW := gT_7 79 _ rfl rfl
set_option maxRecDepth 10000 in
theorem im_M_tape : Cond.instanceMethod y_M_tape ∈ gW := gT_7 80 _ rfl rfl
set_option maxRecDepth 10000 in
theorem sl_M_M_tape_M_tape : Cond.selects "BesideTomModel" y_M_tape y_M_tape ∈ gW := gT_7 81 _ rfl rfl
set_option maxRecDepth 10000 in
theorem co_M_tape : Cond.code y_M_tape prog_14_method_105_code 5 (some (FieldType.int)) ∈ gW := gT_7 82 _ rfl rfl
set_option maxRecDepth 10000 in
theorem ml_Law_162 : Cond.methodLink "BesideTomLaw" 162 y_M_item ∈ gW := gT_7 83 _ rfl rfl
set_option maxRecDepth 10000 in
theorem im_M_item : Cond.instanceMethod y_M_item ∈ gW := gT_7 84 _ rfl rfl
set_option maxRecDepth 10000 in
theorem sl_M_M_item_M_item : Cond.selects "BesideTomModel" y_M_item y_M_item ∈ gW := gT_7 85 _ rfl rfl
set_option maxRecDepth 10000 in
theorem co_M_item : Cond.code y_M_item prog_14_method_107_code 5 (some (FieldType.int)) ∈ gW := gT_7 86 _ rfl rfl
set_option maxRecDepth 10000 in
theorem ml_M_447 : Cond.methodLink "BesideTomModel" 447 y_M_narrow ∈ gW := gT_7 87 _ rfl rfl
set_option maxRecDepth 10000 in
theorem im_M_narrow : Cond.instanceMethod y_M_narrow ∈ gW := gT_7 89 _ rfl rfl
set_option maxRecDepth 10000 in
theorem co_M_narrow : Cond.code y_M_narrow prog_14_method_106_code 4 (some (FieldType.long)) ∈ gW := gT_7 90 _ rfl rfl
set_option maxRecDepth 10000 in
theorem ml_Law_166 : Cond.methodLink "BesideTomLaw" 166 y_M_read ∈ gW := gT_7 91 _ rfl rfl
set_option maxRecDepth 10000 in
theorem im_M_read : Cond.instanceMethod y_M_read ∈ gW := gT_7 92 _ rfl rfl
set_option maxRecDepth 10000 in
theorem sl_M_M_read_M_read : Cond.selects "BesideTomModel" y_M_read y_M_read ∈ gW := gT_7 93 _ rfl rfl
set_option maxRecDepth 10000 in
theorem co_M_read : Cond.code y_M_read prog_14_method_108_code 3 (some (FieldType.long)) ∈ gW := gT_7 94 _ rfl rfl
set_option maxRecDepth 10000 in
theorem ml_Law_171 : Cond.methodLink "BesideTomLaw" 171 y_M_shift ∈ gW := gT_7 95 _ rfl rfl
set_option maxRecDepth 10000 in
theorem im_M_shift : Cond.instanceMethod y_M_shift ∈ gW := gT_7 96 _ rfl rfl
set_option maxRecDepth 10000 in
theorem sl_M_M_shift_M_shift : Cond.selects "BesideTomModel" y_M_shift y_M_shift ∈ gW := gT_7 97 _ rfl rfl
set_option maxRecDepth 10000 in
theorem co_M_shift : Cond.code y_M_shift prog_14_method_109_code 7 (some (FieldType.int)) ∈ gW := gT_7 98 _ rfl rfl
set_option maxRecDepth 10000 in
theorem k_Law_156 : Cond.constantLong "BesideTomLaw" 156 (4294967295) ∈ gW := gT_7 99 _ rfl rfl
set_option maxRecDepth 10000 in
theorem sa_Talk_Talk_voice : Cond.sameMethod "BesideTom$TalkerKind" "BesideTom$TalkerKind" "voice" "(IIII)I" ∈ gW := gT_7 100 _ rfl rfl
set_option maxRecDepth 10000 in
theorem sa_Quiet_Quiet_learning : Cond.sameMethod "BesideTom$QuietKind" "BesideTom$QuietKind" "learning" "(IIII)I" ∈ gW := gT_7 101 _ rfl rfl
set_option maxRecDepth 10000 in
theorem sa_Talk_Talk_chats : Cond.sameMethod "BesideTom$TalkerKind" "BesideTom$TalkerKind" "chats" "(LBesideTom$Trace;I)I" ∈ gW := gT_7 102 _ rfl rfl
set_option maxRecDepth 10000 in
theorem sa_Quiet_Quiet_isUnder : Cond.sameMethod "BesideTom$QuietKind" "BesideTom$QuietKind" "isUnder" "(I)Z" ∈ gW := gT_7 103 _ rfl rfl
set_option maxRecDepth 10000 in
theorem sa_Short_Short_isUnder : Cond.sameMethod "BesideTom$ShortKind" "BesideTom$ShortKind" "isUnder" "(I)Z" ∈ gW := gT_7 104 _ rfl rfl
set_option maxRecDepth 10000 in
theorem sa_Talk_Talk_isUnder : Cond.sameMethod "BesideTom$TalkerKind" "BesideTom$TalkerKind" "isUnder" "(I)Z" ∈ gW := gT_7 105 _ rfl rfl
set_option maxRecDepth 10000 in
theorem fl_Str_15 : Cond.fieldLink "java/lang/String" 15 "java/lang/String" "coder" "B" ∈ gW := gT_7 112 _ rfl rfl
set_option maxRecDepth 10000 in
theorem fl_Str_9 : Cond.fieldLink "java/lang/String" 9 "java/lang/String" "value" "[B" ∈ gW := gT_7 113 _ rfl rfl
set_option maxRecDepth 10000 in
theorem sl_Rooms_Rooms_begins_Rooms_begins : Cond.selects "BesideTom$Rooms" y_Rooms_begins y_Rooms_begins ∈ gW := gW_s 0 _ rfl rfl
set_option maxRecDepth 10000 in
theorem sl_Rooms_Rooms_steps_Rooms_steps : Cond.selects "BesideTom$Rooms" y_Rooms_steps y_Rooms_steps ∈ gW := gW_s 1 _ rfl rfl
set_option maxRecDepth 10000 in
theorem sl_Rooms_Rooms_clause_Rooms_clause : Cond.selects "BesideTom$Rooms" y_Rooms_clause y_Rooms_clause ∈ gW := gW_s 2 _ rfl rfl
set_option maxRecDepth 10000 in
theorem sl_Rooms_Rooms_word_Rooms_word : Cond.selects "BesideTom$Rooms" y_Rooms_word y_Rooms_word ∈ gW := gW_s 3 _ rfl rfl
set_option maxRecDepth 10000 in
theorem sl_Rooms_Rooms_fails_Rooms_fails : Cond.selects "BesideTom$Rooms" y_Rooms_fails y_Rooms_fails ∈ gW := gW_s 4 _ rfl rfl
set_option maxRecDepth 10000 in
theorem sl_Rooms_Rooms_expects_Rooms_expects : Cond.selects "BesideTom$Rooms" y_Rooms_expects y_Rooms_expects ∈ gW := gW_s 5 _ rfl rfl
set_option maxRecDepth 10000 in
theorem sl_Rooms_Rooms_number_Rooms_number : Cond.selects "BesideTom$Rooms" y_Rooms_number y_Rooms_number ∈ gW := gW_s 6 _ rfl rfl
set_option maxRecDepth 10000 in
theorem sl_Rooms_Rooms_isDigit_Rooms_isDigit : Cond.selects "BesideTom$Rooms" y_Rooms_isDigit y_Rooms_isDigit ∈ gW := gW_s 7 _ rfl rfl
set_option maxRecDepth 10000 in
theorem sl_Rooms_Rooms_either_Rooms_either : Cond.selects "BesideTom$Rooms" y_Rooms_either y_Rooms_either ∈ gW := gW_s 8 _ rfl rfl
set_option maxRecDepth 10000 in
theorem sl_Rooms_Rooms_single_Rooms_single : Cond.selects "BesideTom$Rooms" y_Rooms_single y_Rooms_single ∈ gW := gW_s 9 _ rfl rfl
set_option maxRecDepth 10000 in
theorem sl_Rooms_Rooms_test_Rooms_test : Cond.selects "BesideTom$Rooms" y_Rooms_test y_Rooms_test ∈ gW := gW_s 10 _ rfl rfl
set_option maxRecDepth 10000 in
theorem sl_Rooms_Rooms_letter_Rooms_letter : Cond.selects "BesideTom$Rooms" y_Rooms_letter y_Rooms_letter ∈ gW := gW_s 11 _ rfl rfl
set_option maxRecDepth 10000 in
theorem sl_BT_BT_isOfPupil_BT_isOfPupil : Cond.selects "BesideTom" y_BT_isOfPupil y_BT_isOfPupil ∈ gW := gW_s 12 _ rfl rfl
set_option maxRecDepth 10000 in
theorem sl_BT_BT_plansFromNow_BT_plansFromNow : Cond.selects "BesideTom" y_BT_plansFromNow y_BT_plansFromNow ∈ gW := gW_s 13 _ rfl rfl
set_option maxRecDepth 10000 in
theorem sl_BT_BT_change_BT_change : Cond.selects "BesideTom" y_BT_change y_BT_change ∈ gW := gW_s 14 _ rfl rfl
set_option maxRecDepth 10000 in
theorem sl_BT_BT_worst_BT_worst : Cond.selects "BesideTom" y_BT_worst y_BT_worst ∈ gW := gW_s 15 _ rfl rfl
set_option maxRecDepth 10000 in
theorem sl_BT_BT_without_BT_without : Cond.selects "BesideTom" y_BT_without y_BT_without ∈ gW := gW_s 16 _ rfl rfl
set_option maxRecDepth 10000 in
theorem sl_BT_BT_isRange_BT_isRange : Cond.selects "BesideTom" y_BT_isRange y_BT_isRange ∈ gW := gW_s 17 _ rfl rfl
set_option maxRecDepth 10000 in
theorem sl_M_M_in_M_in : Cond.selects "BesideTomModel" y_M_in y_M_in ∈ gW := gW_s 18 _ rfl rfl
set_option maxRecDepth 10000 in
theorem sl_M_M_whoHas_M_whoHas : Cond.selects "BesideTomModel" y_M_whoHas y_M_whoHas ∈ gW := gW_s 19 _ rfl rfl
set_option maxRecDepth 10000 in
theorem sl_M_M_isPupil_M_isPupil : Cond.selects "BesideTomModel" y_M_isPupil y_M_isPupil ∈ gW := gW_s 20 _ rfl rfl
set_option maxRecDepth 10000 in
theorem sl_M_M_has_M_has : Cond.selects "BesideTomModel" y_M_has y_M_has ∈ gW := gW_s 21 _ rfl rfl
set_option maxRecDepth 10000 in
theorem sl_M_M_goes_M_goes : Cond.selects "BesideTomModel" y_M_goes y_M_goes ∈ gW := gW_s 22 _ rfl rfl
set_option maxRecDepth 10000 in
theorem sl_M_M_isDesk_M_isDesk : Cond.selects "BesideTomModel" y_M_isDesk y_M_isDesk ∈ gW := gW_s 23 _ rfl rfl
set_option maxRecDepth 10000 in
theorem sl_M_M_moves_M_moves : Cond.selects "BesideTomModel" y_M_moves y_M_moves ∈ gW := gW_s 24 _ rfl rfl
set_option maxRecDepth 10000 in
theorem sl_M_M_takesDesk_M_takesDesk : Cond.selects "BesideTomModel" y_M_takesDesk y_M_takesDesk ∈ gW := gW_s 25 _ rfl rfl
set_option maxRecDepth 10000 in
theorem sl_M_M_noise_M_noise : Cond.selects "BesideTomModel" y_M_noise y_M_noise ∈ gW := gW_s 26 _ rfl rfl
set_option maxRecDepth 10000 in
theorem sl_M_M_talk_M_talk : Cond.selects "BesideTomModel" y_M_talk y_M_talk ∈ gW := gW_s 27 _ rfl rfl
set_option maxRecDepth 10000 in
theorem sl_M_M_beside_M_beside : Cond.selects "BesideTomModel" y_M_beside y_M_beside ∈ gW := gW_s 28 _ rfl rfl
set_option maxRecDepth 10000 in
theorem sl_M_M_isNext_M_isNext : Cond.selects "BesideTomModel" y_M_isNext y_M_isNext ∈ gW := gW_s 29 _ rfl rfl
set_option maxRecDepth 10000 in
theorem sl_M_M_voice_M_voice : Cond.selects "BesideTomModel" y_M_voice y_M_voice ∈ gW := gW_s 30 _ rfl rfl
set_option maxRecDepth 10000 in
theorem sl_M_M_many_M_many : Cond.selects "BesideTomModel" y_M_many y_M_many ∈ gW := gW_s 31 _ rfl rfl
set_option maxRecDepth 10000 in
theorem sl_M_M_mouth_M_mouth : Cond.selects "BesideTomModel" y_M_mouth y_M_mouth ∈ gW := gW_s 32 _ rfl rfl
set_option maxRecDepth 10000 in
theorem sl_M_M_begin_M_begin : Cond.selects "BesideTomModel" y_M_begin y_M_begin ∈ gW := gW_s 33 _ rfl rfl
set_option maxRecDepth 10000 in
theorem sl_M_M_behind_M_behind : Cond.selects "BesideTomModel" y_M_behind y_M_behind ∈ gW := gW_s 34 _ rfl rfl
set_option maxRecDepth 10000 in
theorem sl_M_M_holds_M_holds : Cond.selects "BesideTomModel" y_M_holds y_M_holds ∈ gW := gW_s 35 _ rfl rfl
set_option maxRecDepth 10000 in
theorem sl_M_M_factOf_M_factOf : Cond.selects "BesideTomModel" y_M_factOf y_M_factOf ∈ gW := gW_s 36 _ rfl rfl
set_option maxRecDepth 10000 in
theorem sl_M_M_least0_M_least0 : Cond.selects "BesideTomModel" y_M_least0 y_M_least0 ∈ gW := gW_s 37 _ rfl rfl
set_option maxRecDepth 10000 in
theorem sl_M_M_wears_M_wears : Cond.selects "BesideTomModel" y_M_wears y_M_wears ∈ gW := gW_s 38 _ rfl rfl
set_option maxRecDepth 10000 in
theorem sl_M_M_lastOf_M_lastOf : Cond.selects "BesideTomModel" y_M_lastOf y_M_lastOf ∈ gW := gW_s 39 _ rfl rfl
set_option maxRecDepth 10000 in
theorem sl_M_M_goesText_M_goesText : Cond.selects "BesideTomModel" y_M_goesText y_M_goesText ∈ gW := gW_s 40 _ rfl rfl
set_option maxRecDepth 10000 in
theorem sl_M_M_takesClause_M_takesClause : Cond.selects "BesideTomModel" y_M_takesClause y_M_takesClause ∈ gW := gW_s 41 _ rfl rfl
set_option maxRecDepth 10000 in
theorem sl_M_M_takesHead_M_takesHead : Cond.selects "BesideTomModel" y_M_takesHead y_M_takesHead ∈ gW := gW_s 42 _ rfl rfl
set_option maxRecDepth 10000 in
theorem sl_M_M_next_M_next : Cond.selects "BesideTomModel" y_M_next y_M_next ∈ gW := gW_s 43 _ rfl rfl
set_option maxRecDepth 10000 in
theorem sl_M_M_takesWord_M_takesWord : Cond.selects "BesideTomModel" y_M_takesWord y_M_takesWord ∈ gW := gW_s 44 _ rfl rfl
set_option maxRecDepth 10000 in
theorem sl_M_M_takes_M_takes : Cond.selects "BesideTomModel" y_M_takes y_M_takes ∈ gW := gW_s 45 _ rfl rfl
set_option maxRecDepth 10000 in
theorem sl_M_M_second_M_second : Cond.selects "BesideTomModel" y_M_second y_M_second ∈ gW := gW_s 46 _ rfl rfl
set_option maxRecDepth 10000 in
theorem sl_M_M_takesNumber_M_takesNumber : Cond.selects "BesideTomModel" y_M_takesNumber y_M_takesNumber ∈ gW := gW_s 47 _ rfl rfl
set_option maxRecDepth 10000 in
theorem sl_M_M_isDigit_M_isDigit : Cond.selects "BesideTomModel" y_M_isDigit y_M_isDigit ∈ gW := gW_s 48 _ rfl rfl
set_option maxRecDepth 10000 in
theorem sl_M_M_takesE_M_takesE : Cond.selects "BesideTomModel" y_M_takesE y_M_takesE ∈ gW := gW_s 49 _ rfl rfl
set_option maxRecDepth 10000 in
theorem sl_M_M_takesTest_M_takesTest : Cond.selects "BesideTomModel" y_M_takesTest y_M_takesTest ∈ gW := gW_s 50 _ rfl rfl
set_option maxRecDepth 10000 in
theorem sl_M_M_place_M_place : Cond.selects "BesideTomModel" y_M_place y_M_place ∈ gW := gW_s 51 _ rfl rfl
set_option maxRecDepth 10000 in
theorem sl_M_M_emits_M_emits : Cond.selects "BesideTomModel" y_M_emits y_M_emits ∈ gW := gW_s 52 _ rfl rfl
set_option maxRecDepth 10000 in
theorem sl_M_M_whole_M_whole : Cond.selects "BesideTomModel" y_M_whole y_M_whole ∈ gW := gW_s 53 _ rfl rfl
set_option maxRecDepth 10000 in
theorem sl_M_M_settle_M_settle : Cond.selects "BesideTomModel" y_M_settle y_M_settle ∈ gW := gW_s 54 _ rfl rfl
set_option maxRecDepth 10000 in
theorem sl_M_M_learns_M_learns : Cond.selects "BesideTomModel" y_M_learns y_M_learns ∈ gW := gW_s 55 _ rfl rfl
set_option maxRecDepth 10000 in
theorem sl_M_M_learnsBy_M_learnsBy : Cond.selects "BesideTomModel" y_M_learnsBy y_M_learnsBy ∈ gW := gW_s 56 _ rfl rfl
set_option maxRecDepth 10000 in
theorem sl_M_M_cost_M_cost : Cond.selects "BesideTomModel" y_M_cost y_M_cost ∈ gW := gW_s 57 _ rfl rfl
set_option maxRecDepth 10000 in
theorem sl_M_M_allKnow_M_allKnow : Cond.selects "BesideTomModel" y_M_allKnow y_M_allKnow ∈ gW := gW_s 58 _ rfl rfl
set_option maxRecDepth 10000 in
theorem sl_M_M_allLearn_M_allLearn : Cond.selects "BesideTomModel" y_M_allLearn y_M_allLearn ∈ gW := gW_s 59 _ rfl rfl
set_option maxRecDepth 10000 in
theorem sl_M_M_isWeeks_M_isWeeks : Cond.selects "BesideTomModel" y_M_isWeeks y_M_isWeeks ∈ gW := gW_s 60 _ rfl rfl
set_option maxRecDepth 10000 in
theorem sl_M_M_goWeeks_M_goWeeks : Cond.selects "BesideTomModel" y_M_goWeeks y_M_goWeeks ∈ gW := gW_s 61 _ rfl rfl
set_option maxRecDepth 10000 in
theorem sl_M_M_goWeek_M_goWeek : Cond.selects "BesideTomModel" y_M_goWeek y_M_goWeek ∈ gW := gW_s 62 _ rfl rfl
set_option maxRecDepth 10000 in
theorem sl_M_M_least_M_least : Cond.selects "BesideTomModel" y_M_least y_M_least ∈ gW := gW_s 63 _ rfl rfl
set_option maxRecDepth 10000 in
theorem sl_M_M_save_M_save : Cond.selects "BesideTomModel" y_M_save y_M_save ∈ gW := gW_s 64 _ rfl rfl
set_option maxRecDepth 10000 in
theorem sl_M_M_putBack_M_putBack : Cond.selects "BesideTomModel" y_M_putBack y_M_putBack ∈ gW := gW_s 65 _ rfl rfl
set_option maxRecDepth 10000 in
theorem sl_M_M_isNoise_M_isNoise : Cond.selects "BesideTomModel" y_M_isNoise y_M_isNoise ∈ gW := gW_s 66 _ rfl rfl
set_option maxRecDepth 10000 in
theorem sl_M_M_layBest_M_layBest : Cond.selects "BesideTomModel" y_M_layBest y_M_layBest ∈ gW := gW_s 67 _ rfl rfl
set_option maxRecDepth 10000 in
theorem sl_M_M_layPlan_M_layPlan : Cond.selects "BesideTomModel" y_M_layPlan y_M_layPlan ∈ gW := gW_s 68 _ rfl rfl
set_option maxRecDepth 10000 in
theorem sl_M_M_noiseIfMoved_M_noiseIfMoved : Cond.selects "BesideTomModel" y_M_noiseIfMoved y_M_noiseIfMoved ∈ gW := gW_s 69 _ rfl rfl
set_option maxRecDepth 10000 in
theorem sl_M_M_changeOf_M_changeOf : Cond.selects "BesideTomModel" y_M_changeOf y_M_changeOf ∈ gW := gW_s 70 _ rfl rfl
set_option maxRecDepth 10000 in
theorem sl_M_M_worstOf_M_worstOf : Cond.selects "BesideTomModel" y_M_worstOf y_M_worstOf ∈ gW := gW_s 71 _ rfl rfl
set_option maxRecDepth 10000 in
theorem sl_M_M_noiseWithout_M_noiseWithout : Cond.selects "BesideTomModel" y_M_noiseWithout y_M_noiseWithout ∈ gW := gW_s 72 _ rfl rfl
set_option maxRecDepth 10000 in
theorem sl_M_M_isQuietBy_M_isQuietBy : Cond.selects "BesideTomModel" y_M_isQuietBy y_M_isQuietBy ∈ gW := gW_s 73 _ rfl rfl
set_option maxRecDepth 10000 in
theorem sl_M_M_isPair_M_isPair : Cond.selects "BesideTomModel" y_M_isPair y_M_isPair ∈ gW := gW_s 74 _ rfl rfl
set_option maxRecDepth 10000 in
theorem sl_M_M_swaps_M_swaps : Cond.selects "BesideTomModel" y_M_swaps y_M_swaps ∈ gW := gW_s 75 _ rfl rfl
set_option maxRecDepth 10000 in
theorem sl_M_M_isHeard_M_isHeard : Cond.selects "BesideTomModel" y_M_isHeard y_M_isHeard ∈ gW := gW_s 76 _ rfl rfl
set_option maxRecDepth 10000 in
theorem sl_M_M_lowest_M_lowest : Cond.selects "BesideTomModel" y_M_lowest y_M_lowest ∈ gW := gW_s 77 _ rfl rfl
set_option maxRecDepth 10000 in
theorem sl_M_M_divisor_M_divisor : Cond.selects "BesideTomModel" y_M_divisor y_M_divisor ∈ gW := gW_s 78 _ rfl rfl
set_option maxRecDepth 10000 in
theorem sl_M_M_isTape_M_isTape : Cond.selects "BesideTomModel" y_M_isTape y_M_isTape ∈ gW := gW_s 79 _ rfl rfl
set_option maxRecDepth 10000 in
theorem sl_M_M_whispersAct_M_whispersAct : Cond.selects "BesideTomModel" y_M_whispersAct y_M_whispersAct ∈ gW := gW_s 80 _ rfl rfl
set_option maxRecDepth 10000 in
theorem sl_M_M_body_M_body : Cond.selects "BesideTomModel" y_M_body y_M_body ∈ gW := gW_s 81 _ rfl rfl
set_option maxRecDepth 10000 in
theorem sl_M_M_pupilWhispers_M_pupilWhispers : Cond.selects "BesideTomModel" y_M_pupilWhispers y_M_pupilWhispers ∈ gW := gW_s 82 _ rfl rfl
set_option maxRecDepth 10000 in
theorem sl_M_M_chatsAct_M_chatsAct : Cond.selects "BesideTomModel" y_M_chatsAct y_M_chatsAct ∈ gW := gW_s 83 _ rfl rfl
set_option maxRecDepth 10000 in
theorem sl_M_M_talkerChats_M_talkerChats : Cond.selects "BesideTomModel" y_M_talkerChats y_M_talkerChats ∈ gW := gW_s 84 _ rfl rfl
set_option maxRecDepth 10000 in
theorem sl_M_M_pupilChats_M_pupilChats : Cond.selects "BesideTomModel" y_M_pupilChats y_M_pupilChats ∈ gW := gW_s 85 _ rfl rfl
set_option maxRecDepth 10000 in
theorem sl_M_M_tellsAct_M_tellsAct : Cond.selects "BesideTomModel" y_M_tellsAct y_M_tellsAct ∈ gW := gW_s 86 _ rfl rfl
set_option maxRecDepth 10000 in
theorem sl_M_M_pupilTells_M_pupilTells : Cond.selects "BesideTomModel" y_M_pupilTells y_M_pupilTells ∈ gW := gW_s 87 _ rfl rfl
set_option maxRecDepth 10000 in
theorem sl_M_M_narrow_M_narrow : Cond.selects "BesideTomModel" y_M_narrow y_M_narrow ∈ gW := gW_s 88 _ rfl rfl
theorem cf_BT_init : CF y_BT_init prog_1_method_1_code 2 none 0 := ⟨co_BT_init, in_BT, ⟨by decide +kernel, by decide +kernel⟩, by decide +kernel⟩
theorem cf_PK_init : CF y_PK_init prog_3_method_1_code 1 none 0 := ⟨co_PK_init, in_PK, ⟨by decide +kernel, by decide +kernel⟩, by decide +kernel⟩
theorem cf_Talk_init : CF y_Talk_init prog_9_method_1_code 1 none 0 := ⟨co_Talk_init, in_Talk, ⟨by decide +kernel, by decide +kernel⟩, by decide +kernel⟩
theorem cf_Quiet_init : CF y_Quiet_init prog_4_method_1_code 1 none 0 := ⟨co_Quiet_init, in_Quiet, ⟨by decide +kernel, by decide +kernel⟩, by decide +kernel⟩
theorem cf_Short_init : CF y_Short_init prog_8_method_1_code 1 none 0 := ⟨co_Short_init, in_Short, ⟨by decide +kernel, by decide +kernel⟩, by decide +kernel⟩
theorem cf_Tom_init : CF y_Tom_init prog_11_method_1_code 1 none 0 := ⟨co_Tom_init, in_Tom, ⟨by decide +kernel, by decide +kernel⟩, by decide +kernel⟩
theorem cf_Cork_init : CF y_Cork_init prog_2_method_1_code 1 none 0 := ⟨co_Cork_init, in_Cork, ⟨by decide +kernel, by decide +kernel⟩, by decide +kernel⟩
theorem cf_Told_init : CF y_Told_init prog_10_method_1_code 1 none 0 := ⟨co_Told_init, in_Told, ⟨by decide +kernel, by decide +kernel⟩, by decide +kernel⟩
theorem cf_Seat_init : CF y_Seat_init prog_7_method_1_code 2 none 1 := ⟨co_Seat_init, in_Seat, ⟨by decide +kernel, by decide +kernel⟩, by decide +kernel⟩
theorem cf_Rows_init : CF y_Rows_init prog_6_method_1_code 2 none 1 := ⟨co_Rows_init, in_Rows, ⟨by decide +kernel, by decide +kernel⟩, by decide +kernel⟩
theorem cf_Rooms_init : CF y_Rooms_init prog_5_method_1_code 1 none 0 := ⟨co_Rooms_init, in_Rooms, ⟨by decide +kernel, by decide +kernel⟩, by decide +kernel⟩
theorem cf_Trace_init : CF y_Trace_init prog_12_method_1_code 1 none 0 := ⟨co_Trace_init, in_Trace, ⟨by decide +kernel, by decide +kernel⟩, by decide +kernel⟩
theorem cf_BT_pupil : CF y_BT_pupil prog_1_method_2_code 4 (some (FieldType.int)) 2 := ⟨co_BT_pupil, in_BT, ⟨by decide +kernel, by decide +kernel⟩, by decide +kernel⟩
theorem cf_BT_within : CF y_BT_within prog_1_method_51_code 3 (some (FieldType.boolean)) 3 := ⟨co_BT_within, in_BT, ⟨by decide +kernel, by decide +kernel⟩, by decide +kernel⟩
theorem cf_Seat_adds : CF y_Seat_adds prog_7_method_3_code 6 (some (FieldType.int)) 2 := ⟨co_Seat_adds, in_Seat, ⟨by decide +kernel, by decide +kernel⟩, by decide +kernel⟩
theorem cf_Seat_whoHas : CF y_Seat_whoHas prog_7_method_8_code 3 (some (FieldType.int)) 1 := ⟨co_Seat_whoHas, in_Seat, ⟨by decide +kernel, by decide +kernel⟩, by decide +kernel⟩
theorem cf_Seat_setAway : CF y_Seat_setAway prog_7_method_7_code 3 none 2 := ⟨co_Seat_setAway, in_Seat, ⟨by decide +kernel, by decide +kernel⟩, by decide +kernel⟩
theorem cf_Rooms_settles : CF y_Rooms_settles prog_5_method_6_code 6 none 3 := ⟨co_Rooms_settles, in_Rooms, ⟨by decide +kernel, by decide +kernel⟩, by decide +kernel⟩
theorem cf_Rooms_reads : CF y_Rooms_reads prog_5_method_7_code 6 (some (FieldType.int)) 4 := ⟨co_Rooms_reads, in_Rooms, ⟨by decide +kernel, by decide +kernel⟩, by decide +kernel⟩
theorem cf_Rooms_begins : CF y_Rooms_begins prog_5_method_8_code 5 none 4 := ⟨co_Rooms_begins, in_Rooms, ⟨by decide +kernel, by decide +kernel⟩, by decide +kernel⟩
theorem cf_Rooms_steps : CF y_Rooms_steps prog_5_method_9_code 1 none 0 := ⟨co_Rooms_steps, in_Rooms, ⟨by decide +kernel, by decide +kernel⟩, by decide +kernel⟩
theorem cf_Rooms_clause : CF y_Rooms_clause prog_5_method_12_code 3 none 0 := ⟨co_Rooms_clause, in_Rooms, ⟨by decide +kernel, by decide +kernel⟩, by decide +kernel⟩
theorem cf_Rooms_word : CF y_Rooms_word prog_5_method_13_code 5 (some (FieldType.int)) 0 := ⟨co_Rooms_word, in_Rooms, ⟨by decide +kernel, by decide +kernel⟩, by decide +kernel⟩
theorem cf_Str_charAt : CF y_Str_charAt prog_17_method_56_code 2 (some (FieldType.char)) 1 := ⟨co_Str_charAt, in_Str, ⟨by decide +kernel, by decide +kernel⟩, by decide +kernel⟩
theorem cf_Str_isLatin1 : CF y_Str_isLatin1 prog_17_method_154_code 1 (some (FieldType.boolean)) 0 := ⟨co_Str_isLatin1, in_Str, ⟨by decide +kernel, by decide +kernel⟩, by decide +kernel⟩
theorem cf_SL1_charAt : CF y_SL1_charAt prog_18_method_2_code 2 (some (FieldType.char)) 2 := ⟨co_SL1_charAt, in_SL1, ⟨by decide +kernel, by decide +kernel⟩, by decide +kernel⟩
theorem cf_Str_checkIndex : CF y_Str_checkIndex prog_17_method_155_code 2 none 2 := ⟨co_Str_checkIndex, in_Str, ⟨by decide +kernel, by decide +kernel⟩, by decide +kernel⟩
theorem cf_Pre_checkIndex : CF y_Pre_checkIndex prog_21_method_11_code 3 (some (FieldType.int)) 3 := ⟨co_Pre_checkIndex, in_Pre, ⟨by decide +kernel, by decide +kernel⟩, by decide +kernel⟩
theorem cf_U16_charAt : CF y_U16_charAt prog_19_method_83_code 2 (some (FieldType.char)) 2 := ⟨co_U16_charAt, in_U16, ⟨by decide +kernel, by decide +kernel⟩, by decide +kernel⟩
theorem cf_U16_checkIndex : CF y_U16_checkIndex prog_19_method_91_code 2 none 2 := ⟨co_U16_checkIndex, in_U16, ⟨by decide +kernel, by decide +kernel⟩, by decide +kernel⟩
theorem cf_U16_length : CF y_U16_length prog_19_method_6_code 1 (some (FieldType.int)) 1 := ⟨co_U16_length, in_U16, ⟨by decide +kernel, by decide +kernel⟩, by decide +kernel⟩
theorem cf_U16_getChar : CF y_U16_getChar prog_19_method_5_code 2 (some (FieldType.char)) 2 := ⟨co_U16_getChar, in_U16, ⟨by decide +kernel, by decide +kernel⟩, by decide +kernel⟩
theorem cf_Rooms_fails : CF y_Rooms_fails prog_5_method_10_code 1 none 0 := ⟨co_Rooms_fails, in_Rooms, ⟨by decide +kernel, by decide +kernel⟩, by decide +kernel⟩
theorem cf_Rooms_expects : CF y_Rooms_expects prog_5_method_11_code 2 none 1 := ⟨co_Rooms_expects, in_Rooms, ⟨by decide +kernel, by decide +kernel⟩, by decide +kernel⟩
theorem cf_Rooms_number : CF y_Rooms_number prog_5_method_14_code 2 (some (FieldType.int)) 0 := ⟨co_Rooms_number, in_Rooms, ⟨by decide +kernel, by decide +kernel⟩, by decide +kernel⟩
theorem cf_Rooms_isDigit : CF y_Rooms_isDigit prog_5_method_15_code 1 (some (FieldType.boolean)) 0 := ⟨co_Rooms_isDigit, in_Rooms, ⟨by decide +kernel, by decide +kernel⟩, by decide +kernel⟩
theorem cf_Rooms_either : CF y_Rooms_either prog_5_method_16_code 7 (some (FieldType.boolean)) 1 := ⟨co_Rooms_either, in_Rooms, ⟨by decide +kernel, by decide +kernel⟩, by decide +kernel⟩
theorem cf_Rooms_single : CF y_Rooms_single prog_5_method_17_code 5 (some (FieldType.boolean)) 1 := ⟨co_Rooms_single, in_Rooms, ⟨by decide +kernel, by decide +kernel⟩, by decide +kernel⟩
theorem cf_Rooms_test : CF y_Rooms_test prog_5_method_18_code 4 (some (FieldType.boolean)) 0 := ⟨co_Rooms_test, in_Rooms, ⟨by decide +kernel, by decide +kernel⟩, by decide +kernel⟩
theorem cf_Rooms_letter : CF y_Rooms_letter prog_5_method_19_code 1 (some (FieldType.int)) 0 := ⟨co_Rooms_letter, in_Rooms, ⟨by decide +kernel, by decide +kernel⟩, by decide +kernel⟩
theorem cf_BT_of : CF y_BT_of prog_1_method_3_code 3 (some (FieldType.int)) 2 := ⟨co_BT_of, in_BT, ⟨by decide +kernel, by decide +kernel⟩, by decide +kernel⟩
theorem cf_Seat_has : CF y_Seat_has prog_7_method_4_code 2 (some (FieldType.boolean)) 1 := ⟨co_Seat_has, in_Seat, ⟨by decide +kernel, by decide +kernel⟩, by decide +kernel⟩
theorem cf_Seat_isAway : CF y_Seat_isAway prog_7_method_6_code 2 (some (FieldType.boolean)) 1 := ⟨co_Seat_isAway, in_Seat, ⟨by decide +kernel, by decide +kernel⟩, by decide +kernel⟩
theorem cf_BT_bit : CF y_BT_bit prog_1_method_52_code 2 (some (FieldType.boolean)) 2 := ⟨co_BT_bit, in_BT, ⟨by decide +kernel, by decide +kernel⟩, by decide +kernel⟩
theorem cf_Seat_neighbours : CF y_Seat_neighbours prog_7_method_12_code 4 (some (FieldType.int)) 1 := ⟨co_Seat_neighbours, in_Seat, ⟨by decide +kernel, by decide +kernel⟩, by decide +kernel⟩
theorem cf_Seat_voice : CF y_Seat_voice prog_7_method_13_code 5 (some (FieldType.int)) 2 := ⟨co_Seat_voice, in_Seat, ⟨by decide +kernel, by decide +kernel⟩, by decide +kernel⟩
theorem cf_Int_bitCount : CF y_Int_bitCount prog_15_method_49_code 1 (some (FieldType.int)) 1 := ⟨co_Int_bitCount, in_Int, ⟨by decide +kernel, by decide +kernel⟩, by decide +kernel⟩
theorem cf_Seat_kindOf : CF y_Seat_kindOf prog_7_method_5_code 2 (some ((FieldType.object "BesideTom$PupilKind"))) 1 := ⟨co_Seat_kindOf, in_Seat, ⟨by decide +kernel, by decide +kernel⟩, by decide +kernel⟩
theorem cf_Cork_voice : CF y_Cork_voice prog_2_method_3_code 5 (some (FieldType.int)) 4 := ⟨co_Cork_voice, in_Cork, ⟨by decide +kernel, by decide +kernel⟩, by decide +kernel⟩
theorem cf_Quiet_voice : CF y_Quiet_voice prog_4_method_3_code 5 (some (FieldType.int)) 4 := ⟨co_Quiet_voice, in_Quiet, ⟨by decide +kernel, by decide +kernel⟩, by decide +kernel⟩
theorem cf_Talk_voice : CF y_Talk_voice prog_9_method_3_code 5 (some (FieldType.int)) 4 := ⟨co_Talk_voice, in_Talk, ⟨by decide +kernel, by decide +kernel⟩, by decide +kernel⟩
theorem cf_Told_voice : CF y_Told_voice prog_10_method_3_code 5 (some (FieldType.int)) 4 := ⟨co_Told_voice, in_Told, ⟨by decide +kernel, by decide +kernel⟩, by decide +kernel⟩
theorem cf_Tom_voice : CF y_Tom_voice prog_11_method_3_code 5 (some (FieldType.int)) 4 := ⟨co_Tom_voice, in_Tom, ⟨by decide +kernel, by decide +kernel⟩, by decide +kernel⟩
theorem cf_PK_voice : CF y_PK_voice prog_3_method_3_code 5 (some (FieldType.int)) 4 := ⟨co_PK_voice, in_PK, ⟨by decide +kernel, by decide +kernel⟩, by decide +kernel⟩
theorem cf_Seat_talk : CF y_Seat_talk prog_7_method_14_code 5 (some (FieldType.int)) 2 := ⟨co_Seat_talk, in_Seat, ⟨by decide +kernel, by decide +kernel⟩, by decide +kernel⟩
theorem cf_BT_cut : CF y_BT_cut prog_1_method_53_code 2 (some (FieldType.int)) 2 := ⟨co_BT_cut, in_BT, ⟨by decide +kernel, by decide +kernel⟩, by decide +kernel⟩
theorem cf_Seat_noise : CF y_Seat_noise prog_7_method_15_code 4 (some (FieldType.int)) 1 := ⟨co_Seat_noise, in_Seat, ⟨by decide +kernel, by decide +kernel⟩, by decide +kernel⟩
theorem cf_Seat_learns : CF y_Seat_learns prog_7_method_16_code 4 (some (FieldType.int)) 2 := ⟨co_Seat_learns, in_Seat, ⟨by decide +kernel, by decide +kernel⟩, by decide +kernel⟩
theorem cf_Cork_learning : CF y_Cork_learning prog_2_method_4_code 5 (some (FieldType.int)) 4 := ⟨co_Cork_learning, in_Cork, ⟨by decide +kernel, by decide +kernel⟩, by decide +kernel⟩
theorem cf_Quiet_learning : CF y_Quiet_learning prog_4_method_4_code 5 (some (FieldType.int)) 4 := ⟨co_Quiet_learning, in_Quiet, ⟨by decide +kernel, by decide +kernel⟩, by decide +kernel⟩
theorem cf_Short_learning : CF y_Short_learning prog_8_method_3_code 5 (some (FieldType.int)) 4 := ⟨co_Short_learning, in_Short, ⟨by decide +kernel, by decide +kernel⟩, by decide +kernel⟩
theorem cf_PK_learning : CF y_PK_learning prog_3_method_4_code 5 (some (FieldType.int)) 4 := ⟨co_PK_learning, in_PK, ⟨by decide +kernel, by decide +kernel⟩, by decide +kernel⟩
theorem cf_BT_move : CF y_BT_move prog_1_method_4_code 3 (some (FieldType.int)) 2 := ⟨co_BT_move, in_BT, ⟨by decide +kernel, by decide +kernel⟩, by decide +kernel⟩
theorem cf_BT_isDesk : CF y_BT_isDesk prog_1_method_49_code 1 (some (FieldType.boolean)) 1 := ⟨co_BT_isDesk, in_BT, ⟨by decide +kernel, by decide +kernel⟩, by decide +kernel⟩
theorem cf_Seat_moves : CF y_Seat_moves prog_7_method_10_code 3 none 2 := ⟨co_Seat_moves, in_Seat, ⟨by decide +kernel, by decide +kernel⟩, by decide +kernel⟩
theorem cf_Seat_sits : CF y_Seat_sits prog_7_method_9_code 4 none 2 := ⟨co_Seat_sits, in_Seat, ⟨by decide +kernel, by decide +kernel⟩, by decide +kernel⟩
theorem cf_BT_away : CF y_BT_away prog_1_method_5_code 4 (some (FieldType.int)) 2 := ⟨co_BT_away, in_BT, ⟨by decide +kernel, by decide +kernel⟩, by decide +kernel⟩
theorem cf_BT_knows : CF y_BT_knows prog_1_method_6_code 4 (some (FieldType.int)) 2 := ⟨co_BT_knows, in_BT, ⟨by decide +kernel, by decide +kernel⟩, by decide +kernel⟩
theorem cf_BT_line : CF y_BT_line prog_1_method_7_code 6 (some (FieldType.int)) 3 := ⟨co_BT_line, in_BT, ⟨by decide +kernel, by decide +kernel⟩, by decide +kernel⟩
theorem cf_BT_feed : CF y_BT_feed prog_1_method_8_code 2 (some (FieldType.int)) 1 := ⟨co_BT_feed, in_BT, ⟨by decide +kernel, by decide +kernel⟩, by decide +kernel⟩
theorem cf_Rooms_takes : CF y_Rooms_takes prog_5_method_3_code 2 (some (FieldType.int)) 1 := ⟨co_Rooms_takes, in_Rooms, ⟨by decide +kernel, by decide +kernel⟩, by decide +kernel⟩
theorem cf_BT_room : CF y_BT_room prog_1_method_9_code 2 (some (FieldType.int)) 0 := ⟨co_BT_room, in_BT, ⟨by decide +kernel, by decide +kernel⟩, by decide +kernel⟩
theorem cf_Rooms_forgetsText : CF y_Rooms_forgetsText prog_5_method_4_code 1 none 0 := ⟨co_Rooms_forgetsText, in_Rooms, ⟨by decide +kernel, by decide +kernel⟩, by decide +kernel⟩
theorem cf_Rooms_keepsText : CF y_Rooms_keepsText prog_5_method_5_code 1 (some (FieldType.int)) 0 := ⟨co_Rooms_keepsText, in_Rooms, ⟨by decide +kernel, by decide +kernel⟩, by decide +kernel⟩
theorem cf_BT_told : CF y_BT_told prog_1_method_10_code 3 (some (FieldType.int)) 1 := ⟨co_BT_told, in_BT, ⟨by decide +kernel, by decide +kernel⟩, by decide +kernel⟩
theorem cf_Seat_knowsOfAll : CF y_Seat_knowsOfAll prog_7_method_18_code 3 (some (FieldType.int)) 0 := ⟨co_Seat_knowsOfAll, in_Seat, ⟨by decide +kernel, by decide +kernel⟩, by decide +kernel⟩
theorem cf_Seat_learnsOfAll : CF y_Seat_learnsOfAll prog_7_method_17_code 4 (some (FieldType.int)) 1 := ⟨co_Seat_learnsOfAll, in_Seat, ⟨by decide +kernel, by decide +kernel⟩, by decide +kernel⟩
theorem cf_BT_pass : CF y_BT_pass prog_1_method_11_code 3 (some (FieldType.int)) 1 := ⟨co_BT_pass, in_BT, ⟨by decide +kernel, by decide +kernel⟩, by decide +kernel⟩
theorem cf_Seat_weekGoes : CF y_Seat_weekGoes prog_7_method_19_code 4 none 1 := ⟨co_Seat_weekGoes, in_Seat, ⟨by decide +kernel, by decide +kernel⟩, by decide +kernel⟩
theorem cf_BT_on : CF y_BT_on prog_1_method_12_code 4 (some (FieldType.int)) 2 := ⟨co_BT_on, in_BT, ⟨by decide +kernel, by decide +kernel⟩, by decide +kernel⟩
theorem cf_BT_isOfPupil : CF y_BT_isOfPupil prog_1_method_48_code 2 (some (FieldType.boolean)) 1 := ⟨co_BT_isOfPupil, in_BT, ⟨by decide +kernel, by decide +kernel⟩, by decide +kernel⟩
theorem cf_Seat_becomes : CF y_Seat_becomes prog_7_method_2_code 2 none 1 := ⟨co_Seat_becomes, in_Seat, ⟨by decide +kernel, by decide +kernel⟩, by decide +kernel⟩
theorem cf_Rows_becomes : CF y_Rows_becomes prog_6_method_4_code 3 none 1 := ⟨co_Rows_becomes, in_Rows, ⟨by decide +kernel, by decide +kernel⟩, by decide +kernel⟩
theorem cf_Rows_takes : CF y_Rows_takes prog_6_method_2_code 3 (some (FieldType.int)) 2 := ⟨co_Rows_takes, in_Rows, ⟨by decide +kernel, by decide +kernel⟩, by decide +kernel⟩
theorem cf_BT_loud : CF y_BT_loud prog_1_method_13_code 3 (some (FieldType.int)) 1 := ⟨co_BT_loud, in_BT, ⟨by decide +kernel, by decide +kernel⟩, by decide +kernel⟩
theorem cf_BT_quietest : CF y_BT_quietest prog_1_method_14_code 3 (some (FieldType.int)) 1 := ⟨co_BT_quietest, in_BT, ⟨by decide +kernel, by decide +kernel⟩, by decide +kernel⟩
theorem cf_BT_plansFromNow : CF y_BT_plansFromNow prog_1_method_19_code 1 none 0 := ⟨co_BT_plansFromNow, in_BT, ⟨by decide +kernel, by decide +kernel⟩, by decide +kernel⟩
theorem cf_BT_arrange : CF y_BT_arrange prog_1_method_20_code 8 (some (FieldType.int)) 6 := ⟨co_BT_arrange, in_BT, ⟨by decide +kernel, by decide +kernel⟩, by decide +kernel⟩
theorem cf_BT_wisest : CF y_BT_wisest prog_1_method_15_code 3 (some (FieldType.int)) 1 := ⟨co_BT_wisest, in_BT, ⟨by decide +kernel, by decide +kernel⟩, by decide +kernel⟩
theorem cf_BT_seat : CF y_BT_seat prog_1_method_16_code 6 (some (FieldType.int)) 1 := ⟨co_BT_seat, in_BT, ⟨by decide +kernel, by decide +kernel⟩, by decide +kernel⟩
theorem cf_BT_best : CF y_BT_best prog_1_method_17_code 2 (some (FieldType.int)) 1 := ⟨co_BT_best, in_BT, ⟨by decide +kernel, by decide +kernel⟩, by decide +kernel⟩
theorem cf_BT_change : CF y_BT_change prog_1_method_21_code 6 (some (FieldType.int)) 0 := ⟨co_BT_change, in_BT, ⟨by decide +kernel, by decide +kernel⟩, by decide +kernel⟩
theorem cf_Seat_swaps : CF y_Seat_swaps prog_7_method_11_code 4 none 2 := ⟨co_Seat_swaps, in_Seat, ⟨by decide +kernel, by decide +kernel⟩, by decide +kernel⟩
theorem cf_BT_worst : CF y_BT_worst prog_1_method_22_code 5 (some (FieldType.int)) 0 := ⟨co_BT_worst, in_BT, ⟨by decide +kernel, by decide +kernel⟩, by decide +kernel⟩
theorem cf_BT_without : CF y_BT_without prog_1_method_23_code 2 none 1 := ⟨co_BT_without, in_BT, ⟨by decide +kernel, by decide +kernel⟩, by decide +kernel⟩
theorem cf_BT_few : CF y_BT_few prog_1_method_18_code 3 (some (FieldType.int)) 1 := ⟨co_BT_few, in_BT, ⟨by decide +kernel, by decide +kernel⟩, by decide +kernel⟩
theorem cf_BT_calmsBy : CF y_BT_calmsBy prog_1_method_24_code 7 (some (FieldType.boolean)) 4 := ⟨co_BT_calmsBy, in_BT, ⟨by decide +kernel, by decide +kernel⟩, by decide +kernel⟩
theorem cf_BT_hear : CF y_BT_hear prog_1_method_25_code 3 (some (FieldType.int)) 2 := ⟨co_BT_hear, in_BT, ⟨by decide +kernel, by decide +kernel⟩, by decide +kernel⟩
theorem cf_Rows_empties : CF y_Rows_empties prog_6_method_3_code 1 (some (FieldType.int)) 0 := ⟨co_Rows_empties, in_Rows, ⟨by decide +kernel, by decide +kernel⟩, by decide +kernel⟩
theorem cf_BT_where : CF y_BT_where prog_1_method_26_code 4 (some (FieldType.int)) 1 := ⟨co_BT_where, in_BT, ⟨by decide +kernel, by decide +kernel⟩, by decide +kernel⟩
theorem cf_Seat_isAsHeard : CF y_Seat_isAsHeard prog_7_method_20_code 2 (some (FieldType.boolean)) 0 := ⟨co_Seat_isAsHeard, in_Seat, ⟨by decide +kernel, by decide +kernel⟩, by decide +kernel⟩
theorem cf_BT_can : CF y_BT_can prog_1_method_27_code 6 (some (FieldType.int)) 2 := ⟨co_BT_can, in_BT, ⟨by decide +kernel, by decide +kernel⟩, by decide +kernel⟩
theorem cf_BT_odds : CF y_BT_odds prog_1_method_28_code 5 (some (FieldType.long)) 2 := ⟨co_BT_odds, in_BT, ⟨by decide +kernel, by decide +kernel⟩, by decide +kernel⟩
theorem cf_BT_partOf : CF y_BT_partOf prog_1_method_30_code 5 (some (FieldType.long)) 3 := ⟨co_BT_partOf, in_BT, ⟨by decide +kernel, by decide +kernel⟩, by decide +kernel⟩
theorem cf_BT_mean : CF y_BT_mean prog_1_method_29_code 2 (some (FieldType.long)) 1 := ⟨co_BT_mean, in_BT, ⟨by decide +kernel, by decide +kernel⟩, by decide +kernel⟩
theorem cf_BT_term : CF y_BT_term prog_1_method_31_code 3 (some (FieldType.int)) 2 := ⟨co_BT_term, in_BT, ⟨by decide +kernel, by decide +kernel⟩, by decide +kernel⟩
theorem cf_BT_ends : CF y_BT_ends prog_1_method_32_code 4 (some (FieldType.int)) 1 := ⟨co_BT_ends, in_BT, ⟨by decide +kernel, by decide +kernel⟩, by decide +kernel⟩
theorem cf_BT_book : CF y_BT_book prog_1_method_33_code 3 (some (FieldType.int)) 2 := ⟨co_BT_book, in_BT, ⟨by decide +kernel, by decide +kernel⟩, by decide +kernel⟩
theorem cf_BT_looked : CF y_BT_looked prog_1_method_34_code 2 (some (FieldType.int)) 0 := ⟨co_BT_looked, in_BT, ⟨by decide +kernel, by decide +kernel⟩, by decide +kernel⟩
theorem cf_BT_judge : CF y_BT_judge prog_1_method_35_code 4 (some (FieldType.int)) 2 := ⟨co_BT_judge, in_BT, ⟨by decide +kernel, by decide +kernel⟩, by decide +kernel⟩
theorem cf_BT_isTape : CF y_BT_isTape prog_1_method_50_code 1 (some (FieldType.boolean)) 1 := ⟨co_BT_isTape, in_BT, ⟨by decide +kernel, by decide +kernel⟩, by decide +kernel⟩
theorem cf_BT_image : CF y_BT_image prog_1_method_36_code 1 (some (FieldType.int)) 0 := ⟨co_BT_image, in_BT, ⟨by decide +kernel, by decide +kernel⟩, by decide +kernel⟩
theorem cf_BT_undo : CF y_BT_undo prog_1_method_37_code 1 (some (FieldType.int)) 0 := ⟨co_BT_undo, in_BT, ⟨by decide +kernel, by decide +kernel⟩, by decide +kernel⟩
theorem cf_BT_act : CF y_BT_act prog_1_method_38_code 5 (some (FieldType.int)) 3 := ⟨co_BT_act, in_BT, ⟨by decide +kernel, by decide +kernel⟩, by decide +kernel⟩
theorem cf_Quiet_whispers : CF y_Quiet_whispers prog_4_method_5_code 3 (some (FieldType.int)) 2 := ⟨co_Quiet_whispers, in_Quiet, ⟨by decide +kernel, by decide +kernel⟩, by decide +kernel⟩
theorem cf_Trace_begins : CF y_Trace_begins prog_12_method_2_code 2 none 1 := ⟨co_Trace_begins, in_Trace, ⟨by decide +kernel, by decide +kernel⟩, by decide +kernel⟩
theorem cf_Told_whispers : CF y_Told_whispers prog_10_method_5_code 3 (some (FieldType.int)) 2 := ⟨co_Told_whispers, in_Told, ⟨by decide +kernel, by decide +kernel⟩, by decide +kernel⟩
theorem cf_Tom_whispers : CF y_Tom_whispers prog_11_method_4_code 3 (some (FieldType.int)) 2 := ⟨co_Tom_whispers, in_Tom, ⟨by decide +kernel, by decide +kernel⟩, by decide +kernel⟩
theorem cf_PK_whispers : CF y_PK_whispers prog_3_method_5_code 3 (some (FieldType.int)) 2 := ⟨co_PK_whispers, in_PK, ⟨by decide +kernel, by decide +kernel⟩, by decide +kernel⟩
theorem cf_Talk_chats : CF y_Talk_chats prog_9_method_4_code 3 (some (FieldType.int)) 2 := ⟨co_Talk_chats, in_Talk, ⟨by decide +kernel, by decide +kernel⟩, by decide +kernel⟩
theorem cf_Told_chats : CF y_Told_chats prog_10_method_4_code 3 (some (FieldType.int)) 2 := ⟨co_Told_chats, in_Told, ⟨by decide +kernel, by decide +kernel⟩, by decide +kernel⟩
theorem cf_Tom_chats : CF y_Tom_chats prog_11_method_5_code 3 (some (FieldType.int)) 2 := ⟨co_Tom_chats, in_Tom, ⟨by decide +kernel, by decide +kernel⟩, by decide +kernel⟩
theorem cf_PK_chats : CF y_PK_chats prog_3_method_6_code 3 (some (FieldType.int)) 2 := ⟨co_PK_chats, in_PK, ⟨by decide +kernel, by decide +kernel⟩, by decide +kernel⟩
theorem cf_Cork_tells : CF y_Cork_tells prog_2_method_5_code 3 (some (FieldType.int)) 2 := ⟨co_Cork_tells, in_Cork, ⟨by decide +kernel, by decide +kernel⟩, by decide +kernel⟩
theorem cf_Short_tells : CF y_Short_tells prog_8_method_4_code 3 (some (FieldType.int)) 2 := ⟨co_Short_tells, in_Short, ⟨by decide +kernel, by decide +kernel⟩, by decide +kernel⟩
theorem cf_PK_tells : CF y_PK_tells prog_3_method_7_code 3 (some (FieldType.int)) 2 := ⟨co_PK_tells, in_PK, ⟨by decide +kernel, by decide +kernel⟩, by decide +kernel⟩
theorem cf_BT_trace : CF y_BT_trace prog_1_method_39_code 2 (some (FieldType.int)) 1 := ⟨co_BT_trace, in_BT, ⟨by decide +kernel, by decide +kernel⟩, by decide +kernel⟩
theorem cf_BT_taken : CF y_BT_taken prog_1_method_40_code 3 (some (FieldType.int)) 2 := ⟨co_BT_taken, in_BT, ⟨by decide +kernel, by decide +kernel⟩, by decide +kernel⟩
theorem cf_Cork_isUnder : CF y_Cork_isUnder prog_2_method_2_code 2 (some (FieldType.boolean)) 1 := ⟨co_Cork_isUnder, in_Cork, ⟨by decide +kernel, by decide +kernel⟩, by decide +kernel⟩
theorem cf_Quiet_isUnder : CF y_Quiet_isUnder prog_4_method_2_code 2 (some (FieldType.boolean)) 1 := ⟨co_Quiet_isUnder, in_Quiet, ⟨by decide +kernel, by decide +kernel⟩, by decide +kernel⟩
theorem cf_Short_isUnder : CF y_Short_isUnder prog_8_method_2_code 2 (some (FieldType.boolean)) 1 := ⟨co_Short_isUnder, in_Short, ⟨by decide +kernel, by decide +kernel⟩, by decide +kernel⟩
theorem cf_Talk_isUnder : CF y_Talk_isUnder prog_9_method_2_code 2 (some (FieldType.boolean)) 1 := ⟨co_Talk_isUnder, in_Talk, ⟨by decide +kernel, by decide +kernel⟩, by decide +kernel⟩
theorem cf_Told_isUnder : CF y_Told_isUnder prog_10_method_2_code 2 (some (FieldType.boolean)) 1 := ⟨co_Told_isUnder, in_Told, ⟨by decide +kernel, by decide +kernel⟩, by decide +kernel⟩
theorem cf_Tom_isUnder : CF y_Tom_isUnder prog_11_method_2_code 2 (some (FieldType.boolean)) 1 := ⟨co_Tom_isUnder, in_Tom, ⟨by decide +kernel, by decide +kernel⟩, by decide +kernel⟩
theorem cf_PK_isUnder : CF y_PK_isUnder prog_3_method_2_code 2 (some (FieldType.boolean)) 1 := ⟨co_PK_isUnder, in_PK, ⟨by decide +kernel, by decide +kernel⟩, by decide +kernel⟩
theorem cf_BT_count : CF y_BT_count prog_1_method_41_code 2 (some (FieldType.int)) 1 := ⟨co_BT_count, in_BT, ⟨by decide +kernel, by decide +kernel⟩, by decide +kernel⟩
theorem cf_Rooms_signs : CF y_Rooms_signs prog_5_method_2_code 1 (some (FieldType.int)) 0 := ⟨co_Rooms_signs, in_Rooms, ⟨by decide +kernel, by decide +kernel⟩, by decide +kernel⟩
theorem cf_BT_tape : CF y_BT_tape prog_1_method_42_code 5 (some (FieldType.int)) 3 := ⟨co_BT_tape, in_BT, ⟨by decide +kernel, by decide +kernel⟩, by decide +kernel⟩
theorem cf_BT_item : CF y_BT_item prog_1_method_43_code 5 (some (FieldType.int)) 3 := ⟨co_BT_item, in_BT, ⟨by decide +kernel, by decide +kernel⟩, by decide +kernel⟩
theorem cf_BT_asItem : CF y_BT_asItem prog_1_method_47_code 3 (some (FieldType.long)) 2 := ⟨co_BT_asItem, in_BT, ⟨by decide +kernel, by decide +kernel⟩, by decide +kernel⟩
theorem cf_BT_read : CF y_BT_read prog_1_method_44_code 3 (some (FieldType.long)) 2 := ⟨co_BT_read, in_BT, ⟨by decide +kernel, by decide +kernel⟩, by decide +kernel⟩
theorem cf_BT_shift : CF y_BT_shift prog_1_method_45_code 6 (some (FieldType.int)) 5 := ⟨co_BT_shift, in_BT, ⟨by decide +kernel, by decide +kernel⟩, by decide +kernel⟩
theorem cf_BT_isRange : CF y_BT_isRange prog_1_method_46_code 4 (some (FieldType.boolean)) 3 := ⟨co_BT_isRange, in_BT, ⟨by decide +kernel, by decide +kernel⟩, by decide +kernel⟩
theorem cf_M_init : CF y_M_init prog_14_method_1_code 1 none 0 := ⟨co_M_init, in_M, ⟨by decide +kernel, by decide +kernel⟩, by decide +kernel⟩
theorem cf_M_pupil : CF y_M_pupil prog_14_method_12_code 5 (some (FieldType.int)) 2 := ⟨co_M_pupil, in_M, ⟨by decide +kernel, by decide +kernel⟩, by decide +kernel⟩
theorem cf_M_in : CF y_M_in prog_14_method_2_code 4 (some (FieldType.boolean)) 3 := ⟨co_M_in, in_M, ⟨by decide +kernel, by decide +kernel⟩, by decide +kernel⟩
theorem cf_M_whoHas : CF y_M_whoHas prog_14_method_11_code 3 (some (FieldType.int)) 1 := ⟨co_M_whoHas, in_M, ⟨by decide +kernel, by decide +kernel⟩, by decide +kernel⟩
theorem cf_M_away : CF y_M_away prog_14_method_14_code 4 (some (FieldType.int)) 2 := ⟨co_M_away, in_M, ⟨by decide +kernel, by decide +kernel⟩, by decide +kernel⟩
theorem cf_M_isPupil : CF y_M_isPupil prog_14_method_7_code 2 (some (FieldType.boolean)) 1 := ⟨co_M_isPupil, in_M, ⟨by decide +kernel, by decide +kernel⟩, by decide +kernel⟩
theorem cf_M_has : CF y_M_has prog_14_method_3_code 3 (some (FieldType.boolean)) 2 := ⟨co_M_has, in_M, ⟨by decide +kernel, by decide +kernel⟩, by decide +kernel⟩
theorem cf_M_goes : CF y_M_goes prog_14_method_13_code 3 none 2 := ⟨co_M_goes, in_M, ⟨by decide +kernel, by decide +kernel⟩, by decide +kernel⟩
theorem cf_M_knows : CF y_M_knows prog_14_method_15_code 4 (some (FieldType.int)) 2 := ⟨co_M_knows, in_M, ⟨by decide +kernel, by decide +kernel⟩, by decide +kernel⟩
theorem cf_M_line : CF y_M_line prog_14_method_16_code 5 (some (FieldType.int)) 3 := ⟨co_M_line, in_M, ⟨by decide +kernel, by decide +kernel⟩, by decide +kernel⟩
theorem cf_M_move : CF y_M_move prog_14_method_19_code 3 (some (FieldType.int)) 2 := ⟨co_M_move, in_M, ⟨by decide +kernel, by decide +kernel⟩, by decide +kernel⟩
theorem cf_M_isDesk : CF y_M_isDesk prog_14_method_8_code 2 (some (FieldType.boolean)) 1 := ⟨co_M_isDesk, in_M, ⟨by decide +kernel, by decide +kernel⟩, by decide +kernel⟩
theorem cf_M_moves : CF y_M_moves prog_14_method_18_code 3 none 2 := ⟨co_M_moves, in_M, ⟨by decide +kernel, by decide +kernel⟩, by decide +kernel⟩
theorem cf_M_takesDesk : CF y_M_takesDesk prog_14_method_17_code 4 none 2 := ⟨co_M_takesDesk, in_M, ⟨by decide +kernel, by decide +kernel⟩, by decide +kernel⟩
theorem cf_M_noise : CF y_M_noise prog_14_method_49_code 3 (some (FieldType.int)) 0 := ⟨co_M_noise, in_M, ⟨by decide +kernel, by decide +kernel⟩, by decide +kernel⟩
theorem cf_M_talk : CF y_M_talk prog_14_method_48_code 5 (some (FieldType.int)) 1 := ⟨co_M_talk, in_M, ⟨by decide +kernel, by decide +kernel⟩, by decide +kernel⟩
theorem cf_M_beside : CF y_M_beside prog_14_method_46_code 4 (some (FieldType.int)) 1 := ⟨co_M_beside, in_M, ⟨by decide +kernel, by decide +kernel⟩, by decide +kernel⟩
theorem cf_M_isNext : CF y_M_isNext prog_14_method_45_code 4 (some (FieldType.boolean)) 2 := ⟨co_M_isNext, in_M, ⟨by decide +kernel, by decide +kernel⟩, by decide +kernel⟩
theorem cf_M_voice : CF y_M_voice prog_14_method_47_code 4 (some (FieldType.int)) 1 := ⟨co_M_voice, in_M, ⟨by decide +kernel, by decide +kernel⟩, by decide +kernel⟩
theorem cf_M_many : CF y_M_many prog_14_method_6_code 4 (some (FieldType.int)) 1 := ⟨co_M_many, in_M, ⟨by decide +kernel, by decide +kernel⟩, by decide +kernel⟩
theorem cf_M_mouth : CF y_M_mouth prog_14_method_44_code 5 (some (FieldType.int)) 2 := ⟨co_M_mouth, in_M, ⟨by decide +kernel, by decide +kernel⟩, by decide +kernel⟩
theorem cf_M_begin : CF y_M_begin prog_14_method_37_code 1 (some (FieldType.int)) 0 := ⟨co_M_begin, in_M, ⟨by decide +kernel, by decide +kernel⟩, by decide +kernel⟩
theorem cf_M_behind : CF y_M_behind prog_14_method_38_code 1 (some (FieldType.int)) 0 := ⟨co_M_behind, in_M, ⟨by decide +kernel, by decide +kernel⟩, by decide +kernel⟩
theorem cf_M_holds : CF y_M_holds prog_14_method_43_code 9 (some (FieldType.boolean)) 3 := ⟨co_M_holds, in_M, ⟨by decide +kernel, by decide +kernel⟩, by decide +kernel⟩
theorem cf_M_factOf : CF y_M_factOf prog_14_method_42_code 4 (some (FieldType.int)) 3 := ⟨co_M_factOf, in_M, ⟨by decide +kernel, by decide +kernel⟩, by decide +kernel⟩
theorem cf_M_least0 : CF y_M_least0 prog_14_method_5_code 2 (some (FieldType.int)) 1 := ⟨co_M_least0, in_M, ⟨by decide +kernel, by decide +kernel⟩, by decide +kernel⟩
theorem cf_M_wears : CF y_M_wears prog_14_method_40_code 1 (some (FieldType.int)) 0 := ⟨co_M_wears, in_M, ⟨by decide +kernel, by decide +kernel⟩, by decide +kernel⟩
theorem cf_M_lastOf : CF y_M_lastOf prog_14_method_39_code 5 (some (FieldType.int)) 2 := ⟨co_M_lastOf, in_M, ⟨by decide +kernel, by decide +kernel⟩, by decide +kernel⟩
theorem cf_M_feed : CF y_M_feed prog_14_method_20_code 2 (some (FieldType.int)) 1 := ⟨co_M_feed, in_M, ⟨by decide +kernel, by decide +kernel⟩, by decide +kernel⟩
theorem cf_M_room : CF y_M_room prog_14_method_36_code 2 (some (FieldType.int)) 0 := ⟨co_M_room, in_M, ⟨by decide +kernel, by decide +kernel⟩, by decide +kernel⟩
theorem cf_M_goesText : CF y_M_goesText prog_14_method_35_code 3 (some (FieldType.boolean)) 1 := ⟨co_M_goesText, in_M, ⟨by decide +kernel, by decide +kernel⟩, by decide +kernel⟩
theorem cf_M_takesClause : CF y_M_takesClause prog_14_method_34_code 2 (some (FieldType.boolean)) 1 := ⟨co_M_takesClause, in_M, ⟨by decide +kernel, by decide +kernel⟩, by decide +kernel⟩
theorem cf_M_takesHead : CF y_M_takesHead prog_14_method_33_code 2 (some (FieldType.boolean)) 1 := ⟨co_M_takesHead, in_M, ⟨by decide +kernel, by decide +kernel⟩, by decide +kernel⟩
theorem cf_M_next : CF y_M_next prog_14_method_21_code 1 (some (FieldType.int)) 0 := ⟨co_M_next, in_M, ⟨by decide +kernel, by decide +kernel⟩, by decide +kernel⟩
theorem cf_M_takesWord : CF y_M_takesWord prog_14_method_24_code 4 (some (FieldType.boolean)) 2 := ⟨co_M_takesWord, in_M, ⟨by decide +kernel, by decide +kernel⟩, by decide +kernel⟩
theorem cf_M_takes : CF y_M_takes prog_14_method_23_code 2 (some (FieldType.boolean)) 1 := ⟨co_M_takes, in_M, ⟨by decide +kernel, by decide +kernel⟩, by decide +kernel⟩
theorem cf_M_second : CF y_M_second prog_14_method_22_code 1 (some (FieldType.int)) 0 := ⟨co_M_second, in_M, ⟨by decide +kernel, by decide +kernel⟩, by decide +kernel⟩
theorem cf_M_takesNumber : CF y_M_takesNumber prog_14_method_26_code 2 (some (FieldType.boolean)) 0 := ⟨co_M_takesNumber, in_M, ⟨by decide +kernel, by decide +kernel⟩, by decide +kernel⟩
theorem cf_M_isDigit : CF y_M_isDigit prog_14_method_25_code 1 (some (FieldType.boolean)) 0 := ⟨co_M_isDigit, in_M, ⟨by decide +kernel, by decide +kernel⟩, by decide +kernel⟩
theorem cf_M_takesE : CF y_M_takesE prog_14_method_32_code 4 (some (FieldType.boolean)) 1 := ⟨co_M_takesE, in_M, ⟨by decide +kernel, by decide +kernel⟩, by decide +kernel⟩
theorem cf_M_takesTest : CF y_M_takesTest prog_14_method_31_code 3 (some (FieldType.boolean)) 0 := ⟨co_M_takesTest, in_M, ⟨by decide +kernel, by decide +kernel⟩, by decide +kernel⟩
theorem cf_M_place : CF y_M_place prog_14_method_30_code 2 (some (FieldType.int)) 1 := ⟨co_M_place, in_M, ⟨by decide +kernel, by decide +kernel⟩, by decide +kernel⟩
theorem cf_M_emits : CF y_M_emits prog_14_method_27_code 2 none 1 := ⟨co_M_emits, in_M, ⟨by decide +kernel, by decide +kernel⟩, by decide +kernel⟩
theorem cf_M_whole : CF y_M_whole prog_14_method_28_code 1 none 0 := ⟨co_M_whole, in_M, ⟨by decide +kernel, by decide +kernel⟩, by decide +kernel⟩
theorem cf_M_settle : CF y_M_settle prog_14_method_29_code 2 none 1 := ⟨co_M_settle, in_M, ⟨by decide +kernel, by decide +kernel⟩, by decide +kernel⟩
theorem cf_M_of : CF y_M_of prog_14_method_54_code 3 (some (FieldType.int)) 2 := ⟨co_M_of, in_M, ⟨by decide +kernel, by decide +kernel⟩, by decide +kernel⟩
theorem cf_M_learns : CF y_M_learns prog_14_method_51_code 2 (some (FieldType.int)) 1 := ⟨co_M_learns, in_M, ⟨by decide +kernel, by decide +kernel⟩, by decide +kernel⟩
theorem cf_M_learnsBy : CF y_M_learnsBy prog_14_method_50_code 4 (some (FieldType.int)) 2 := ⟨co_M_learnsBy, in_M, ⟨by decide +kernel, by decide +kernel⟩, by decide +kernel⟩
theorem cf_M_cost : CF y_M_cost prog_14_method_41_code 1 (some (FieldType.int)) 0 := ⟨co_M_cost, in_M, ⟨by decide +kernel, by decide +kernel⟩, by decide +kernel⟩
theorem cf_M_told : CF y_M_told prog_14_method_55_code 2 (some (FieldType.int)) 1 := ⟨co_M_told, in_M, ⟨by decide +kernel, by decide +kernel⟩, by decide +kernel⟩
theorem cf_M_allKnow : CF y_M_allKnow prog_14_method_53_code 3 (some (FieldType.int)) 0 := ⟨co_M_allKnow, in_M, ⟨by decide +kernel, by decide +kernel⟩, by decide +kernel⟩
theorem cf_M_allLearn : CF y_M_allLearn prog_14_method_52_code 4 (some (FieldType.int)) 0 := ⟨co_M_allLearn, in_M, ⟨by decide +kernel, by decide +kernel⟩, by decide +kernel⟩
theorem cf_M_pass : CF y_M_pass prog_14_method_58_code 2 (some (FieldType.int)) 1 := ⟨co_M_pass, in_M, ⟨by decide +kernel, by decide +kernel⟩, by decide +kernel⟩
theorem cf_M_isWeeks : CF y_M_isWeeks prog_14_method_9_code 2 (some (FieldType.boolean)) 1 := ⟨co_M_isWeeks, in_M, ⟨by decide +kernel, by decide +kernel⟩, by decide +kernel⟩
theorem cf_M_goWeeks : CF y_M_goWeeks prog_14_method_57_code 3 none 1 := ⟨co_M_goWeeks, in_M, ⟨by decide +kernel, by decide +kernel⟩, by decide +kernel⟩
theorem cf_M_goWeek : CF y_M_goWeek prog_14_method_56_code 3 none 0 := ⟨co_M_goWeek, in_M, ⟨by decide +kernel, by decide +kernel⟩, by decide +kernel⟩
theorem cf_M_least : CF y_M_least prog_14_method_4_code 3 (some (FieldType.int)) 2 := ⟨co_M_least, in_M, ⟨by decide +kernel, by decide +kernel⟩, by decide +kernel⟩
theorem cf_M_on : CF y_M_on prog_14_method_61_code 4 (some (FieldType.int)) 2 := ⟨co_M_on, in_M, ⟨by decide +kernel, by decide +kernel⟩, by decide +kernel⟩
theorem cf_M_save : CF y_M_save prog_14_method_59_code 2 none 0 := ⟨co_M_save, in_M, ⟨by decide +kernel, by decide +kernel⟩, by decide +kernel⟩
theorem cf_M_putBack : CF y_M_putBack prog_14_method_60_code 2 none 0 := ⟨co_M_putBack, in_M, ⟨by decide +kernel, by decide +kernel⟩, by decide +kernel⟩
theorem cf_M_loud : CF y_M_loud prog_14_method_62_code 3 (some (FieldType.int)) 1 := ⟨co_M_loud, in_M, ⟨by decide +kernel, by decide +kernel⟩, by decide +kernel⟩
theorem cf_M_isNoise : CF y_M_isNoise prog_14_method_10_code 2 (some (FieldType.boolean)) 1 := ⟨co_M_isNoise, in_M, ⟨by decide +kernel, by decide +kernel⟩, by decide +kernel⟩
theorem cf_M_quietest : CF y_M_quietest prog_14_method_65_code 3 (some (FieldType.int)) 1 := ⟨co_M_quietest, in_M, ⟨by decide +kernel, by decide +kernel⟩, by decide +kernel⟩
theorem cf_M_layBest : CF y_M_layBest prog_14_method_64_code 7 (some (FieldType.int)) 1 := ⟨co_M_layBest, in_M, ⟨by decide +kernel, by decide +kernel⟩, by decide +kernel⟩
theorem cf_M_layPlan : CF y_M_layPlan prog_14_method_63_code 5 (some (FieldType.boolean)) 1 := ⟨co_M_layPlan, in_M, ⟨by decide +kernel, by decide +kernel⟩, by decide +kernel⟩
theorem cf_M_wisest : CF y_M_wisest prog_14_method_66_code 3 (some (FieldType.int)) 1 := ⟨co_M_wisest, in_M, ⟨by decide +kernel, by decide +kernel⟩, by decide +kernel⟩
theorem cf_M_seat : CF y_M_seat prog_14_method_68_code 4 (some (FieldType.int)) 1 := ⟨co_M_seat, in_M, ⟨by decide +kernel, by decide +kernel⟩, by decide +kernel⟩
theorem cf_M_noiseIfMoved : CF y_M_noiseIfMoved prog_14_method_67_code 4 (some (FieldType.int)) 2 := ⟨co_M_noiseIfMoved, in_M, ⟨by decide +kernel, by decide +kernel⟩, by decide +kernel⟩
theorem cf_M_best : CF y_M_best prog_14_method_72_code 2 (some (FieldType.int)) 1 := ⟨co_M_best, in_M, ⟨by decide +kernel, by decide +kernel⟩, by decide +kernel⟩
theorem cf_M_changeOf : CF y_M_changeOf prog_14_method_69_code 6 (some (FieldType.int)) 0 := ⟨co_M_changeOf, in_M, ⟨by decide +kernel, by decide +kernel⟩, by decide +kernel⟩
theorem cf_M_worstOf : CF y_M_worstOf prog_14_method_71_code 5 (some (FieldType.int)) 0 := ⟨co_M_worstOf, in_M, ⟨by decide +kernel, by decide +kernel⟩, by decide +kernel⟩
theorem cf_M_noiseWithout : CF y_M_noiseWithout prog_14_method_70_code 4 (some (FieldType.int)) 1 := ⟨co_M_noiseWithout, in_M, ⟨by decide +kernel, by decide +kernel⟩, by decide +kernel⟩
theorem cf_M_few : CF y_M_few prog_14_method_76_code 5 (some (FieldType.int)) 1 := ⟨co_M_few, in_M, ⟨by decide +kernel, by decide +kernel⟩, by decide +kernel⟩
theorem cf_M_isQuietBy : CF y_M_isQuietBy prog_14_method_75_code 7 (some (FieldType.boolean)) 3 := ⟨co_M_isQuietBy, in_M, ⟨by decide +kernel, by decide +kernel⟩, by decide +kernel⟩
theorem cf_M_isPair : CF y_M_isPair prog_14_method_74_code 2 (some (FieldType.boolean)) 1 := ⟨co_M_isPair, in_M, ⟨by decide +kernel, by decide +kernel⟩, by decide +kernel⟩
theorem cf_M_swaps : CF y_M_swaps prog_14_method_73_code 3 none 1 := ⟨co_M_swaps, in_M, ⟨by decide +kernel, by decide +kernel⟩, by decide +kernel⟩
theorem cf_M_hear : CF y_M_hear prog_14_method_77_code 3 (some (FieldType.int)) 2 := ⟨co_M_hear, in_M, ⟨by decide +kernel, by decide +kernel⟩, by decide +kernel⟩
theorem cf_M_where : CF y_M_where prog_14_method_79_code 4 (some (FieldType.int)) 1 := ⟨co_M_where, in_M, ⟨by decide +kernel, by decide +kernel⟩, by decide +kernel⟩
theorem cf_M_isHeard : CF y_M_isHeard prog_14_method_78_code 5 (some (FieldType.boolean)) 0 := ⟨co_M_isHeard, in_M, ⟨by decide +kernel, by decide +kernel⟩, by decide +kernel⟩
theorem cf_M_can : CF y_M_can prog_14_method_80_code 7 (some (FieldType.int)) 2 := ⟨co_M_can, in_M, ⟨by decide +kernel, by decide +kernel⟩, by decide +kernel⟩
theorem cf_M_odds : CF y_M_odds prog_14_method_83_code 5 (some (FieldType.long)) 2 := ⟨co_M_odds, in_M, ⟨by decide +kernel, by decide +kernel⟩, by decide +kernel⟩
theorem cf_M_lowest : CF y_M_lowest prog_14_method_82_code 5 (some (FieldType.long)) 3 := ⟨co_M_lowest, in_M, ⟨by decide +kernel, by decide +kernel⟩, by decide +kernel⟩
theorem cf_M_divisor : CF y_M_divisor prog_14_method_81_code 6 (some (FieldType.int)) 2 := ⟨co_M_divisor, in_M, ⟨by decide +kernel, by decide +kernel⟩, by decide +kernel⟩
theorem cf_M_mean : CF y_M_mean prog_14_method_84_code 2 (some (FieldType.long)) 1 := ⟨co_M_mean, in_M, ⟨by decide +kernel, by decide +kernel⟩, by decide +kernel⟩
theorem cf_M_term : CF y_M_term prog_14_method_85_code 3 (some (FieldType.int)) 2 := ⟨co_M_term, in_M, ⟨by decide +kernel, by decide +kernel⟩, by decide +kernel⟩
theorem cf_M_ends : CF y_M_ends prog_14_method_86_code 3 (some (FieldType.int)) 1 := ⟨co_M_ends, in_M, ⟨by decide +kernel, by decide +kernel⟩, by decide +kernel⟩
theorem cf_M_book : CF y_M_book prog_14_method_87_code 3 (some (FieldType.int)) 2 := ⟨co_M_book, in_M, ⟨by decide +kernel, by decide +kernel⟩, by decide +kernel⟩
theorem cf_M_looked : CF y_M_looked prog_14_method_88_code 2 (some (FieldType.int)) 0 := ⟨co_M_looked, in_M, ⟨by decide +kernel, by decide +kernel⟩, by decide +kernel⟩
theorem cf_M_judge : CF y_M_judge prog_14_method_89_code 4 (some (FieldType.int)) 2 := ⟨co_M_judge, in_M, ⟨by decide +kernel, by decide +kernel⟩, by decide +kernel⟩
theorem cf_M_isTape : CF y_M_isTape prog_14_method_104_code 2 (some (FieldType.boolean)) 1 := ⟨co_M_isTape, in_M, ⟨by decide +kernel, by decide +kernel⟩, by decide +kernel⟩
theorem cf_M_image : CF y_M_image prog_14_method_90_code 2 (some (FieldType.int)) 0 := ⟨co_M_image, in_M, ⟨by decide +kernel, by decide +kernel⟩, by decide +kernel⟩
theorem cf_M_undo : CF y_M_undo prog_14_method_91_code 2 (some (FieldType.int)) 0 := ⟨co_M_undo, in_M, ⟨by decide +kernel, by decide +kernel⟩, by decide +kernel⟩
theorem cf_M_act : CF y_M_act prog_14_method_100_code 4 (some (FieldType.int)) 3 := ⟨co_M_act, in_M, ⟨by decide +kernel, by decide +kernel⟩, by decide +kernel⟩
theorem cf_M_whispersAct : CF y_M_whispersAct prog_14_method_94_code 3 (some (FieldType.int)) 2 := ⟨co_M_whispersAct, in_M, ⟨by decide +kernel, by decide +kernel⟩, by decide +kernel⟩
theorem cf_M_body : CF y_M_body prog_14_method_92_code 2 none 1 := ⟨co_M_body, in_M, ⟨by decide +kernel, by decide +kernel⟩, by decide +kernel⟩
theorem cf_M_pupilWhispers : CF y_M_pupilWhispers prog_14_method_93_code 3 (some (FieldType.int)) 2 := ⟨co_M_pupilWhispers, in_M, ⟨by decide +kernel, by decide +kernel⟩, by decide +kernel⟩
theorem cf_M_chatsAct : CF y_M_chatsAct prog_14_method_97_code 4 (some (FieldType.int)) 2 := ⟨co_M_chatsAct, in_M, ⟨by decide +kernel, by decide +kernel⟩, by decide +kernel⟩
theorem cf_M_talkerChats : CF y_M_talkerChats prog_14_method_96_code 3 (some (FieldType.int)) 2 := ⟨co_M_talkerChats, in_M, ⟨by decide +kernel, by decide +kernel⟩, by decide +kernel⟩
theorem cf_M_pupilChats : CF y_M_pupilChats prog_14_method_95_code 3 (some (FieldType.int)) 2 := ⟨co_M_pupilChats, in_M, ⟨by decide +kernel, by decide +kernel⟩, by decide +kernel⟩
theorem cf_M_tellsAct : CF y_M_tellsAct prog_14_method_99_code 4 (some (FieldType.int)) 2 := ⟨co_M_tellsAct, in_M, ⟨by decide +kernel, by decide +kernel⟩, by decide +kernel⟩
theorem cf_M_pupilTells : CF y_M_pupilTells prog_14_method_98_code 3 (some (FieldType.int)) 2 := ⟨co_M_pupilTells, in_M, ⟨by decide +kernel, by decide +kernel⟩, by decide +kernel⟩
theorem cf_M_trace : CF y_M_trace prog_14_method_101_code 2 (some (FieldType.int)) 1 := ⟨co_M_trace, in_M, ⟨by decide +kernel, by decide +kernel⟩, by decide +kernel⟩
theorem cf_M_taken : CF y_M_taken prog_14_method_102_code 4 (some (FieldType.int)) 2 := ⟨co_M_taken, in_M, ⟨by decide +kernel, by decide +kernel⟩, by decide +kernel⟩
theorem cf_M_count : CF y_M_count prog_14_method_103_code 2 (some (FieldType.int)) 1 := ⟨co_M_count, in_M, ⟨by decide +kernel, by decide +kernel⟩, by decide +kernel⟩
theorem cf_M_tape : CF y_M_tape prog_14_method_105_code 5 (some (FieldType.int)) 3 := ⟨co_M_tape, in_M, ⟨by decide +kernel, by decide +kernel⟩, by decide +kernel⟩
theorem cf_M_item : CF y_M_item prog_14_method_107_code 5 (some (FieldType.int)) 3 := ⟨co_M_item, in_M, ⟨by decide +kernel, by decide +kernel⟩, by decide +kernel⟩
theorem cf_M_narrow : CF y_M_narrow prog_14_method_106_code 4 (some (FieldType.long)) 2 := ⟨co_M_narrow, in_M, ⟨by decide +kernel, by decide +kernel⟩, by decide +kernel⟩
theorem cf_M_read : CF y_M_read prog_14_method_108_code 3 (some (FieldType.long)) 2 := ⟨co_M_read, in_M, ⟨by decide +kernel, by decide +kernel⟩, by decide +kernel⟩
theorem cf_M_shift : CF y_M_shift prog_14_method_109_code 7 (some (FieldType.int)) 5 := ⟨co_M_shift, in_M, ⟨by decide +kernel, by decide +kernel⟩, by decide +kernel⟩
