/-! printed by wip/whole/tabs.py: nest words, string words, the methods by their numbers, the class tables -/
def gNw : List Cond := [(Cond.methodLinkNest "BrushGlass$Glass" (76 : Nat) ({ cls := "BrushGlass$Person", name := "<init>", desc := "()V" } : Jvm.MethodName) "BrushGlass"), (Cond.methodLinkNest "BrushGlass" (38 : Nat) ({ cls := "BrushGlass$Ways", name := "<init>", desc := "()V" } : Jvm.MethodName) "BrushGlass"), (Cond.methodLinkNest "BrushGlass$Memory" (30 : Nat) ({ cls := "BrushGlass$Ways", name := "<init>", desc := "()V" } : Jvm.MethodName) "BrushGlass"), (Cond.methodLinkNest "BrushGlass" (79 : Nat) ({ cls := "BrushGlass$Pairings", name := "<init>", desc := "()V" } : Jvm.MethodName) "BrushGlass"), (Cond.methodLinkNest "BrushGlass" (86 : Nat) ({ cls := "BrushGlass$Painting", name := "<init>", desc := "()V" } : Jvm.MethodName) "BrushGlass"), (Cond.methodLinkNest "BrushGlass" (93 : Nat) ({ cls := "BrushGlass$Drift", name := "<init>", desc := "()V" } : Jvm.MethodName) "BrushGlass"), (Cond.methodLinkNest "BrushGlassModel" (359 : Nat) ({ cls := "BrushGlassModel$Glass", name := "<init>", desc := "()V" } : Jvm.MethodName) "BrushGlassModel"), (Cond.fieldLinkNest "BrushGlassModel" (200 : Nat) "BrushGlassModel$Glass" "days" "I" "BrushGlassModel"), (Cond.fieldLinkNest "BrushGlassModel" (251 : Nat) "BrushGlassModel$Glass" "places" "I" "BrushGlassModel"), (Cond.fieldLinkNest "BrushGlassModel" (253 : Nat) "BrushGlassModel$Glass" "colours" "I" "BrushGlassModel"), (Cond.fieldLinkNest "BrushGlassModel" (255 : Nat) "BrushGlassModel$Glass" "reach" "I" "BrushGlassModel"), (Cond.fieldLinkNest "BrushGlassModel" (219 : Nat) "BrushGlassModel$Glass" "people" "I" "BrushGlassModel"), (Cond.fieldLinkNest "BrushGlassModel" (322 : Nat) "BrushGlassModel$Glass" "moves" "I" "BrushGlassModel"), (Cond.fieldLinkNest "BrushGlassModel" (336 : Nat) "BrushGlassModel$Glass" "seeings" "I" "BrushGlassModel"), (Cond.fieldLinkNest "BrushGlassModel" (344 : Nat) "BrushGlassModel$Glass" "sayings" "I" "BrushGlassModel"), (Cond.fieldLinkNest "BrushGlassModel" (290 : Nat) "BrushGlassModel$Glass" "name" "[J" "BrushGlassModel"), (Cond.fieldLinkNest "BrushGlassModel" (293 : Nat) "BrushGlassModel$Glass" "kind" "[I" "BrushGlassModel"), (Cond.fieldLinkNest "BrushGlassModel" (296 : Nat) "BrushGlassModel$Glass" "habit" "[I" "BrushGlassModel"), (Cond.fieldLinkNest "BrushGlassModel" (299 : Nat) "BrushGlassModel$Glass" "liked" "[I" "BrushGlassModel"), (Cond.fieldLinkNest "BrushGlassModel" (278 : Nat) "BrushGlassModel$Glass" "likes" "[I" "BrushGlassModel"), (Cond.fieldLinkNest "BrushGlassModel" (302 : Nat) "BrushGlassModel$Glass" "keeps" "[I" "BrushGlassModel"), (Cond.fieldLinkNest "BrushGlassModel" (304 : Nat) "BrushGlassModel$Glass" "wears" "[I" "BrushGlassModel"), (Cond.fieldLinkNest "BrushGlassModel" (312 : Nat) "BrushGlassModel$Glass" "stays" "[I" "BrushGlassModel"), (Cond.fieldLinkNest "BrushGlassModel" (319 : Nat) "BrushGlassModel$Glass" "from" "[I" "BrushGlassModel"), (Cond.fieldLinkNest "BrushGlassModel" (315 : Nat) "BrushGlassModel$Glass" "to" "[I" "BrushGlassModel"), (Cond.fieldLinkNest "BrushGlassModel" (306 : Nat) "BrushGlassModel$Glass" "takes" "[Z" "BrushGlassModel"), (Cond.fieldLinkNest "BrushGlassModel" (327 : Nat) "BrushGlassModel$Glass" "moveDay" "[I" "BrushGlassModel"), (Cond.fieldLinkNest "BrushGlassModel" (330 : Nat) "BrushGlassModel$Glass" "moveOne" "[I" "BrushGlassModel"), (Cond.fieldLinkNest "BrushGlassModel" (333 : Nat) "BrushGlassModel$Glass" "moveTwo" "[I" "BrushGlassModel"), (Cond.fieldLinkNest "BrushGlassModel" (341 : Nat) "BrushGlassModel$Glass" "seenDay" "[I" "BrushGlassModel"), (Cond.fieldLinkNest "BrushGlassModel" (339 : Nat) "BrushGlassModel$Glass" "seen" "[I" "BrushGlassModel"), (Cond.fieldLinkNest "BrushGlassModel" (347 : Nat) "BrushGlassModel$Glass" "saidBy" "[I" "BrushGlassModel"), (Cond.fieldLinkNest "BrushGlassModel" (350 : Nat) "BrushGlassModel$Glass" "saidDay" "[I" "BrushGlassModel"), (Cond.fieldLinkNest "BrushGlassModel" (353 : Nat) "BrushGlassModel$Glass" "saidPlace" "[I" "BrushGlassModel"), (Cond.methodLinkNest "BrushGlassModel$Glass" (75 : Nat) ({ cls := "BrushGlassModel", name := "in", desc := "(III)Z" } : Jvm.MethodName) "BrushGlassModel")]
def gSr : List (String × Nat × String × Nat) := [("BrushGlass$Reader", 89, "glass", 0), ("BrushGlass$Reader", 95, "person", 1), ("BrushGlass$Reader", 97, "stay", 2), ("BrushGlass$Reader", 99, "moves", 3), ("BrushGlass$Reader", 101, "seen", 4), ("BrushGlass$Reader", 103, "says", 5), ("BrushGlass$Reader", 158, "days", 6), ("BrushGlass$Reader", 166, "places", 7), ("BrushGlass$Reader", 170, "colours", 8), ("BrushGlass$Reader", 174, "reach", 9), ("BrushGlass$Reader", 211, "sure", 10), ("BrushGlass$Reader", 213, "colour", 11), ("BrushGlass$Reader", 215, "place", 12), ("BrushGlass$Reader", 217, "messy", 13), ("BrushGlass$Reader", 184, "buys", 14), ("BrushGlass$Reader", 226, "first", 15), ("BrushGlass$Reader", 228, "unlike", 16), ("BrushGlass$Reader", 230, "rare", 17), ("BrushGlass$Reader", 232, "", 18), ("BrushGlass$Reader", 189, "likes", 19), ("BrushGlass$Reader", 194, "keeps", 20), ("BrushGlass$Reader", 199, "wears", 21), ("BrushGlass$Reader", 203, "takes", 22), ("BrushGlass$Reader", 237, "yes", 23), ("BrushGlass$Reader", 242, "no", 24), ("BrushGlass$Reader", 258, "to", 25), ("BrushGlassModel", 184, "glass", 26), ("BrushGlassModel", 240, "days", 27), ("BrushGlassModel", 245, "places", 28), ("BrushGlassModel", 247, "colours", 29), ("BrushGlassModel", 249, "reach", 30), ("BrushGlassModel", 186, "person", 31), ("BrushGlassModel", 188, "stay", 32), ("BrushGlassModel", 190, "moves", 33), ("BrushGlassModel", 192, "seen", 34), ("BrushGlassModel", 194, "says", 35), ("BrushGlassModel", 261, "sure", 36), ("BrushGlassModel", 263, "colour", 37), ("BrushGlassModel", 265, "place", 38), ("BrushGlassModel", 266, "messy", 39), ("BrushGlassModel", 268, "buys", 40), ("BrushGlassModel", 270, "first", 41), ("BrushGlassModel", 272, "unlike", 42), ("BrushGlassModel", 274, "rare", 43), ("BrushGlassModel", 276, "likes", 44), ("BrushGlassModel", 280, "keeps", 45), ("BrushGlassModel", 282, "wears", 46), ("BrushGlassModel", 284, "takes", 47), ("BrushGlassModel", 286, "yes", 48), ("BrushGlassModel", 288, "no", 49), ("BrushGlassModel", 318, "to", 50)]
def gMt_0 : List gMi := [(yX0_init, cX0_init, 3, none, some 0),
  (yX0_begin, cX0_begin, 3, none, some 0),
  (yX0_morning, cX0_morning, 3, none, some 0),
  (yX0_evening, cX0_evening, 3, none, some 0),
  (yX0_night, cX0_night, 3, none, some 0),
  (yX0_exchange, cX0_exchange, 4, none, some 0),
  (yX0_tintAt, cX0_tintAt, 2, (some (FieldType.int)), some 0),
  (yX0_save, cX0_save, 1, none, some 0),
  (yX0_restore, cX0_restore, 1, none, some 0),
  (yX0_comeIn, cX0_comeIn, 3, none, some 0),
  (yX0_renew, cX0_renew, 3, none, some 0),
  (yX0_buy, cX0_buy, 4, none, some 0),
  (yX0_pickColour, cX0_pickColour, 7, (some (FieldType.int)), some 0),
  (yX0_lift, cX0_lift, 2, none, some 0),
  (yX0_standSomewhere, cX0_standSomewhere, 3, none, some 0),
  (yX0_chosen, cX0_chosen, 4, (some (FieldType.int)), some 0),
  (yX1_init, cX1_init, 2, none, some 1),
  (yX1_write, cX1_write, 4, none, some 1),
  (yX1_brushAt, cX1_brushAt, 3, (some (FieldType.int)), some 1),
  (yX1_tintAt, cX1_tintAt, 4, (some (FieldType.int)), some 1),
  (yX1_spotOf, cX1_spotOf, 3, (some (FieldType.int)), some 1),
  (yX1_usedBy, cX1_usedBy, 3, (some (FieldType.int)), some 1),
  (yX1_wrongPlace, cX1_wrongPlace, 4, (some (FieldType.int)), some 1),
  (yX1_notePlaces, cX1_notePlaces, 7, none, some 1),
  (yX1_notePeople, cX1_notePeople, 6, none, some 1),
  (yX2_init, cX2_init, 1, none, some 2),
  (yX2_after, cX2_after, 8, none, some 2),
  (yX2_reachIn, cX2_reachIn, 8, none, some 2),
  (yX2_commonDivisor, cX2_commonDivisor, 11, (some (FieldType.long)), none),
  (yX3_init, cX3_init, 2, none, some 3),
  (yX3_search, cX3_search, 7, none, some 3),
  (yX3_part, cX3_part, 4, (some (FieldType.int)), some 3),
  (yX3_endsRight, cX3_endsRight, 5, (some (FieldType.boolean)), some 3),
  (yX3_isRight, cX3_isRight, 5, (some (FieldType.boolean)), some 3),
  (yX4_init, cX4_init, 2, none, some 4),
  (yX4_clear, cX4_clear, 1, none, some 4),
  (yX4_addStay, cX4_addStay, 6, none, some 4),
  (yX4_crowd, cX4_crowd, 3, (some (FieldType.int)), some 4),
  (yX4_lastSeenDay, cX4_lastSeenDay, 3, (some (FieldType.int)), some 4),
  (yX5_init, cX5_init, 2, none, some 5)]
def gMt_1 : List gMi := [(yX5_forget, cX5_forget, 1, none, some 5),
  (yX5_keepAhead, cX5_keepAhead, 2, none, some 5),
  (yX5_takeBack, cX5_takeBack, 2, none, some 5),
  (yX5_setMark, cX5_setMark, 2, (some (FieldType.int)), some 5),
  (yX5_goBack, cX5_goBack, 3, none, some 5),
  (yX6_init, cX6_init, 1, none, some 6),
  (yX6_paint, cX6_paint, 4, none, some 6),
  (yX6_finish, cX6_finish, 8, (some (FieldType.boolean)), none),
  (yX7_init, cX7_init, 1, none, some 7),
  (yX7_gather, cX7_gather, 7, none, some 7),
  (yX7_count, cX7_count, 7, (some (FieldType.int)), some 7),
  (yX7_possible, cX7_possible, 6, (some (FieldType.int)), some 7),
  (yX7_fewestToAsk, cX7_fewestToAsk, 4, (some (FieldType.int)), some 7),
  (yX8_init, cX8_init, 1, none, some 8),
  (yX8_isLiked, cX8_isLiked, 3, (some (FieldType.boolean)), some 8),
  (yX9_init, cX9_init, 3, none, some 9),
  (yX9_read, cX9_read, 4, (some (FieldType.boolean)), some 9),
  (yX9_fail, cX9_fail, 2, (some (FieldType.boolean)), some 9),
  (yX9_advance, cX9_advance, 2, none, some 9),
  (yX9_scan, cX9_scan, 3, (some (FieldType.int)), some 9),
  (yX9_valueOfDigits, cX9_valueOfDigits, 3, (some (FieldType.int)), some 9),
  (yX9_tokenIs, cX9_tokenIs, 3, (some (FieldType.boolean)), some 9),
  (yX9_sortOfLine, cX9_sortOfLine, 1, (some (FieldType.int)), some 9),
  (yX9_choice, cX9_choice, 5, (some (FieldType.int)), some 9),
  (yX9_readLine, cX9_readLine, 2, (some (FieldType.boolean)), some 9),
  (yX9_hasRoom, cX9_hasRoom, 2, (some (FieldType.boolean)), some 9),
  (yX9_word, cX9_word, 2, (some (FieldType.boolean)), some 9),
  (yX9_whole, cX9_whole, 3, (some (FieldType.boolean)), some 9),
  (yX9_toldPerson, cX9_toldPerson, 2, (some (FieldType.int)), some 9),
  (yX9_isNamed, cX9_isNamed, 3, (some (FieldType.boolean)), some 9),
  (yX9_toldName, cX9_toldName, 1, (some (FieldType.boolean)), some 9),
  (yX9_glassLine, cX9_glassLine, 1, (some (FieldType.boolean)), some 9),
  (yX9_personLine, cX9_personLine, 2, (some (FieldType.boolean)), some 9),
  (yX9_newName, cX9_newName, 2, (some (FieldType.boolean)), some 9),
  (yX9_kindWord, cX9_kindWord, 2, (some (FieldType.boolean)), some 9),
  (yX9_habitWord, cX9_habitWord, 2, (some (FieldType.boolean)), some 9),
  (yX9_takesWord, cX9_takesWord, 2, (some (FieldType.boolean)), some 9),
  (yX9_order, cX9_order, 4, (some (FieldType.boolean)), some 9),
  (yX9_stayLine, cX9_stayLine, 4, (some (FieldType.boolean)), some 9),
  (yX9_movesLine, cX9_movesLine, 3, (some (FieldType.boolean)), some 9)]
def gMt_2 : List gMi := [(yX9_seenLine, cX9_seenLine, 5, (some (FieldType.boolean)), some 9),
  (yX9_saysLine, cX9_saysLine, 2, (some (FieldType.boolean)), some 9),
  (yX10_init, cX10_init, 1, none, some 10),
  (yX10_begin, cX10_begin, 3, none, some 10),
  (yX10_take, cX10_take, 2, none, some 10),
  (yX10_addMove, cX10_addMove, 4, none, some 10),
  (yX10_draw, cX10_draw, 1, (some (FieldType.int)), some 10),
  (yX11_init, cX11_init, 1, none, some 11),
  (yX11_feed, cX11_feed, 6, (some (FieldType.int)), some 11),
  (yX11_glass, cX11_glass, 3, (some (FieldType.int)), some 11),
  (yX11_fault, cX11_fault, 1, (some (FieldType.int)), some 11),
  (yX11_where, cX11_where, 1, (some (FieldType.int)), some 11),
  (yX11_person, cX11_person, 4, (some (FieldType.int)), some 11),
  (yX11_likes, cX11_likes, 3, (some (FieldType.int)), some 11),
  (yX11_stay, cX11_stay, 5, (some (FieldType.int)), some 11),
  (yX11_here, cX11_here, 2, (some (FieldType.int)), some 11),
  (yX11_most, cX11_most, 1, (some (FieldType.int)), some 11),
  (yX11_brushes, cX11_brushes, 1, (some (FieldType.int)), some 11),
  (yX11_brush, cX11_brush, 4, (some (FieldType.int)), some 11),
  (yX11_at, cX11_at, 3, (some (FieldType.int)), some 11),
  (yX11_colour, cX11_colour, 3, (some (FieldType.int)), some 11),
  (yX11_whose, cX11_whose, 4, (some (FieldType.int)), some 11),
  (yX11_place, cX11_place, 3, (some (FieldType.int)), some 11),
  (yX11_many, cX11_many, 4, (some (FieldType.int)), some 11),
  (yX11_full, cX11_full, 1, (some (FieldType.int)), some 11),
  (yX11_uses, cX11_uses, 3, (some (FieldType.int)), some 11),
  (yX11_wet, cX11_wet, 5, (some (FieldType.int)), some 11),
  (yX11_shared, cX11_shared, 2, (some (FieldType.int)), some 11),
  (yX11_sharedAll, cX11_sharedAll, 1, (some (FieldType.int)), some 11),
  (yX11_suffers, cX11_suffers, 2, (some (FieldType.int)), some 11),
  (yX11_sins, cX11_sins, 2, (some (FieldType.int)), some 11),
  (yX11_alike, cX11_alike, 2, (some (FieldType.int)), some 11),
  (yX11_alikeDays, cX11_alikeDays, 1, (some (FieldType.int)), some 11),
  (yX11_notches, cX11_notches, 3, (some (FieldType.int)), some 11),
  (yX11_byHabit, cX11_byHabit, 2, (some (FieldType.int)), some 11),
  (yX11_bestHabit, cX11_bestHabit, 5, (some (FieldType.int)), some 11),
  (yX11_byKind, cX11_byKind, 2, (some (FieldType.int)), some 11),
  (yX11_bestKind, cX11_bestKind, 5, (some (FieldType.int)), some 11),
  (yX11_colours, cX11_colours, 1, (some (FieldType.int)), some 11),
  (yX11_colourOf, cX11_colourOf, 2, (some (FieldType.int)), some 11)]
def gMt_3 : List gMi := [(yX11_judge, cX11_judge, 1, (some (FieldType.int)), some 11),
  (yX11_judgeAt, cX11_judgeAt, 2, (some (FieldType.int)), some 11),
  (yX11_explains, cX11_explains, 1, (some (FieldType.int)), some 11),
  (yX11_explain, cX11_explain, 3, (some (FieldType.int)), some 11),
  (yX11_isTrue, cX11_isTrue, 2, (some (FieldType.int)), some 11),
  (yX11_wrongOnes, cX11_wrongOnes, 3, (some (FieldType.int)), some 11),
  (yX11_pairings, cX11_pairings, 2, (some (FieldType.int)), some 11),
  (yX11_could, cX11_could, 3, (some (FieldType.int)), some 11),
  (yX11_surely, cX11_surely, 4, (some (FieldType.int)), some 11),
  (yX11_ask, cX11_ask, 2, (some (FieldType.int)), some 11),
  (yX11_drift, cX11_drift, 4, (some (FieldType.long)), some 11),
  (yX11_move, cX11_move, 4, (some (FieldType.boolean)), some 11),
  (yX11_shake, cX11_shake, 3, (some (FieldType.int)), some 11),
  (yX11_kind, cX11_kind, 3, (some (FieldType.boolean)), some 11),
  (yX11_habit, cX11_habit, 3, (some (FieldType.boolean)), some 11),
  (yX11_keep, cX11_keep, 3, (some (FieldType.boolean)), some 11),
  (yX11_seed, cX11_seed, 2, (some (FieldType.boolean)), some 11),
  (yX11_undo, cX11_undo, 1, (some (FieldType.boolean)), some 11),
  (yX11_mark, cX11_mark, 1, (some (FieldType.int)), some 11),
  (yX11_back, cX11_back, 2, (some (FieldType.boolean)), some 11),
  (yX11_led, cX11_led, 4, (some (FieldType.int)), some 11),
  (yX11_size, cX11_size, 2, (some (FieldType.int)), some 11),
  (yX11_trouble, cX11_trouble, 1, (some (FieldType.int)), some 11),
  (yX11_answer, cX11_answer, 2, (some (FieldType.int)), some 11),
  (yX11_refuse, cX11_refuse, 2, (some (FieldType.int)), some 11),
  (yX11_deny, cX11_deny, 2, (some (FieldType.boolean)), some 11),
  (yX11_done, cX11_done, 1, (some (FieldType.boolean)), some 11),
  (yX11_hasGlass, cX11_hasGlass, 1, (some (FieldType.boolean)), some 11),
  (yX11_isDay, cX11_isDay, 2, (some (FieldType.boolean)), some 11),
  (yX11_isPlace, cX11_isPlace, 2, (some (FieldType.boolean)), some 11),
  (yX11_isPerson, cX11_isPerson, 2, (some (FieldType.boolean)), some 11),
  (yX11_allowsGlass, cX11_allowsGlass, 1, (some (FieldType.boolean)), some 11),
  (yX11_allowsOne, cX11_allowsOne, 2, (some (FieldType.boolean)), some 11),
  (yX11_allowsDay, cX11_allowsDay, 2, (some (FieldType.boolean)), some 11),
  (yX11_allowsPerson, cX11_allowsPerson, 3, (some (FieldType.boolean)), some 11),
  (yX11_allowsPlace, cX11_allowsPlace, 3, (some (FieldType.boolean)), some 11),
  (yX11_allowsNumber, cX11_allowsNumber, 2, (some (FieldType.boolean)), some 11),
  (yX11_append, cX11_append, 3, none, some 11),
  (yX11_changed, cX11_changed, 1, none, some 11),
  (yX11_today, cX11_today, 1, (some (FieldType.object "BrushGlass$Diary")), some 11)]
def gMt_4 : List gMi := [(yX11_daysAlikeIfAllBuyBy, cX11_daysAlikeIfAllBuyBy, 2, (some (FieldType.int)), some 11),
  (yX11_sharedIfAllAre, cX11_sharedIfAllAre, 2, (some (FieldType.int)), some 11),
  (yX11_firstWrongSeeing, cX11_firstWrongSeeing, 3, (some (FieldType.int)), some 11),
  (yX11_holds, cX11_holds, 4, (some (FieldType.boolean)), some 11),
  (yX12_init, cX12_init, 1, none, some 12),
  (yX12_find, cX12_find, 4, (some (FieldType.int)), some 12),
  (yX12_isHere, cX12_isHere, 4, (some (FieldType.boolean)), some 12),
  (yX12_comes, cX12_comes, 4, (some (FieldType.boolean)), some 12),
  (yX12_goes, cX12_goes, 4, (some (FieldType.boolean)), some 12),
  (yX12_here, cX12_here, 4, (some (FieldType.int)), some 12),
  (yX13_init, cX13_init, 1, none, some 13),
  (yX13_thrown, cX13_thrown, 1, (some (FieldType.int)), some 13),
  (yX13_refused, cX13_refused, 2, (some (FieldType.int)), some 13),
  (yX13_denied, cX13_denied, 2, (some (FieldType.boolean)), some 13),
  (yX13_good, cX13_good, 2, (some (FieldType.int)), some 13),
  (yX13_granted, cX13_granted, 1, (some (FieldType.boolean)), some 13),
  (yX13_in, cX13_in, 3, (some (FieldType.boolean)), none),
  (yX13_bit, cX13_bit, 2, (some (FieldType.boolean)), none),
  (yX13_bits, cX13_bits, 3, (some (FieldType.int)), none),
  (yX13_byteAt, cX13_byteAt, 2, (some (FieldType.int)), some 13),
  (yX13_isLetter, cX13_isLetter, 1, (some (FieldType.boolean)), none),
  (yX13_isDigit, cX13_isDigit, 1, (some (FieldType.boolean)), none),
  (yX13_wordOf, cX13_wordOf, 4, (some (FieldType.long)), none),
  (yX13_goesOn, cX13_goesOn, 3, none, some 13),
  (yX13_flaw, cX13_flaw, 2, none, some 13),
  (yX13_isWord, cX13_isWord, 2, (some (FieldType.boolean)), some 13),
  (yX13_eatsSemicolon, cX13_eatsSemicolon, 2, (some (FieldType.boolean)), some 13),
  (yX13_needs, cX13_needs, 2, none, some 13),
  (yX13_needsComma, cX13_needsComma, 1, none, some 13),
  (yX13_bounded, cX13_bounded, 3, (some (FieldType.int)), some 13),
  (yX13_readWhole, cX13_readWhole, 4, (some (FieldType.int)), some 13),
  (yX13_readPart, cX13_readPart, 4, (some (FieldType.int)), some 13),
  (yX13_isName, cX13_isName, 1, (some (FieldType.boolean)), some 13),
  (yX13_begins, cX13_begins, 3, none, some 13),
  (yX13_known, cX13_known, 2, (some (FieldType.int)), some 13),
  (yX13_readAll, cX13_readAll, 2, none, some 13),
  (yX13_readLine, cX13_readLine, 1, none, some 13),
  (yX13_readGlass, cX13_readGlass, 5, none, some 13),
  (yX13_readPerson, cX13_readPerson, 10, none, some 13),
  (yX13_readStay, cX13_readStay, 5, none, some 13)]
def gMt_5 : List gMi := [(yX13_readMove, cX13_readMove, 4, none, some 13),
  (yX13_readSeen, cX13_readSeen, 4, none, some 13),
  (yX13_readSays, cX13_readSays, 4, none, some 13),
  (yX13_feed, cX13_feed, 8, (some (FieldType.int)), some 13),
  (yX13_glass, cX13_glass, 3, (some (FieldType.int)), some 13),
  (yX13_fault, cX13_fault, 1, (some (FieldType.int)), some 13),
  (yX13_where, cX13_where, 1, (some (FieldType.int)), some 13),
  (yX13_kindOf, cX13_kindOf, 2, (some (FieldType.int)), some 13),
  (yX13_habitOf, cX13_habitOf, 2, (some (FieldType.int)), some 13),
  (yX13_runs, cX13_runs, 1, none, some 13),
  (yX13_runsBy, cX13_runsBy, 2, none, some 13),
  (yX13_day, cX13_day, 3, none, some 13),
  (yX13_inGlass, cX13_inGlass, 4, (some (FieldType.int)), some 13),
  (yX13_chosen, cX13_chosen, 5, (some (FieldType.int)), some 13),
  (yX13_buys, cX13_buys, 4, none, some 13),
  (yX13_firstFree, cX13_firstFree, 2, (some (FieldType.int)), some 13),
  (yX13_puts, cX13_puts, 2, none, some 13),
  (yX13_exchanges, cX13_exchanges, 5, none, some 13),
  (yX13_brushesAt, cX13_brushesAt, 5, none, some 13),
  (yX13_isPerson, cX13_isPerson, 2, (some (FieldType.boolean)), some 13),
  (yX13_isDay, cX13_isDay, 2, (some (FieldType.boolean)), some 13),
  (yX13_isPlace, cX13_isPlace, 2, (some (FieldType.boolean)), some 13),
  (yX13_refusesDay, cX13_refusesDay, 3, (some (FieldType.int)), some 13),
  (yX13_person, cX13_person, 3, (some (FieldType.int)), some 13),
  (yX13_likes, cX13_likes, 3, (some (FieldType.int)), some 13),
  (yX13_stay, cX13_stay, 4, (some (FieldType.int)), some 13),
  (yX13_here, cX13_here, 3, (some (FieldType.int)), some 13),
  (yX13_most, cX13_most, 3, (some (FieldType.int)), some 13),
  (yX13_brushes, cX13_brushes, 1, (some (FieldType.int)), some 13),
  (yX13_brush, cX13_brush, 3, (some (FieldType.int)), some 13),
  (yX13_standsIn, cX13_standsIn, 3, (some (FieldType.int)), some 13),
  (yX13_at, cX13_at, 4, (some (FieldType.int)), some 13),
  (yX13_colour, cX13_colour, 4, (some (FieldType.int)), some 13),
  (yX13_colourIn, cX13_colourIn, 3, (some (FieldType.int)), some 13),
  (yX13_whose, cX13_whose, 4, (some (FieldType.int)), some 13),
  (yX13_place, cX13_place, 5, (some (FieldType.int)), some 13),
  (yX13_there, cX13_there, 4, (some (FieldType.int)), some 13),
  (yX13_many, cX13_many, 3, (some (FieldType.int)), some 13),
  (yX13_full, cX13_full, 3, (some (FieldType.int)), some 13),
  (yX13_useOf, cX13_useOf, 3, (some (FieldType.int)), some 13)]
def gMt_6 : List gMi := [(yX13_uses, cX13_uses, 4, (some (FieldType.int)), some 13),
  (yX13_wet, cX13_wet, 6, (some (FieldType.int)), some 13),
  (yX13_isShared, cX13_isShared, 3, (some (FieldType.boolean)), some 13),
  (yX13_sharedIn, cX13_sharedIn, 4, (some (FieldType.int)), some 13),
  (yX13_sharedInAll, cX13_sharedInAll, 3, (some (FieldType.int)), some 13),
  (yX13_shared, cX13_shared, 3, (some (FieldType.int)), some 13),
  (yX13_sharedAll, cX13_sharedAll, 1, (some (FieldType.int)), some 13),
  (yX13_suffers, cX13_suffers, 5, (some (FieldType.int)), some 13),
  (yX13_sinsOf, cX13_sinsOf, 4, (some (FieldType.int)), some 13),
  (yX13_sins, cX13_sins, 2, (some (FieldType.int)), some 13),
  (yX13_alikeIn, cX13_alikeIn, 5, (some (FieldType.int)), some 13),
  (yX13_alikeInAll, cX13_alikeInAll, 3, (some (FieldType.int)), some 13),
  (yX13_alike, cX13_alike, 3, (some (FieldType.int)), some 13),
  (yX13_alikeDays, cX13_alikeDays, 1, (some (FieldType.int)), some 13),
  (yX13_notches, cX13_notches, 6, (some (FieldType.int)), some 13),
  (yX13_daysByHabit, cX13_daysByHabit, 2, (some (FieldType.int)), some 13),
  (yX13_sharedByKind, cX13_sharedByKind, 2, (some (FieldType.int)), some 13),
  (yX13_byHabit, cX13_byHabit, 2, (some (FieldType.int)), some 13),
  (yX13_bestHabit, cX13_bestHabit, 3, (some (FieldType.int)), some 13),
  (yX13_byKind, cX13_byKind, 2, (some (FieldType.int)), some 13),
  (yX13_bestKind, cX13_bestKind, 3, (some (FieldType.int)), some 13),
  (yX13_areTogether, cX13_areTogether, 4, (some (FieldType.boolean)), some 13),
  (yX13_isGood, cX13_isGood, 3, (some (FieldType.boolean)), some 13),
  (yX13_gives, cX13_gives, 4, (some (FieldType.boolean)), some 13),
  (yX13_fewestColours, cX13_fewestColours, 2, (some (FieldType.int)), some 13),
  (yX13_colours, cX13_colours, 1, (some (FieldType.int)), some 13),
  (yX13_colourOf, cX13_colourOf, 2, (some (FieldType.int)), some 13),
  (yX13_wrongPlace, cX13_wrongPlace, 3, (some (FieldType.int)), some 13),
  (yX13_firstWrong, cX13_firstWrong, 2, (some (FieldType.int)), some 13),
  (yX13_judge, cX13_judge, 1, (some (FieldType.int)), some 13),
  (yX13_judgeAt, cX13_judgeAt, 2, (some (FieldType.int)), some 13),
  (yX13_explaining, cX13_explaining, 6, (some (FieldType.int)), some 13),
  (yX13_refusesExplain, cX13_refusesExplain, 1, (some (FieldType.int)), some 13),
  (yX13_explains, cX13_explains, 2, (some (FieldType.int)), some 13),
  (yX13_explain, cX13_explain, 4, (some (FieldType.int)), some 13),
  (yX13_holds, cX13_holds, 2, (some (FieldType.boolean)), some 13),
  (yX13_isTrue, cX13_isTrue, 2, (some (FieldType.int)), some 13),
  (yX13_wrongOnes, cX13_wrongOnes, 3, (some (FieldType.int)), some 13),
  (yX13_mayHave, cX13_mayHave, 5, (some (FieldType.boolean)), some 13),
  (yX13_laysWho, cX13_laysWho, 3, none, some 13)]
def gMt_7 : List gMi := [(yX13_pairs, cX13_pairs, 8, (some (FieldType.int)), some 13),
  (yX13_pairings, cX13_pairings, 3, (some (FieldType.int)), some 13),
  (yX13_could, cX13_could, 4, (some (FieldType.int)), some 13),
  (yX13_surely, cX13_surely, 5, (some (FieldType.int)), some 13),
  (yX13_ask, cX13_ask, 6, (some (FieldType.int)), some 13),
  (yX13_drift, cX13_drift, 12, (some (FieldType.long)), some 13),
  (yX13_keepsAll, cX13_keepsAll, 2, none, some 13),
  (yX13_adds, cX13_adds, 5, none, some 13),
  (yX13_move, cX13_move, 4, (some (FieldType.boolean)), some 13),
  (yX13_drawn, cX13_drawn, 1, (some (FieldType.int)), some 13),
  (yX13_shake, cX13_shake, 3, (some (FieldType.int)), some 13),
  (yX13_changes, cX13_changes, 3, (some (FieldType.boolean)), some 13),
  (yX13_kind, cX13_kind, 3, (some (FieldType.boolean)), some 13),
  (yX13_habit, cX13_habit, 3, (some (FieldType.boolean)), some 13),
  (yX13_keep, cX13_keep, 3, (some (FieldType.boolean)), some 13),
  (yX13_seed, cX13_seed, 2, (some (FieldType.boolean)), some 13),
  (yX13_undo, cX13_undo, 2, (some (FieldType.boolean)), some 13),
  (yX13_mark, cX13_mark, 2, (some (FieldType.int)), some 13),
  (yX13_back, cX13_back, 3, (some (FieldType.boolean)), some 13),
  (yX13_led, cX13_led, 4, (some (FieldType.int)), some 13),
  (yX13_size, cX13_size, 2, (some (FieldType.int)), some 13),
  (yX13_trouble, cX13_trouble, 1, (some (FieldType.int)), some 13),
  (yJ6_bitCount_0f7a4, cJ6_bitCount_0f7a4, 1, (some (FieldType.int)), none),
  (yJ9_max_7cf53, cJ9_max_7cf53, 2, (some (FieldType.int)), none),
  (yJ9_min_7cf53, cJ9_min_7cf53, 2, (some (FieldType.int)), none),
  (yJ0_length_8abf5, cJ0_length_8abf5, 1, (some (FieldType.int)), none),
  (yJ0_charAt_5068e, cJ0_charAt_5068e, 2, (some (FieldType.char)), none),
  (yJ0_coder_7d493, cJ0_coder_7d493, 1, (some (FieldType.byte)), none),
  (yJ0_isLatin1_aae02, cJ0_isLatin1_aae02, 1, (some (FieldType.boolean)), none),
  (yJ0_checkIndex_df160, cJ0_checkIndex_df160, 2, none, none),
  (yJ1_charAt_3b067, cJ1_charAt_3b067, 2, (some (FieldType.char)), none),
  (yJ2_getChar_3b067, cJ2_getChar_3b067, 2, (some (FieldType.char)), none),
  (yJ2_length_9d52b, cJ2_length_9d52b, 1, (some (FieldType.int)), none),
  (yJ2_charAt_3b067, cJ2_charAt_3b067, 2, (some (FieldType.char)), none),
  (yJ2_checkIndex_2214a, cJ2_checkIndex_2214a, 2, none, none),
  (yJ7_fill_d0a16, cJ7_fill_d0a16, 5, none, none),
  (yJ7_fill_53178, cJ7_fill_53178, 4, none, none),
  (yJ3_checkIndex_8e157, cJ3_checkIndex_8e157, 3, (some (FieldType.int)), none)]
def gMt : List gMi := gMt_0 ++ (gMt_1 ++ (gMt_2 ++ (gMt_3 ++ (gMt_4 ++ (gMt_5 ++ (gMt_6 ++ (gMt_7)))))))
theorem gTw_ps {ws : List Cond} (ps : List Nat) (hp : ws = ps.filterMap (fun i => lw_tbl[i]?)) (h : ws.all goodWord = true) : ∀ w ∈ ws, w ∈ gTw := by
  intro w hw
  have h1 := List.all_eq_true.mp h w hw
  rw [hp] at hw
  obtain ⟨i, -, hi⟩ := List.mem_filterMap.mp hw
  exact gTw_mem (List.mem_of_getElem? hi) h1
theorem gLay_0 : ∀ w ∈ u_ws RX0 TX0 16, w ∈ gTw := gTw_ps [511, 513, 515, 517, 519, 521, 523, 525, 527, 529, 531, 533, 535, 537, 539, 541] (by decide +kernel) (by decide +kernel)
theorem gIn_0 : Cond.instantiable RX0 16 ∈ gTw := gTw_at 479 (by decide +kernel) (by decide +kernel)
theorem gIz_0 : Cond.initialized RX0 ∈ gTw := gTw_at 136 (by decide +kernel) (by decide +kernel)
theorem gLay_1 : ∀ w ∈ u_ws RX1 TX1 13, w ∈ gTw := gTw_ps [570, 572, 574, 576, 578, 580, 582, 584, 586, 588, 590, 592, 594] (by decide +kernel) (by decide +kernel)
theorem gIn_1 : Cond.instantiable RX1 13 ∈ gTw := gTw_at 477 (by decide +kernel) (by decide +kernel)
theorem gIz_1 : Cond.initialized RX1 ∈ gTw := gTw_at 135 (by decide +kernel) (by decide +kernel)
theorem gLay_2 : ∀ w ∈ u_ws RX2 TX2 4, w ∈ gTw := gTw_ps [673, 675, 677, 679] (by decide +kernel) (by decide +kernel)
theorem gIn_2 : Cond.instantiable RX2 4 ∈ gTw := gTw_at 662 (by decide +kernel) (by decide +kernel)
theorem gIz_2 : Cond.initialized RX2 ∈ gTw := gTw_at 140 (by decide +kernel) (by decide +kernel)
theorem gLay_3 : ∀ w ∈ u_ws RX3 TX3 4, w ∈ gTw := gTw_ps [609, 611, 613, 615] (by decide +kernel) (by decide +kernel)
theorem gIn_3 : Cond.instantiable RX3 4 ∈ gTw := gTw_at 598 (by decide +kernel) (by decide +kernel)
theorem gIz_3 : Cond.initialized RX3 ∈ gTw := gTw_at 137 (by decide +kernel) (by decide +kernel)
theorem gLay_4 : ∀ w ∈ u_ws RX4 TX4 20, w ∈ gTw := gTw_ps [323, 325, 327, 329, 331, 333, 335, 337, 339, 341, 343, 345, 347, 349, 351, 353, 355, 357, 359, 361] (by decide +kernel) (by decide +kernel)
theorem gIn_4 : Cond.instantiable RX4 20 ∈ gTw := gTw_at 164 (by decide +kernel) (by decide +kernel)
theorem gIz_4 : Cond.initialized RX4 ∈ gTw := gTw_at 130 (by decide +kernel) (by decide +kernel)
theorem gLay_5 : ∀ w ∈ u_ws RX5 TX5 5, w ∈ gTw := gTw_ps [465, 467, 469, 471, 473] (by decide +kernel) (by decide +kernel)
theorem gIn_5 : Cond.instantiable RX5 5 ∈ gTw := gTw_at 450 (by decide +kernel) (by decide +kernel)
theorem gIz_5 : Cond.initialized RX5 ∈ gTw := gTw_at 134 (by decide +kernel) (by decide +kernel)
theorem gLay_6 : ∀ w ∈ u_ws RX6 TX6 3, w ∈ gTw := gTw_ps [654, 656, 658] (by decide +kernel) (by decide +kernel)
theorem gIn_6 : Cond.instantiable RX6 3 ∈ gTw := gTw_at 644 (by decide +kernel) (by decide +kernel)
theorem gIz_6 : Cond.initialized RX6 ∈ gTw := gTw_at 139 (by decide +kernel) (by decide +kernel)
theorem gLay_7 : ∀ w ∈ u_ws RX7 TX7 6, w ∈ gTw := gTw_ps [630, 632, 634, 636, 638, 640] (by decide +kernel) (by decide +kernel)
theorem gIn_7 : Cond.instantiable RX7 6 ∈ gTw := gTw_at 619 (by decide +kernel) (by decide +kernel)
theorem gIz_7 : Cond.initialized RX7 ∈ gTw := gTw_at 138 (by decide +kernel) (by decide +kernel)
theorem gLay_8 : ∀ w ∈ u_ws RX8 TX8 12, w ∈ gTw := gTw_ps [216, 218, 220, 222, 224, 226, 228, 230, 232, 234, 236, 238] (by decide +kernel) (by decide +kernel)
theorem gIn_8 : Cond.instantiable RX8 12 ∈ gTw := gTw_at 171 (by decide +kernel) (by decide +kernel)
theorem gIz_8 : Cond.initialized RX8 ∈ gTw := gTw_at 131 (by decide +kernel) (by decide +kernel)
theorem gLay_9 : ∀ w ∈ u_ws RX9 TX9 11, w ∈ gTw := gTw_ps [383, 385, 387, 389, 391, 393, 395, 397, 399, 401, 403] (by decide +kernel) (by decide +kernel)
theorem gIn_9 : Cond.instantiable RX9 11 ∈ gTw := gTw_at 365 (by decide +kernel) (by decide +kernel)
theorem gIz_9 : Cond.initialized RX9 ∈ gTw := gTw_at 132 (by decide +kernel) (by decide +kernel)
theorem gLay_10 : ∀ w ∈ u_ws RX10 TX10 8, w ∈ gTw := gTw_ps [432, 434, 436, 438, 440, 442, 444, 446] (by decide +kernel) (by decide +kernel)
theorem gIn_10 : Cond.instantiable RX10 8 ∈ gTw := gTw_at 407 (by decide +kernel) (by decide +kernel)
theorem gIz_10 : Cond.initialized RX10 ∈ gTw := gTw_at 133 (by decide +kernel) (by decide +kernel)
theorem gLay_11 : ∀ w ∈ u_ws RX11 TX11 16, w ∈ gTw := gTw_ps [699, 701, 703, 705, 707, 709, 711, 713, 715, 717, 719, 721, 723, 725, 727, 729] (by decide +kernel) (by decide +kernel)
theorem gIn_11 : Cond.instantiable RX11 16 ∈ gTw := gTw_at 156 (by decide +kernel) (by decide +kernel)
theorem gIz_11 : Cond.initialized RX11 ∈ gTw := gTw_at 129 (by decide +kernel) (by decide +kernel)
theorem gLay_12 : ∀ w ∈ u_ws RX12 TX12 27, w ∈ gTw := gTw_ps [1756, 1758, 1760, 1762, 1764, 1766, 1768, 1770, 1772, 1774, 1776, 1778, 1780, 1782, 1784, 1786, 1788, 1790, 1792, 1794, 1796, 1798, 1800, 1802, 1804, 1806, 1808] (by decide +kernel) (by decide +kernel)
theorem gIn_12 : Cond.instantiable RX12 27 ∈ gTw := gTw_at 1704 (by decide +kernel) (by decide +kernel)
theorem gIz_12 : Cond.initialized RX12 ∈ gTw := gTw_at 149 (by decide +kernel) (by decide +kernel)
theorem gLay_13 : ∀ w ∈ u_ws RX13 TX13 52, w ∈ gTw := gTw_ps [1582, 1584, 1586, 1588, 1590, 1592, 1594, 1596, 1598, 1600, 1602, 1604, 1606, 1608, 1610, 1612, 1614, 1616, 1618, 1620, 1622, 1624, 1626, 1628, 1630, 1632, 1634, 1636, 1638, 1640, 1642, 1644, 1646, 1648, 1650, 1652, 1654, 1656, 1658, 1660, 1662, 1664, 1666, 1668, 1670, 1672, 1674, 1676, 1678, 1680, 1682, 1684] (by decide +kernel) (by decide +kernel)
theorem gIn_13 : Cond.instantiable RX13 52 ∈ gTw := gTw_at 1525 (by decide +kernel) (by decide +kernel)
theorem gIz_13 : Cond.initialized RX13 ∈ gTw := gTw_at 141 (by decide +kernel) (by decide +kernel)
/-- what the tables say of a class -/
def gClOk (C : String) (T : u_T) (N : Nat) : Prop := (∀ w ∈ u_ws C T N, w ∈ gTw) ∧ (∃ ty : Nat → FieldType, ∀ k, k < N → parseFieldDescriptor (T k).2.2.1 = some (ty k)) ∧ (∀ a, a < N → ∀ b, b < N → a ≠ b → (T a).2.1 ≠ (T b).2.1) ∧ Cond.instantiable C N ∈ gTw ∧ Cond.initialized C ∈ gTw
theorem gCl_ok {ci : Nat} {C : String} {T : u_T} {N : Nat} (h : vwCl[ci]? = some (C, T, N)) : gClOk C T N := by
  match ci, h with
  | 0, h => cases h; exact ⟨gLay_0, ⟨tyX0, tyX0_ok⟩, nmX0, gIn_0, gIz_0⟩
  | 1, h => cases h; exact ⟨gLay_1, ⟨tyX1, tyX1_ok⟩, nmX1, gIn_1, gIz_1⟩
  | 2, h => cases h; exact ⟨gLay_2, ⟨tyX2, tyX2_ok⟩, nmX2, gIn_2, gIz_2⟩
  | 3, h => cases h; exact ⟨gLay_3, ⟨tyX3, tyX3_ok⟩, nmX3, gIn_3, gIz_3⟩
  | 4, h => cases h; exact ⟨gLay_4, ⟨tyX4, tyX4_ok⟩, nmX4, gIn_4, gIz_4⟩
  | 5, h => cases h; exact ⟨gLay_5, ⟨tyX5, tyX5_ok⟩, nmX5, gIn_5, gIz_5⟩
  | 6, h => cases h; exact ⟨gLay_6, ⟨tyX6, tyX6_ok⟩, nmX6, gIn_6, gIz_6⟩
  | 7, h => cases h; exact ⟨gLay_7, ⟨tyX7, tyX7_ok⟩, nmX7, gIn_7, gIz_7⟩
  | 8, h => cases h; exact ⟨gLay_8, ⟨tyX8, tyX8_ok⟩, nmX8, gIn_8, gIz_8⟩
  | 9, h => cases h; exact ⟨gLay_9, ⟨tyX9, tyX9_ok⟩, nmX9, gIn_9, gIz_9⟩
  | 10, h => cases h; exact ⟨gLay_10, ⟨tyX10, tyX10_ok⟩, nmX10, gIn_10, gIz_10⟩
  | 11, h => cases h; exact ⟨gLay_11, ⟨tyX11, tyX11_ok⟩, nmX11, gIn_11, gIz_11⟩
  | 12, h => cases h; exact ⟨gLay_12, ⟨tyX12, tyX12_ok⟩, nmX12, gIn_12, gIz_12⟩
  | 13, h => cases h; exact ⟨gLay_13, ⟨tyX13, tyX13_ok⟩, nmX13, gIn_13, gIz_13⟩
  | k + 14, h => simp [vwCl] at h
