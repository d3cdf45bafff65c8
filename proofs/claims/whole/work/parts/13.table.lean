/-! the table of methods -/
def mm_Tl : List (mm_N × mm_C) := [(((⟨"WhichWord$Chooser", "<init>", "(LWhichWord$Told;)V"⟩ : MethodName), prog_2_method_1_code, 2, none, 1), cd_Chooser_init),
  (((⟨"WhichWord$Chooser", "evenest", "(I)I"⟩ : MethodName), prog_2_method_2_code, 9, (some .int), 1), cd_Chooser_evenest),
  (((⟨"WhichWord$Chooser", "shownFor", "(I)I"⟩ : MethodName), prog_2_method_5_code, 2, (some .int), 1), cd_Chooser_shownFor),
  (((⟨"WhichWord$Chooser", "countLeftHad", "(II)I"⟩ : MethodName), prog_2_method_7_code, 5, (some .int), 1), cd_Chooser_countLeftHad),
  (((⟨"WhichWord$Chooser", "fewestParting", "(I)I"⟩ : MethodName), prog_2_method_3_code, 5, (some .int), 1), cd_Chooser_fewestParting),
  (((⟨"WhichWord$Chooser", "firstShownFor", "(I)I"⟩ : MethodName), prog_2_method_6_code, 6, (some .int), 1), cd_Chooser_firstShownFor),
  (((⟨"WhichWord$Chooser", "listUnlike", "(II)V"⟩ : MethodName), prog_2_method_8_code, 4, none, 1), cd_Chooser_listUnlike),
  (((⟨"WhichWord$Chooser", "addUnlike", "(I)V"⟩ : MethodName), prog_2_method_9_code, 3, none, 1), cd_Chooser_addUnlike),
  (((⟨"WhichWord$Chooser", "listSets", "(II)V"⟩ : MethodName), prog_2_method_11_code, 3, none, 1), cd_Chooser_listSets),
  (((⟨"WhichWord$Chooser", "addSets", "(IIII)V"⟩ : MethodName), prog_2_method_12_code, 6, none, 1), cd_Chooser_addSets),
  (((⟨"WhichWord$Chooser", "partsAll", "(I)Z"⟩ : MethodName), prog_2_method_10_code, 4, (some .boolean), 1), cd_Chooser_partsAll),
  (((⟨"WhichWord$Chooser", "mostTelling", "(III)I"⟩ : MethodName), prog_2_method_4_code, 8, (some .int), 1), cd_Chooser_mostTelling),
  (((⟨"WhichWord$Giver", "<init>", "(LWhichWord$Told;)V"⟩ : MethodName), prog_3_method_1_code, 2, none, 2), cd_Giver_init),
  (((⟨"WhichWord$Giver", "countWays", "(I)I"⟩ : MethodName), prog_3_method_2_code, 2, (some .int), 2), cd_Giver_countWays),
  (((⟨"WhichWord$Giver", "countLefts", "(I)V"⟩ : MethodName), prog_3_method_4_code, 3, none, 2), cd_Giver_countLefts),
  (((⟨"WhichWord$Giver", "ways", "(III)I"⟩ : MethodName), prog_3_method_6_code, 8, (some .int), 2), cd_Giver_ways),
  (((⟨"WhichWord$Giver", "lost", "(II)I"⟩ : MethodName), prog_3_method_7_code, 3, (some .int), 2), cd_Giver_lost),
  (((⟨"WhichWord$Giver", "firstFor", "(II)I"⟩ : MethodName), prog_3_method_3_code, 8, (some .int), 2), cd_Giver_firstFor),
  (((⟨"WhichWord$Giver", "leastFor", "(IIII)I"⟩ : MethodName), prog_3_method_5_code, 6, (some .int), 2), cd_Giver_leastFor),
  (((⟨"WhichWord$Likely", "<init>", "(LWhichWord$Told;)V"⟩ : MethodName), prog_4_method_1_code, 2, none, 3), cd_Likely_init),
  (((⟨"WhichWord$Likely", "of", "(II)J"⟩ : MethodName), prog_4_method_2_code, 9, (some .long), 3), cd_Likely_of),
  (((⟨"WhichWord$Likely", "latestSaid", "(I)I"⟩ : MethodName), prog_4_method_3_code, 4, (some .int), 3), cd_Likely_latestSaid),
  (((⟨"WhichWord$Likely", "aboveLine", "(II)J"⟩ : MethodName), prog_4_method_5_code, 7, (some .long), 3), cd_Likely_aboveLine),
  (((⟨"WhichWord$Likely", "ofAll", "(I)J"⟩ : MethodName), prog_4_method_4_code, 5, (some .long), 3), cd_Likely_ofAll),
  (((⟨"WhichWord$Likely", "commonDivisor", "(JJ)J"⟩ : MethodName), prog_4_method_7_code, 11, (some .long), 0), cd_Likely_commonDivisor),
  (((⟨"WhichWord$Likely", "belowLine", "(II)J"⟩ : MethodName), prog_4_method_6_code, 7, (some .long), 3), cd_Likely_belowLine),
  (((⟨"WhichWord$Likely", "greatest", "(I)I"⟩ : MethodName), prog_4_method_8_code, 8, (some .int), 3), cd_Likely_greatest),
  (((⟨"WhichWord$Scene", "<init>", "()V"⟩ : MethodName), prog_5_method_1_code, 1, none, 4), cd_Scene_init),
  (((⟨"WhichWord$Scene", "addThing", "(I)V"⟩ : MethodName), prog_5_method_2_code, 2, none, 4), cd_Scene_addThing),
  (((⟨"WhichWord$Scene", "addDoing", "(I)V"⟩ : MethodName), prog_5_method_3_code, 2, none, 4), cd_Scene_addDoing),
  (((⟨"WhichWord$Scene", "holds", "(I)Z"⟩ : MethodName), prog_5_method_6_code, 4, (some .boolean), 4), cd_Scene_holds),
  (((⟨"WhichWord$Scene", "countThings", "(II)I"⟩ : MethodName), prog_5_method_8_code, 5, (some .int), 4), cd_Scene_countThings),
  (((⟨"WhichWord$Scene", "thingAt", "(I)I"⟩ : MethodName), prog_5_method_4_code, 2, (some .int), 4), cd_Scene_thingAt),
  (((⟨"WhichWord$Scene", "holdsJoined", "(I)Z"⟩ : MethodName), prog_5_method_7_code, 2, (some .boolean), 4), cd_Scene_holdsJoined),
  (((⟨"WhichWord$Scene", "isDone", "(III)Z"⟩ : MethodName), prog_5_method_9_code, 6, (some .boolean), 4), cd_Scene_isDone),
  (((⟨"WhichWord$Scene", "doingAt", "(I)I"⟩ : MethodName), prog_5_method_5_code, 2, (some .int), 4), cd_Scene_doingAt),
  (((⟨"WhichWord$Text", "<init>", "()V"⟩ : MethodName), prog_6_method_1_code, 1, none, 5), cd_Text_init),
  (((⟨"WhichWord$Text", "room", "()I"⟩ : MethodName), prog_6_method_3_code, 1, (some .int), 5), cd_Text_room),
  (((⟨"WhichWord$Text", "append", "(IJ)I"⟩ : MethodName), prog_6_method_6_code, 5, (some .int), 5), cd_Text_append),
  (((⟨"WhichWord$Text", "readScene", "(LWhichWord$Scene;)Z"⟩ : MethodName), prog_6_method_7_code, 2, (some .boolean), 5), cd_Text_readScene),
  (((⟨"WhichWord$Text", "readThings", "(LWhichWord$Scene;)Z"⟩ : MethodName), prog_6_method_8_code, 4, (some .boolean), 5), cd_Text_readThings),
  (((⟨"WhichWord$Text", "readThing", "(LWhichWord$Scene;)Z"⟩ : MethodName), prog_6_method_9_code, 4, (some .boolean), 5), cd_Text_readThing),
  (((⟨"WhichWord$Text", "take", "(I)Z"⟩ : MethodName), prog_6_method_12_code, 2, (some .boolean), 5), cd_Text_take),
  (((⟨"WhichWord$Text", "takeOneOf", "(III)I"⟩ : MethodName), prog_6_method_13_code, 5, (some .int), 5), cd_Text_takeOneOf),
  (((⟨"WhichWord$Text", "readDoings", "(LWhichWord$Scene;)Z"⟩ : MethodName), prog_6_method_10_code, 4, (some .boolean), 5), cd_Text_readDoings),
  (((⟨"WhichWord$Text", "readDoing", "(LWhichWord$Scene;)Z"⟩ : MethodName), prog_6_method_11_code, 5, (some .boolean), 5), cd_Text_readDoing),
  (((⟨"WhichWord$Text", "place", "()I"⟩ : MethodName), prog_6_method_4_code, 1, (some .int), 5), cd_Text_place),
  (((⟨"WhichWord$Text", "empty", "()V"⟩ : MethodName), prog_6_method_5_code, 1, none, 5), cd_Text_empty),
  (((⟨"WhichWord$Text", "length", "()I"⟩ : MethodName), prog_6_method_2_code, 1, (some .int), 5), cd_Text_length),
  (((⟨"WhichWord$Told", "<init>", "()V"⟩ : MethodName), prog_7_method_1_code, 2, none, 6), cd_Told_init),
  (((⟨"WhichWord$Told", "addScene", "(LWhichWord$Scene;)I"⟩ : MethodName), prog_7_method_3_code, 4, (some .int), 6), cd_Told_addScene),
  (((⟨"WhichWord$Told", "dropLatest", "()I"⟩ : MethodName), prog_7_method_4_code, 3, (some .int), 6), cd_Told_dropLatest),
  (((⟨"WhichWord$Told", "dropSayingsOf", "(I)V"⟩ : MethodName), prog_7_method_5_code, 4, none, 6), cd_Told_dropSayingsOf),
  (((⟨"WhichWord$Told", "tellSaid", "(IIZ)Z"⟩ : MethodName), prog_7_method_6_code, 4, (some .boolean), 6), cd_Told_tellSaid),
  (((⟨"WhichWord$Told", "countLeft", "(II)I"⟩ : MethodName), prog_7_method_12_code, 5, (some .int), 6), cd_Told_countLeft),
  (((⟨"WhichWord$Told", "isLeft", "(III)Z"⟩ : MethodName), prog_7_method_11_code, 4, (some .boolean), 6), cd_Told_isLeft),
  (((⟨"WhichWord$Told", "leftAt", "(III)I"⟩ : MethodName), prog_7_method_13_code, 6, (some .int), 6), cd_Told_leftAt),
  (((⟨"WhichWord$Told", "heaviestLeft", "(II)I"⟩ : MethodName), prog_7_method_14_code, 7, (some .int), 6), cd_Told_heaviestLeft),
  (((⟨"WhichWord$Told", "countTwos", "(I)I"⟩ : MethodName), prog_7_method_16_code, 5, (some .int), 6), cd_Told_countTwos),
  (((⟨"WhichWord$Told", "isTwo", "(III)Z"⟩ : MethodName), prog_7_method_15_code, 4, (some .boolean), 6), cd_Told_isTwo),
  (((⟨"WhichWord$Told", "firstTwo", "(I)I"⟩ : MethodName), prog_7_method_17_code, 4, (some .int), 6), cd_Told_firstTwo),
  (((⟨"WhichWord$Told", "addSaying", "(II)I"⟩ : MethodName), prog_7_method_7_code, 3, (some .int), 6), cd_Told_addSaying),
  (((⟨"WhichWord$Told", "fittingOrders", "()I"⟩ : MethodName), prog_7_method_19_code, 5, (some .int), 6), cd_Told_fittingOrders),
  (((⟨"WhichWord$Told", "fits", "(LWhichWord$Scene;II)Z"⟩ : MethodName), prog_7_method_20_code, 7, (some .boolean), 6), cd_Told_fits),
  (((⟨"WhichWord$Told", "isMark", "(I)Z"⟩ : MethodName), prog_7_method_21_code, 1, (some .boolean), 0), cd_Told_isMark),
  (((⟨"WhichWord$Told", "countUnparted", "()I"⟩ : MethodName), prog_7_method_18_code, 4, (some .int), 6), cd_Told_countUnparted),
  (((⟨"WhichWord$Told", "copyFrom", "(LWhichWord$Told;)V"⟩ : MethodName), prog_7_method_2_code, 3, none, 6), cd_Told_copyFrom),
  (((⟨"WhichWord$Told", "countThings", "()I"⟩ : MethodName), prog_7_method_8_code, 3, (some .int), 6), cd_Told_countThings),
  (((⟨"WhichWord$Told", "countDoings", "()I"⟩ : MethodName), prog_7_method_9_code, 3, (some .int), 6), cd_Told_countDoings),
  (((⟨"WhichWord$Told", "countSaid", "()I"⟩ : MethodName), prog_7_method_10_code, 3, (some .int), 6), cd_Told_countSaid),
  (((⟨"WhichWord", "<init>", "()V"⟩ : MethodName), prog_1_method_1_code, 2, none, 7), cd_Word_init),
  (((⟨"WhichWord", "feed", "(IJ)I"⟩ : MethodName), prog_1_method_2_code, 4, (some .int), 7), cd_Word_feed),
  (((⟨"WhichWord", "refuse", "(I)I"⟩ : MethodName), prog_1_method_35_code, 3, (some .int), 7), cd_Word_refuse),
  (((⟨"WhichWord", "scene", "()I"⟩ : MethodName), prog_1_method_3_code, 4, (some .int), 7), cd_Word_scene),
  (((⟨"WhichWord", "kindOf", "(I)I"⟩ : MethodName), prog_1_method_42_code, 3, (some .int), 0), cd_Word_kindOf),
  (((⟨"WhichWord", "takeBack", "()I"⟩ : MethodName), prog_1_method_4_code, 1, (some .int), 7), cd_Word_takeBack),
  (((⟨"WhichWord", "thing", "(II)I"⟩ : MethodName), prog_1_method_5_code, 3, (some .int), 7), cd_Word_thing),
  (((⟨"WhichWord", "noScene", "(I)Z"⟩ : MethodName), prog_1_method_36_code, 2, (some .boolean), 7), cd_Word_noScene),
  (((⟨"WhichWord", "doing", "(II)I"⟩ : MethodName), prog_1_method_6_code, 3, (some .int), 7), cd_Word_doing),
  (((⟨"WhichWord", "say", "(IIZ)I"⟩ : MethodName), prog_1_method_7_code, 4, (some .int), 7), cd_Word_say),
  (((⟨"WhichWord", "noWord", "(I)Z"⟩ : MethodName), prog_1_method_37_code, 1, (some .boolean), 0), cd_Word_noWord),
  (((⟨"WhichWord", "isIn", "(II)Z"⟩ : MethodName), prog_1_method_43_code, 2, (some .boolean), 0), cd_Word_isIn),
  (((⟨"WhichWord", "said", "(I)I"⟩ : MethodName), prog_1_method_8_code, 2, (some .int), 7), cd_Word_said),
  (((⟨"WhichWord", "kind", "(I)I"⟩ : MethodName), prog_1_method_9_code, 2, (some .int), 7), cd_Word_kind),
  (((⟨"WhichWord", "noMeaning", "(I)Z"⟩ : MethodName), prog_1_method_38_code, 1, (some .boolean), 0), cd_Word_noMeaning),
  (((⟨"WhichWord", "weight", "(II)I"⟩ : MethodName), prog_1_method_10_code, 4, (some .int), 7), cd_Word_weight),
  (((⟨"WhichWord", "has", "(II)I"⟩ : MethodName), prog_1_method_11_code, 3, (some .int), 7), cd_Word_has),
  (((⟨"WhichWord", "left", "(III)I"⟩ : MethodName), prog_1_method_12_code, 4, (some .int), 7), cd_Word_left),
  (((⟨"WhichWord", "plainest", "(II)I"⟩ : MethodName), prog_1_method_13_code, 3, (some .int), 7), cd_Word_plainest),
  (((⟨"WhichWord", "judge", "(II)I"⟩ : MethodName), prog_1_method_14_code, 3, (some .int), 7), cd_Word_judge),
  (((⟨"WhichWord", "firstIn", "(I)I"⟩ : MethodName), prog_1_method_44_code, 2, (some .int), 0), cd_Word_firstIn),
  (((⟨"WhichWord", "set", "(II)I"⟩ : MethodName), prog_1_method_15_code, 4, (some .int), 7), cd_Word_set),
  (((⟨"WhichWord", "likelihood", "(II)J"⟩ : MethodName), prog_1_method_16_code, 3, (some .long), 7), cd_Word_likelihood),
  (((⟨"WhichWord", "chance", "(III)J"⟩ : MethodName), prog_1_method_17_code, 4, (some .long), 7), cd_Word_chance),
  (((⟨"WhichWord", "likeliest", "(I)I"⟩ : MethodName), prog_1_method_18_code, 2, (some .int), 7), cd_Word_likeliest),
  (((⟨"WhichWord", "givings", "(I)I"⟩ : MethodName), prog_1_method_19_code, 2, (some .int), 7), cd_Word_givings),
  (((⟨"WhichWord", "noSetToGive", "(I)Z"⟩ : MethodName), prog_1_method_39_code, 1, (some .boolean), 0), cd_Word_noSetToGive),
  (((⟨"WhichWord", "giving", "(II)I"⟩ : MethodName), prog_1_method_20_code, 3, (some .int), 7), cd_Word_giving),
  (((⟨"WhichWord", "two", "(II)I"⟩ : MethodName), prog_1_method_21_code, 3, (some .int), 7), cd_Word_two),
  (((⟨"WhichWord", "give", "(II)I"⟩ : MethodName), prog_1_method_22_code, 4, (some .int), 7), cd_Word_give),
  (((⟨"WhichWord", "saying", "(II)I"⟩ : MethodName), prog_1_method_23_code, 3, (some .int), 7), cd_Word_saying),
  (((⟨"WhichWord", "noThreeWords", "(I)Z"⟩ : MethodName), prog_1_method_40_code, 4, (some .boolean), 0), cd_Word_noThreeWords),
  (((⟨"WhichWord", "wordAt", "(II)I"⟩ : MethodName), prog_1_method_41_code, 2, (some .int), 0), cd_Word_wordAt),
  (((⟨"WhichWord", "orders", "()I"⟩ : MethodName), prog_1_method_24_code, 1, (some .int), 7), cd_Word_orders),
  (((⟨"WhichWord", "next", "(I)I"⟩ : MethodName), prog_1_method_25_code, 2, (some .int), 7), cd_Word_next),
  (((⟨"WhichWord", "enough", "(I)I"⟩ : MethodName), prog_1_method_26_code, 2, (some .int), 7), cd_Word_enough),
  (((⟨"WhichWord", "help", "(III)I"⟩ : MethodName), prog_1_method_27_code, 4, (some .int), 7), cd_Word_help),
  (((⟨"WhichWord", "never", "()I"⟩ : MethodName), prog_1_method_28_code, 1, (some .int), 7), cd_Word_never),
  (((⟨"WhichWord", "same", "(II)I"⟩ : MethodName), prog_1_method_29_code, 3, (some .int), 7), cd_Word_same),
  (((⟨"WhichWord", "part", "(II)I"⟩ : MethodName), prog_1_method_30_code, 3, (some .int), 7), cd_Word_part),
  (((⟨"WhichWord", "image", "()I"⟩ : MethodName), prog_1_method_31_code, 1, (some .int), 7), cd_Word_image),
  (((⟨"WhichWord", "restore", "()I"⟩ : MethodName), prog_1_method_32_code, 1, (some .int), 7), cd_Word_restore),
  (((⟨"WhichWord", "count", "(I)I"⟩ : MethodName), prog_1_method_33_code, 2, (some .int), 7), cd_Word_count),
  (((⟨"WhichWord", "countRefusals", "(I)I"⟩ : MethodName), prog_1_method_34_code, 2, (some .int), 7), cd_Word_countRefusals),
  (((⟨"WhichWordModel", "<init>", "()V"⟩ : MethodName), prog_9_method_1_code, 1, none, 8), cd_Model_init),
  (((⟨"WhichWordModel", "feed", "(IJ)I"⟩ : MethodName), prog_9_method_9_code, 5, (some .int), 8), cd_Model_feed),
  (((⟨"WhichWordModel", "refuse", "(I)I"⟩ : MethodName), prog_9_method_4_code, 2, (some .int), 8), cd_Model_refuse),
  (((⟨"WhichWordModel", "scene", "()I"⟩ : MethodName), prog_9_method_15_code, 2, (some .int), 8), cd_Model_scene),
  (((⟨"WhichWordModel", "readScene", "(I)V"⟩ : MethodName), prog_9_method_14_code, 2, none, 8), cd_Model_readScene),
  (((⟨"WhichWordModel", "readThing", "(I)V"⟩ : MethodName), prog_9_method_11_code, 4, none, 8), cd_Model_readThing),
  (((⟨"WhichWordModel", "here", "()I"⟩ : MethodName), prog_9_method_10_code, 1, (some .int), 8), cd_Model_here),
  (((⟨"WhichWordModel", "in", "(JJJ)Z"⟩ : MethodName), prog_9_method_3_code, 6, (some .boolean), 0), cd_Model_in),
  (((⟨"WhichWordModel", "readDoing", "(I)V"⟩ : MethodName), prog_9_method_13_code, 6, none, 8), cd_Model_readDoing),
  (((⟨"WhichWordModel", "readPlace", "(II)I"⟩ : MethodName), prog_9_method_12_code, 4, (some .int), 8), cd_Model_readPlace),
  (((⟨"WhichWordModel", "findHas", "(I)V"⟩ : MethodName), prog_9_method_18_code, 7, none, 8), cd_Model_findHas),
  (((⟨"WhichWordModel", "manyWith", "(II)I"⟩ : MethodName), prog_9_method_17_code, 5, (some .int), 8), cd_Model_manyWith),
  (((⟨"WhichWordModel", "hasMark", "(III)Z"⟩ : MethodName), prog_9_method_16_code, 4, (some .boolean), 8), cd_Model_hasMark),
  (((⟨"WhichWordModel", "takeBack", "()I"⟩ : MethodName), prog_9_method_20_code, 3, (some .int), 8), cd_Model_takeBack),
  (((⟨"WhichWordModel", "thing", "(II)I"⟩ : MethodName), prog_9_method_21_code, 3, (some .int), 8), cd_Model_thing),
  (((⟨"WhichWordModel", "isScene", "(I)Z"⟩ : MethodName), prog_9_method_5_code, 2, (some .boolean), 8), cd_Model_isScene),
  (((⟨"WhichWordModel", "doing", "(II)I"⟩ : MethodName), prog_9_method_22_code, 4, (some .int), 8), cd_Model_doing),
  (((⟨"WhichWordModel", "say", "(IIZ)I"⟩ : MethodName), prog_9_method_23_code, 5, (some .int), 8), cd_Model_say),
  (((⟨"WhichWordModel", "isWord", "(I)Z"⟩ : MethodName), prog_9_method_6_code, 1, (some .boolean), 0), cd_Model_isWord),
  (((⟨"WhichWordModel", "said", "(I)I"⟩ : MethodName), prog_9_method_25_code, 2, (some .int), 8), cd_Model_said),
  (((⟨"WhichWordModel", "saidIn", "(I)I"⟩ : MethodName), prog_9_method_24_code, 4, (some .int), 8), cd_Model_saidIn),
  (((⟨"WhichWordModel", "kind", "(I)I"⟩ : MethodName), prog_9_method_26_code, 2, (some .int), 8), cd_Model_kind),
  (((⟨"WhichWordModel", "isMeaning", "(I)Z"⟩ : MethodName), prog_9_method_7_code, 1, (some .boolean), 0), cd_Model_isMeaning),
  (((⟨"WhichWordModel", "kindOf", "(I)I"⟩ : MethodName), prog_9_method_19_code, 1, (some .int), 0), cd_Model_kindOf),
  (((⟨"WhichWordModel", "weight", "(II)I"⟩ : MethodName), prog_9_method_27_code, 4, (some .int), 8), cd_Model_weight),
  (((⟨"WhichWordModel", "has", "(II)I"⟩ : MethodName), prog_9_method_28_code, 3, (some .int), 8), cd_Model_has),
  (((⟨"WhichWordModel", "left", "(III)I"⟩ : MethodName), prog_9_method_30_code, 6, (some .int), 8), cd_Model_left),
  (((⟨"WhichWordModel", "isLeft", "(III)Z"⟩ : MethodName), prog_9_method_29_code, 6, (some .boolean), 8), cd_Model_isLeft),
  (((⟨"WhichWordModel", "plainest", "(II)I"⟩ : MethodName), prog_9_method_31_code, 6, (some .int), 8), cd_Model_plainest),
  (((⟨"WhichWordModel", "judge", "(II)I"⟩ : MethodName), prog_9_method_32_code, 4, (some .int), 8), cd_Model_judge),
  (((⟨"WhichWordModel", "set", "(II)I"⟩ : MethodName), prog_9_method_33_code, 4, (some .int), 8), cd_Model_set),
  (((⟨"WhichWordModel", "likelihood", "(II)J"⟩ : MethodName), prog_9_method_35_code, 3, (some .long), 8), cd_Model_likelihood),
  (((⟨"WhichWordModel", "likelihoodOf", "(II)J"⟩ : MethodName), prog_9_method_34_code, 7, (some .long), 8), cd_Model_likelihoodOf),
  (((⟨"WhichWordModel", "chance", "(III)J"⟩ : MethodName), prog_9_method_37_code, 10, (some .long), 8), cd_Model_chance),
  (((⟨"WhichWordModel", "divisor", "(JJ)J"⟩ : MethodName), prog_9_method_36_code, 10, (some .long), 0), cd_Model_divisor),
  (((⟨"WhichWordModel", "likeliest", "(I)I"⟩ : MethodName), prog_9_method_38_code, 4, (some .int), 8), cd_Model_likeliest),
  (((⟨"WhichWordModel", "givings", "(I)I"⟩ : MethodName), prog_9_method_42_code, 5, (some .int), 8), cd_Model_givings),
  (((⟨"WhichWordModel", "isSet", "(I)Z"⟩ : MethodName), prog_9_method_39_code, 2, (some .boolean), 8), cd_Model_isSet),
  (((⟨"WhichWordModel", "ones", "(I)I"⟩ : MethodName), prog_9_method_8_code, 3, (some .int), 0), cd_Model_ones),
  (((⟨"WhichWordModel", "findWords", "(I)V"⟩ : MethodName), prog_9_method_40_code, 3, none, 8), cd_Model_findWords),
  (((⟨"WhichWordModel", "commonTo", "(I)I"⟩ : MethodName), prog_9_method_41_code, 6, (some .int), 8), cd_Model_commonTo),
  (((⟨"WhichWordModel", "giving", "(II)I"⟩ : MethodName), prog_9_method_46_code, 5, (some .int), 8), cd_Model_giving),
  (((⟨"WhichWordModel", "findFirst", "(I)Z"⟩ : MethodName), prog_9_method_43_code, 5, (some .boolean), 8), cd_Model_findFirst),
  (((⟨"WhichWordModel", "canHave", "(I)Z"⟩ : MethodName), prog_9_method_44_code, 5, (some .boolean), 8), cd_Model_canHave),
  (((⟨"WhichWordModel", "isOneLeft", "(I)Z"⟩ : MethodName), prog_9_method_45_code, 3, (some .boolean), 8), cd_Model_isOneLeft),
  (((⟨"WhichWordModel", "two", "(II)I"⟩ : MethodName), prog_9_method_47_code, 9, (some .int), 8), cd_Model_two),
  (((⟨"WhichWordModel", "give", "(II)I"⟩ : MethodName), prog_9_method_48_code, 4, (some .int), 8), cd_Model_give),
  (((⟨"WhichWordModel", "saying", "(II)I"⟩ : MethodName), prog_9_method_49_code, 6, (some .int), 8), cd_Model_saying),
  (((⟨"WhichWordModel", "orders", "()I"⟩ : MethodName), prog_9_method_52_code, 5, (some .int), 8), cd_Model_orders),
  (((⟨"WhichWordModel", "fits", "(II)Z"⟩ : MethodName), prog_9_method_51_code, 7, (some .boolean), 8), cd_Model_fits),
  (((⟨"WhichWordModel", "isDone", "(IIII)Z"⟩ : MethodName), prog_9_method_50_code, 7, (some .boolean), 8), cd_Model_isDone),
  (((⟨"WhichWordModel", "next", "(I)I"⟩ : MethodName), prog_9_method_53_code, 9, (some .int), 8), cd_Model_next),
  (((⟨"WhichWordModel", "enough", "(I)I"⟩ : MethodName), prog_9_method_58_code, 4, (some .int), 8), cd_Model_enough),
  (((⟨"WhichWordModel", "findShown", "(I)V"⟩ : MethodName), prog_9_method_54_code, 3, none, 8), cd_Model_findShown),
  (((⟨"WhichWordModel", "findUnlike", "(I)V"⟩ : MethodName), prog_9_method_55_code, 6, none, 8), cd_Model_findUnlike),
  (((⟨"WhichWordModel", "partsAll", "(I)Z"⟩ : MethodName), prog_9_method_56_code, 4, (some .boolean), 8), cd_Model_partsAll),
  (((⟨"WhichWordModel", "scenesOf", "(I)I"⟩ : MethodName), prog_9_method_57_code, 4, (some .int), 8), cd_Model_scenesOf),
  (((⟨"WhichWordModel", "help", "(III)I"⟩ : MethodName), prog_9_method_59_code, 9, (some .int), 8), cd_Model_help),
  (((⟨"WhichWordModel", "leftBy", "(II)I"⟩ : MethodName), prog_9_method_60_code, 7, (some .int), 8), cd_Model_leftBy),
  (((⟨"WhichWordModel", "never", "()I"⟩ : MethodName), prog_9_method_62_code, 4, (some .int), 8), cd_Model_never),
  (((⟨"WhichWordModel", "partOf", "(II)I"⟩ : MethodName), prog_9_method_61_code, 4, (some .int), 8), cd_Model_partOf),
  (((⟨"WhichWordModel", "same", "(II)I"⟩ : MethodName), prog_9_method_63_code, 3, (some .int), 8), cd_Model_same),
  (((⟨"WhichWordModel", "part", "(II)I"⟩ : MethodName), prog_9_method_64_code, 3, (some .int), 8), cd_Model_part),
  (((⟨"WhichWordModel", "image", "()I"⟩ : MethodName), prog_9_method_67_code, 1, (some .int), 8), cd_Model_image),
  (((⟨"WhichWordModel", "moveAll", "()V"⟩ : MethodName), prog_9_method_66_code, 3, none, 8), cd_Model_moveAll),
  (((⟨"WhichWordModel", "move", "(I)I"⟩ : MethodName), prog_9_method_65_code, 2, (some .int), 8), cd_Model_move),
  (((⟨"WhichWordModel", "restore", "()I"⟩ : MethodName), prog_9_method_68_code, 2, (some .int), 8), cd_Model_restore),
  (((⟨"WhichWordModel", "count", "(I)I"⟩ : MethodName), prog_9_method_69_code, 4, (some .int), 8), cd_Model_count),
  (((⟨"java/util/Arrays", "fill", "([II)V"⟩ : MethodName), prog_13_method_103_code, 4, none, 0), cd_Arrays_fill),
  (((⟨"java/lang/Integer", "bitCount", "(I)I"⟩ : MethodName), prog_10_method_49_code, 1, (some .int), 0), cd_Integer_bitCount)]
def mm_T (j : Nat) : mm_N × mm_C := match mm_nth mm_Tl j with
  | some q => q
  | none => ((⟨"", "", ""⟩, ⟨#[]⟩, 0, none, 0), [])
def mm_Yt (j : Nat) : mm_N := (mm_T j).1
def mm_Pt (j : Nat) : mm_Y := ((mm_T j).2, (mm_T j).1.2.2.1, (mm_T j).1.2.2.2.2)
def mm_Al (j : Nat) : Nat × Nat := match Nat.beq j 0 with
  | true => (2, 310)
  | false => match Nat.beq j 12 with
  | true => (1, 6)
  | false => match Nat.beq j 27 with
  | true => (2, 7)
  | false => match Nat.beq j 36 with
  | true => (1, 40)
  | false => match Nat.beq j 49 with
  | true => (10, 185)
  | false => match Nat.beq j 70 with
  | true => (31, 768)
  | false => match Nat.beq j 73 with
  | true => (3, 11)
  | false => match Nat.beq j 114 with
  | true => (17, 3573)
  | false => (0, 0)
def mm_Df : Nat → List Value
  | 0 => [.null, .null, .int 0, .null, .int 0]
  | 1 => [.null, .null]
  | 2 => [.null]
  | 3 => [.null, .null, .int 0, .int 0]
  | 4 => [.null, .int 0, .int 0]
  | 5 => [.null, .null, .int 0, .null, .null, .null, .int 0, .int 0, .null, .null, .null, .int 0]
  | 6 => [.null, .null, .null, .int 0, .null, .null, .null, .null]
  | _ => [.int 0, .null, .null, .null, .null, .null, .null, .null, .int 0, .int 0, .null, .int 0, .null, .null, .null, .int 0, .null, .int 0, .int 0, .int 0, .null, .int 0, .null, .null, .int 0, .null, .int 0, .int 0, .null, .int 0, .int 0]
theorem mm_Df_ok : ∀ (a : Nat) (q : vw_C), vwCl[a]? = some q → (∀ j, j < q.2.2 → defaultValue (mm_ty a j) = vp_V (mm_Df a) j) ∧ ∀ v ∈ mm_Df a, mm_v (fun x => x + 1) v = v := by
  intro a q h
  match a, h with
  | 0, h => cases h; exact ⟨by decide +kernel, by decide +kernel⟩
  | 1, h => cases h; exact ⟨by decide +kernel, by decide +kernel⟩
  | 2, h => cases h; exact ⟨by decide +kernel, by decide +kernel⟩
  | 3, h => cases h; exact ⟨by decide +kernel, by decide +kernel⟩
  | 4, h => cases h; exact ⟨by decide +kernel, by decide +kernel⟩
  | 5, h => cases h; exact ⟨by decide +kernel, by decide +kernel⟩
  | 6, h => cases h; exact ⟨by decide +kernel, by decide +kernel⟩
  | 7, h => cases h; exact ⟨by decide +kernel, by decide +kernel⟩
  | k + 8, h => simp [vwCl] at h
abbrev j_Chooser_init : Nat := 0
abbrev j_Chooser_evenest : Nat := 1
abbrev j_Chooser_shownFor : Nat := 2
abbrev j_Chooser_countLeftHad : Nat := 3
abbrev j_Chooser_fewestParting : Nat := 4
abbrev j_Chooser_firstShownFor : Nat := 5
abbrev j_Chooser_listUnlike : Nat := 6
abbrev j_Chooser_addUnlike : Nat := 7
abbrev j_Chooser_listSets : Nat := 8
abbrev j_Chooser_addSets : Nat := 9
abbrev j_Chooser_partsAll : Nat := 10
abbrev j_Chooser_mostTelling : Nat := 11
abbrev j_Giver_init : Nat := 12
abbrev j_Giver_countWays : Nat := 13
abbrev j_Giver_countLefts : Nat := 14
abbrev j_Giver_ways : Nat := 15
abbrev j_Giver_lost : Nat := 16
abbrev j_Giver_firstFor : Nat := 17
abbrev j_Giver_leastFor : Nat := 18
abbrev j_Likely_init : Nat := 19
abbrev j_Likely_of : Nat := 20
abbrev j_Likely_latestSaid : Nat := 21
abbrev j_Likely_aboveLine : Nat := 22
abbrev j_Likely_ofAll : Nat := 23
abbrev j_Likely_commonDivisor : Nat := 24
abbrev j_Likely_belowLine : Nat := 25
abbrev j_Likely_greatest : Nat := 26
abbrev j_Scene_init : Nat := 27
abbrev j_Scene_addThing : Nat := 28
abbrev j_Scene_addDoing : Nat := 29
abbrev j_Scene_holds : Nat := 30
abbrev j_Scene_countThings : Nat := 31
abbrev j_Scene_thingAt : Nat := 32
abbrev j_Scene_holdsJoined : Nat := 33
abbrev j_Scene_isDone : Nat := 34
abbrev j_Scene_doingAt : Nat := 35
abbrev j_Text_init : Nat := 36
abbrev j_Text_room : Nat := 37
abbrev j_Text_append : Nat := 38
abbrev j_Text_readScene : Nat := 39
abbrev j_Text_readThings : Nat := 40
abbrev j_Text_readThing : Nat := 41
abbrev j_Text_take : Nat := 42
abbrev j_Text_takeOneOf : Nat := 43
abbrev j_Text_readDoings : Nat := 44
abbrev j_Text_readDoing : Nat := 45
abbrev j_Text_place : Nat := 46
abbrev j_Text_empty : Nat := 47
abbrev j_Text_length : Nat := 48
abbrev j_Told_init : Nat := 49
abbrev j_Told_addScene : Nat := 50
abbrev j_Told_dropLatest : Nat := 51
abbrev j_Told_dropSayingsOf : Nat := 52
abbrev j_Told_tellSaid : Nat := 53
abbrev j_Told_countLeft : Nat := 54
abbrev j_Told_isLeft : Nat := 55
abbrev j_Told_leftAt : Nat := 56
abbrev j_Told_heaviestLeft : Nat := 57
abbrev j_Told_countTwos : Nat := 58
abbrev j_Told_isTwo : Nat := 59
abbrev j_Told_firstTwo : Nat := 60
abbrev j_Told_addSaying : Nat := 61
abbrev j_Told_fittingOrders : Nat := 62
abbrev j_Told_fits : Nat := 63
abbrev j_Told_isMark : Nat := 64
abbrev j_Told_countUnparted : Nat := 65
abbrev j_Told_copyFrom : Nat := 66
abbrev j_Told_countThings : Nat := 67
abbrev j_Told_countDoings : Nat := 68
abbrev j_Told_countSaid : Nat := 69
abbrev j_Word_init : Nat := 70
abbrev j_Word_feed : Nat := 71
abbrev j_Word_refuse : Nat := 72
abbrev j_Word_scene : Nat := 73
abbrev j_Word_kindOf : Nat := 74
abbrev j_Word_takeBack : Nat := 75
abbrev j_Word_thing : Nat := 76
abbrev j_Word_noScene : Nat := 77
abbrev j_Word_doing : Nat := 78
abbrev j_Word_say : Nat := 79
abbrev j_Word_noWord : Nat := 80
abbrev j_Word_isIn : Nat := 81
abbrev j_Word_said : Nat := 82
abbrev j_Word_kind : Nat := 83
abbrev j_Word_noMeaning : Nat := 84
abbrev j_Word_weight : Nat := 85
abbrev j_Word_has : Nat := 86
abbrev j_Word_left : Nat := 87
abbrev j_Word_plainest : Nat := 88
abbrev j_Word_judge : Nat := 89
abbrev j_Word_firstIn : Nat := 90
abbrev j_Word_set : Nat := 91
abbrev j_Word_likelihood : Nat := 92
abbrev j_Word_chance : Nat := 93
abbrev j_Word_likeliest : Nat := 94
abbrev j_Word_givings : Nat := 95
abbrev j_Word_noSetToGive : Nat := 96
abbrev j_Word_giving : Nat := 97
abbrev j_Word_two : Nat := 98
abbrev j_Word_give : Nat := 99
abbrev j_Word_saying : Nat := 100
abbrev j_Word_noThreeWords : Nat := 101
abbrev j_Word_wordAt : Nat := 102
abbrev j_Word_orders : Nat := 103
abbrev j_Word_next : Nat := 104
abbrev j_Word_enough : Nat := 105
abbrev j_Word_help : Nat := 106
abbrev j_Word_never : Nat := 107
abbrev j_Word_same : Nat := 108
abbrev j_Word_part : Nat := 109
abbrev j_Word_image : Nat := 110
abbrev j_Word_restore : Nat := 111
abbrev j_Word_count : Nat := 112
abbrev j_Word_countRefusals : Nat := 113
abbrev j_Model_init : Nat := 114
abbrev j_Model_feed : Nat := 115
abbrev j_Model_refuse : Nat := 116
abbrev j_Model_scene : Nat := 117
abbrev j_Model_readScene : Nat := 118
abbrev j_Model_readThing : Nat := 119
abbrev j_Model_here : Nat := 120
abbrev j_Model_in : Nat := 121
abbrev j_Model_readDoing : Nat := 122
abbrev j_Model_readPlace : Nat := 123
abbrev j_Model_findHas : Nat := 124
abbrev j_Model_manyWith : Nat := 125
abbrev j_Model_hasMark : Nat := 126
abbrev j_Model_takeBack : Nat := 127
abbrev j_Model_thing : Nat := 128
abbrev j_Model_isScene : Nat := 129
abbrev j_Model_doing : Nat := 130
abbrev j_Model_say : Nat := 131
abbrev j_Model_isWord : Nat := 132
abbrev j_Model_said : Nat := 133
abbrev j_Model_saidIn : Nat := 134
abbrev j_Model_kind : Nat := 135
abbrev j_Model_isMeaning : Nat := 136
abbrev j_Model_kindOf : Nat := 137
abbrev j_Model_weight : Nat := 138
abbrev j_Model_has : Nat := 139
abbrev j_Model_left : Nat := 140
abbrev j_Model_isLeft : Nat := 141
abbrev j_Model_plainest : Nat := 142
abbrev j_Model_judge : Nat := 143
abbrev j_Model_set : Nat := 144
abbrev j_Model_likelihood : Nat := 145
abbrev j_Model_likelihoodOf : Nat := 146
abbrev j_Model_chance : Nat := 147
abbrev j_Model_divisor : Nat := 148
abbrev j_Model_likeliest : Nat := 149
abbrev j_Model_givings : Nat := 150
abbrev j_Model_isSet : Nat := 151
abbrev j_Model_ones : Nat := 152
abbrev j_Model_findWords : Nat := 153
abbrev j_Model_commonTo : Nat := 154
abbrev j_Model_giving : Nat := 155
abbrev j_Model_findFirst : Nat := 156
abbrev j_Model_canHave : Nat := 157
abbrev j_Model_isOneLeft : Nat := 158
abbrev j_Model_two : Nat := 159
abbrev j_Model_give : Nat := 160
abbrev j_Model_saying : Nat := 161
abbrev j_Model_orders : Nat := 162
abbrev j_Model_fits : Nat := 163
abbrev j_Model_isDone : Nat := 164
abbrev j_Model_next : Nat := 165
abbrev j_Model_enough : Nat := 166
abbrev j_Model_findShown : Nat := 167
abbrev j_Model_findUnlike : Nat := 168
abbrev j_Model_partsAll : Nat := 169
abbrev j_Model_scenesOf : Nat := 170
abbrev j_Model_help : Nat := 171
abbrev j_Model_leftBy : Nat := 172
abbrev j_Model_never : Nat := 173
abbrev j_Model_partOf : Nat := 174
abbrev j_Model_same : Nat := 175
abbrev j_Model_part : Nat := 176
abbrev j_Model_image : Nat := 177
abbrev j_Model_moveAll : Nat := 178
abbrev j_Model_move : Nat := 179
abbrev j_Model_restore : Nat := 180
abbrev j_Model_count : Nat := 181
abbrev j_Arrays_fill : Nat := 182
abbrev j_Integer_bitCount : Nat := 183
def mm_chkY (q : mm_N) (ps : List Nat) : Bool :=
  match ps with
  | [j, k] => (mm_w j (.initialized q.1.cls) && (Jvm.plainName q.1.cls && Nat.ble q.2.2.1 60)) && ((decide (q.1.cls ≠ "java/lang/invoke/MethodHandle") && decide (q.1.cls ≠ "java/lang/invoke/VarHandle")) && match q.2.2.2.2 with
    | 0 => mm_w k (.static q.1)
    | ci + 1 => mm_w k (.instanceMethod q.1) && match vwCl[ci]? with
      | some w => decide (w.1 = q.1.cls)
      | none => false)
  | _ => false
theorem mm_chkY_ok {q : mm_N} {ps : List Nat} (hc : Jvm.Cond.code q.1 q.2.1 q.2.2.1 q.2.2.2.1 ∈ lw_tbl) (h : mm_chkY q ps = true) : mm_okY q := by
  have k3 : ∀ {b d : Bool}, (b && d) = true → b = true ∧ d = true := fun {b d} h => (Bool.and_eq_true b d) ▸ h
  unfold mm_chkY at h
  split at h
  · obtain ⟨g1, g2⟩ := k3 h
    obtain ⟨g5, g6⟩ := k3 g1
    obtain ⟨g7, g8⟩ := k3 g6
    obtain ⟨g9, g10⟩ := k3 g2
    obtain ⟨g11, g12⟩ := k3 g9
    refine ⟨⟨hc, mm_w_ok g5, g7, Nat.le_of_ble_eq_true g8⟩, ⟨of_decide_eq_true g11, of_decide_eq_true g12⟩, ?_⟩
    split at g10
    · rename_i he
      rw [he]
      exact mm_w_ok g10
    · rename_i ci he
      rw [he]
      obtain ⟨g13, g14⟩ := k3 g10
      refine ⟨mm_w_ok g13, ?_⟩
      split at g14
      · rename_i w hw
        exact ⟨w, hw, of_decide_eq_true g14⟩
      · cases g14
  · cases h
theorem mm_in1 {w : Jvm.Cond} (h : w ∈ tables_1_1) : w ∈ lw_tbl := List.mem_append_right _ (List.mem_append_left _ h)
theorem mm_in2 {w : Jvm.Cond} (h : w ∈ tables_1_2) : w ∈ lw_tbl := List.mem_append_right _ (List.mem_append_right _ (List.mem_append_left _ h))
theorem mm_in3 {w : Jvm.Cond} (h : w ∈ tables_1_3) : w ∈ lw_tbl := List.mem_append_right _ (List.mem_append_right _ (List.mem_append_right _ (List.mem_append_left _ h)))
theorem mm_in4 {w : Jvm.Cond} (h : w ∈ tables_1_4) : w ∈ lw_tbl := List.mem_append_right _ (List.mem_append_right _ (List.mem_append_right _ (List.mem_append_right _ (List.mem_append_left _ h))))
theorem mm_in5 {w : Jvm.Cond} (h : w ∈ tables_1_5) : w ∈ lw_tbl := List.mem_append_right _ (List.mem_append_right _ (List.mem_append_right _ (List.mem_append_right _ (List.mem_append_right _ h))))
theorem mm_okY_0 : mm_okY ((⟨"WhichWord$Chooser", "<init>", "(LWhichWord$Told;)V"⟩ : MethodName), prog_2_method_1_code, 2, none, 1) := mm_chkY_ok (ps := [65, 207]) (mm_in1 (List.mem_of_getElem? (i := 151) rfl)) (by decide +kernel)
theorem mm_okY_1 : mm_okY ((⟨"WhichWord$Chooser", "evenest", "(I)I"⟩ : MethodName), prog_2_method_2_code, 9, (some .int), 1) := mm_chkY_ok (ps := [65, 603]) (mm_in3 (List.mem_of_getElem? (i := 68) rfl)) (by decide +kernel)
theorem mm_okY_2 : mm_okY ((⟨"WhichWord$Chooser", "shownFor", "(I)I"⟩ : MethodName), prog_2_method_5_code, 2, (some .int), 1) := mm_chkY_ok (ps := [65, 608]) (mm_in3 (List.mem_of_getElem? (i := 72) rfl)) (by decide +kernel)
theorem mm_okY_3 : mm_okY ((⟨"WhichWord$Chooser", "countLeftHad", "(II)I"⟩ : MethodName), prog_2_method_7_code, 5, (some .int), 1) := mm_chkY_ok (ps := [65, 614]) (mm_in3 (List.mem_of_getElem? (i := 78) rfl)) (by decide +kernel)
theorem mm_okY_4 : mm_okY ((⟨"WhichWord$Chooser", "fewestParting", "(I)I"⟩ : MethodName), prog_2_method_3_code, 5, (some .int), 1) := mm_chkY_ok (ps := [65, 625]) (mm_in3 (List.mem_of_getElem? (i := 90) rfl)) (by decide +kernel)
theorem mm_okY_5 : mm_okY ((⟨"WhichWord$Chooser", "firstShownFor", "(I)I"⟩ : MethodName), prog_2_method_6_code, 6, (some .int), 1) := mm_chkY_ok (ps := [65, 630]) (mm_in3 (List.mem_of_getElem? (i := 94) rfl)) (by decide +kernel)
theorem mm_okY_6 : mm_okY ((⟨"WhichWord$Chooser", "listUnlike", "(II)V"⟩ : MethodName), prog_2_method_8_code, 4, none, 1) := mm_chkY_ok (ps := [65, 634]) (mm_in3 (List.mem_of_getElem? (i := 98) rfl)) (by decide +kernel)
theorem mm_okY_7 : mm_okY ((⟨"WhichWord$Chooser", "addUnlike", "(I)V"⟩ : MethodName), prog_2_method_9_code, 3, none, 1) := mm_chkY_ok (ps := [65, 638]) (mm_in3 (List.mem_of_getElem? (i := 102) rfl)) (by decide +kernel)
theorem mm_okY_8 : mm_okY ((⟨"WhichWord$Chooser", "listSets", "(II)V"⟩ : MethodName), prog_2_method_11_code, 3, none, 1) := mm_chkY_ok (ps := [65, 642]) (mm_in3 (List.mem_of_getElem? (i := 106) rfl)) (by decide +kernel)
theorem mm_okY_9 : mm_okY ((⟨"WhichWord$Chooser", "addSets", "(IIII)V"⟩ : MethodName), prog_2_method_12_code, 6, none, 1) := mm_chkY_ok (ps := [65, 646]) (mm_in3 (List.mem_of_getElem? (i := 110) rfl)) (by decide +kernel)
theorem mm_okY_10 : mm_okY ((⟨"WhichWord$Chooser", "partsAll", "(I)Z"⟩ : MethodName), prog_2_method_10_code, 4, (some .boolean), 1) := mm_chkY_ok (ps := [65, 650]) (mm_in3 (List.mem_of_getElem? (i := 114) rfl)) (by decide +kernel)
theorem mm_okY_11 : mm_okY ((⟨"WhichWord$Chooser", "mostTelling", "(III)I"⟩ : MethodName), prog_2_method_4_code, 8, (some .int), 1) := mm_chkY_ok (ps := [65, 658]) (mm_in3 (List.mem_of_getElem? (i := 123) rfl)) (by decide +kernel)
theorem mm_okY_12 : mm_okY ((⟨"WhichWord$Giver", "<init>", "(LWhichWord$Told;)V"⟩ : MethodName), prog_3_method_1_code, 2, none, 2) := mm_chkY_ok (ps := [64, 194]) (mm_in1 (List.mem_of_getElem? (i := 138) rfl)) (by decide +kernel)
theorem mm_okY_13 : mm_okY ((⟨"WhichWord$Giver", "countWays", "(I)I"⟩ : MethodName), prog_3_method_2_code, 2, (some .int), 2) := mm_chkY_ok (ps := [64, 509]) (mm_in2 (List.mem_of_getElem? (i := 214) rfl)) (by decide +kernel)
theorem mm_okY_14 : mm_okY ((⟨"WhichWord$Giver", "countLefts", "(I)V"⟩ : MethodName), prog_3_method_4_code, 3, none, 2) := mm_chkY_ok (ps := [64, 514]) (mm_in2 (List.mem_of_getElem? (i := 218) rfl)) (by decide +kernel)
theorem mm_okY_15 : mm_okY ((⟨"WhichWord$Giver", "ways", "(III)I"⟩ : MethodName), prog_3_method_6_code, 8, (some .int), 2) := mm_chkY_ok (ps := [64, 520]) (mm_in2 (List.mem_of_getElem? (i := 224) rfl)) (by decide +kernel)
theorem mm_okY_16 : mm_okY ((⟨"WhichWord$Giver", "lost", "(II)I"⟩ : MethodName), prog_3_method_7_code, 3, (some .int), 2) := mm_chkY_ok (ps := [64, 526]) (mm_in2 (List.mem_of_getElem? (i := 230) rfl)) (by decide +kernel)
theorem mm_okY_17 : mm_okY ((⟨"WhichWord$Giver", "firstFor", "(II)I"⟩ : MethodName), prog_3_method_3_code, 8, (some .int), 2) := mm_chkY_ok (ps := [64, 534]) (mm_in2 (List.mem_of_getElem? (i := 239) rfl)) (by decide +kernel)
theorem mm_okY_18 : mm_okY ((⟨"WhichWord$Giver", "leastFor", "(IIII)I"⟩ : MethodName), prog_3_method_5_code, 6, (some .int), 2) := mm_chkY_ok (ps := [64, 539]) (mm_in3 (List.mem_of_getElem? (i := 3) rfl)) (by decide +kernel)
theorem mm_okY_19 : mm_okY ((⟨"WhichWord$Likely", "<init>", "(LWhichWord$Told;)V"⟩ : MethodName), prog_4_method_1_code, 2, none, 3) := mm_chkY_ok (ps := [63, 184]) (mm_in1 (List.mem_of_getElem? (i := 128) rfl)) (by decide +kernel)
theorem mm_okY_20 : mm_okY ((⟨"WhichWord$Likely", "of", "(II)J"⟩ : MethodName), prog_4_method_2_code, 9, (some .long), 3) := mm_chkY_ok (ps := [63, 463]) (mm_in2 (List.mem_of_getElem? (i := 168) rfl)) (by decide +kernel)
theorem mm_okY_21 : mm_okY ((⟨"WhichWord$Likely", "latestSaid", "(I)I"⟩ : MethodName), prog_4_method_3_code, 4, (some .int), 3) := mm_chkY_ok (ps := [63, 468]) (mm_in2 (List.mem_of_getElem? (i := 172) rfl)) (by decide +kernel)
theorem mm_okY_22 : mm_okY ((⟨"WhichWord$Likely", "aboveLine", "(II)J"⟩ : MethodName), prog_4_method_5_code, 7, (some .long), 3) := mm_chkY_ok (ps := [63, 477]) (mm_in2 (List.mem_of_getElem? (i := 182) rfl)) (by decide +kernel)
theorem mm_okY_23 : mm_okY ((⟨"WhichWord$Likely", "ofAll", "(I)J"⟩ : MethodName), prog_4_method_4_code, 5, (some .long), 3) := mm_chkY_ok (ps := [63, 483]) (mm_in2 (List.mem_of_getElem? (i := 187) rfl)) (by decide +kernel)
theorem mm_okY_24 : mm_okY ((⟨"WhichWord$Likely", "commonDivisor", "(JJ)J"⟩ : MethodName), prog_4_method_7_code, 11, (some .long), 0) := mm_chkY_ok (ps := [63, 486]) (mm_in2 (List.mem_of_getElem? (i := 190) rfl)) (by decide +kernel)
theorem mm_okY_25 : mm_okY ((⟨"WhichWord$Likely", "belowLine", "(II)J"⟩ : MethodName), prog_4_method_6_code, 7, (some .long), 3) := mm_chkY_ok (ps := [63, 489]) (mm_in2 (List.mem_of_getElem? (i := 194) rfl)) (by decide +kernel)
theorem mm_okY_26 : mm_okY ((⟨"WhichWord$Likely", "greatest", "(I)I"⟩ : MethodName), prog_4_method_8_code, 8, (some .int), 3) := mm_chkY_ok (ps := [63, 497]) (mm_in2 (List.mem_of_getElem? (i := 202) rfl)) (by decide +kernel)
theorem mm_okY_27 : mm_okY ((⟨"WhichWord$Scene", "<init>", "()V"⟩ : MethodName), prog_5_method_1_code, 1, none, 4) := mm_chkY_ok (ps := [61, 104]) (mm_in1 (List.mem_of_getElem? (i := 48) rfl)) (by decide +kernel)
theorem mm_okY_28 : mm_okY ((⟨"WhichWord$Scene", "addThing", "(I)V"⟩ : MethodName), prog_5_method_2_code, 2, none, 4) := mm_chkY_ok (ps := [61, 294]) (mm_in1 (List.mem_of_getElem? (i := 239) rfl)) (by decide +kernel)
theorem mm_okY_29 : mm_okY ((⟨"WhichWord$Scene", "addDoing", "(I)V"⟩ : MethodName), prog_5_method_3_code, 2, none, 4) := mm_chkY_ok (ps := [61, 306]) (mm_in2 (List.mem_of_getElem? (i := 11) rfl)) (by decide +kernel)
theorem mm_okY_30 : mm_okY ((⟨"WhichWord$Scene", "holds", "(I)Z"⟩ : MethodName), prog_5_method_6_code, 4, (some .boolean), 4) := mm_chkY_ok (ps := [61, 322]) (mm_in2 (List.mem_of_getElem? (i := 27) rfl)) (by decide +kernel)
theorem mm_okY_31 : mm_okY ((⟨"WhichWord$Scene", "countThings", "(II)I"⟩ : MethodName), prog_5_method_8_code, 5, (some .int), 4) := mm_chkY_ok (ps := [61, 333]) (mm_in2 (List.mem_of_getElem? (i := 37) rfl)) (by decide +kernel)
theorem mm_okY_32 : mm_okY ((⟨"WhichWord$Scene", "thingAt", "(I)I"⟩ : MethodName), prog_5_method_4_code, 2, (some .int), 4) := mm_chkY_ok (ps := [61, 336]) (mm_in2 (List.mem_of_getElem? (i := 41) rfl)) (by decide +kernel)
theorem mm_okY_33 : mm_okY ((⟨"WhichWord$Scene", "holdsJoined", "(I)Z"⟩ : MethodName), prog_5_method_7_code, 2, (some .boolean), 4) := mm_chkY_ok (ps := [61, 341]) (mm_in2 (List.mem_of_getElem? (i := 45) rfl)) (by decide +kernel)
theorem mm_okY_34 : mm_okY ((⟨"WhichWord$Scene", "isDone", "(III)Z"⟩ : MethodName), prog_5_method_9_code, 6, (some .boolean), 4) := mm_chkY_ok (ps := [61, 346]) (mm_in2 (List.mem_of_getElem? (i := 51) rfl)) (by decide +kernel)
theorem mm_okY_35 : mm_okY ((⟨"WhichWord$Scene", "doingAt", "(I)I"⟩ : MethodName), prog_5_method_5_code, 2, (some .int), 4) := mm_chkY_ok (ps := [61, 350]) (mm_in2 (List.mem_of_getElem? (i := 55) rfl)) (by decide +kernel)
theorem mm_okY_36 : mm_okY ((⟨"WhichWord$Text", "<init>", "()V"⟩ : MethodName), prog_6_method_1_code, 1, none, 5) := mm_chkY_ok (ps := [59, 81]) (mm_in1 (List.mem_of_getElem? (i := 25) rfl)) (by decide +kernel)
theorem mm_okY_37 : mm_okY ((⟨"WhichWord$Text", "room", "()I"⟩ : MethodName), prog_6_method_3_code, 1, (some .int), 5) := mm_chkY_ok (ps := [59, 260]) (mm_in1 (List.mem_of_getElem? (i := 205) rfl)) (by decide +kernel)
theorem mm_okY_38 : mm_okY ((⟨"WhichWord$Text", "append", "(IJ)I"⟩ : MethodName), prog_6_method_6_code, 5, (some .int), 5) := mm_chkY_ok (ps := [59, 264]) (mm_in1 (List.mem_of_getElem? (i := 209) rfl)) (by decide +kernel)
theorem mm_okY_39 : mm_okY ((⟨"WhichWord$Text", "readScene", "(LWhichWord$Scene;)Z"⟩ : MethodName), prog_6_method_7_code, 2, (some .boolean), 5) := mm_chkY_ok (ps := [59, 274]) (mm_in1 (List.mem_of_getElem? (i := 219) rfl)) (by decide +kernel)
theorem mm_okY_40 : mm_okY ((⟨"WhichWord$Text", "readThings", "(LWhichWord$Scene;)Z"⟩ : MethodName), prog_6_method_8_code, 4, (some .boolean), 5) := mm_chkY_ok (ps := [59, 279]) (mm_in1 (List.mem_of_getElem? (i := 223) rfl)) (by decide +kernel)
theorem mm_okY_41 : mm_okY ((⟨"WhichWord$Text", "readThing", "(LWhichWord$Scene;)Z"⟩ : MethodName), prog_6_method_9_code, 4, (some .boolean), 5) := mm_chkY_ok (ps := [59, 283]) (mm_in1 (List.mem_of_getElem? (i := 227) rfl)) (by decide +kernel)
theorem mm_okY_42 : mm_okY ((⟨"WhichWord$Text", "take", "(I)Z"⟩ : MethodName), prog_6_method_12_code, 2, (some .boolean), 5) := mm_chkY_ok (ps := [59, 287]) (mm_in1 (List.mem_of_getElem? (i := 231) rfl)) (by decide +kernel)
theorem mm_okY_43 : mm_okY ((⟨"WhichWord$Text", "takeOneOf", "(III)I"⟩ : MethodName), prog_6_method_13_code, 5, (some .int), 5) := mm_chkY_ok (ps := [59, 291]) (mm_in1 (List.mem_of_getElem? (i := 235) rfl)) (by decide +kernel)
theorem mm_okY_44 : mm_okY ((⟨"WhichWord$Text", "readDoings", "(LWhichWord$Scene;)Z"⟩ : MethodName), prog_6_method_10_code, 4, (some .boolean), 5) := mm_chkY_ok (ps := [59, 299]) (mm_in2 (List.mem_of_getElem? (i := 3) rfl)) (by decide +kernel)
theorem mm_okY_45 : mm_okY ((⟨"WhichWord$Text", "readDoing", "(LWhichWord$Scene;)Z"⟩ : MethodName), prog_6_method_11_code, 5, (some .boolean), 5) := mm_chkY_ok (ps := [59, 303]) (mm_in2 (List.mem_of_getElem? (i := 7) rfl)) (by decide +kernel)
theorem mm_okY_46 : mm_okY ((⟨"WhichWord$Text", "place", "()I"⟩ : MethodName), prog_6_method_4_code, 1, (some .int), 5) := mm_chkY_ok (ps := [59, 310]) (mm_in2 (List.mem_of_getElem? (i := 15) rfl)) (by decide +kernel)
theorem mm_okY_47 : mm_okY ((⟨"WhichWord$Text", "empty", "()V"⟩ : MethodName), prog_6_method_5_code, 1, none, 5) := mm_chkY_ok (ps := [59, 314]) (mm_in2 (List.mem_of_getElem? (i := 19) rfl)) (by decide +kernel)
theorem mm_okY_48 : mm_okY ((⟨"WhichWord$Text", "length", "()I"⟩ : MethodName), prog_6_method_2_code, 1, (some .int), 5) := mm_chkY_ok (ps := [59, 709]) (mm_in3 (List.mem_of_getElem? (i := 174) rfl)) (by decide +kernel)
theorem mm_okY_49 : mm_okY ((⟨"WhichWord$Told", "<init>", "()V"⟩ : MethodName), prog_7_method_1_code, 2, none, 6) := mm_chkY_ok (ps := [60, 98]) (mm_in1 (List.mem_of_getElem? (i := 42) rfl)) (by decide +kernel)
theorem mm_okY_50 : mm_okY ((⟨"WhichWord$Told", "addScene", "(LWhichWord$Scene;)I"⟩ : MethodName), prog_7_method_3_code, 4, (some .int), 6) := mm_chkY_ok (ps := [60, 318]) (mm_in2 (List.mem_of_getElem? (i := 23) rfl)) (by decide +kernel)
theorem mm_okY_51 : mm_okY ((⟨"WhichWord$Told", "dropLatest", "()I"⟩ : MethodName), prog_7_method_4_code, 3, (some .int), 6) := mm_chkY_ok (ps := [60, 358]) (mm_in2 (List.mem_of_getElem? (i := 63) rfl)) (by decide +kernel)
theorem mm_okY_52 : mm_okY ((⟨"WhichWord$Told", "dropSayingsOf", "(I)V"⟩ : MethodName), prog_7_method_5_code, 4, none, 6) := mm_chkY_ok (ps := [60, 363]) (mm_in2 (List.mem_of_getElem? (i := 67) rfl)) (by decide +kernel)
theorem mm_okY_53 : mm_okY ((⟨"WhichWord$Told", "tellSaid", "(IIZ)Z"⟩ : MethodName), prog_7_method_6_code, 4, (some .boolean), 6) := mm_chkY_ok (ps := [60, 387]) (mm_in2 (List.mem_of_getElem? (i := 92) rfl)) (by decide +kernel)
theorem mm_okY_54 : mm_okY ((⟨"WhichWord$Told", "countLeft", "(II)I"⟩ : MethodName), prog_7_method_12_code, 5, (some .int), 6) := mm_chkY_ok (ps := [60, 425]) (mm_in2 (List.mem_of_getElem? (i := 130) rfl)) (by decide +kernel)
theorem mm_okY_55 : mm_okY ((⟨"WhichWord$Told", "isLeft", "(III)Z"⟩ : MethodName), prog_7_method_11_code, 4, (some .boolean), 6) := mm_chkY_ok (ps := [60, 429]) (mm_in2 (List.mem_of_getElem? (i := 134) rfl)) (by decide +kernel)
theorem mm_okY_56 : mm_okY ((⟨"WhichWord$Told", "leftAt", "(III)I"⟩ : MethodName), prog_7_method_13_code, 6, (some .int), 6) := mm_chkY_ok (ps := [60, 434]) (mm_in2 (List.mem_of_getElem? (i := 139) rfl)) (by decide +kernel)
theorem mm_okY_57 : mm_okY ((⟨"WhichWord$Told", "heaviestLeft", "(II)I"⟩ : MethodName), prog_7_method_14_code, 7, (some .int), 6) := mm_chkY_ok (ps := [60, 442]) (mm_in2 (List.mem_of_getElem? (i := 147) rfl)) (by decide +kernel)
theorem mm_okY_58 : mm_okY ((⟨"WhichWord$Told", "countTwos", "(I)I"⟩ : MethodName), prog_7_method_16_code, 5, (some .int), 6) := mm_chkY_ok (ps := [60, 546]) (mm_in3 (List.mem_of_getElem? (i := 11) rfl)) (by decide +kernel)
theorem mm_okY_59 : mm_okY ((⟨"WhichWord$Told", "isTwo", "(III)Z"⟩ : MethodName), prog_7_method_15_code, 4, (some .boolean), 6) := mm_chkY_ok (ps := [60, 551]) (mm_in3 (List.mem_of_getElem? (i := 15) rfl)) (by decide +kernel)
theorem mm_okY_60 : mm_okY ((⟨"WhichWord$Told", "firstTwo", "(I)I"⟩ : MethodName), prog_7_method_17_code, 4, (some .int), 6) := mm_chkY_ok (ps := [60, 554]) (mm_in3 (List.mem_of_getElem? (i := 19) rfl)) (by decide +kernel)
theorem mm_okY_61 : mm_okY ((⟨"WhichWord$Told", "addSaying", "(II)I"⟩ : MethodName), prog_7_method_7_code, 3, (some .int), 6) := mm_chkY_ok (ps := [60, 572]) (mm_in3 (List.mem_of_getElem? (i := 37) rfl)) (by decide +kernel)
theorem mm_okY_62 : mm_okY ((⟨"WhichWord$Told", "fittingOrders", "()I"⟩ : MethodName), prog_7_method_19_code, 5, (some .int), 6) := mm_chkY_ok (ps := [60, 580]) (mm_in3 (List.mem_of_getElem? (i := 45) rfl)) (by decide +kernel)
theorem mm_okY_63 : mm_okY ((⟨"WhichWord$Told", "fits", "(LWhichWord$Scene;II)Z"⟩ : MethodName), prog_7_method_20_code, 7, (some .boolean), 6) := mm_chkY_ok (ps := [60, 585]) (mm_in3 (List.mem_of_getElem? (i := 49) rfl)) (by decide +kernel)
theorem mm_okY_64 : mm_okY ((⟨"WhichWord$Told", "isMark", "(I)Z"⟩ : MethodName), prog_7_method_21_code, 1, (some .boolean), 0) := mm_chkY_ok (ps := [60, 595]) (mm_in3 (List.mem_of_getElem? (i := 59) rfl)) (by decide +kernel)
theorem mm_okY_65 : mm_okY ((⟨"WhichWord$Told", "countUnparted", "()I"⟩ : MethodName), prog_7_method_18_code, 4, (some .int), 6) := mm_chkY_ok (ps := [60, 666]) (mm_in3 (List.mem_of_getElem? (i := 131) rfl)) (by decide +kernel)
theorem mm_okY_66 : mm_okY ((⟨"WhichWord$Told", "copyFrom", "(LWhichWord$Told;)V"⟩ : MethodName), prog_7_method_2_code, 3, none, 6) := mm_chkY_ok (ps := [60, 682]) (mm_in3 (List.mem_of_getElem? (i := 147) rfl)) (by decide +kernel)
theorem mm_okY_67 : mm_okY ((⟨"WhichWord$Told", "countThings", "()I"⟩ : MethodName), prog_7_method_8_code, 3, (some .int), 6) := mm_chkY_ok (ps := [60, 697]) (mm_in3 (List.mem_of_getElem? (i := 162) rfl)) (by decide +kernel)
theorem mm_okY_68 : mm_okY ((⟨"WhichWord$Told", "countDoings", "()I"⟩ : MethodName), prog_7_method_9_code, 3, (some .int), 6) := mm_chkY_ok (ps := [60, 701]) (mm_in3 (List.mem_of_getElem? (i := 166) rfl)) (by decide +kernel)
theorem mm_okY_69 : mm_okY ((⟨"WhichWord$Told", "countSaid", "()I"⟩ : MethodName), prog_7_method_10_code, 3, (some .int), 6) := mm_chkY_ok (ps := [60, 705]) (mm_in3 (List.mem_of_getElem? (i := 170) rfl)) (by decide +kernel)
theorem mm_okY_70 : mm_okY ((⟨"WhichWord", "<init>", "()V"⟩ : MethodName), prog_1_method_1_code, 2, none, 7) := mm_chkY_ok (ps := [58, 73]) (mm_in1 (List.mem_of_getElem? (i := 17) rfl)) (by decide +kernel)
theorem mm_okY_71 : mm_okY ((⟨"WhichWord", "feed", "(IJ)I"⟩ : MethodName), prog_1_method_2_code, 4, (some .int), 7) := mm_chkY_ok (ps := [58, 252]) (mm_in1 (List.mem_of_getElem? (i := 197) rfl)) (by decide +kernel)
theorem mm_okY_72 : mm_okY ((⟨"WhichWord", "refuse", "(I)I"⟩ : MethodName), prog_1_method_35_code, 3, (some .int), 7) := mm_chkY_ok (ps := [58, 257]) (mm_in1 (List.mem_of_getElem? (i := 201) rfl)) (by decide +kernel)
theorem mm_okY_73 : mm_okY ((⟨"WhichWord", "scene", "()I"⟩ : MethodName), prog_1_method_3_code, 4, (some .int), 7) := mm_chkY_ok (ps := [58, 268]) (mm_in1 (List.mem_of_getElem? (i := 213) rfl)) (by decide +kernel)
theorem mm_okY_74 : mm_okY ((⟨"WhichWord", "kindOf", "(I)I"⟩ : MethodName), prog_1_method_42_code, 3, (some .int), 0) := mm_chkY_ok (ps := [58, 326]) (mm_in2 (List.mem_of_getElem? (i := 30) rfl)) (by decide +kernel)
theorem mm_okY_75 : mm_okY ((⟨"WhichWord", "takeBack", "()I"⟩ : MethodName), prog_1_method_4_code, 1, (some .int), 7) := mm_chkY_ok (ps := [58, 354]) (mm_in2 (List.mem_of_getElem? (i := 59) rfl)) (by decide +kernel)
theorem mm_okY_76 : mm_okY ((⟨"WhichWord", "thing", "(II)I"⟩ : MethodName), prog_1_method_5_code, 3, (some .int), 7) := mm_chkY_ok (ps := [58, 366]) (mm_in2 (List.mem_of_getElem? (i := 71) rfl)) (by decide +kernel)
theorem mm_okY_77 : mm_okY ((⟨"WhichWord", "noScene", "(I)Z"⟩ : MethodName), prog_1_method_36_code, 2, (some .boolean), 7) := mm_chkY_ok (ps := [58, 371]) (mm_in2 (List.mem_of_getElem? (i := 75) rfl)) (by decide +kernel)
theorem mm_okY_78 : mm_okY ((⟨"WhichWord", "doing", "(II)I"⟩ : MethodName), prog_1_method_6_code, 3, (some .int), 7) := mm_chkY_ok (ps := [58, 375]) (mm_in2 (List.mem_of_getElem? (i := 80) rfl)) (by decide +kernel)
theorem mm_okY_79 : mm_okY ((⟨"WhichWord", "say", "(IIZ)I"⟩ : MethodName), prog_1_method_7_code, 4, (some .int), 7) := mm_chkY_ok (ps := [58, 380]) (mm_in2 (List.mem_of_getElem? (i := 85) rfl)) (by decide +kernel)
theorem mm_okY_80 : mm_okY ((⟨"WhichWord", "noWord", "(I)Z"⟩ : MethodName), prog_1_method_37_code, 1, (some .boolean), 0) := mm_chkY_ok (ps := [58, 384]) (mm_in2 (List.mem_of_getElem? (i := 88) rfl)) (by decide +kernel)
theorem mm_okY_81 : mm_okY ((⟨"WhichWord", "isIn", "(II)Z"⟩ : MethodName), prog_1_method_43_code, 2, (some .boolean), 0) := mm_chkY_ok (ps := [58, 391]) (mm_in2 (List.mem_of_getElem? (i := 95) rfl)) (by decide +kernel)
theorem mm_okY_82 : mm_okY ((⟨"WhichWord", "said", "(I)I"⟩ : MethodName), prog_1_method_8_code, 2, (some .int), 7) := mm_chkY_ok (ps := [58, 394]) (mm_in2 (List.mem_of_getElem? (i := 99) rfl)) (by decide +kernel)
theorem mm_okY_83 : mm_okY ((⟨"WhichWord", "kind", "(I)I"⟩ : MethodName), prog_1_method_9_code, 2, (some .int), 7) := mm_chkY_ok (ps := [58, 404]) (mm_in2 (List.mem_of_getElem? (i := 109) rfl)) (by decide +kernel)
theorem mm_okY_84 : mm_okY ((⟨"WhichWord", "noMeaning", "(I)Z"⟩ : MethodName), prog_1_method_38_code, 1, (some .boolean), 0) := mm_chkY_ok (ps := [58, 408]) (mm_in2 (List.mem_of_getElem? (i := 112) rfl)) (by decide +kernel)
theorem mm_okY_85 : mm_okY ((⟨"WhichWord", "weight", "(II)I"⟩ : MethodName), prog_1_method_10_code, 4, (some .int), 7) := mm_chkY_ok (ps := [58, 412]) (mm_in2 (List.mem_of_getElem? (i := 117) rfl)) (by decide +kernel)
theorem mm_okY_86 : mm_okY ((⟨"WhichWord", "has", "(II)I"⟩ : MethodName), prog_1_method_11_code, 3, (some .int), 7) := mm_chkY_ok (ps := [58, 416]) (mm_in2 (List.mem_of_getElem? (i := 121) rfl)) (by decide +kernel)
theorem mm_okY_87 : mm_okY ((⟨"WhichWord", "left", "(III)I"⟩ : MethodName), prog_1_method_12_code, 4, (some .int), 7) := mm_chkY_ok (ps := [58, 421]) (mm_in2 (List.mem_of_getElem? (i := 126) rfl)) (by decide +kernel)
theorem mm_okY_88 : mm_okY ((⟨"WhichWord", "plainest", "(II)I"⟩ : MethodName), prog_1_method_13_code, 3, (some .int), 7) := mm_chkY_ok (ps := [58, 438]) (mm_in2 (List.mem_of_getElem? (i := 143) rfl)) (by decide +kernel)
theorem mm_okY_89 : mm_okY ((⟨"WhichWord", "judge", "(II)I"⟩ : MethodName), prog_1_method_14_code, 3, (some .int), 7) := mm_chkY_ok (ps := [58, 447]) (mm_in2 (List.mem_of_getElem? (i := 152) rfl)) (by decide +kernel)
theorem mm_okY_90 : mm_okY ((⟨"WhichWord", "firstIn", "(I)I"⟩ : MethodName), prog_1_method_44_code, 2, (some .int), 0) := mm_chkY_ok (ps := [58, 451]) (mm_in2 (List.mem_of_getElem? (i := 155) rfl)) (by decide +kernel)
theorem mm_okY_91 : mm_okY ((⟨"WhichWord", "set", "(II)I"⟩ : MethodName), prog_1_method_15_code, 4, (some .int), 7) := mm_chkY_ok (ps := [58, 454]) (mm_in2 (List.mem_of_getElem? (i := 159) rfl)) (by decide +kernel)
theorem mm_okY_92 : mm_okY ((⟨"WhichWord", "likelihood", "(II)J"⟩ : MethodName), prog_1_method_16_code, 3, (some .long), 7) := mm_chkY_ok (ps := [58, 458]) (mm_in2 (List.mem_of_getElem? (i := 163) rfl)) (by decide +kernel)
theorem mm_okY_93 : mm_okY ((⟨"WhichWord", "chance", "(III)J"⟩ : MethodName), prog_1_method_17_code, 4, (some .long), 7) := mm_chkY_ok (ps := [58, 473]) (mm_in2 (List.mem_of_getElem? (i := 178) rfl)) (by decide +kernel)
theorem mm_okY_94 : mm_okY ((⟨"WhichWord", "likeliest", "(I)I"⟩ : MethodName), prog_1_method_18_code, 2, (some .int), 7) := mm_chkY_ok (ps := [58, 493]) (mm_in2 (List.mem_of_getElem? (i := 198) rfl)) (by decide +kernel)
theorem mm_okY_95 : mm_okY ((⟨"WhichWord", "givings", "(I)I"⟩ : MethodName), prog_1_method_19_code, 2, (some .int), 7) := mm_chkY_ok (ps := [58, 502]) (mm_in2 (List.mem_of_getElem? (i := 207) rfl)) (by decide +kernel)
theorem mm_okY_96 : mm_okY ((⟨"WhichWord", "noSetToGive", "(I)Z"⟩ : MethodName), prog_1_method_39_code, 1, (some .boolean), 0) := mm_chkY_ok (ps := [58, 506]) (mm_in2 (List.mem_of_getElem? (i := 210) rfl)) (by decide +kernel)
theorem mm_okY_97 : mm_okY ((⟨"WhichWord", "giving", "(II)I"⟩ : MethodName), prog_1_method_20_code, 3, (some .int), 7) := mm_chkY_ok (ps := [58, 530]) (mm_in2 (List.mem_of_getElem? (i := 235) rfl)) (by decide +kernel)
theorem mm_okY_98 : mm_okY ((⟨"WhichWord", "two", "(II)I"⟩ : MethodName), prog_1_method_21_code, 3, (some .int), 7) := mm_chkY_ok (ps := [58, 542]) (mm_in3 (List.mem_of_getElem? (i := 7) rfl)) (by decide +kernel)
theorem mm_okY_99 : mm_okY ((⟨"WhichWord", "give", "(II)I"⟩ : MethodName), prog_1_method_22_code, 4, (some .int), 7) := mm_chkY_ok (ps := [58, 558]) (mm_in3 (List.mem_of_getElem? (i := 23) rfl)) (by decide +kernel)
theorem mm_okY_100 : mm_okY ((⟨"WhichWord", "saying", "(II)I"⟩ : MethodName), prog_1_method_23_code, 3, (some .int), 7) := mm_chkY_ok (ps := [58, 562]) (mm_in3 (List.mem_of_getElem? (i := 27) rfl)) (by decide +kernel)
theorem mm_okY_101 : mm_okY ((⟨"WhichWord", "noThreeWords", "(I)Z"⟩ : MethodName), prog_1_method_40_code, 4, (some .boolean), 0) := mm_chkY_ok (ps := [58, 566]) (mm_in3 (List.mem_of_getElem? (i := 30) rfl)) (by decide +kernel)
theorem mm_okY_102 : mm_okY ((⟨"WhichWord", "wordAt", "(II)I"⟩ : MethodName), prog_1_method_41_code, 2, (some .int), 0) := mm_chkY_ok (ps := [58, 569]) (mm_in3 (List.mem_of_getElem? (i := 33) rfl)) (by decide +kernel)
theorem mm_okY_103 : mm_okY ((⟨"WhichWord", "orders", "()I"⟩ : MethodName), prog_1_method_24_code, 1, (some .int), 7) := mm_chkY_ok (ps := [58, 576]) (mm_in3 (List.mem_of_getElem? (i := 41) rfl)) (by decide +kernel)
theorem mm_okY_104 : mm_okY ((⟨"WhichWord", "next", "(I)I"⟩ : MethodName), prog_1_method_25_code, 2, (some .int), 7) := mm_chkY_ok (ps := [58, 599]) (mm_in3 (List.mem_of_getElem? (i := 64) rfl)) (by decide +kernel)
theorem mm_okY_105 : mm_okY ((⟨"WhichWord", "enough", "(I)I"⟩ : MethodName), prog_1_method_26_code, 2, (some .int), 7) := mm_chkY_ok (ps := [58, 621]) (mm_in3 (List.mem_of_getElem? (i := 86) rfl)) (by decide +kernel)
theorem mm_okY_106 : mm_okY ((⟨"WhichWord", "help", "(III)I"⟩ : MethodName), prog_1_method_27_code, 4, (some .int), 7) := mm_chkY_ok (ps := [58, 653]) (mm_in3 (List.mem_of_getElem? (i := 118) rfl)) (by decide +kernel)
theorem mm_okY_107 : mm_okY ((⟨"WhichWord", "never", "()I"⟩ : MethodName), prog_1_method_28_code, 1, (some .int), 7) := mm_chkY_ok (ps := [58, 662]) (mm_in3 (List.mem_of_getElem? (i := 127) rfl)) (by decide +kernel)
theorem mm_okY_108 : mm_okY ((⟨"WhichWord", "same", "(II)I"⟩ : MethodName), prog_1_method_29_code, 3, (some .int), 7) := mm_chkY_ok (ps := [58, 670]) (mm_in3 (List.mem_of_getElem? (i := 135) rfl)) (by decide +kernel)
theorem mm_okY_109 : mm_okY ((⟨"WhichWord", "part", "(II)I"⟩ : MethodName), prog_1_method_30_code, 3, (some .int), 7) := mm_chkY_ok (ps := [58, 674]) (mm_in3 (List.mem_of_getElem? (i := 139) rfl)) (by decide +kernel)
theorem mm_okY_110 : mm_okY ((⟨"WhichWord", "image", "()I"⟩ : MethodName), prog_1_method_31_code, 1, (some .int), 7) := mm_chkY_ok (ps := [58, 678]) (mm_in3 (List.mem_of_getElem? (i := 143) rfl)) (by decide +kernel)
theorem mm_okY_111 : mm_okY ((⟨"WhichWord", "restore", "()I"⟩ : MethodName), prog_1_method_32_code, 1, (some .int), 7) := mm_chkY_ok (ps := [58, 689]) (mm_in3 (List.mem_of_getElem? (i := 154) rfl)) (by decide +kernel)
theorem mm_okY_112 : mm_okY ((⟨"WhichWord", "count", "(I)I"⟩ : MethodName), prog_1_method_33_code, 2, (some .int), 7) := mm_chkY_ok (ps := [58, 693]) (mm_in3 (List.mem_of_getElem? (i := 158) rfl)) (by decide +kernel)
theorem mm_okY_113 : mm_okY ((⟨"WhichWord", "countRefusals", "(I)I"⟩ : MethodName), prog_1_method_34_code, 2, (some .int), 7) := mm_chkY_ok (ps := [58, 714]) (mm_in3 (List.mem_of_getElem? (i := 178) rfl)) (by decide +kernel)
theorem mm_okY_114 : mm_okY ((⟨"WhichWordModel", "<init>", "()V"⟩ : MethodName), prog_9_method_1_code, 1, none, 8) := mm_chkY_ok (ps := [66, 719]) (mm_in3 (List.mem_of_getElem? (i := 183) rfl)) (by decide +kernel)
theorem mm_okY_115 : mm_okY ((⟨"WhichWordModel", "feed", "(IJ)I"⟩ : MethodName), prog_9_method_9_code, 5, (some .int), 8) := mm_chkY_ok (ps := [66, 818]) (mm_in4 (List.mem_of_getElem? (i := 43) rfl)) (by decide +kernel)
theorem mm_okY_116 : mm_okY ((⟨"WhichWordModel", "refuse", "(I)I"⟩ : MethodName), prog_9_method_4_code, 2, (some .int), 8) := mm_chkY_ok (ps := [66, 823]) (mm_in4 (List.mem_of_getElem? (i := 47) rfl)) (by decide +kernel)
theorem mm_okY_117 : mm_okY ((⟨"WhichWordModel", "scene", "()I"⟩ : MethodName), prog_9_method_15_code, 2, (some .int), 8) := mm_chkY_ok (ps := [66, 827]) (mm_in4 (List.mem_of_getElem? (i := 52) rfl)) (by decide +kernel)
theorem mm_okY_118 : mm_okY ((⟨"WhichWordModel", "readScene", "(I)V"⟩ : MethodName), prog_9_method_14_code, 2, none, 8) := mm_chkY_ok (ps := [66, 832]) (mm_in4 (List.mem_of_getElem? (i := 56) rfl)) (by decide +kernel)
theorem mm_okY_119 : mm_okY ((⟨"WhichWordModel", "readThing", "(I)V"⟩ : MethodName), prog_9_method_11_code, 4, none, 8) := mm_chkY_ok (ps := [66, 836]) (mm_in4 (List.mem_of_getElem? (i := 60) rfl)) (by decide +kernel)
theorem mm_okY_120 : mm_okY ((⟨"WhichWordModel", "here", "()I"⟩ : MethodName), prog_9_method_10_code, 1, (some .int), 8) := mm_chkY_ok (ps := [66, 840]) (mm_in4 (List.mem_of_getElem? (i := 64) rfl)) (by decide +kernel)
theorem mm_okY_121 : mm_okY ((⟨"WhichWordModel", "in", "(JJJ)Z"⟩ : MethodName), prog_9_method_3_code, 6, (some .boolean), 0) := mm_chkY_ok (ps := [66, 844]) (mm_in4 (List.mem_of_getElem? (i := 68) rfl)) (by decide +kernel)
theorem mm_okY_122 : mm_okY ((⟨"WhichWordModel", "readDoing", "(I)V"⟩ : MethodName), prog_9_method_13_code, 6, none, 8) := mm_chkY_ok (ps := [66, 848]) (mm_in4 (List.mem_of_getElem? (i := 72) rfl)) (by decide +kernel)
theorem mm_okY_123 : mm_okY ((⟨"WhichWordModel", "readPlace", "(II)I"⟩ : MethodName), prog_9_method_12_code, 4, (some .int), 8) := mm_chkY_ok (ps := [66, 852]) (mm_in4 (List.mem_of_getElem? (i := 76) rfl)) (by decide +kernel)
theorem mm_okY_124 : mm_okY ((⟨"WhichWordModel", "findHas", "(I)V"⟩ : MethodName), prog_9_method_18_code, 7, none, 8) := mm_chkY_ok (ps := [66, 857]) (mm_in4 (List.mem_of_getElem? (i := 81) rfl)) (by decide +kernel)
theorem mm_okY_125 : mm_okY ((⟨"WhichWordModel", "manyWith", "(II)I"⟩ : MethodName), prog_9_method_17_code, 5, (some .int), 8) := mm_chkY_ok (ps := [66, 861]) (mm_in4 (List.mem_of_getElem? (i := 85) rfl)) (by decide +kernel)
theorem mm_okY_126 : mm_okY ((⟨"WhichWordModel", "hasMark", "(III)Z"⟩ : MethodName), prog_9_method_16_code, 4, (some .boolean), 8) := mm_chkY_ok (ps := [66, 865]) (mm_in4 (List.mem_of_getElem? (i := 89) rfl)) (by decide +kernel)
theorem mm_okY_127 : mm_okY ((⟨"WhichWordModel", "takeBack", "()I"⟩ : MethodName), prog_9_method_20_code, 3, (some .int), 8) := mm_chkY_ok (ps := [66, 868]) (mm_in4 (List.mem_of_getElem? (i := 93) rfl)) (by decide +kernel)
theorem mm_okY_128 : mm_okY ((⟨"WhichWordModel", "thing", "(II)I"⟩ : MethodName), prog_9_method_21_code, 3, (some .int), 8) := mm_chkY_ok (ps := [66, 872]) (mm_in4 (List.mem_of_getElem? (i := 97) rfl)) (by decide +kernel)
theorem mm_okY_129 : mm_okY ((⟨"WhichWordModel", "isScene", "(I)Z"⟩ : MethodName), prog_9_method_5_code, 2, (some .boolean), 8) := mm_chkY_ok (ps := [66, 877]) (mm_in4 (List.mem_of_getElem? (i := 101) rfl)) (by decide +kernel)
theorem mm_okY_130 : mm_okY ((⟨"WhichWordModel", "doing", "(II)I"⟩ : MethodName), prog_9_method_22_code, 4, (some .int), 8) := mm_chkY_ok (ps := [66, 880]) (mm_in4 (List.mem_of_getElem? (i := 105) rfl)) (by decide +kernel)
theorem mm_okY_131 : mm_okY ((⟨"WhichWordModel", "say", "(IIZ)I"⟩ : MethodName), prog_9_method_23_code, 5, (some .int), 8) := mm_chkY_ok (ps := [66, 884]) (mm_in4 (List.mem_of_getElem? (i := 109) rfl)) (by decide +kernel)
theorem mm_okY_132 : mm_okY ((⟨"WhichWordModel", "isWord", "(I)Z"⟩ : MethodName), prog_9_method_6_code, 1, (some .boolean), 0) := mm_chkY_ok (ps := [66, 888]) (mm_in4 (List.mem_of_getElem? (i := 112) rfl)) (by decide +kernel)
theorem mm_okY_133 : mm_okY ((⟨"WhichWordModel", "said", "(I)I"⟩ : MethodName), prog_9_method_25_code, 2, (some .int), 8) := mm_chkY_ok (ps := [66, 892]) (mm_in4 (List.mem_of_getElem? (i := 117) rfl)) (by decide +kernel)
theorem mm_okY_134 : mm_okY ((⟨"WhichWordModel", "saidIn", "(I)I"⟩ : MethodName), prog_9_method_24_code, 4, (some .int), 8) := mm_chkY_ok (ps := [66, 897]) (mm_in4 (List.mem_of_getElem? (i := 121) rfl)) (by decide +kernel)
theorem mm_okY_135 : mm_okY ((⟨"WhichWordModel", "kind", "(I)I"⟩ : MethodName), prog_9_method_26_code, 2, (some .int), 8) := mm_chkY_ok (ps := [66, 900]) (mm_in4 (List.mem_of_getElem? (i := 125) rfl)) (by decide +kernel)
theorem mm_okY_136 : mm_okY ((⟨"WhichWordModel", "isMeaning", "(I)Z"⟩ : MethodName), prog_9_method_7_code, 1, (some .boolean), 0) := mm_chkY_ok (ps := [66, 904]) (mm_in4 (List.mem_of_getElem? (i := 128) rfl)) (by decide +kernel)
theorem mm_okY_137 : mm_okY ((⟨"WhichWordModel", "kindOf", "(I)I"⟩ : MethodName), prog_9_method_19_code, 1, (some .int), 0) := mm_chkY_ok (ps := [66, 908]) (mm_in4 (List.mem_of_getElem? (i := 132) rfl)) (by decide +kernel)
theorem mm_okY_138 : mm_okY ((⟨"WhichWordModel", "weight", "(II)I"⟩ : MethodName), prog_9_method_27_code, 4, (some .int), 8) := mm_chkY_ok (ps := [66, 911]) (mm_in4 (List.mem_of_getElem? (i := 136) rfl)) (by decide +kernel)
theorem mm_okY_139 : mm_okY ((⟨"WhichWordModel", "has", "(II)I"⟩ : MethodName), prog_9_method_28_code, 3, (some .int), 8) := mm_chkY_ok (ps := [66, 916]) (mm_in4 (List.mem_of_getElem? (i := 141) rfl)) (by decide +kernel)
theorem mm_okY_140 : mm_okY ((⟨"WhichWordModel", "left", "(III)I"⟩ : MethodName), prog_9_method_30_code, 6, (some .int), 8) := mm_chkY_ok (ps := [66, 920]) (mm_in4 (List.mem_of_getElem? (i := 145) rfl)) (by decide +kernel)
theorem mm_okY_141 : mm_okY ((⟨"WhichWordModel", "isLeft", "(III)Z"⟩ : MethodName), prog_9_method_29_code, 6, (some .boolean), 8) := mm_chkY_ok (ps := [66, 925]) (mm_in4 (List.mem_of_getElem? (i := 149) rfl)) (by decide +kernel)
theorem mm_okY_142 : mm_okY ((⟨"WhichWordModel", "plainest", "(II)I"⟩ : MethodName), prog_9_method_31_code, 6, (some .int), 8) := mm_chkY_ok (ps := [66, 928]) (mm_in4 (List.mem_of_getElem? (i := 153) rfl)) (by decide +kernel)
theorem mm_okY_143 : mm_okY ((⟨"WhichWordModel", "judge", "(II)I"⟩ : MethodName), prog_9_method_32_code, 4, (some .int), 8) := mm_chkY_ok (ps := [66, 932]) (mm_in4 (List.mem_of_getElem? (i := 157) rfl)) (by decide +kernel)
theorem mm_okY_144 : mm_okY ((⟨"WhichWordModel", "set", "(II)I"⟩ : MethodName), prog_9_method_33_code, 4, (some .int), 8) := mm_chkY_ok (ps := [66, 936]) (mm_in4 (List.mem_of_getElem? (i := 161) rfl)) (by decide +kernel)
theorem mm_okY_145 : mm_okY ((⟨"WhichWordModel", "likelihood", "(II)J"⟩ : MethodName), prog_9_method_35_code, 3, (some .long), 8) := mm_chkY_ok (ps := [66, 940]) (mm_in4 (List.mem_of_getElem? (i := 165) rfl)) (by decide +kernel)
theorem mm_okY_146 : mm_okY ((⟨"WhichWordModel", "likelihoodOf", "(II)J"⟩ : MethodName), prog_9_method_34_code, 7, (some .long), 8) := mm_chkY_ok (ps := [66, 945]) (mm_in4 (List.mem_of_getElem? (i := 169) rfl)) (by decide +kernel)
theorem mm_okY_147 : mm_okY ((⟨"WhichWordModel", "chance", "(III)J"⟩ : MethodName), prog_9_method_37_code, 10, (some .long), 8) := mm_chkY_ok (ps := [66, 949]) (mm_in4 (List.mem_of_getElem? (i := 174) rfl)) (by decide +kernel)
theorem mm_okY_148 : mm_okY ((⟨"WhichWordModel", "divisor", "(JJ)J"⟩ : MethodName), prog_9_method_36_code, 10, (some .long), 0) := mm_chkY_ok (ps := [66, 953]) (mm_in4 (List.mem_of_getElem? (i := 177) rfl)) (by decide +kernel)
theorem mm_okY_149 : mm_okY ((⟨"WhichWordModel", "likeliest", "(I)I"⟩ : MethodName), prog_9_method_38_code, 4, (some .int), 8) := mm_chkY_ok (ps := [66, 956]) (mm_in4 (List.mem_of_getElem? (i := 181) rfl)) (by decide +kernel)
theorem mm_okY_150 : mm_okY ((⟨"WhichWordModel", "givings", "(I)I"⟩ : MethodName), prog_9_method_42_code, 5, (some .int), 8) := mm_chkY_ok (ps := [66, 960]) (mm_in4 (List.mem_of_getElem? (i := 185) rfl)) (by decide +kernel)
theorem mm_okY_151 : mm_okY ((⟨"WhichWordModel", "isSet", "(I)Z"⟩ : MethodName), prog_9_method_39_code, 2, (some .boolean), 8) := mm_chkY_ok (ps := [66, 965]) (mm_in4 (List.mem_of_getElem? (i := 189) rfl)) (by decide +kernel)
theorem mm_okY_152 : mm_okY ((⟨"WhichWordModel", "ones", "(I)I"⟩ : MethodName), prog_9_method_8_code, 3, (some .int), 0) := mm_chkY_ok (ps := [66, 969]) (mm_in4 (List.mem_of_getElem? (i := 193) rfl)) (by decide +kernel)
theorem mm_okY_153 : mm_okY ((⟨"WhichWordModel", "findWords", "(I)V"⟩ : MethodName), prog_9_method_40_code, 3, none, 8) := mm_chkY_ok (ps := [66, 973]) (mm_in4 (List.mem_of_getElem? (i := 197) rfl)) (by decide +kernel)
theorem mm_okY_154 : mm_okY ((⟨"WhichWordModel", "commonTo", "(I)I"⟩ : MethodName), prog_9_method_41_code, 6, (some .int), 8) := mm_chkY_ok (ps := [66, 977]) (mm_in4 (List.mem_of_getElem? (i := 201) rfl)) (by decide +kernel)
theorem mm_okY_155 : mm_okY ((⟨"WhichWordModel", "giving", "(II)I"⟩ : MethodName), prog_9_method_46_code, 5, (some .int), 8) := mm_chkY_ok (ps := [66, 980]) (mm_in4 (List.mem_of_getElem? (i := 205) rfl)) (by decide +kernel)
theorem mm_okY_156 : mm_okY ((⟨"WhichWordModel", "findFirst", "(I)Z"⟩ : MethodName), prog_9_method_43_code, 5, (some .boolean), 8) := mm_chkY_ok (ps := [66, 985]) (mm_in4 (List.mem_of_getElem? (i := 209) rfl)) (by decide +kernel)
theorem mm_okY_157 : mm_okY ((⟨"WhichWordModel", "canHave", "(I)Z"⟩ : MethodName), prog_9_method_44_code, 5, (some .boolean), 8) := mm_chkY_ok (ps := [66, 989]) (mm_in4 (List.mem_of_getElem? (i := 213) rfl)) (by decide +kernel)
theorem mm_okY_158 : mm_okY ((⟨"WhichWordModel", "isOneLeft", "(I)Z"⟩ : MethodName), prog_9_method_45_code, 3, (some .boolean), 8) := mm_chkY_ok (ps := [66, 993]) (mm_in4 (List.mem_of_getElem? (i := 217) rfl)) (by decide +kernel)
theorem mm_okY_159 : mm_okY ((⟨"WhichWordModel", "two", "(II)I"⟩ : MethodName), prog_9_method_47_code, 9, (some .int), 8) := mm_chkY_ok (ps := [66, 996]) (mm_in4 (List.mem_of_getElem? (i := 221) rfl)) (by decide +kernel)
theorem mm_okY_160 : mm_okY ((⟨"WhichWordModel", "give", "(II)I"⟩ : MethodName), prog_9_method_48_code, 4, (some .int), 8) := mm_chkY_ok (ps := [66, 1000]) (mm_in4 (List.mem_of_getElem? (i := 225) rfl)) (by decide +kernel)
theorem mm_okY_161 : mm_okY ((⟨"WhichWordModel", "saying", "(II)I"⟩ : MethodName), prog_9_method_49_code, 6, (some .int), 8) := mm_chkY_ok (ps := [66, 1004]) (mm_in4 (List.mem_of_getElem? (i := 229) rfl)) (by decide +kernel)
theorem mm_okY_162 : mm_okY ((⟨"WhichWordModel", "orders", "()I"⟩ : MethodName), prog_9_method_52_code, 5, (some .int), 8) := mm_chkY_ok (ps := [66, 1008]) (mm_in4 (List.mem_of_getElem? (i := 233) rfl)) (by decide +kernel)
theorem mm_okY_163 : mm_okY ((⟨"WhichWordModel", "fits", "(II)Z"⟩ : MethodName), prog_9_method_51_code, 7, (some .boolean), 8) := mm_chkY_ok (ps := [66, 1013]) (mm_in4 (List.mem_of_getElem? (i := 237) rfl)) (by decide +kernel)
theorem mm_okY_164 : mm_okY ((⟨"WhichWordModel", "isDone", "(IIII)Z"⟩ : MethodName), prog_9_method_50_code, 7, (some .boolean), 8) := mm_chkY_ok (ps := [66, 1017]) (mm_in5 (List.mem_of_getElem? (i := 1) rfl)) (by decide +kernel)
theorem mm_okY_165 : mm_okY ((⟨"WhichWordModel", "next", "(I)I"⟩ : MethodName), prog_9_method_53_code, 9, (some .int), 8) := mm_chkY_ok (ps := [66, 1022]) (mm_in5 (List.mem_of_getElem? (i := 7) rfl)) (by decide +kernel)
theorem mm_okY_166 : mm_okY ((⟨"WhichWordModel", "enough", "(I)I"⟩ : MethodName), prog_9_method_58_code, 4, (some .int), 8) := mm_chkY_ok (ps := [66, 1026]) (mm_in5 (List.mem_of_getElem? (i := 11) rfl)) (by decide +kernel)
theorem mm_okY_167 : mm_okY ((⟨"WhichWordModel", "findShown", "(I)V"⟩ : MethodName), prog_9_method_54_code, 3, none, 8) := mm_chkY_ok (ps := [66, 1031]) (mm_in5 (List.mem_of_getElem? (i := 15) rfl)) (by decide +kernel)
theorem mm_okY_168 : mm_okY ((⟨"WhichWordModel", "findUnlike", "(I)V"⟩ : MethodName), prog_9_method_55_code, 6, none, 8) := mm_chkY_ok (ps := [66, 1035]) (mm_in5 (List.mem_of_getElem? (i := 19) rfl)) (by decide +kernel)
theorem mm_okY_169 : mm_okY ((⟨"WhichWordModel", "partsAll", "(I)Z"⟩ : MethodName), prog_9_method_56_code, 4, (some .boolean), 8) := mm_chkY_ok (ps := [66, 1039]) (mm_in5 (List.mem_of_getElem? (i := 23) rfl)) (by decide +kernel)
theorem mm_okY_170 : mm_okY ((⟨"WhichWordModel", "scenesOf", "(I)I"⟩ : MethodName), prog_9_method_57_code, 4, (some .int), 8) := mm_chkY_ok (ps := [66, 1043]) (mm_in5 (List.mem_of_getElem? (i := 27) rfl)) (by decide +kernel)
theorem mm_okY_171 : mm_okY ((⟨"WhichWordModel", "help", "(III)I"⟩ : MethodName), prog_9_method_59_code, 9, (some .int), 8) := mm_chkY_ok (ps := [66, 1046]) (mm_in5 (List.mem_of_getElem? (i := 31) rfl)) (by decide +kernel)
theorem mm_okY_172 : mm_okY ((⟨"WhichWordModel", "leftBy", "(II)I"⟩ : MethodName), prog_9_method_60_code, 7, (some .int), 8) := mm_chkY_ok (ps := [66, 1051]) (mm_in5 (List.mem_of_getElem? (i := 35) rfl)) (by decide +kernel)
theorem mm_okY_173 : mm_okY ((⟨"WhichWordModel", "never", "()I"⟩ : MethodName), prog_9_method_62_code, 4, (some .int), 8) := mm_chkY_ok (ps := [66, 1054]) (mm_in5 (List.mem_of_getElem? (i := 39) rfl)) (by decide +kernel)
theorem mm_okY_174 : mm_okY ((⟨"WhichWordModel", "partOf", "(II)I"⟩ : MethodName), prog_9_method_61_code, 4, (some .int), 8) := mm_chkY_ok (ps := [66, 1059]) (mm_in5 (List.mem_of_getElem? (i := 43) rfl)) (by decide +kernel)
theorem mm_okY_175 : mm_okY ((⟨"WhichWordModel", "same", "(II)I"⟩ : MethodName), prog_9_method_63_code, 3, (some .int), 8) := mm_chkY_ok (ps := [66, 1062]) (mm_in5 (List.mem_of_getElem? (i := 47) rfl)) (by decide +kernel)
theorem mm_okY_176 : mm_okY ((⟨"WhichWordModel", "part", "(II)I"⟩ : MethodName), prog_9_method_64_code, 3, (some .int), 8) := mm_chkY_ok (ps := [66, 1066]) (mm_in5 (List.mem_of_getElem? (i := 51) rfl)) (by decide +kernel)
theorem mm_okY_177 : mm_okY ((⟨"WhichWordModel", "image", "()I"⟩ : MethodName), prog_9_method_67_code, 1, (some .int), 8) := mm_chkY_ok (ps := [66, 1070]) (mm_in5 (List.mem_of_getElem? (i := 55) rfl)) (by decide +kernel)
theorem mm_okY_178 : mm_okY ((⟨"WhichWordModel", "moveAll", "()V"⟩ : MethodName), prog_9_method_66_code, 3, none, 8) := mm_chkY_ok (ps := [66, 1075]) (mm_in5 (List.mem_of_getElem? (i := 59) rfl)) (by decide +kernel)
theorem mm_okY_179 : mm_okY ((⟨"WhichWordModel", "move", "(I)I"⟩ : MethodName), prog_9_method_65_code, 2, (some .int), 8) := mm_chkY_ok (ps := [66, 1079]) (mm_in5 (List.mem_of_getElem? (i := 63) rfl)) (by decide +kernel)
theorem mm_okY_180 : mm_okY ((⟨"WhichWordModel", "restore", "()I"⟩ : MethodName), prog_9_method_68_code, 2, (some .int), 8) := mm_chkY_ok (ps := [66, 1082]) (mm_in5 (List.mem_of_getElem? (i := 67) rfl)) (by decide +kernel)
theorem mm_okY_181 : mm_okY ((⟨"WhichWordModel", "count", "(I)I"⟩ : MethodName), prog_9_method_69_code, 4, (some .int), 8) := mm_chkY_ok (ps := [66, 1086]) (mm_in5 (List.mem_of_getElem? (i := 71) rfl)) (by decide +kernel)
theorem mm_okY_182 : mm_okY ((⟨"java/util/Arrays", "fill", "([II)V"⟩ : MethodName), prog_13_method_103_code, 4, none, 0) := mm_chkY_ok (ps := [62, 125]) (mm_in1 (List.mem_of_getElem? (i := 69) rfl)) (by decide +kernel)
theorem mm_okY_183 : mm_okY ((⟨"java/lang/Integer", "bitCount", "(I)I"⟩ : MethodName), prog_10_method_49_code, 1, (some .int), 0) := mm_chkY_ok (ps := [67, 398]) (mm_in2 (List.mem_of_getElem? (i := 102) rfl)) (by decide +kernel)
theorem mm_okY_lt_20 : ∀ j, j < 20 → mm_okY (mm_Yt j) := (lt_s (lt_s (lt_s (lt_s (lt_s (lt_s (lt_s (lt_s (lt_s (lt_s (lt_s (lt_s (lt_s (lt_s (lt_s (lt_s (lt_s (lt_s (lt_s (lt_s (fun a h => absurd h (Nat.not_lt_zero a)) mm_okY_0) mm_okY_1) mm_okY_2) mm_okY_3) mm_okY_4) mm_okY_5) mm_okY_6) mm_okY_7) mm_okY_8) mm_okY_9) mm_okY_10) mm_okY_11) mm_okY_12) mm_okY_13) mm_okY_14) mm_okY_15) mm_okY_16) mm_okY_17) mm_okY_18) mm_okY_19)
theorem mm_okY_lt_40 : ∀ j, j < 40 → mm_okY (mm_Yt j) := (lt_s (lt_s (lt_s (lt_s (lt_s (lt_s (lt_s (lt_s (lt_s (lt_s (lt_s (lt_s (lt_s (lt_s (lt_s (lt_s (lt_s (lt_s (lt_s (lt_s mm_okY_lt_20 mm_okY_20) mm_okY_21) mm_okY_22) mm_okY_23) mm_okY_24) mm_okY_25) mm_okY_26) mm_okY_27) mm_okY_28) mm_okY_29) mm_okY_30) mm_okY_31) mm_okY_32) mm_okY_33) mm_okY_34) mm_okY_35) mm_okY_36) mm_okY_37) mm_okY_38) mm_okY_39)
theorem mm_okY_lt_60 : ∀ j, j < 60 → mm_okY (mm_Yt j) := (lt_s (lt_s (lt_s (lt_s (lt_s (lt_s (lt_s (lt_s (lt_s (lt_s (lt_s (lt_s (lt_s (lt_s (lt_s (lt_s (lt_s (lt_s (lt_s (lt_s mm_okY_lt_40 mm_okY_40) mm_okY_41) mm_okY_42) mm_okY_43) mm_okY_44) mm_okY_45) mm_okY_46) mm_okY_47) mm_okY_48) mm_okY_49) mm_okY_50) mm_okY_51) mm_okY_52) mm_okY_53) mm_okY_54) mm_okY_55) mm_okY_56) mm_okY_57) mm_okY_58) mm_okY_59)
theorem mm_okY_lt_80 : ∀ j, j < 80 → mm_okY (mm_Yt j) := (lt_s (lt_s (lt_s (lt_s (lt_s (lt_s (lt_s (lt_s (lt_s (lt_s (lt_s (lt_s (lt_s (lt_s (lt_s (lt_s (lt_s (lt_s (lt_s (lt_s mm_okY_lt_60 mm_okY_60) mm_okY_61) mm_okY_62) mm_okY_63) mm_okY_64) mm_okY_65) mm_okY_66) mm_okY_67) mm_okY_68) mm_okY_69) mm_okY_70) mm_okY_71) mm_okY_72) mm_okY_73) mm_okY_74) mm_okY_75) mm_okY_76) mm_okY_77) mm_okY_78) mm_okY_79)
theorem mm_okY_lt_100 : ∀ j, j < 100 → mm_okY (mm_Yt j) := (lt_s (lt_s (lt_s (lt_s (lt_s (lt_s (lt_s (lt_s (lt_s (lt_s (lt_s (lt_s (lt_s (lt_s (lt_s (lt_s (lt_s (lt_s (lt_s (lt_s mm_okY_lt_80 mm_okY_80) mm_okY_81) mm_okY_82) mm_okY_83) mm_okY_84) mm_okY_85) mm_okY_86) mm_okY_87) mm_okY_88) mm_okY_89) mm_okY_90) mm_okY_91) mm_okY_92) mm_okY_93) mm_okY_94) mm_okY_95) mm_okY_96) mm_okY_97) mm_okY_98) mm_okY_99)
theorem mm_okY_lt_120 : ∀ j, j < 120 → mm_okY (mm_Yt j) := (lt_s (lt_s (lt_s (lt_s (lt_s (lt_s (lt_s (lt_s (lt_s (lt_s (lt_s (lt_s (lt_s (lt_s (lt_s (lt_s (lt_s (lt_s (lt_s (lt_s mm_okY_lt_100 mm_okY_100) mm_okY_101) mm_okY_102) mm_okY_103) mm_okY_104) mm_okY_105) mm_okY_106) mm_okY_107) mm_okY_108) mm_okY_109) mm_okY_110) mm_okY_111) mm_okY_112) mm_okY_113) mm_okY_114) mm_okY_115) mm_okY_116) mm_okY_117) mm_okY_118) mm_okY_119)
theorem mm_okY_lt_140 : ∀ j, j < 140 → mm_okY (mm_Yt j) := (lt_s (lt_s (lt_s (lt_s (lt_s (lt_s (lt_s (lt_s (lt_s (lt_s (lt_s (lt_s (lt_s (lt_s (lt_s (lt_s (lt_s (lt_s (lt_s (lt_s mm_okY_lt_120 mm_okY_120) mm_okY_121) mm_okY_122) mm_okY_123) mm_okY_124) mm_okY_125) mm_okY_126) mm_okY_127) mm_okY_128) mm_okY_129) mm_okY_130) mm_okY_131) mm_okY_132) mm_okY_133) mm_okY_134) mm_okY_135) mm_okY_136) mm_okY_137) mm_okY_138) mm_okY_139)
theorem mm_okY_lt_160 : ∀ j, j < 160 → mm_okY (mm_Yt j) := (lt_s (lt_s (lt_s (lt_s (lt_s (lt_s (lt_s (lt_s (lt_s (lt_s (lt_s (lt_s (lt_s (lt_s (lt_s (lt_s (lt_s (lt_s (lt_s (lt_s mm_okY_lt_140 mm_okY_140) mm_okY_141) mm_okY_142) mm_okY_143) mm_okY_144) mm_okY_145) mm_okY_146) mm_okY_147) mm_okY_148) mm_okY_149) mm_okY_150) mm_okY_151) mm_okY_152) mm_okY_153) mm_okY_154) mm_okY_155) mm_okY_156) mm_okY_157) mm_okY_158) mm_okY_159)
theorem mm_okY_lt_180 : ∀ j, j < 180 → mm_okY (mm_Yt j) := (lt_s (lt_s (lt_s (lt_s (lt_s (lt_s (lt_s (lt_s (lt_s (lt_s (lt_s (lt_s (lt_s (lt_s (lt_s (lt_s (lt_s (lt_s (lt_s (lt_s mm_okY_lt_160 mm_okY_160) mm_okY_161) mm_okY_162) mm_okY_163) mm_okY_164) mm_okY_165) mm_okY_166) mm_okY_167) mm_okY_168) mm_okY_169) mm_okY_170) mm_okY_171) mm_okY_172) mm_okY_173) mm_okY_174) mm_okY_175) mm_okY_176) mm_okY_177) mm_okY_178) mm_okY_179)
theorem mm_okY_lt_184 : ∀ j, j < 184 → mm_okY (mm_Yt j) := (lt_s (lt_s (lt_s (lt_s mm_okY_lt_180 mm_okY_180) mm_okY_181) mm_okY_182) mm_okY_183)
theorem mm_Yt_ok : ∀ j, j < 184 → mm_okY (mm_Yt j) := mm_okY_lt_184
