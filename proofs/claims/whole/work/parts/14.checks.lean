/-! every method's resolved code is its code -/
theorem ck_Chooser_init : mm_chkL 184 mm_Yt "WhichWord$Chooser" true prog_2_method_1_code none cd_Chooser_init cp_Chooser_init = true := by decide +kernel
theorem ck_Chooser_evenest : mm_chkL 184 mm_Yt "WhichWord$Chooser" false prog_2_method_2_code (some .int) cd_Chooser_evenest cp_Chooser_evenest = true := by decide +kernel
theorem ck_Chooser_shownFor : mm_chkL 184 mm_Yt "WhichWord$Chooser" false prog_2_method_5_code (some .int) cd_Chooser_shownFor cp_Chooser_shownFor = true := by decide +kernel
theorem ck_Chooser_countLeftHad : mm_chkL 184 mm_Yt "WhichWord$Chooser" false prog_2_method_7_code (some .int) cd_Chooser_countLeftHad cp_Chooser_countLeftHad = true := by decide +kernel
theorem ck_Chooser_fewestParting : mm_chkL 184 mm_Yt "WhichWord$Chooser" false prog_2_method_3_code (some .int) cd_Chooser_fewestParting cp_Chooser_fewestParting = true := by decide +kernel
theorem ck_Chooser_firstShownFor : mm_chkL 184 mm_Yt "WhichWord$Chooser" false prog_2_method_6_code (some .int) cd_Chooser_firstShownFor cp_Chooser_firstShownFor = true := by decide +kernel
theorem ck_Chooser_listUnlike : mm_chkL 184 mm_Yt "WhichWord$Chooser" false prog_2_method_8_code none cd_Chooser_listUnlike cp_Chooser_listUnlike = true := by decide +kernel
theorem ck_Chooser_addUnlike : mm_chkL 184 mm_Yt "WhichWord$Chooser" false prog_2_method_9_code none cd_Chooser_addUnlike cp_Chooser_addUnlike = true := by decide +kernel
theorem ck_Chooser_listSets : mm_chkL 184 mm_Yt "WhichWord$Chooser" false prog_2_method_11_code none cd_Chooser_listSets cp_Chooser_listSets = true := by decide +kernel
theorem ck_Chooser_addSets : mm_chkL 184 mm_Yt "WhichWord$Chooser" false prog_2_method_12_code none cd_Chooser_addSets cp_Chooser_addSets = true := by decide +kernel
theorem ck_Chooser_partsAll : mm_chkL 184 mm_Yt "WhichWord$Chooser" false prog_2_method_10_code (some .boolean) cd_Chooser_partsAll cp_Chooser_partsAll = true := by decide +kernel
theorem ck_Chooser_mostTelling : mm_chkL 184 mm_Yt "WhichWord$Chooser" false prog_2_method_4_code (some .int) cd_Chooser_mostTelling cp_Chooser_mostTelling = true := by decide +kernel
theorem ck_Giver_init : mm_chkL 184 mm_Yt "WhichWord$Giver" true prog_3_method_1_code none cd_Giver_init cp_Giver_init = true := by decide +kernel
theorem ck_Giver_countWays : mm_chkL 184 mm_Yt "WhichWord$Giver" false prog_3_method_2_code (some .int) cd_Giver_countWays cp_Giver_countWays = true := by decide +kernel
theorem ck_Giver_countLefts : mm_chkL 184 mm_Yt "WhichWord$Giver" false prog_3_method_4_code none cd_Giver_countLefts cp_Giver_countLefts = true := by decide +kernel
theorem ck_Giver_ways : mm_chkL 184 mm_Yt "WhichWord$Giver" false prog_3_method_6_code (some .int) cd_Giver_ways cp_Giver_ways = true := by decide +kernel
theorem ck_Giver_lost : mm_chkL 184 mm_Yt "WhichWord$Giver" false prog_3_method_7_code (some .int) cd_Giver_lost cp_Giver_lost = true := by decide +kernel
theorem ck_Giver_firstFor : mm_chkL 184 mm_Yt "WhichWord$Giver" false prog_3_method_3_code (some .int) cd_Giver_firstFor cp_Giver_firstFor = true := by decide +kernel
theorem ck_Giver_leastFor : mm_chkL 184 mm_Yt "WhichWord$Giver" false prog_3_method_5_code (some .int) cd_Giver_leastFor cp_Giver_leastFor = true := by decide +kernel
theorem ck_Likely_init : mm_chkL 184 mm_Yt "WhichWord$Likely" true prog_4_method_1_code none cd_Likely_init cp_Likely_init = true := by decide +kernel
theorem ck_Likely_of : mm_chkL 184 mm_Yt "WhichWord$Likely" false prog_4_method_2_code (some .long) cd_Likely_of cp_Likely_of = true := by decide +kernel
theorem ck_Likely_latestSaid : mm_chkL 184 mm_Yt "WhichWord$Likely" false prog_4_method_3_code (some .int) cd_Likely_latestSaid cp_Likely_latestSaid = true := by decide +kernel
theorem ck_Likely_aboveLine : mm_chkL 184 mm_Yt "WhichWord$Likely" false prog_4_method_5_code (some .long) cd_Likely_aboveLine cp_Likely_aboveLine = true := by decide +kernel
theorem ck_Likely_ofAll : mm_chkL 184 mm_Yt "WhichWord$Likely" false prog_4_method_4_code (some .long) cd_Likely_ofAll cp_Likely_ofAll = true := by decide +kernel
theorem ck_Likely_commonDivisor : mm_chkL 184 mm_Yt "WhichWord$Likely" false prog_4_method_7_code (some .long) cd_Likely_commonDivisor cp_Likely_commonDivisor = true := by decide +kernel
theorem ck_Likely_belowLine : mm_chkL 184 mm_Yt "WhichWord$Likely" false prog_4_method_6_code (some .long) cd_Likely_belowLine cp_Likely_belowLine = true := by decide +kernel
theorem ck_Likely_greatest : mm_chkL 184 mm_Yt "WhichWord$Likely" false prog_4_method_8_code (some .int) cd_Likely_greatest cp_Likely_greatest = true := by decide +kernel
theorem ck_Scene_init : mm_chkL 184 mm_Yt "WhichWord$Scene" true prog_5_method_1_code none cd_Scene_init cp_Scene_init = true := by decide +kernel
theorem ck_Scene_addThing : mm_chkL 184 mm_Yt "WhichWord$Scene" false prog_5_method_2_code none cd_Scene_addThing cp_Scene_addThing = true := by decide +kernel
theorem ck_Scene_addDoing : mm_chkL 184 mm_Yt "WhichWord$Scene" false prog_5_method_3_code none cd_Scene_addDoing cp_Scene_addDoing = true := by decide +kernel
theorem ck_Scene_holds : mm_chkL 184 mm_Yt "WhichWord$Scene" false prog_5_method_6_code (some .boolean) cd_Scene_holds cp_Scene_holds = true := by decide +kernel
theorem ck_Scene_countThings : mm_chkL 184 mm_Yt "WhichWord$Scene" false prog_5_method_8_code (some .int) cd_Scene_countThings cp_Scene_countThings = true := by decide +kernel
theorem ck_Scene_thingAt : mm_chkL 184 mm_Yt "WhichWord$Scene" false prog_5_method_4_code (some .int) cd_Scene_thingAt cp_Scene_thingAt = true := by decide +kernel
theorem ck_Scene_holdsJoined : mm_chkL 184 mm_Yt "WhichWord$Scene" false prog_5_method_7_code (some .boolean) cd_Scene_holdsJoined cp_Scene_holdsJoined = true := by decide +kernel
theorem ck_Scene_isDone : mm_chkL 184 mm_Yt "WhichWord$Scene" false prog_5_method_9_code (some .boolean) cd_Scene_isDone cp_Scene_isDone = true := by decide +kernel
theorem ck_Scene_doingAt : mm_chkL 184 mm_Yt "WhichWord$Scene" false prog_5_method_5_code (some .int) cd_Scene_doingAt cp_Scene_doingAt = true := by decide +kernel
theorem ck_Text_init : mm_chkL 184 mm_Yt "WhichWord$Text" true prog_6_method_1_code none cd_Text_init cp_Text_init = true := by decide +kernel
theorem ck_Text_room : mm_chkL 184 mm_Yt "WhichWord$Text" false prog_6_method_3_code (some .int) cd_Text_room cp_Text_room = true := by decide +kernel
theorem ck_Text_append : mm_chkL 184 mm_Yt "WhichWord$Text" false prog_6_method_6_code (some .int) cd_Text_append cp_Text_append = true := by decide +kernel
theorem ck_Text_readScene : mm_chkL 184 mm_Yt "WhichWord$Text" false prog_6_method_7_code (some .boolean) cd_Text_readScene cp_Text_readScene = true := by decide +kernel
theorem ck_Text_readThings : mm_chkL 184 mm_Yt "WhichWord$Text" false prog_6_method_8_code (some .boolean) cd_Text_readThings cp_Text_readThings = true := by decide +kernel
theorem ck_Text_readThing : mm_chkL 184 mm_Yt "WhichWord$Text" false prog_6_method_9_code (some .boolean) cd_Text_readThing cp_Text_readThing = true := by decide +kernel
theorem ck_Text_take : mm_chkL 184 mm_Yt "WhichWord$Text" false prog_6_method_12_code (some .boolean) cd_Text_take cp_Text_take = true := by decide +kernel
theorem ck_Text_takeOneOf : mm_chkL 184 mm_Yt "WhichWord$Text" false prog_6_method_13_code (some .int) cd_Text_takeOneOf cp_Text_takeOneOf = true := by decide +kernel
theorem ck_Text_readDoings : mm_chkL 184 mm_Yt "WhichWord$Text" false prog_6_method_10_code (some .boolean) cd_Text_readDoings cp_Text_readDoings = true := by decide +kernel
theorem ck_Text_readDoing : mm_chkL 184 mm_Yt "WhichWord$Text" false prog_6_method_11_code (some .boolean) cd_Text_readDoing cp_Text_readDoing = true := by decide +kernel
theorem ck_Text_place : mm_chkL 184 mm_Yt "WhichWord$Text" false prog_6_method_4_code (some .int) cd_Text_place cp_Text_place = true := by decide +kernel
theorem ck_Text_empty : mm_chkL 184 mm_Yt "WhichWord$Text" false prog_6_method_5_code none cd_Text_empty cp_Text_empty = true := by decide +kernel
theorem ck_Text_length : mm_chkL 184 mm_Yt "WhichWord$Text" false prog_6_method_2_code (some .int) cd_Text_length cp_Text_length = true := by decide +kernel
theorem ck_Told_init : mm_chkL 184 mm_Yt "WhichWord$Told" true prog_7_method_1_code none cd_Told_init cp_Told_init = true := by decide +kernel
theorem ck_Told_addScene : mm_chkL 184 mm_Yt "WhichWord$Told" false prog_7_method_3_code (some .int) cd_Told_addScene cp_Told_addScene = true := by decide +kernel
theorem ck_Told_dropLatest : mm_chkL 184 mm_Yt "WhichWord$Told" false prog_7_method_4_code (some .int) cd_Told_dropLatest cp_Told_dropLatest = true := by decide +kernel
theorem ck_Told_dropSayingsOf : mm_chkL 184 mm_Yt "WhichWord$Told" false prog_7_method_5_code none cd_Told_dropSayingsOf cp_Told_dropSayingsOf = true := by decide +kernel
theorem ck_Told_tellSaid : mm_chkL 184 mm_Yt "WhichWord$Told" false prog_7_method_6_code (some .boolean) cd_Told_tellSaid cp_Told_tellSaid = true := by decide +kernel
theorem ck_Told_countLeft : mm_chkL 184 mm_Yt "WhichWord$Told" false prog_7_method_12_code (some .int) cd_Told_countLeft cp_Told_countLeft = true := by decide +kernel
theorem ck_Told_isLeft : mm_chkL 184 mm_Yt "WhichWord$Told" false prog_7_method_11_code (some .boolean) cd_Told_isLeft cp_Told_isLeft = true := by decide +kernel
theorem ck_Told_leftAt : mm_chkL 184 mm_Yt "WhichWord$Told" false prog_7_method_13_code (some .int) cd_Told_leftAt cp_Told_leftAt = true := by decide +kernel
theorem ck_Told_heaviestLeft : mm_chkL 184 mm_Yt "WhichWord$Told" false prog_7_method_14_code (some .int) cd_Told_heaviestLeft cp_Told_heaviestLeft = true := by decide +kernel
theorem ck_Told_countTwos : mm_chkL 184 mm_Yt "WhichWord$Told" false prog_7_method_16_code (some .int) cd_Told_countTwos cp_Told_countTwos = true := by decide +kernel
theorem ck_Told_isTwo : mm_chkL 184 mm_Yt "WhichWord$Told" false prog_7_method_15_code (some .boolean) cd_Told_isTwo cp_Told_isTwo = true := by decide +kernel
theorem ck_Told_firstTwo : mm_chkL 184 mm_Yt "WhichWord$Told" false prog_7_method_17_code (some .int) cd_Told_firstTwo cp_Told_firstTwo = true := by decide +kernel
theorem ck_Told_addSaying : mm_chkL 184 mm_Yt "WhichWord$Told" false prog_7_method_7_code (some .int) cd_Told_addSaying cp_Told_addSaying = true := by decide +kernel
theorem ck_Told_fittingOrders : mm_chkL 184 mm_Yt "WhichWord$Told" false prog_7_method_19_code (some .int) cd_Told_fittingOrders cp_Told_fittingOrders = true := by decide +kernel
theorem ck_Told_fits : mm_chkL 184 mm_Yt "WhichWord$Told" false prog_7_method_20_code (some .boolean) cd_Told_fits cp_Told_fits = true := by decide +kernel
theorem ck_Told_isMark : mm_chkL 184 mm_Yt "WhichWord$Told" false prog_7_method_21_code (some .boolean) cd_Told_isMark cp_Told_isMark = true := by decide +kernel
theorem ck_Told_countUnparted : mm_chkL 184 mm_Yt "WhichWord$Told" false prog_7_method_18_code (some .int) cd_Told_countUnparted cp_Told_countUnparted = true := by decide +kernel
theorem ck_Told_copyFrom : mm_chkL 184 mm_Yt "WhichWord$Told" false prog_7_method_2_code none cd_Told_copyFrom cp_Told_copyFrom = true := by decide +kernel
theorem ck_Told_countThings : mm_chkL 184 mm_Yt "WhichWord$Told" false prog_7_method_8_code (some .int) cd_Told_countThings cp_Told_countThings = true := by decide +kernel
theorem ck_Told_countDoings : mm_chkL 184 mm_Yt "WhichWord$Told" false prog_7_method_9_code (some .int) cd_Told_countDoings cp_Told_countDoings = true := by decide +kernel
theorem ck_Told_countSaid : mm_chkL 184 mm_Yt "WhichWord$Told" false prog_7_method_10_code (some .int) cd_Told_countSaid cp_Told_countSaid = true := by decide +kernel
theorem ck_Word_init : mm_chkL 184 mm_Yt "WhichWord" true prog_1_method_1_code none cd_Word_init cp_Word_init = true := by decide +kernel
theorem ck_Word_feed : mm_chkL 184 mm_Yt "WhichWord" false prog_1_method_2_code (some .int) cd_Word_feed cp_Word_feed = true := by decide +kernel
theorem ck_Word_refuse : mm_chkL 184 mm_Yt "WhichWord" false prog_1_method_35_code (some .int) cd_Word_refuse cp_Word_refuse = true := by decide +kernel
theorem ck_Word_scene : mm_chkL 184 mm_Yt "WhichWord" false prog_1_method_3_code (some .int) cd_Word_scene cp_Word_scene = true := by decide +kernel
theorem ck_Word_kindOf : mm_chkL 184 mm_Yt "WhichWord" false prog_1_method_42_code (some .int) cd_Word_kindOf cp_Word_kindOf = true := by decide +kernel
theorem ck_Word_takeBack : mm_chkL 184 mm_Yt "WhichWord" false prog_1_method_4_code (some .int) cd_Word_takeBack cp_Word_takeBack = true := by decide +kernel
theorem ck_Word_thing : mm_chkL 184 mm_Yt "WhichWord" false prog_1_method_5_code (some .int) cd_Word_thing cp_Word_thing = true := by decide +kernel
theorem ck_Word_noScene : mm_chkL 184 mm_Yt "WhichWord" false prog_1_method_36_code (some .boolean) cd_Word_noScene cp_Word_noScene = true := by decide +kernel
theorem ck_Word_doing : mm_chkL 184 mm_Yt "WhichWord" false prog_1_method_6_code (some .int) cd_Word_doing cp_Word_doing = true := by decide +kernel
theorem ck_Word_say : mm_chkL 184 mm_Yt "WhichWord" false prog_1_method_7_code (some .int) cd_Word_say cp_Word_say = true := by decide +kernel
theorem ck_Word_noWord : mm_chkL 184 mm_Yt "WhichWord" false prog_1_method_37_code (some .boolean) cd_Word_noWord cp_Word_noWord = true := by decide +kernel
theorem ck_Word_isIn : mm_chkL 184 mm_Yt "WhichWord" false prog_1_method_43_code (some .boolean) cd_Word_isIn cp_Word_isIn = true := by decide +kernel
theorem ck_Word_said : mm_chkL 184 mm_Yt "WhichWord" false prog_1_method_8_code (some .int) cd_Word_said cp_Word_said = true := by decide +kernel
theorem ck_Word_kind : mm_chkL 184 mm_Yt "WhichWord" false prog_1_method_9_code (some .int) cd_Word_kind cp_Word_kind = true := by decide +kernel
theorem ck_Word_noMeaning : mm_chkL 184 mm_Yt "WhichWord" false prog_1_method_38_code (some .boolean) cd_Word_noMeaning cp_Word_noMeaning = true := by decide +kernel
theorem ck_Word_weight : mm_chkL 184 mm_Yt "WhichWord" false prog_1_method_10_code (some .int) cd_Word_weight cp_Word_weight = true := by decide +kernel
theorem ck_Word_has : mm_chkL 184 mm_Yt "WhichWord" false prog_1_method_11_code (some .int) cd_Word_has cp_Word_has = true := by decide +kernel
theorem ck_Word_left : mm_chkL 184 mm_Yt "WhichWord" false prog_1_method_12_code (some .int) cd_Word_left cp_Word_left = true := by decide +kernel
theorem ck_Word_plainest : mm_chkL 184 mm_Yt "WhichWord" false prog_1_method_13_code (some .int) cd_Word_plainest cp_Word_plainest = true := by decide +kernel
theorem ck_Word_judge : mm_chkL 184 mm_Yt "WhichWord" false prog_1_method_14_code (some .int) cd_Word_judge cp_Word_judge = true := by decide +kernel
theorem ck_Word_firstIn : mm_chkL 184 mm_Yt "WhichWord" false prog_1_method_44_code (some .int) cd_Word_firstIn cp_Word_firstIn = true := by decide +kernel
theorem ck_Word_set : mm_chkL 184 mm_Yt "WhichWord" false prog_1_method_15_code (some .int) cd_Word_set cp_Word_set = true := by decide +kernel
theorem ck_Word_likelihood : mm_chkL 184 mm_Yt "WhichWord" false prog_1_method_16_code (some .long) cd_Word_likelihood cp_Word_likelihood = true := by decide +kernel
theorem ck_Word_chance : mm_chkL 184 mm_Yt "WhichWord" false prog_1_method_17_code (some .long) cd_Word_chance cp_Word_chance = true := by decide +kernel
theorem ck_Word_likeliest : mm_chkL 184 mm_Yt "WhichWord" false prog_1_method_18_code (some .int) cd_Word_likeliest cp_Word_likeliest = true := by decide +kernel
theorem ck_Word_givings : mm_chkL 184 mm_Yt "WhichWord" false prog_1_method_19_code (some .int) cd_Word_givings cp_Word_givings = true := by decide +kernel
theorem ck_Word_noSetToGive : mm_chkL 184 mm_Yt "WhichWord" false prog_1_method_39_code (some .boolean) cd_Word_noSetToGive cp_Word_noSetToGive = true := by decide +kernel
theorem ck_Word_giving : mm_chkL 184 mm_Yt "WhichWord" false prog_1_method_20_code (some .int) cd_Word_giving cp_Word_giving = true := by decide +kernel
theorem ck_Word_two : mm_chkL 184 mm_Yt "WhichWord" false prog_1_method_21_code (some .int) cd_Word_two cp_Word_two = true := by decide +kernel
theorem ck_Word_give : mm_chkL 184 mm_Yt "WhichWord" false prog_1_method_22_code (some .int) cd_Word_give cp_Word_give = true := by decide +kernel
theorem ck_Word_saying : mm_chkL 184 mm_Yt "WhichWord" false prog_1_method_23_code (some .int) cd_Word_saying cp_Word_saying = true := by decide +kernel
theorem ck_Word_noThreeWords : mm_chkL 184 mm_Yt "WhichWord" false prog_1_method_40_code (some .boolean) cd_Word_noThreeWords cp_Word_noThreeWords = true := by decide +kernel
theorem ck_Word_wordAt : mm_chkL 184 mm_Yt "WhichWord" false prog_1_method_41_code (some .int) cd_Word_wordAt cp_Word_wordAt = true := by decide +kernel
theorem ck_Word_orders : mm_chkL 184 mm_Yt "WhichWord" false prog_1_method_24_code (some .int) cd_Word_orders cp_Word_orders = true := by decide +kernel
theorem ck_Word_next : mm_chkL 184 mm_Yt "WhichWord" false prog_1_method_25_code (some .int) cd_Word_next cp_Word_next = true := by decide +kernel
theorem ck_Word_enough : mm_chkL 184 mm_Yt "WhichWord" false prog_1_method_26_code (some .int) cd_Word_enough cp_Word_enough = true := by decide +kernel
theorem ck_Word_help : mm_chkL 184 mm_Yt "WhichWord" false prog_1_method_27_code (some .int) cd_Word_help cp_Word_help = true := by decide +kernel
theorem ck_Word_never : mm_chkL 184 mm_Yt "WhichWord" false prog_1_method_28_code (some .int) cd_Word_never cp_Word_never = true := by decide +kernel
theorem ck_Word_same : mm_chkL 184 mm_Yt "WhichWord" false prog_1_method_29_code (some .int) cd_Word_same cp_Word_same = true := by decide +kernel
theorem ck_Word_part : mm_chkL 184 mm_Yt "WhichWord" false prog_1_method_30_code (some .int) cd_Word_part cp_Word_part = true := by decide +kernel
theorem ck_Word_image : mm_chkL 184 mm_Yt "WhichWord" false prog_1_method_31_code (some .int) cd_Word_image cp_Word_image = true := by decide +kernel
theorem ck_Word_restore : mm_chkL 184 mm_Yt "WhichWord" false prog_1_method_32_code (some .int) cd_Word_restore cp_Word_restore = true := by decide +kernel
theorem ck_Word_count : mm_chkL 184 mm_Yt "WhichWord" false prog_1_method_33_code (some .int) cd_Word_count cp_Word_count = true := by decide +kernel
theorem ck_Word_countRefusals : mm_chkL 184 mm_Yt "WhichWord" false prog_1_method_34_code (some .int) cd_Word_countRefusals cp_Word_countRefusals = true := by decide +kernel
theorem ck_Model_init : mm_chkL 184 mm_Yt "WhichWordModel" true prog_9_method_1_code none cd_Model_init cp_Model_init = true := by decide +kernel
theorem ck_Model_feed : mm_chkL 184 mm_Yt "WhichWordModel" false prog_9_method_9_code (some .int) cd_Model_feed cp_Model_feed = true := by decide +kernel
theorem ck_Model_refuse : mm_chkL 184 mm_Yt "WhichWordModel" false prog_9_method_4_code (some .int) cd_Model_refuse cp_Model_refuse = true := by decide +kernel
theorem ck_Model_scene : mm_chkL 184 mm_Yt "WhichWordModel" false prog_9_method_15_code (some .int) cd_Model_scene cp_Model_scene = true := by decide +kernel
theorem ck_Model_readScene : mm_chkL 184 mm_Yt "WhichWordModel" false prog_9_method_14_code none cd_Model_readScene cp_Model_readScene = true := by decide +kernel
theorem ck_Model_readThing : mm_chkL 184 mm_Yt "WhichWordModel" false prog_9_method_11_code none cd_Model_readThing cp_Model_readThing = true := by decide +kernel
theorem ck_Model_here : mm_chkL 184 mm_Yt "WhichWordModel" false prog_9_method_10_code (some .int) cd_Model_here cp_Model_here = true := by decide +kernel
theorem ck_Model_in : mm_chkL 184 mm_Yt "WhichWordModel" false prog_9_method_3_code (some .boolean) cd_Model_in cp_Model_in = true := by decide +kernel
theorem ck_Model_readDoing : mm_chkL 184 mm_Yt "WhichWordModel" false prog_9_method_13_code none cd_Model_readDoing cp_Model_readDoing = true := by decide +kernel
theorem ck_Model_readPlace : mm_chkL 184 mm_Yt "WhichWordModel" false prog_9_method_12_code (some .int) cd_Model_readPlace cp_Model_readPlace = true := by decide +kernel
theorem ck_Model_findHas : mm_chkL 184 mm_Yt "WhichWordModel" false prog_9_method_18_code none cd_Model_findHas cp_Model_findHas = true := by decide +kernel
theorem ck_Model_manyWith : mm_chkL 184 mm_Yt "WhichWordModel" false prog_9_method_17_code (some .int) cd_Model_manyWith cp_Model_manyWith = true := by decide +kernel
theorem ck_Model_hasMark : mm_chkL 184 mm_Yt "WhichWordModel" false prog_9_method_16_code (some .boolean) cd_Model_hasMark cp_Model_hasMark = true := by decide +kernel
theorem ck_Model_takeBack : mm_chkL 184 mm_Yt "WhichWordModel" false prog_9_method_20_code (some .int) cd_Model_takeBack cp_Model_takeBack = true := by decide +kernel
theorem ck_Model_thing : mm_chkL 184 mm_Yt "WhichWordModel" false prog_9_method_21_code (some .int) cd_Model_thing cp_Model_thing = true := by decide +kernel
theorem ck_Model_isScene : mm_chkL 184 mm_Yt "WhichWordModel" false prog_9_method_5_code (some .boolean) cd_Model_isScene cp_Model_isScene = true := by decide +kernel
theorem ck_Model_doing : mm_chkL 184 mm_Yt "WhichWordModel" false prog_9_method_22_code (some .int) cd_Model_doing cp_Model_doing = true := by decide +kernel
theorem ck_Model_say : mm_chkL 184 mm_Yt "WhichWordModel" false prog_9_method_23_code (some .int) cd_Model_say cp_Model_say = true := by decide +kernel
theorem ck_Model_isWord : mm_chkL 184 mm_Yt "WhichWordModel" false prog_9_method_6_code (some .boolean) cd_Model_isWord cp_Model_isWord = true := by decide +kernel
theorem ck_Model_said : mm_chkL 184 mm_Yt "WhichWordModel" false prog_9_method_25_code (some .int) cd_Model_said cp_Model_said = true := by decide +kernel
theorem ck_Model_saidIn : mm_chkL 184 mm_Yt "WhichWordModel" false prog_9_method_24_code (some .int) cd_Model_saidIn cp_Model_saidIn = true := by decide +kernel
theorem ck_Model_kind : mm_chkL 184 mm_Yt "WhichWordModel" false prog_9_method_26_code (some .int) cd_Model_kind cp_Model_kind = true := by decide +kernel
theorem ck_Model_isMeaning : mm_chkL 184 mm_Yt "WhichWordModel" false prog_9_method_7_code (some .boolean) cd_Model_isMeaning cp_Model_isMeaning = true := by decide +kernel
theorem ck_Model_kindOf : mm_chkL 184 mm_Yt "WhichWordModel" false prog_9_method_19_code (some .int) cd_Model_kindOf cp_Model_kindOf = true := by decide +kernel
theorem ck_Model_weight : mm_chkL 184 mm_Yt "WhichWordModel" false prog_9_method_27_code (some .int) cd_Model_weight cp_Model_weight = true := by decide +kernel
theorem ck_Model_has : mm_chkL 184 mm_Yt "WhichWordModel" false prog_9_method_28_code (some .int) cd_Model_has cp_Model_has = true := by decide +kernel
theorem ck_Model_left : mm_chkL 184 mm_Yt "WhichWordModel" false prog_9_method_30_code (some .int) cd_Model_left cp_Model_left = true := by decide +kernel
theorem ck_Model_isLeft : mm_chkL 184 mm_Yt "WhichWordModel" false prog_9_method_29_code (some .boolean) cd_Model_isLeft cp_Model_isLeft = true := by decide +kernel
theorem ck_Model_plainest : mm_chkL 184 mm_Yt "WhichWordModel" false prog_9_method_31_code (some .int) cd_Model_plainest cp_Model_plainest = true := by decide +kernel
theorem ck_Model_judge : mm_chkL 184 mm_Yt "WhichWordModel" false prog_9_method_32_code (some .int) cd_Model_judge cp_Model_judge = true := by decide +kernel
theorem ck_Model_set : mm_chkL 184 mm_Yt "WhichWordModel" false prog_9_method_33_code (some .int) cd_Model_set cp_Model_set = true := by decide +kernel
theorem ck_Model_likelihood : mm_chkL 184 mm_Yt "WhichWordModel" false prog_9_method_35_code (some .long) cd_Model_likelihood cp_Model_likelihood = true := by decide +kernel
theorem ck_Model_likelihoodOf : mm_chkL 184 mm_Yt "WhichWordModel" false prog_9_method_34_code (some .long) cd_Model_likelihoodOf cp_Model_likelihoodOf = true := by decide +kernel
theorem ck_Model_chance : mm_chkL 184 mm_Yt "WhichWordModel" false prog_9_method_37_code (some .long) cd_Model_chance cp_Model_chance = true := by decide +kernel
theorem ck_Model_divisor : mm_chkL 184 mm_Yt "WhichWordModel" false prog_9_method_36_code (some .long) cd_Model_divisor cp_Model_divisor = true := by decide +kernel
theorem ck_Model_likeliest : mm_chkL 184 mm_Yt "WhichWordModel" false prog_9_method_38_code (some .int) cd_Model_likeliest cp_Model_likeliest = true := by decide +kernel
theorem ck_Model_givings : mm_chkL 184 mm_Yt "WhichWordModel" false prog_9_method_42_code (some .int) cd_Model_givings cp_Model_givings = true := by decide +kernel
theorem ck_Model_isSet : mm_chkL 184 mm_Yt "WhichWordModel" false prog_9_method_39_code (some .boolean) cd_Model_isSet cp_Model_isSet = true := by decide +kernel
theorem ck_Model_ones : mm_chkL 184 mm_Yt "WhichWordModel" false prog_9_method_8_code (some .int) cd_Model_ones cp_Model_ones = true := by decide +kernel
theorem ck_Model_findWords : mm_chkL 184 mm_Yt "WhichWordModel" false prog_9_method_40_code none cd_Model_findWords cp_Model_findWords = true := by decide +kernel
theorem ck_Model_commonTo : mm_chkL 184 mm_Yt "WhichWordModel" false prog_9_method_41_code (some .int) cd_Model_commonTo cp_Model_commonTo = true := by decide +kernel
theorem ck_Model_giving : mm_chkL 184 mm_Yt "WhichWordModel" false prog_9_method_46_code (some .int) cd_Model_giving cp_Model_giving = true := by decide +kernel
theorem ck_Model_findFirst : mm_chkL 184 mm_Yt "WhichWordModel" false prog_9_method_43_code (some .boolean) cd_Model_findFirst cp_Model_findFirst = true := by decide +kernel
theorem ck_Model_canHave : mm_chkL 184 mm_Yt "WhichWordModel" false prog_9_method_44_code (some .boolean) cd_Model_canHave cp_Model_canHave = true := by decide +kernel
theorem ck_Model_isOneLeft : mm_chkL 184 mm_Yt "WhichWordModel" false prog_9_method_45_code (some .boolean) cd_Model_isOneLeft cp_Model_isOneLeft = true := by decide +kernel
theorem ck_Model_two : mm_chkL 184 mm_Yt "WhichWordModel" false prog_9_method_47_code (some .int) cd_Model_two cp_Model_two = true := by decide +kernel
theorem ck_Model_give : mm_chkL 184 mm_Yt "WhichWordModel" false prog_9_method_48_code (some .int) cd_Model_give cp_Model_give = true := by decide +kernel
theorem ck_Model_saying : mm_chkL 184 mm_Yt "WhichWordModel" false prog_9_method_49_code (some .int) cd_Model_saying cp_Model_saying = true := by decide +kernel
theorem ck_Model_orders : mm_chkL 184 mm_Yt "WhichWordModel" false prog_9_method_52_code (some .int) cd_Model_orders cp_Model_orders = true := by decide +kernel
theorem ck_Model_fits : mm_chkL 184 mm_Yt "WhichWordModel" false prog_9_method_51_code (some .boolean) cd_Model_fits cp_Model_fits = true := by decide +kernel
theorem ck_Model_isDone : mm_chkL 184 mm_Yt "WhichWordModel" false prog_9_method_50_code (some .boolean) cd_Model_isDone cp_Model_isDone = true := by decide +kernel
theorem ck_Model_next : mm_chkL 184 mm_Yt "WhichWordModel" false prog_9_method_53_code (some .int) cd_Model_next cp_Model_next = true := by decide +kernel
theorem ck_Model_enough : mm_chkL 184 mm_Yt "WhichWordModel" false prog_9_method_58_code (some .int) cd_Model_enough cp_Model_enough = true := by decide +kernel
theorem ck_Model_findShown : mm_chkL 184 mm_Yt "WhichWordModel" false prog_9_method_54_code none cd_Model_findShown cp_Model_findShown = true := by decide +kernel
theorem ck_Model_findUnlike : mm_chkL 184 mm_Yt "WhichWordModel" false prog_9_method_55_code none cd_Model_findUnlike cp_Model_findUnlike = true := by decide +kernel
theorem ck_Model_partsAll : mm_chkL 184 mm_Yt "WhichWordModel" false prog_9_method_56_code (some .boolean) cd_Model_partsAll cp_Model_partsAll = true := by decide +kernel
theorem ck_Model_scenesOf : mm_chkL 184 mm_Yt "WhichWordModel" false prog_9_method_57_code (some .int) cd_Model_scenesOf cp_Model_scenesOf = true := by decide +kernel
theorem ck_Model_help : mm_chkL 184 mm_Yt "WhichWordModel" false prog_9_method_59_code (some .int) cd_Model_help cp_Model_help = true := by decide +kernel
theorem ck_Model_leftBy : mm_chkL 184 mm_Yt "WhichWordModel" false prog_9_method_60_code (some .int) cd_Model_leftBy cp_Model_leftBy = true := by decide +kernel
theorem ck_Model_never : mm_chkL 184 mm_Yt "WhichWordModel" false prog_9_method_62_code (some .int) cd_Model_never cp_Model_never = true := by decide +kernel
theorem ck_Model_partOf : mm_chkL 184 mm_Yt "WhichWordModel" false prog_9_method_61_code (some .int) cd_Model_partOf cp_Model_partOf = true := by decide +kernel
theorem ck_Model_same : mm_chkL 184 mm_Yt "WhichWordModel" false prog_9_method_63_code (some .int) cd_Model_same cp_Model_same = true := by decide +kernel
theorem ck_Model_part : mm_chkL 184 mm_Yt "WhichWordModel" false prog_9_method_64_code (some .int) cd_Model_part cp_Model_part = true := by decide +kernel
theorem ck_Model_image : mm_chkL 184 mm_Yt "WhichWordModel" false prog_9_method_67_code (some .int) cd_Model_image cp_Model_image = true := by decide +kernel
theorem ck_Model_moveAll : mm_chkL 184 mm_Yt "WhichWordModel" false prog_9_method_66_code none cd_Model_moveAll cp_Model_moveAll = true := by decide +kernel
theorem ck_Model_move : mm_chkL 184 mm_Yt "WhichWordModel" false prog_9_method_65_code (some .int) cd_Model_move cp_Model_move = true := by decide +kernel
theorem ck_Model_restore : mm_chkL 184 mm_Yt "WhichWordModel" false prog_9_method_68_code (some .int) cd_Model_restore cp_Model_restore = true := by decide +kernel
theorem ck_Model_count : mm_chkL 184 mm_Yt "WhichWordModel" false prog_9_method_69_code (some .int) cd_Model_count cp_Model_count = true := by decide +kernel
theorem ck_Arrays_fill : mm_chkL 184 mm_Yt "java/util/Arrays" false prog_13_method_103_code none cd_Arrays_fill cp_Arrays_fill = true := by decide +kernel
theorem ck_Integer_bitCount : mm_chkL 184 mm_Yt "java/lang/Integer" false prog_10_method_49_code (some .int) cd_Integer_bitCount cp_Integer_bitCount = true := by decide +kernel
