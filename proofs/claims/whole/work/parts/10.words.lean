/-! words of the tables, one by one -/
theorem wc_yJ9_floorMod_7cf53 : Cond.code yJ9_floorMod_7cf53 cJ9_floorMod_7cf53 3 (some FieldType.int) ∈ am_gw := List.mem_filter.mpr ⟨List.mem_of_getElem? (i := 874) (by decide +kernel), rfl⟩
theorem wc_yJ9_max_7cf53 : Cond.code yJ9_max_7cf53 cJ9_max_7cf53 2 (some FieldType.int) ∈ am_gw := List.mem_filter.mpr ⟨List.mem_of_getElem? (i := 601) (by decide +kernel), rfl⟩
theorem wc_yJ9_max_f86c9 : Cond.code yJ9_max_f86c9 cJ9_max_f86c9 4 (some FieldType.long) ∈ am_gw := List.mem_filter.mpr ⟨List.mem_of_getElem? (i := 971) (by decide +kernel), rfl⟩
theorem wc_yJ9_min_7cf53 : Cond.code yJ9_min_7cf53 cJ9_min_7cf53 2 (some FieldType.int) ∈ am_gw := List.mem_filter.mpr ⟨List.mem_of_getElem? (i := 598) (by decide +kernel), rfl⟩
theorem wc_yJ9_min_f86c9 : Cond.code yJ9_min_f86c9 cJ9_min_f86c9 4 (some FieldType.long) ∈ am_gw := List.mem_filter.mpr ⟨List.mem_of_getElem? (i := 968) (by decide +kernel), rfl⟩
theorem wc_yX0_canPut : Cond.code yX0_canPut cX0_canPut 4 (some FieldType.boolean) ∈ am_gw := List.mem_filter.mpr ⟨List.mem_of_getElem? (i := 863) (by decide +kernel), rfl⟩
theorem wc_yX0_canResize : Cond.code yX0_canResize cX0_canResize 2 (some FieldType.boolean) ∈ am_gw := List.mem_filter.mpr ⟨List.mem_of_getElem? (i := 900) (by decide +kernel), rfl⟩
theorem wc_yX0_copy : Cond.code yX0_copy cX0_copy 2 none ∈ am_gw := List.mem_filter.mpr ⟨List.mem_of_getElem? (i := 881) (by decide +kernel), rfl⟩
theorem wc_yX0_covers : Cond.code yX0_covers cX0_covers 3 (some FieldType.boolean) ∈ am_gw := List.mem_filter.mpr ⟨List.mem_of_getElem? (i := 1104) (by decide +kernel), rfl⟩
theorem wc_yX0_draw : Cond.code yX0_draw cX0_draw 3 (some FieldType.int) ∈ am_gw := List.mem_filter.mpr ⟨List.mem_of_getElem? (i := 1034) (by decide +kernel), rfl⟩
theorem wc_yX0_drawAnew : Cond.code yX0_drawAnew cX0_drawAnew 1 none ∈ am_gw := List.mem_filter.mpr ⟨List.mem_of_getElem? (i := 1038) (by decide +kernel), rfl⟩
theorem wc_yX0_putByte : Cond.code yX0_putByte cX0_putByte 3 none ∈ am_gw := List.mem_filter.mpr ⟨List.mem_of_getElem? (i := 888) (by decide +kernel), rfl⟩
theorem wc_yX0_resize : Cond.code yX0_resize cX0_resize 3 none ∈ am_gw := List.mem_filter.mpr ⟨List.mem_of_getElem? (i := 904) (by decide +kernel), rfl⟩
theorem wc_yX0_rot : Cond.code yX0_rot cX0_rot 3 none ∈ am_gw := List.mem_filter.mpr ⟨List.mem_of_getElem? (i := 1047) (by decide +kernel), rfl⟩
theorem wc_yX0_takeMended : Cond.code yX0_takeMended cX0_takeMended 4 none ∈ am_gw := List.mem_filter.mpr ⟨List.mem_of_getElem? (i := 1018) (by decide +kernel), rfl⟩
theorem wc_yX0_tell : Cond.code yX0_tell cX0_tell 2 (some FieldType.int) ∈ am_gw := List.mem_filter.mpr ⟨List.mem_of_getElem? (i := 1091) (by decide +kernel), rfl⟩
theorem wc_yX0_together : Cond.code yX0_together cX0_together 5 (some FieldType.int) ∈ am_gw := List.mem_filter.mpr ⟨List.mem_of_getElem? (i := 1084) (by decide +kernel), rfl⟩
theorem wc_yX0_write : Cond.code yX0_write cX0_write 4 none ∈ am_gw := List.mem_filter.mpr ⟨List.mem_of_getElem? (i := 892) (by decide +kernel), rfl⟩
theorem wc_yX1_advance : Cond.code yX1_advance cX1_advance 1 (some FieldType.boolean) ∈ am_gw := List.mem_filter.mpr ⟨List.mem_of_getElem? (i := 745) (by decide +kernel), rfl⟩
theorem wc_yX1_aim : Cond.code yX1_aim cX1_aim 2 none ∈ am_gw := List.mem_filter.mpr ⟨List.mem_of_getElem? (i := 797) (by decide +kernel), rfl⟩
theorem wc_yX1_closes : Cond.code yX1_closes cX1_closes 1 (some FieldType.boolean) ∈ am_gw := List.mem_filter.mpr ⟨List.mem_of_getElem? (i := 769) (by decide +kernel), rfl⟩
theorem wc_yX1_comparisonHere : Cond.code yX1_comparisonHere cX1_comparisonHere 1 (some FieldType.int) ∈ am_gw := List.mem_filter.mpr ⟨List.mem_of_getElem? (i := 809) (by decide +kernel), rfl⟩
theorem wc_yX1_emit : Cond.code yX1_emit cX1_emit 4 (some FieldType.int) ∈ am_gw := List.mem_filter.mpr ⟨List.mem_of_getElem? (i := 773) (by decide +kernel), rfl⟩
theorem wc_yX1_fail : Cond.code yX1_fail cX1_fail 2 (some FieldType.boolean) ∈ am_gw := List.mem_filter.mpr ⟨List.mem_of_getElem? (i := 741) (by decide +kernel), rfl⟩
theorem wc_yX1_isDigit : Cond.code yX1_isDigit cX1_isDigit 1 (some FieldType.boolean) ∈ am_gw := List.mem_filter.mpr ⟨List.mem_of_getElem? (i := 670) (by decide +kernel), rfl⟩
theorem wc_yX1_isLetter : Cond.code yX1_isLetter cX1_isLetter 1 (some FieldType.boolean) ∈ am_gw := List.mem_filter.mpr ⟨List.mem_of_getElem? (i := 608) (by decide +kernel), rfl⟩
theorem wc_yX1_numberHere : Cond.code yX1_numberHere cX1_numberHere 1 (some FieldType.int) ∈ am_gw := List.mem_filter.mpr ⟨List.mem_of_getElem? (i := 805) (by decide +kernel), rfl⟩
theorem wc_yX1_opens : Cond.code yX1_opens cX1_opens 1 (some FieldType.boolean) ∈ am_gw := List.mem_filter.mpr ⟨List.mem_of_getElem? (i := 765) (by decide +kernel), rfl⟩
theorem wc_yX1_parse : Cond.code yX1_parse cX1_parse 5 (some FieldType.int) ∈ am_gw := List.mem_filter.mpr ⟨List.mem_of_getElem? (i := 595) (by decide +kernel), rfl⟩
theorem wc_yX1_put : Cond.code yX1_put cX1_put 4 none ∈ am_gw := List.mem_filter.mpr ⟨List.mem_of_getElem? (i := 667) (by decide +kernel), rfl⟩
theorem wc_yX1_readAsk : Cond.code yX1_readAsk cX1_readAsk 2 (some FieldType.boolean) ∈ am_gw := List.mem_filter.mpr ⟨List.mem_of_getElem? (i := 761) (by decide +kernel), rfl⟩
theorem wc_yX1_readBoth : Cond.code yX1_readBoth cX1_readBoth 3 (some FieldType.boolean) ∈ am_gw := List.mem_filter.mpr ⟨List.mem_of_getElem? (i := 757) (by decide +kernel), rfl⟩
theorem wc_yX1_readEither : Cond.code yX1_readEither cX1_readEither 3 (some FieldType.boolean) ∈ am_gw := List.mem_filter.mpr ⟨List.mem_of_getElem? (i := 753) (by decide +kernel), rfl⟩
theorem wc_yX1_readField : Cond.code yX1_readField cX1_readField 3 (some FieldType.boolean) ∈ am_gw := List.mem_filter.mpr ⟨List.mem_of_getElem? (i := 817) (by decide +kernel), rfl⟩
theorem wc_yX1_readIf : Cond.code yX1_readIf cX1_readIf 3 (some FieldType.boolean) ∈ am_gw := List.mem_filter.mpr ⟨List.mem_of_getElem? (i := 793) (by decide +kernel), rfl⟩
theorem wc_yX1_readKind : Cond.code yX1_readKind cX1_readKind 2 (some FieldType.boolean) ∈ am_gw := List.mem_filter.mpr ⟨List.mem_of_getElem? (i := 737) (by decide +kernel), rfl⟩
theorem wc_yX1_readName : Cond.code yX1_readName cX1_readName 4 (some FieldType.boolean) ∈ am_gw := List.mem_filter.mpr ⟨List.mem_of_getElem? (i := 801) (by decide +kernel), rfl⟩
theorem wc_yX1_readNumber : Cond.code yX1_readNumber cX1_readNumber 6 (some FieldType.boolean) ∈ am_gw := List.mem_filter.mpr ⟨List.mem_of_getElem? (i := 813) (by decide +kernel), rfl⟩
theorem wc_yX1_readOne : Cond.code yX1_readOne cX1_readOne 1 (some FieldType.boolean) ∈ am_gw := List.mem_filter.mpr ⟨List.mem_of_getElem? (i := 785) (by decide +kernel), rfl⟩
theorem wc_yX1_readPart : Cond.code yX1_readPart cX1_readPart 4 (some FieldType.boolean) ∈ am_gw := List.mem_filter.mpr ⟨List.mem_of_getElem? (i := 828) (by decide +kernel), rfl⟩
theorem wc_yX1_readProduct : Cond.code yX1_readProduct cX1_readProduct 4 (some FieldType.boolean) ∈ am_gw := List.mem_filter.mpr ⟨List.mem_of_getElem? (i := 781) (by decide +kernel), rfl⟩
theorem wc_yX1_readRest : Cond.code yX1_readRest cX1_readRest 3 (some FieldType.boolean) ∈ am_gw := List.mem_filter.mpr ⟨List.mem_of_getElem? (i := 749) (by decide +kernel), rfl⟩
theorem wc_yX1_readSum : Cond.code yX1_readSum cX1_readSum 4 (some FieldType.boolean) ∈ am_gw := List.mem_filter.mpr ⟨List.mem_of_getElem? (i := 777) (by decide +kernel), rfl⟩
theorem wc_yX1_signToken : Cond.code yX1_signToken cX1_signToken 1 (some FieldType.int) ∈ am_gw := List.mem_filter.mpr ⟨List.mem_of_getElem? (i := 673) (by decide +kernel), rfl⟩
theorem wc_yX1_split : Cond.code yX1_split cX1_split 7 none ∈ am_gw := List.mem_filter.mpr ⟨List.mem_of_getElem? (i := 605) (by decide +kernel), rfl⟩
theorem wc_yX1_take : Cond.code yX1_take cX1_take 2 (some FieldType.boolean) ∈ am_gw := List.mem_filter.mpr ⟨List.mem_of_getElem? (i := 789) (by decide +kernel), rfl⟩
theorem wc_yX1_wordToken : Cond.code yX1_wordToken cX1_wordToken 7 (some FieldType.int) ∈ am_gw := List.mem_filter.mpr ⟨List.mem_of_getElem? (i := 611) (by decide +kernel), rfl⟩
theorem wc_yX2_answer : Cond.code yX2_answer cX2_answer 9 (some FieldType.int) ∈ am_gw := List.mem_filter.mpr ⟨List.mem_of_getElem? (i := 941) (by decide +kernel), rfl⟩
theorem wc_yX2_askMusts : Cond.code yX2_askMusts cX2_askMusts 5 none ∈ am_gw := List.mem_filter.mpr ⟨List.mem_of_getElem? (i := 1006) (by decide +kernel), rfl⟩
theorem wc_yX2_byteIn : Cond.code yX2_byteIn cX2_byteIn 4 (some FieldType.int) ∈ am_gw := List.mem_filter.mpr ⟨List.mem_of_getElem? (i := 957) (by decide +kernel), rfl⟩
theorem wc_yX2_compares : Cond.code yX2_compares cX2_compares 3 (some FieldType.boolean) ∈ am_gw := List.mem_filter.mpr ⟨List.mem_of_getElem? (i := 974) (by decide +kernel), rfl⟩
theorem wc_yX2_confined : Cond.code yX2_confined cX2_confined 2 (some FieldType.int) ∈ am_gw := List.mem_filter.mpr ⟨List.mem_of_getElem? (i := 963) (by decide +kernel), rfl⟩
theorem wc_yX2_isShorter : Cond.code yX2_isShorter cX2_isShorter 7 (some FieldType.boolean) ∈ am_gw := List.mem_filter.mpr ⟨List.mem_of_getElem? (i := 1208) (by decide +kernel), rfl⟩
theorem wc_yX2_isValid : Cond.code yX2_isValid cX2_isValid 5 (some FieldType.boolean) ∈ am_gw := List.mem_filter.mpr ⟨List.mem_of_getElem? (i := 1129) (by decide +kernel), rfl⟩
theorem wc_yX2_know : Cond.code yX2_know cX2_know 5 none ∈ am_gw := List.mem_filter.mpr ⟨List.mem_of_getElem? (i := 981) (by decide +kernel), rfl⟩
theorem wc_yX2_leaf : Cond.code yX2_leaf cX2_leaf 4 (some FieldType.int) ∈ am_gw := List.mem_filter.mpr ⟨List.mem_of_getElem? (i := 946) (by decide +kernel), rfl⟩
theorem wc_yX2_mended : Cond.code yX2_mended cX2_mended 4 (some FieldType.int) ∈ am_gw := List.mem_filter.mpr ⟨List.mem_of_getElem? (i := 917) (by decide +kernel), rfl⟩
theorem wc_yX2_ofOne : Cond.code yX2_ofOne cX2_ofOne 4 (some FieldType.int) ∈ am_gw := List.mem_filter.mpr ⟨List.mem_of_getElem? (i := 950) (by decide +kernel), rfl⟩
theorem wc_yX2_ofTwo : Cond.code yX2_ofTwo cX2_ofTwo 3 (some FieldType.int) ∈ am_gw := List.mem_filter.mpr ⟨List.mem_of_getElem? (i := 960) (by decide +kernel), rfl⟩
theorem wc_yX2_putSums : Cond.code yX2_putSums cX2_putSums 5 none ∈ am_gw := List.mem_filter.mpr ⟨List.mem_of_getElem? (i := 1010) (by decide +kernel), rfl⟩
theorem wc_yX2_readField : Cond.code yX2_readField cX2_readField 9 none ∈ am_gw := List.mem_filter.mpr ⟨List.mem_of_getElem? (i := 937) (by decide +kernel), rfl⟩
theorem wc_yX2_readFile : Cond.code yX2_readFile cX2_readFile 4 (some (FieldType.object "ByteIntervals$Reading")) ∈ am_gw := List.mem_filter.mpr ⟨List.mem_of_getElem? (i := 1138) (by decide +kernel), rfl⟩
theorem wc_yX2_readFormat : Cond.code yX2_readFormat cX2_readFormat 9 (some (FieldType.object "ByteIntervals$Reading")) ∈ am_gw := List.mem_filter.mpr ⟨List.mem_of_getElem? (i := 922) (by decide +kernel), rfl⟩
theorem wc_yX2_readInside : Cond.code yX2_readInside cX2_readInside 4 (some (FieldType.object "ByteIntervals$Reading")) ∈ am_gw := List.mem_filter.mpr ⟨List.mem_of_getElem? (i := 1156) (by decide +kernel), rfl⟩
theorem wc_yX2_readNest : Cond.code yX2_readNest cX2_readNest 11 none ∈ am_gw := List.mem_filter.mpr ⟨List.mem_of_getElem? (i := 990) (by decide +kernel), rfl⟩
theorem wc_yX2_readSummed : Cond.code yX2_readSummed cX2_readSummed 12 none ∈ am_gw := List.mem_filter.mpr ⟨List.mem_of_getElem? (i := 985) (by decide +kernel), rfl⟩
theorem wc_yX2_readValues : Cond.code yX2_readValues cX2_readValues 5 (some (FieldType.object "ByteIntervals$Reading")) ∈ am_gw := List.mem_filter.mpr ⟨List.mem_of_getElem? (i := 1225) (by decide +kernel), rfl⟩
theorem wc_yX2_readingAt : Cond.code yX2_readingAt cX2_readingAt 2 (some (FieldType.object "ByteIntervals$Reading")) ∈ am_gw := List.mem_filter.mpr ⟨List.mem_of_getElem? (i := 926) (by decide +kernel), rfl⟩
theorem wc_yX2_rots : Cond.code yX2_rots cX2_rots 4 (some FieldType.int) ∈ am_gw := List.mem_filter.mpr ⟨List.mem_of_getElem? (i := 1042) (by decide +kernel), rfl⟩
theorem wc_yX2_unlikeBytes : Cond.code yX2_unlikeBytes cX2_unlikeBytes 4 (some FieldType.int) ∈ am_gw := List.mem_filter.mpr ⟨List.mem_of_getElem? (i := 1014) (by decide +kernel), rfl⟩
theorem wc_yX3_begin : Cond.code yX3_begin cX3_begin 7 none ∈ am_gw := List.mem_filter.mpr ⟨List.mem_of_getElem? (i := 930) (by decide +kernel), rfl⟩
theorem wc_yX3_copy : Cond.code yX3_copy cX3_copy 2 none ∈ am_gw := List.mem_filter.mpr ⟨List.mem_of_getElem? (i := 1195) (by decide +kernel), rfl⟩
theorem wc_yX3_covered : Cond.code yX3_covered cX3_covered 2 (some FieldType.long) ∈ am_gw := List.mem_filter.mpr ⟨List.mem_of_getElem? (i := 1173) (by decide +kernel), rfl⟩
theorem wc_yX3_has : Cond.code yX3_has cX3_has 3 (some FieldType.boolean) ∈ am_gw := List.mem_filter.mpr ⟨List.mem_of_getElem? (i := 1229) (by decide +kernel), rfl⟩
theorem wc_yX3_how : Cond.code yX3_how cX3_how 2 (some FieldType.int) ∈ am_gw := List.mem_filter.mpr ⟨List.mem_of_getElem? (i := 1147) (by decide +kernel), rfl⟩
theorem wc_yX3_isKnown : Cond.code yX3_isKnown cX3_isKnown 2 (some FieldType.boolean) ∈ am_gw := List.mem_filter.mpr ⟨List.mem_of_getElem? (i := 994) (by decide +kernel), rfl⟩
theorem wc_yX3_isSound : Cond.code yX3_isSound cX3_isSound 1 (some FieldType.boolean) ∈ am_gw := List.mem_filter.mpr ⟨List.mem_of_getElem? (i := 1002) (by decide +kernel), rfl⟩
theorem wc_yX3_likeFields : Cond.code yX3_likeFields cX3_likeFields 4 (some FieldType.int) ∈ am_gw := List.mem_filter.mpr ⟨List.mem_of_getElem? (i := 1200) (by decide +kernel), rfl⟩
theorem wc_yX3_looksOf : Cond.code yX3_looksOf cX3_looksOf 5 (some FieldType.long) ∈ am_gw := List.mem_filter.mpr ⟨List.mem_of_getElem? (i := 998) (by decide +kernel), rfl⟩
theorem wc_yX3_tell : Cond.code yX3_tell cX3_tell 4 (some FieldType.int) ∈ am_gw := List.mem_filter.mpr ⟨List.mem_of_getElem? (i := 1142) (by decide +kernel), rfl⟩
theorem wc_yX4_copy : Cond.code yX4_copy cX4_copy 3 none ∈ am_gw := List.mem_filter.mpr ⟨List.mem_of_getElem? (i := 1270) (by decide +kernel), rfl⟩
theorem wc_yX4_copyStep : Cond.code yX4_copyStep cX4_copyStep 2 none ∈ am_gw := List.mem_filter.mpr ⟨List.mem_of_getElem? (i := 877) (by decide +kernel), rfl⟩
theorem wc_yX4_keepStep : Cond.code yX4_keepStep cX4_keepStep 1 none ∈ am_gw := List.mem_filter.mpr ⟨List.mem_of_getElem? (i := 867) (by decide +kernel), rfl⟩
theorem wc_yX4_stepAt : Cond.code yX4_stepAt cX4_stepAt 2 (some (FieldType.object "ByteIntervals$Moment")) ∈ am_gw := List.mem_filter.mpr ⟨List.mem_of_getElem? (i := 871) (by decide +kernel), rfl⟩
theorem wc_yX4_takeBack : Cond.code yX4_takeBack cX4_takeBack 1 (some FieldType.int) ∈ am_gw := List.mem_filter.mpr ⟨List.mem_of_getElem? (i := 1072) (by decide +kernel), rfl⟩
theorem wc_yX5_clear : Cond.code yX5_clear cX5_clear 2 none ∈ am_gw := List.mem_filter.mpr ⟨List.mem_of_getElem? (i := 733) (by decide +kernel), rfl⟩
theorem wc_yX5_gatherNeeded : Cond.code yX5_gatherNeeded cX5_gatherNeeded 4 none ∈ am_gw := List.mem_filter.mpr ⟨List.mem_of_getElem? (i := 841) (by decide +kernel), rfl⟩
theorem wc_yX5_lowestReady : Cond.code yX5_lowestReady cX5_lowestReady 4 (some FieldType.int) ∈ am_gw := List.mem_filter.mpr ⟨List.mem_of_getElem? (i := 836) (by decide +kernel), rfl⟩
theorem wc_yX5_mostOf : Cond.code yX5_mostOf cX5_mostOf 2 (some FieldType.int) ∈ am_gw := List.mem_filter.mpr ⟨List.mem_of_getElem? (i := 1220) (by decide +kernel), rfl⟩
theorem wc_yX5_sort : Cond.code yX5_sort cX5_sort 4 none ∈ am_gw := List.mem_filter.mpr ⟨List.mem_of_getElem? (i := 832) (by decide +kernel), rfl⟩
theorem wc_yX5_tells : Cond.code yX5_tells cX5_tells 2 (some FieldType.boolean) ∈ am_gw := List.mem_filter.mpr ⟨List.mem_of_getElem? (i := 821) (by decide +kernel), rfl⟩
theorem wc_yX6_allSaidIsSo : Cond.code yX6_allSaidIsSo cX6_allSaidIsSo 4 (some FieldType.boolean) ∈ am_gw := List.mem_filter.mpr ⟨List.mem_of_getElem? (i := 1262) (by decide +kernel), rfl⟩
theorem wc_yX6_asNumber : Cond.code yX6_asNumber cX6_asNumber 5 (some FieldType.int) ∈ am_gw := List.mem_filter.mpr ⟨List.mem_of_getElem? (i := 977) (by decide +kernel), rfl⟩
theorem wc_yX6_hasBit : Cond.code yX6_hasBit cX6_hasBit 2 (some FieldType.boolean) ∈ am_gw := List.mem_filter.mpr ⟨List.mem_of_getElem? (i := 824) (by decide +kernel), rfl⟩
theorem wc_yX6_isField : Cond.code yX6_isField cX6_isField 1 (some FieldType.boolean) ∈ am_gw := List.mem_filter.mpr ⟨List.mem_of_getElem? (i := 614) (by decide +kernel), rfl⟩
theorem wc_yX6_madeAt : Cond.code yX6_madeAt cX6_madeAt 8 (some FieldType.int) ∈ am_gw := List.mem_filter.mpr ⟨List.mem_of_getElem? (i := 1233) (by decide +kernel), rfl⟩
theorem wc_yX6_mend : Cond.code yX6_mend cX6_mend 2 (some FieldType.int) ∈ am_gw := List.mem_filter.mpr ⟨List.mem_of_getElem? (i := 909) (by decide +kernel), rfl⟩
theorem wc_yX6_passDay : Cond.code yX6_passDay cX6_passDay 5 (some FieldType.boolean) ∈ am_gw := List.mem_filter.mpr ⟨List.mem_of_getElem? (i := 1030) (by decide +kernel), rfl⟩
theorem wc_yX6_passDays : Cond.code yX6_passDays cX6_passDays 4 (some FieldType.int) ∈ am_gw := List.mem_filter.mpr ⟨List.mem_of_getElem? (i := 1026) (by decide +kernel), rfl⟩
theorem wc_yX6_passYear : Cond.code yX6_passYear cX6_passYear 5 none ∈ am_gw := List.mem_filter.mpr ⟨List.mem_of_getElem? (i := 1064) (by decide +kernel), rfl⟩
theorem wc_yX6_putOnTape : Cond.code yX6_putOnTape cX6_putOnTape 3 none ∈ am_gw := List.mem_filter.mpr ⟨List.mem_of_getElem? (i := 583) (by decide +kernel), rfl⟩
theorem wc_yX6_set : Cond.code yX6_set cX6_set 3 (some FieldType.boolean) ∈ am_gw := List.mem_filter.mpr ⟨List.mem_of_getElem? (i := 859) (by decide +kernel), rfl⟩
theorem wc_yX6_size : Cond.code yX6_size cX6_size 2 (some FieldType.boolean) ∈ am_gw := List.mem_filter.mpr ⟨List.mem_of_getElem? (i := 896) (by decide +kernel), rfl⟩
theorem wc_yX6_span : Cond.code yX6_span cX6_span 2 (some FieldType.long) ∈ am_gw := List.mem_filter.mpr ⟨List.mem_of_getElem? (i := 953) (by decide +kernel), rfl⟩
theorem wc_yX6_textAt : Cond.code yX6_textAt cX6_textAt 3 (some (FieldType.object "ByteIntervals$Text")) ∈ am_gw := List.mem_filter.mpr ⟨List.mem_of_getElem? (i := 855) (by decide +kernel), rfl⟩
theorem wc_yX6_theText : Cond.code yX6_theText cX6_theText 1 (some (FieldType.object "ByteIntervals$Text")) ∈ am_gw := List.mem_filter.mpr ⟨List.mem_of_getElem? (i := 913) (by decide +kernel), rfl⟩
theorem wc_yX7_all : Cond.code yX7_all cX7_all 3 (some FieldType.int) ∈ am_gw := List.mem_filter.mpr ⟨List.mem_of_getElem? (i := 1530) (by decide +kernel), rfl⟩
theorem wc_yX7_allOf : Cond.code yX7_allOf cX7_allOf 5 (some FieldType.int) ∈ am_gw := List.mem_filter.mpr ⟨List.mem_of_getElem? (i := 1955) (by decide +kernel), rfl⟩
theorem wc_yX7_anew : Cond.code yX7_anew cX7_anew 1 none ∈ am_gw := List.mem_filter.mpr ⟨List.mem_of_getElem? (i := 1833) (by decide +kernel), rfl⟩
theorem wc_yX7_arePassed : Cond.code yX7_arePassed cX7_arePassed 3 (some FieldType.boolean) ∈ am_gw := List.mem_filter.mpr ⟨List.mem_of_getElem? (i := 1821) (by decide +kernel), rfl⟩
theorem wc_yX7_beginLevel : Cond.code yX7_beginLevel cX7_beginLevel 5 none ∈ am_gw := List.mem_filter.mpr ⟨List.mem_of_getElem? (i := 1728) (by decide +kernel), rfl⟩
theorem wc_yX7_beginOne : Cond.code yX7_beginOne cX7_beginOne 2 (some FieldType.int) ∈ am_gw := List.mem_filter.mpr ⟨List.mem_of_getElem? (i := 1576) (by decide +kernel), rfl⟩
theorem wc_yX7_behindOne : Cond.code yX7_behindOne cX7_behindOne 4 (some FieldType.boolean) ∈ am_gw := List.mem_filter.mpr ⟨List.mem_of_getElem? (i := 1534) (by decide +kernel), rfl⟩
theorem wc_yX7_betweenOf : Cond.code yX7_betweenOf cX7_betweenOf 1 (some FieldType.int) ∈ am_gw := List.mem_filter.mpr ⟨List.mem_of_getElem? (i := 1538) (by decide +kernel), rfl⟩
theorem wc_yX7_bitsFrom : Cond.code yX7_bitsFrom cX7_bitsFrom 5 (some FieldType.long) ∈ am_gw := List.mem_filter.mpr ⟨List.mem_of_getElem? (i := 1793) (by decide +kernel), rfl⟩
theorem wc_yX7_body : Cond.code yX7_body cX7_body 3 (some FieldType.int) ∈ am_gw := List.mem_filter.mpr ⟨List.mem_of_getElem? (i := 1522) (by decide +kernel), rfl⟩
theorem wc_yX7_bringBack : Cond.code yX7_bringBack cX7_bringBack 2 none ∈ am_gw := List.mem_filter.mpr ⟨List.mem_of_getElem? (i := 1813) (by decide +kernel), rfl⟩
theorem wc_yX7_byteAt : Cond.code yX7_byteAt cX7_byteAt 2 (some FieldType.int) ∈ am_gw := List.mem_filter.mpr ⟨List.mem_of_getElem? (i := 1486) (by decide +kernel), rfl⟩
theorem wc_yX7_byteFor : Cond.code yX7_byteFor cX7_byteFor 8 (some FieldType.int) ∈ am_gw := List.mem_filter.mpr ⟨List.mem_of_getElem? (i := 1981) (by decide +kernel), rfl⟩
theorem wc_yX7_bytesFrom : Cond.code yX7_bytesFrom cX7_bytesFrom 5 (some FieldType.int) ∈ am_gw := List.mem_filter.mpr ⟨List.mem_of_getElem? (i := 1801) (by decide +kernel), rfl⟩
theorem wc_yX7_canSet : Cond.code yX7_canSet cX7_canSet 3 (some FieldType.boolean) ∈ am_gw := List.mem_filter.mpr ⟨List.mem_of_getElem? (i := 1646) (by decide +kernel), rfl⟩
theorem wc_yX7_canSize : Cond.code yX7_canSize cX7_canSize 2 (some FieldType.boolean) ∈ am_gw := List.mem_filter.mpr ⟨List.mem_of_getElem? (i := 1670) (by decide +kernel), rfl⟩
theorem wc_yX7_clause : Cond.code yX7_clause cX7_clause 5 (some FieldType.int) ∈ am_gw := List.mem_filter.mpr ⟨List.mem_of_getElem? (i := 1501) (by decide +kernel), rfl⟩
theorem wc_yX7_clauseAt : Cond.code yX7_clauseAt cX7_clauseAt 2 (some FieldType.int) ∈ am_gw := List.mem_filter.mpr ⟨List.mem_of_getElem? (i := 1697) (by decide +kernel), rfl⟩
theorem wc_yX7_clauses : Cond.code yX7_clauses cX7_clauses 2 (some FieldType.int) ∈ am_gw := List.mem_filter.mpr ⟨List.mem_of_getElem? (i := 1694) (by decide +kernel), rfl⟩
theorem wc_yX7_clip : Cond.code yX7_clip cX7_clip 2 (some FieldType.long) ∈ am_gw := List.mem_filter.mpr ⟨List.mem_of_getElem? (i := 1766) (by decide +kernel), rfl⟩
theorem wc_yX7_compareOf : Cond.code yX7_compareOf cX7_compareOf 1 (some FieldType.int) ∈ am_gw := List.mem_filter.mpr ⟨List.mem_of_getElem? (i := 1560) (by decide +kernel), rfl⟩
theorem wc_yX7_copy : Cond.code yX7_copy cX7_copy 3 none ∈ am_gw := List.mem_filter.mpr ⟨List.mem_of_getElem? (i := 1288) (by decide +kernel), rfl⟩
theorem wc_yX7_cutTo : Cond.code yX7_cutTo cX7_cutTo 3 none ∈ am_gw := List.mem_filter.mpr ⟨List.mem_of_getElem? (i := 1678) (by decide +kernel), rfl⟩
theorem wc_yX7_drawnBy : Cond.code yX7_drawnBy cX7_drawnBy 3 (some FieldType.int) ∈ am_gw := List.mem_filter.mpr ⟨List.mem_of_getElem? (i := 1829) (by decide +kernel), rfl⟩
theorem wc_yX7_emit : Cond.code yX7_emit cX7_emit 3 none ∈ am_gw := List.mem_filter.mpr ⟨List.mem_of_getElem? (i := 1568) (by decide +kernel), rfl⟩
theorem wc_yX7_endLevel : Cond.code yX7_endLevel cX7_endLevel 6 none ∈ am_gw := List.mem_filter.mpr ⟨List.mem_of_getElem? (i := 1809) (by decide +kernel), rfl⟩
theorem wc_yX7_fieldClause : Cond.code yX7_fieldClause cX7_fieldClause 5 (some FieldType.int) ∈ am_gw := List.mem_filter.mpr ⟨List.mem_of_getElem? (i := 1619) (by decide +kernel), rfl⟩
theorem wc_yX7_fieldNamed : Cond.code yX7_fieldNamed cX7_fieldNamed 1 (some FieldType.int) ∈ am_gw := List.mem_filter.mpr ⟨List.mem_of_getElem? (i := 1584) (by decide +kernel), rfl⟩
theorem wc_yX7_figure : Cond.code yX7_figure cX7_figure 4 (some FieldType.int) ∈ am_gw := List.mem_filter.mpr ⟨List.mem_of_getElem? (i := 1615) (by decide +kernel), rfl⟩
theorem wc_yX7_four : Cond.code yX7_four cX7_four 3 none ∈ am_gw := List.mem_filter.mpr ⟨List.mem_of_getElem? (i := 1463) (by decide +kernel), rfl⟩
theorem wc_yX7_furtherSum : Cond.code yX7_furtherSum cX7_furtherSum 5 (some FieldType.int) ∈ am_gw := List.mem_filter.mpr ⟨List.mem_of_getElem? (i := 1626) (by decide +kernel), rfl⟩
theorem wc_yX7_happens : Cond.code yX7_happens cX7_happens 3 none ∈ am_gw := List.mem_filter.mpr ⟨List.mem_of_getElem? (i := 1866) (by decide +kernel), rfl⟩
theorem wc_yX7_has : Cond.code yX7_has cX7_has 2 (some FieldType.boolean) ∈ am_gw := List.mem_filter.mpr ⟨List.mem_of_getElem? (i := 1622) (by decide +kernel), rfl⟩
theorem wc_yX7_hasSum : Cond.code yX7_hasSum cX7_hasSum 3 (some FieldType.boolean) ∈ am_gw := List.mem_filter.mpr ⟨List.mem_of_getElem? (i := 1690) (by decide +kernel), rfl⟩
theorem wc_yX7_hasValue : Cond.code yX7_hasValue cX7_hasValue 4 (some FieldType.boolean) ∈ am_gw := List.mem_filter.mpr ⟨List.mem_of_getElem? (i := 1985) (by decide +kernel), rfl⟩
theorem wc_yX7_held : Cond.code yX7_held cX7_held 4 (some FieldType.int) ∈ am_gw := List.mem_filter.mpr ⟨List.mem_of_getElem? (i := 1843) (by decide +kernel), rfl⟩
theorem wc_yX7_isAnyBroken : Cond.code yX7_isAnyBroken cX7_isAnyBroken 3 (some FieldType.boolean) ∈ am_gw := List.mem_filter.mpr ⟨List.mem_of_getElem? (i := 1736) (by decide +kernel), rfl⟩
theorem wc_yX7_isAsk : Cond.code yX7_isAsk cX7_isAsk 1 (some FieldType.boolean) ∈ am_gw := List.mem_filter.mpr ⟨List.mem_of_getElem? (i := 1549) (by decide +kernel), rfl⟩
theorem wc_yX7_isAskAhead : Cond.code yX7_isAskAhead cX7_isAskAhead 1 (some FieldType.boolean) ∈ am_gw := List.mem_filter.mpr ⟨List.mem_of_getElem? (i := 1599) (by decide +kernel), rfl⟩
theorem wc_yX7_isAsked : Cond.code yX7_isAsked cX7_isAsked 5 (some FieldType.boolean) ∈ am_gw := List.mem_filter.mpr ⟨List.mem_of_getElem? (i := 1771) (by decide +kernel), rfl⟩
theorem wc_yX7_isCompared : Cond.code yX7_isCompared cX7_isCompared 2 (some FieldType.boolean) ∈ am_gw := List.mem_filter.mpr ⟨List.mem_of_getElem? (i := 1553) (by decide +kernel), rfl⟩
theorem wc_yX7_isField : Cond.code yX7_isField cX7_isField 1 (some FieldType.boolean) ∈ am_gw := List.mem_filter.mpr ⟨List.mem_of_getElem? (i := 1910) (by decide +kernel), rfl⟩
theorem wc_yX7_isFigure : Cond.code yX7_isFigure cX7_isFigure 1 (some FieldType.boolean) ∈ am_gw := List.mem_filter.mpr ⟨List.mem_of_getElem? (i := 1489) (by decide +kernel), rfl⟩
theorem wc_yX7_isHeld : Cond.code yX7_isHeld cX7_isHeld 2 (some FieldType.boolean) ∈ am_gw := List.mem_filter.mpr ⟨List.mem_of_getElem? (i := 1942) (by decide +kernel), rfl⟩
theorem wc_yX7_isIn : Cond.code yX7_isIn cX7_isIn 3 (some FieldType.boolean) ∈ am_gw := List.mem_filter.mpr ⟨List.mem_of_getElem? (i := 1470) (by decide +kernel), rfl⟩
theorem wc_yX7_isInside : Cond.code yX7_isInside cX7_isInside 3 (some FieldType.boolean) ∈ am_gw := List.mem_filter.mpr ⟨List.mem_of_getElem? (i := 1760) (by decide +kernel), rfl⟩
theorem wc_yX7_isLetterByte : Cond.code yX7_isLetterByte cX7_isLetterByte 1 (some FieldType.boolean) ∈ am_gw := List.mem_filter.mpr ⟨List.mem_of_getElem? (i := 1493) (by decide +kernel), rfl⟩
theorem wc_yX7_isNestBegun : Cond.code yX7_isNestBegun cX7_isNestBegun 8 (some FieldType.boolean) ∈ am_gw := List.mem_filter.mpr ⟨List.mem_of_getElem? (i := 1744) (by decide +kernel), rfl⟩
theorem wc_yX7_isOf : Cond.code yX7_isOf cX7_isOf 2 (some FieldType.boolean) ∈ am_gw := List.mem_filter.mpr ⟨List.mem_of_getElem? (i := 1591) (by decide +kernel), rfl⟩
theorem wc_yX7_isPlace : Cond.code yX7_isPlace cX7_isPlace 2 (some FieldType.boolean) ∈ am_gw := List.mem_filter.mpr ⟨List.mem_of_getElem? (i := 1650) (by decide +kernel), rfl⟩
theorem wc_yX7_isPlain : Cond.code yX7_isPlain cX7_isPlain 6 (some FieldType.boolean) ∈ am_gw := List.mem_filter.mpr ⟨List.mem_of_getElem? (i := 1967) (by decide +kernel), rfl⟩
theorem wc_yX7_isPlayed : Cond.code yX7_isPlayed cX7_isPlayed 3 (some FieldType.boolean) ∈ am_gw := List.mem_filter.mpr ⟨List.mem_of_getElem? (i := 1855) (by decide +kernel), rfl⟩
theorem wc_yX7_isSign : Cond.code yX7_isSign cX7_isSign 1 (some FieldType.boolean) ∈ am_gw := List.mem_filter.mpr ⟨List.mem_of_getElem? (i := 1497) (by decide +kernel), rfl⟩
theorem wc_yX7_isStretch : Cond.code yX7_isStretch cX7_isStretch 3 (some FieldType.boolean) ∈ am_gw := List.mem_filter.mpr ⟨List.mem_of_getElem? (i := 2009) (by decide +kernel), rfl⟩
theorem wc_yX7_isText : Cond.code yX7_isText cX7_isText 2 (some FieldType.boolean) ∈ am_gw := List.mem_filter.mpr ⟨List.mem_of_getElem? (i := 1851) (by decide +kernel), rfl⟩
theorem wc_yX7_isValidNow : Cond.code yX7_isValidNow cX7_isValidNow 2 (some FieldType.boolean) ∈ am_gw := List.mem_filter.mpr ⟨List.mem_of_getElem? (i := 1903) (by decide +kernel), rfl⟩
theorem wc_yX7_isWithin : Cond.code yX7_isWithin cX7_isWithin 5 (some FieldType.boolean) ∈ am_gw := List.mem_filter.mpr ⟨List.mem_of_getElem? (i := 1777) (by decide +kernel), rfl⟩
theorem wc_yX7_isWord : Cond.code yX7_isWord cX7_isWord 3 (some FieldType.boolean) ∈ am_gw := List.mem_filter.mpr ⟨List.mem_of_getElem? (i := 1515) (by decide +kernel), rfl⟩
theorem wc_yX7_joined : Cond.code yX7_joined cX7_joined 3 (some FieldType.boolean) ∈ am_gw := List.mem_filter.mpr ⟨List.mem_of_getElem? (i := 1774) (by decide +kernel), rfl⟩
theorem wc_yX7_keep : Cond.code yX7_keep cX7_keep 3 none ∈ am_gw := List.mem_filter.mpr ⟨List.mem_of_getElem? (i := 1654) (by decide +kernel), rfl⟩
theorem wc_yX7_layOrder : Cond.code yX7_layOrder cX7_layOrder 4 none ∈ am_gw := List.mem_filter.mpr ⟨List.mem_of_getElem? (i := 1701) (by decide +kernel), rfl⟩
theorem wc_yX7_lineOf : Cond.code yX7_lineOf cX7_lineOf 4 (some FieldType.int) ∈ am_gw := List.mem_filter.mpr ⟨List.mem_of_getElem? (i := 1882) (by decide +kernel), rfl⟩
theorem wc_yX7_mend : Cond.code yX7_mend cX7_mend 2 (some FieldType.int) ∈ am_gw := List.mem_filter.mpr ⟨List.mem_of_getElem? (i := 1682) (by decide +kernel), rfl⟩
theorem wc_yX7_mendNow : Cond.code yX7_mendNow cX7_mendNow 5 (some FieldType.int) ∈ am_gw := List.mem_filter.mpr ⟨List.mem_of_getElem? (i := 1686) (by decide +kernel), rfl⟩
theorem wc_yX7_mendRound : Cond.code yX7_mendRound cX7_mendRound 4 (some FieldType.boolean) ∈ am_gw := List.mem_filter.mpr ⟨List.mem_of_getElem? (i := 1720) (by decide +kernel), rfl⟩
theorem wc_yX7_mustClause : Cond.code yX7_mustClause cX7_mustClause 3 (some FieldType.int) ∈ am_gw := List.mem_filter.mpr ⟨List.mem_of_getElem? (i := 1526) (by decide +kernel), rfl⟩
theorem wc_yX7_nameLevel : Cond.code yX7_nameLevel cX7_nameLevel 2 none ∈ am_gw := List.mem_filter.mpr ⟨List.mem_of_getElem? (i := 1740) (by decide +kernel), rfl⟩
theorem wc_yX7_nameOf : Cond.code yX7_nameOf cX7_nameOf 1 (some FieldType.int) ∈ am_gw := List.mem_filter.mpr ⟨List.mem_of_getElem? (i := 1580) (by decide +kernel), rfl⟩
theorem wc_yX7_namesIn : Cond.code yX7_namesIn cX7_namesIn 6 (some FieldType.int) ∈ am_gw := List.mem_filter.mpr ⟨List.mem_of_getElem? (i := 1712) (by decide +kernel), rfl⟩
theorem wc_yX7_namesOf : Cond.code yX7_namesOf cX7_namesOf 6 (some FieldType.int) ∈ am_gw := List.mem_filter.mpr ⟨List.mem_of_getElem? (i := 1705) (by decide +kernel), rfl⟩
theorem wc_yX7_needs : Cond.code yX7_needs cX7_needs 6 (some FieldType.long) ∈ am_gw := List.mem_filter.mpr ⟨List.mem_of_getElem? (i := 1951) (by decide +kernel), rfl⟩
theorem wc_yX7_nextToken : Cond.code yX7_nextToken cX7_nextToken 2 none ∈ am_gw := List.mem_filter.mpr ⟨List.mem_of_getElem? (i := 1482) (by decide +kernel), rfl⟩
theorem wc_yX7_numberFrom : Cond.code yX7_numberFrom cX7_numberFrom 5 (some FieldType.int) ∈ am_gw := List.mem_filter.mpr ⟨List.mem_of_getElem? (i := 1786) (by decide +kernel), rfl⟩
theorem wc_yX7_ofOne : Cond.code yX7_ofOne cX7_ofOne 5 none ∈ am_gw := List.mem_filter.mpr ⟨List.mem_of_getElem? (i := 1756) (by decide +kernel), rfl⟩
theorem wc_yX7_openAt : Cond.code yX7_openAt cX7_openAt 2 (some FieldType.int) ∈ am_gw := List.mem_filter.mpr ⟨List.mem_of_getElem? (i := 1546) (by decide +kernel), rfl⟩
theorem wc_yX7_openNow : Cond.code yX7_openNow cX7_openNow 1 (some FieldType.int) ∈ am_gw := List.mem_filter.mpr ⟨List.mem_of_getElem? (i := 1542) (by decide +kernel), rfl⟩
theorem wc_yX7_opened : Cond.code yX7_opened cX7_opened 2 (some FieldType.int) ∈ am_gw := List.mem_filter.mpr ⟨List.mem_of_getElem? (i := 1595) (by decide +kernel), rfl⟩
theorem wc_yX7_partOf : Cond.code yX7_partOf cX7_partOf 2 (some FieldType.int) ∈ am_gw := List.mem_filter.mpr ⟨List.mem_of_getElem? (i := 1572) (by decide +kernel), rfl⟩
theorem wc_yX7_pass : Cond.code yX7_pass cX7_pass 3 none ∈ am_gw := List.mem_filter.mpr ⟨List.mem_of_getElem? (i := 1825) (by decide +kernel), rfl⟩
theorem wc_yX7_putAside : Cond.code yX7_putAside cX7_putAside 2 none ∈ am_gw := List.mem_filter.mpr ⟨List.mem_of_getElem? (i := 1716) (by decide +kernel), rfl⟩
theorem wc_yX7_rank : Cond.code yX7_rank cX7_rank 1 (some FieldType.int) ∈ am_gw := List.mem_filter.mpr ⟨List.mem_of_getElem? (i := 1556) (by decide +kernel), rfl⟩
theorem wc_yX7_read : Cond.code yX7_read cX7_read 2 none ∈ am_gw := List.mem_filter.mpr ⟨List.mem_of_getElem? (i := 1899) (by decide +kernel), rfl⟩
theorem wc_yX7_readBy : Cond.code yX7_readBy cX7_readBy 3 none ∈ am_gw := List.mem_filter.mpr ⟨List.mem_of_getElem? (i := 1724) (by decide +kernel), rfl⟩
theorem wc_yX7_readField : Cond.code yX7_readField cX7_readField 4 (some FieldType.boolean) ∈ am_gw := List.mem_filter.mpr ⟨List.mem_of_getElem? (i := 1732) (by decide +kernel), rfl⟩
theorem wc_yX7_readMusts : Cond.code yX7_readMusts cX7_readMusts 5 none ∈ am_gw := List.mem_filter.mpr ⟨List.mem_of_getElem? (i := 1805) (by decide +kernel), rfl⟩
theorem wc_yX7_readNum : Cond.code yX7_readNum cX7_readNum 9 none ∈ am_gw := List.mem_filter.mpr ⟨List.mem_of_getElem? (i := 1781) (by decide +kernel), rfl⟩
theorem wc_yX7_readSum : Cond.code yX7_readSum cX7_readSum 14 none ∈ am_gw := List.mem_filter.mpr ⟨List.mem_of_getElem? (i := 1797) (by decide +kernel), rfl⟩
theorem wc_yX7_readText : Cond.code yX7_readText cX7_readText 2 (some FieldType.int) ∈ am_gw := List.mem_filter.mpr ⟨List.mem_of_getElem? (i := 1478) (by decide +kernel), rfl⟩
theorem wc_yX7_readUpTo : Cond.code yX7_readUpTo cX7_readUpTo 4 none ∈ am_gw := List.mem_filter.mpr ⟨List.mem_of_getElem? (i := 1926) (by decide +kernel), rfl⟩
theorem wc_yX7_rotsNow : Cond.code yX7_rotsNow cX7_rotsNow 4 (some FieldType.int) ∈ am_gw := List.mem_filter.mpr ⟨List.mem_of_getElem? (i := 1840) (by decide +kernel), rfl⟩
theorem wc_yX7_set : Cond.code yX7_set cX7_set 3 (some FieldType.boolean) ∈ am_gw := List.mem_filter.mpr ⟨List.mem_of_getElem? (i := 1642) (by decide +kernel), rfl⟩
theorem wc_yX7_setClause : Cond.code yX7_setClause cX7_setClause 3 (some FieldType.int) ∈ am_gw := List.mem_filter.mpr ⟨List.mem_of_getElem? (i := 1611) (by decide +kernel), rfl⟩
theorem wc_yX7_setNow : Cond.code yX7_setNow cX7_setNow 3 none ∈ am_gw := List.mem_filter.mpr ⟨List.mem_of_getElem? (i := 1658) (by decide +kernel), rfl⟩
theorem wc_yX7_settle : Cond.code yX7_settle cX7_settle 2 none ∈ am_gw := List.mem_filter.mpr ⟨List.mem_of_getElem? (i := 1564) (by decide +kernel), rfl⟩
theorem wc_yX7_settleField : Cond.code yX7_settleField cX7_settleField 6 none ∈ am_gw := List.mem_filter.mpr ⟨List.mem_of_getElem? (i := 1790) (by decide +kernel), rfl⟩
theorem wc_yX7_size : Cond.code yX7_size cX7_size 2 (some FieldType.boolean) ∈ am_gw := List.mem_filter.mpr ⟨List.mem_of_getElem? (i := 1666) (by decide +kernel), rfl⟩
theorem wc_yX7_sizeNow : Cond.code yX7_sizeNow cX7_sizeNow 2 none ∈ am_gw := List.mem_filter.mpr ⟨List.mem_of_getElem? (i := 1674) (by decide +kernel), rfl⟩
theorem wc_yX7_sortOf : Cond.code yX7_sortOf cX7_sortOf 1 (some FieldType.int) ∈ am_gw := List.mem_filter.mpr ⟨List.mem_of_getElem? (i := 1505) (by decide +kernel), rfl⟩
theorem wc_yX7_sortOfField : Cond.code yX7_sortOfField cX7_sortOfField 3 (some FieldType.int) ∈ am_gw := List.mem_filter.mpr ⟨List.mem_of_getElem? (i := 1922) (by decide +kernel), rfl⟩
theorem wc_yX7_sumClause : Cond.code yX7_sumClause cX7_sumClause 4 (some FieldType.int) ∈ am_gw := List.mem_filter.mpr ⟨List.mem_of_getElem? (i := 1603) (by decide +kernel), rfl⟩
theorem wc_yX7_sumOf : Cond.code yX7_sumOf cX7_sumOf 5 (some FieldType.long) ∈ am_gw := List.mem_filter.mpr ⟨List.mem_of_getElem? (i := 1748) (by decide +kernel), rfl⟩
theorem wc_yX7_summed : Cond.code yX7_summed cX7_summed 1 (some FieldType.int) ∈ am_gw := List.mem_filter.mpr ⟨List.mem_of_getElem? (i := 1607) (by decide +kernel), rfl⟩
theorem wc_yX7_sumsOf : Cond.code yX7_sumsOf cX7_sumsOf 1 (some FieldType.int) ∈ am_gw := List.mem_filter.mpr ⟨List.mem_of_getElem? (i := 1708) (by decide +kernel), rfl⟩
theorem wc_yX7_toldOf : Cond.code yX7_toldOf cX7_toldOf 3 (some FieldType.int) ∈ am_gw := List.mem_filter.mpr ⟨List.mem_of_getElem? (i := 1914) (by decide +kernel), rfl⟩
theorem wc_yX7_two : Cond.code yX7_two cX7_two 5 (some FieldType.long) ∈ am_gw := List.mem_filter.mpr ⟨List.mem_of_getElem? (i := 1763) (by decide +kernel), rfl⟩
theorem wc_yX7_w2 : Cond.code yX7_w2 cX7_w2 2 (some FieldType.long) ∈ am_gw := List.mem_filter.mpr ⟨List.mem_of_getElem? (i := 1511) (by decide +kernel), rfl⟩
theorem wc_yX7_w3 : Cond.code yX7_w3 cX7_w3 3 (some FieldType.long) ∈ am_gw := List.mem_filter.mpr ⟨List.mem_of_getElem? (i := 1508) (by decide +kernel), rfl⟩
theorem wc_yX7_w4 : Cond.code yX7_w4 cX7_w4 4 (some FieldType.long) ∈ am_gw := List.mem_filter.mpr ⟨List.mem_of_getElem? (i := 1518) (by decide +kernel), rfl⟩
theorem wc_yX7_w5 : Cond.code yX7_w5 cX7_w5 5 (some FieldType.long) ∈ am_gw := List.mem_filter.mpr ⟨List.mem_of_getElem? (i := 1587) (by decide +kernel), rfl⟩
theorem wc_yX7_work : Cond.code yX7_work cX7_work 10 none ∈ am_gw := List.mem_filter.mpr ⟨List.mem_of_getElem? (i := 1752) (by decide +kernel), rfl⟩
theorem wc_yX7_write : Cond.code yX7_write cX7_write 5 none ∈ am_gw := List.mem_filter.mpr ⟨List.mem_of_getElem? (i := 1662) (by decide +kernel), rfl⟩
theorem wf_RX0_15 : Cond.fieldLink RX0 15 "ByteIntervals$Moment" "lines" "[I" ∈ am_gw := List.mem_filter.mpr ⟨List.mem_of_getElem? (i := 210) (by decide +kernel), rfl⟩
theorem wf_RX0_18 : Cond.fieldLink RX0 18 "ByteIntervals$Moment" "lineCount" "I" ∈ am_gw := List.mem_filter.mpr ⟨List.mem_of_getElem? (i := 212) (by decide +kernel), rfl⟩
theorem wf_RX0_22 : Cond.fieldLink RX0 22 "ByteIntervals$Moment" "size" "I" ∈ am_gw := List.mem_filter.mpr ⟨List.mem_of_getElem? (i := 214) (by decide +kernel), rfl⟩
theorem wf_RX0_25 : Cond.fieldLink RX0 25 "ByteIntervals$Moment" "day" "I" ∈ am_gw := List.mem_filter.mpr ⟨List.mem_of_getElem? (i := 217) (by decide +kernel), rfl⟩
theorem wf_RX0_28 : Cond.fieldLink RX0 28 "ByteIntervals$Moment" "x" "I" ∈ am_gw := List.mem_filter.mpr ⟨List.mem_of_getElem? (i := 220) (by decide +kernel), rfl⟩
theorem wf_RX0_9 : Cond.fieldLink RX0 9 "ByteIntervals$Moment" "bytes" "[I" ∈ am_gw := List.mem_filter.mpr ⟨List.mem_of_getElem? (i := 207) (by decide +kernel), rfl⟩
theorem wf_RX1_133 : Cond.fieldLink RX1 133 "ByteIntervals$Parser" "clauseKind" "I" ∈ am_gw := List.mem_filter.mpr ⟨List.mem_of_getElem? (i := 398) (by decide +kernel), rfl⟩
theorem wf_RX1_145 : Cond.fieldLink RX1 145 "ByteIntervals$Parser" "named" "I" ∈ am_gw := List.mem_filter.mpr ⟨List.mem_of_getElem? (i := 400) (by decide +kernel), rfl⟩
theorem wf_RX1_148 : Cond.fieldLink RX1 148 "ByteIntervals$Parser" "swayed" "I" ∈ am_gw := List.mem_filter.mpr ⟨List.mem_of_getElem? (i := 401) (by decide +kernel), rfl⟩
theorem wf_RX1_15 : Cond.fieldLink RX1 15 "ByteIntervals$Parser" "starts" "[I" ∈ am_gw := List.mem_filter.mpr ⟨List.mem_of_getElem? (i := 391) (by decide +kernel), rfl⟩
theorem wf_RX1_18 : Cond.fieldLink RX1 18 "ByteIntervals$Parser" "numbers" "[I" ∈ am_gw := List.mem_filter.mpr ⟨List.mem_of_getElem? (i := 392) (by decide +kernel), rfl⟩
theorem wf_RX1_24 : Cond.fieldLink RX1 24 "ByteIntervals$Parser" "into" "LByteIntervals$Text;" ∈ am_gw := List.mem_filter.mpr ⟨List.mem_of_getElem? (i := 396) (by decide +kernel), rfl⟩
theorem wf_RX1_41 : Cond.fieldLink RX1 41 "ByteIntervals$Parser" "here" "I" ∈ am_gw := List.mem_filter.mpr ⟨List.mem_of_getElem? (i := 395) (by decide +kernel), rfl⟩
theorem wf_RX1_45 : Cond.fieldLink RX1 45 "ByteIntervals$Parser" "token" "I" ∈ am_gw := List.mem_filter.mpr ⟨List.mem_of_getElem? (i := 394) (by decide +kernel), rfl⟩
theorem wf_RX1_48 : Cond.fieldLink RX1 48 "ByteIntervals$Parser" "codeLength" "I" ∈ am_gw := List.mem_filter.mpr ⟨List.mem_of_getElem? (i := 397) (by decide +kernel), rfl⟩
theorem wf_RX1_51 : Cond.fieldLink RX1 51 "ByteIntervals$Parser" "open" "I" ∈ am_gw := List.mem_filter.mpr ⟨List.mem_of_getElem? (i := 399) (by decide +kernel), rfl⟩
theorem wf_RX1_54 : Cond.fieldLink RX1 54 "ByteIntervals$Parser" "fault" "I" ∈ am_gw := List.mem_filter.mpr ⟨List.mem_of_getElem? (i := 402) (by decide +kernel), rfl⟩
theorem wf_RX1_57 : Cond.fieldLink RX1 57 "ByteIntervals$Parser" "faultPlace" "I" ∈ am_gw := List.mem_filter.mpr ⟨List.mem_of_getElem? (i := 403) (by decide +kernel), rfl⟩
theorem wf_RX1_80 : Cond.fieldLink RX1 80 "ByteIntervals$Parser" "count" "I" ∈ am_gw := List.mem_filter.mpr ⟨List.mem_of_getElem? (i := 393) (by decide +kernel), rfl⟩
theorem wf_RX1_9 : Cond.fieldLink RX1 9 "ByteIntervals$Parser" "tokens" "[I" ∈ am_gw := List.mem_filter.mpr ⟨List.mem_of_getElem? (i := 390) (by decide +kernel), rfl⟩
theorem wf_RX2_109 : Cond.fieldLink RX2 109 "ByteIntervals$Reader" "peeked" "J" ∈ am_gw := List.mem_filter.mpr ⟨List.mem_of_getElem? (i := 511) (by decide +kernel), rfl⟩
theorem wf_RX2_18 : Cond.fieldLink RX2 18 "ByteIntervals$Reader" "whole" "LByteIntervals$Reading;" ∈ am_gw := List.mem_filter.mpr ⟨List.mem_of_getElem? (i := 499) (by decide +kernel), rfl⟩
theorem wf_RX2_22 : Cond.fieldLink RX2 22 "ByteIntervals$Reader" "nested" "LByteIntervals$Reading;" ∈ am_gw := List.mem_filter.mpr ⟨List.mem_of_getElem? (i := 500) (by decide +kernel), rfl⟩
theorem wf_RX2_234 : Cond.fieldLink RX2 234 "ByteIntervals$Reader" "rotDay" "I" ∈ am_gw := List.mem_filter.mpr ⟨List.mem_of_getElem? (i := 512) (by decide +kernel), rfl⟩
theorem wf_RX2_237 : Cond.fieldLink RX2 237 "ByteIntervals$Reader" "rotPlace" "I" ∈ am_gw := List.mem_filter.mpr ⟨List.mem_of_getElem? (i := 513) (by decide +kernel), rfl⟩
theorem wf_RX2_240 : Cond.fieldLink RX2 240 "ByteIntervals$Reader" "rotOld" "I" ∈ am_gw := List.mem_filter.mpr ⟨List.mem_of_getElem? (i := 514) (by decide +kernel), rfl⟩
theorem wf_RX2_25 : Cond.fieldLink RX2 25 "ByteIntervals$Reader" "inmost" "LByteIntervals$Reading;" ∈ am_gw := List.mem_filter.mpr ⟨List.mem_of_getElem? (i := 501) (by decide +kernel), rfl⟩
theorem wf_RX2_31 : Cond.fieldLink RX2 31 "ByteIntervals$Reader" "mendedBytes" "[I" ∈ am_gw := List.mem_filter.mpr ⟨List.mem_of_getElem? (i := 504) (by decide +kernel), rfl⟩
theorem wf_RX2_34 : Cond.fieldLink RX2 34 "ByteIntervals$Reader" "bytesBefore" "[I" ∈ am_gw := List.mem_filter.mpr ⟨List.mem_of_getElem? (i := 506) (by decide +kernel), rfl⟩
theorem wf_RX2_37 : Cond.fieldLink RX2 37 "ByteIntervals$Reader" "bytes" "[I" ∈ am_gw := List.mem_filter.mpr ⟨List.mem_of_getElem? (i := 507) (by decide +kernel), rfl⟩
theorem wf_RX2_43 : Cond.fieldLink RX2 43 "ByteIntervals$Reader" "deepest" "I" ∈ am_gw := List.mem_filter.mpr ⟨List.mem_of_getElem? (i := 508) (by decide +kernel), rfl⟩
theorem wf_RX2_54 : Cond.fieldLink RX2 54 "ByteIntervals$Reader" "valuesOnly" "Z" ∈ am_gw := List.mem_filter.mpr ⟨List.mem_of_getElem? (i := 510) (by decide +kernel), rfl⟩
theorem wf_RX2_9 : Cond.fieldLink RX2 9 "ByteIntervals$Reader" "stack" "[I" ∈ am_gw := List.mem_filter.mpr ⟨List.mem_of_getElem? (i := 498) (by decide +kernel), rfl⟩
theorem wf_RX3_15 : Cond.fieldLink RX3 15 "ByteIntervals$Reading" "froms" "[I" ∈ am_gw := List.mem_filter.mpr ⟨List.mem_of_getElem? (i := 459) (by decide +kernel), rfl⟩
theorem wf_RX3_18 : Cond.fieldLink RX3 18 "ByteIntervals$Reading" "tos" "[I" ∈ am_gw := List.mem_filter.mpr ⟨List.mem_of_getElem? (i := 462) (by decide +kernel), rfl⟩
theorem wf_RX3_21 : Cond.fieldLink RX3 21 "ByteIntervals$Reading" "looks" "[J" ∈ am_gw := List.mem_filter.mpr ⟨List.mem_of_getElem? (i := 465) (by decide +kernel), rfl⟩
theorem wf_RX3_25 : Cond.fieldLink RX3 25 "ByteIntervals$Reading" "base" "I" ∈ am_gw := List.mem_filter.mpr ⟨List.mem_of_getElem? (i := 446) (by decide +kernel), rfl⟩
theorem wf_RX3_29 : Cond.fieldLink RX3 29 "ByteIntervals$Reading" "size" "I" ∈ am_gw := List.mem_filter.mpr ⟨List.mem_of_getElem? (i := 448) (by decide +kernel), rfl⟩
theorem wf_RX3_32 : Cond.fieldLink RX3 32 "ByteIntervals$Reading" "deep" "I" ∈ am_gw := List.mem_filter.mpr ⟨List.mem_of_getElem? (i := 450) (by decide +kernel), rfl⟩
theorem wf_RX3_35 : Cond.fieldLink RX3 35 "ByteIntervals$Reading" "told" "I" ∈ am_gw := List.mem_filter.mpr ⟨List.mem_of_getElem? (i := 452) (by decide +kernel), rfl⟩
theorem wf_RX3_38 : Cond.fieldLink RX3 38 "ByteIntervals$Reading" "broken" "I" ∈ am_gw := List.mem_filter.mpr ⟨List.mem_of_getElem? (i := 453) (by decide +kernel), rfl⟩
theorem wf_RX3_41 : Cond.fieldLink RX3 41 "ByteIntervals$Reading" "wrong" "I" ∈ am_gw := List.mem_filter.mpr ⟨List.mem_of_getElem? (i := 455) (by decide +kernel), rfl⟩
theorem wf_RX3_44 : Cond.fieldLink RX3 44 "ByteIntervals$Reading" "unmet" "I" ∈ am_gw := List.mem_filter.mpr ⟨List.mem_of_getElem? (i := 467) (by decide +kernel), rfl⟩
theorem wf_RX3_47 : Cond.fieldLink RX3 47 "ByteIntervals$Reading" "mustLooks" "J" ∈ am_gw := List.mem_filter.mpr ⟨List.mem_of_getElem? (i := 470) (by decide +kernel), rfl⟩
theorem wf_RX3_9 : Cond.fieldLink RX3 9 "ByteIntervals$Reading" "values" "[I" ∈ am_gw := List.mem_filter.mpr ⟨List.mem_of_getElem? (i := 457) (by decide +kernel), rfl⟩
theorem wf_RX4_12 : Cond.fieldLink RX4 12 "ByteIntervals$State" "now" "LByteIntervals$Moment;" ∈ am_gw := List.mem_filter.mpr ⟨List.mem_of_getElem? (i := 237) (by decide +kernel), rfl⟩
theorem wf_RX4_18 : Cond.fieldLink RX4 18 "ByteIntervals$State" "steps" "[LByteIntervals$Moment;" ∈ am_gw := List.mem_filter.mpr ⟨List.mem_of_getElem? (i := 239) (by decide +kernel), rfl⟩
theorem wf_RX4_22 : Cond.fieldLink RX4 22 "ByteIntervals$State" "firstStep" "I" ∈ am_gw := List.mem_filter.mpr ⟨List.mem_of_getElem? (i := 240) (by decide +kernel), rfl⟩
theorem wf_RX4_26 : Cond.fieldLink RX4 26 "ByteIntervals$State" "stepCount" "I" ∈ am_gw := List.mem_filter.mpr ⟨List.mem_of_getElem? (i := 241) (by decide +kernel), rfl⟩
theorem wf_RX4_29 : Cond.fieldLink RX4 29 "ByteIntervals$State" "textCount" "I" ∈ am_gw := List.mem_filter.mpr ⟨List.mem_of_getElem? (i := 243) (by decide +kernel), rfl⟩
theorem wf_RX4_32 : Cond.fieldLink RX4 32 "ByteIntervals$State" "ruling" "I" ∈ am_gw := List.mem_filter.mpr ⟨List.mem_of_getElem? (i := 245) (by decide +kernel), rfl⟩
theorem wf_RX4_35 : Cond.fieldLink RX4 35 "ByteIntervals$State" "saidFields" "[I" ∈ am_gw := List.mem_filter.mpr ⟨List.mem_of_getElem? (i := 247) (by decide +kernel), rfl⟩
theorem wf_RX4_39 : Cond.fieldLink RX4 39 "ByteIntervals$State" "saidValues" "[I" ∈ am_gw := List.mem_filter.mpr ⟨List.mem_of_getElem? (i := 249) (by decide +kernel), rfl⟩
theorem wf_RX4_42 : Cond.fieldLink RX4 42 "ByteIntervals$State" "saidCount" "I" ∈ am_gw := List.mem_filter.mpr ⟨List.mem_of_getElem? (i := 251) (by decide +kernel), rfl⟩
theorem wf_RX5_24 : Cond.fieldLink RX5 24 "ByteIntervals$Text" "kinds" "[I" ∈ am_gw := List.mem_filter.mpr ⟨List.mem_of_getElem? (i := 312) (by decide +kernel), rfl⟩
theorem wf_RX5_36 : Cond.fieldLink RX5 36 "ByteIntervals$Text" "hangs" "[I" ∈ am_gw := List.mem_filter.mpr ⟨List.mem_of_getElem? (i := 325) (by decide +kernel), rfl⟩
theorem wf_RX5_39 : Cond.fieldLink RX5 39 "ByteIntervals$Text" "swayed" "[I" ∈ am_gw := List.mem_filter.mpr ⟨List.mem_of_getElem? (i := 329) (by decide +kernel), rfl⟩
theorem wf_RX5_42 : Cond.fieldLink RX5 42 "ByteIntervals$Text" "sorted" "[I" ∈ am_gw := List.mem_filter.mpr ⟨List.mem_of_getElem? (i := 332) (by decide +kernel), rfl⟩
theorem wf_RX5_45 : Cond.fieldLink RX5 45 "ByteIntervals$Text" "needed" "[I" ∈ am_gw := List.mem_filter.mpr ⟨List.mem_of_getElem? (i := 341) (by decide +kernel), rfl⟩
theorem wf_RX5_48 : Cond.fieldLink RX5 48 "ByteIntervals$Text" "clauses" "I" ∈ am_gw := List.mem_filter.mpr ⟨List.mem_of_getElem? (i := 286) (by decide +kernel), rfl⟩
theorem wf_RX5_52 : Cond.fieldLink RX5 52 "ByteIntervals$Text" "rotsCode" "I" ∈ am_gw := List.mem_filter.mpr ⟨List.mem_of_getElem? (i := 305) (by decide +kernel), rfl⟩
theorem wf_RX5_55 : Cond.fieldLink RX5 55 "ByteIntervals$Text" "told" "I" ∈ am_gw := List.mem_filter.mpr ⟨List.mem_of_getElem? (i := 308) (by decide +kernel), rfl⟩
theorem wf_RX5_62 : Cond.fieldLink RX5 62 "ByteIntervals$Text" "sortedCount" "I" ∈ am_gw := List.mem_filter.mpr ⟨List.mem_of_getElem? (i := 335) (by decide +kernel), rfl⟩
theorem wf_RX5_69 : Cond.fieldLink RX5 69 "ByteIntervals$Text" "ringed" "I" ∈ am_gw := List.mem_filter.mpr ⟨List.mem_of_getElem? (i := 338) (by decide +kernel), rfl⟩
theorem wf_RX5_79 : Cond.fieldLink RX5 79 "ByteIntervals$Text" "sumNeeds" "I" ∈ am_gw := List.mem_filter.mpr ⟨List.mem_of_getElem? (i := 345) (by decide +kernel), rfl⟩
theorem wf_RX5_82 : Cond.fieldLink RX5 82 "ByteIntervals$Text" "nestNeeds" "I" ∈ am_gw := List.mem_filter.mpr ⟨List.mem_of_getElem? (i := 347) (by decide +kernel), rfl⟩
theorem wf_RX5_85 : Cond.fieldLink RX5 85 "ByteIntervals$Text" "tellsSum" "Z" ∈ am_gw := List.mem_filter.mpr ⟨List.mem_of_getElem? (i := 343) (by decide +kernel), rfl⟩
theorem wf_RX6_13 : Cond.fieldLink RX6 13 "ByteIntervals" "tapeCount" "I" ∈ am_gw := List.mem_filter.mpr ⟨List.mem_of_getElem? (i := 546) (by decide +kernel), rfl⟩
theorem wf_RX6_17 : Cond.fieldLink RX6 17 "ByteIntervals" "latestFault" "I" ∈ am_gw := List.mem_filter.mpr ⟨List.mem_of_getElem? (i := 547) (by decide +kernel), rfl⟩
theorem wf_RX6_20 : Cond.fieldLink RX6 20 "ByteIntervals" "latestFaultPlace" "I" ∈ am_gw := List.mem_filter.mpr ⟨List.mem_of_getElem? (i := 548) (by decide +kernel), rfl⟩
theorem wf_RX6_25 : Cond.fieldLink RX6 25 "ByteIntervals" "texts" "[LByteIntervals$Text;" ∈ am_gw := List.mem_filter.mpr ⟨List.mem_of_getElem? (i := 549) (by decide +kernel), rfl⟩
theorem wf_RX6_32 : Cond.fieldLink RX6 32 "ByteIntervals" "state" "LByteIntervals$State;" ∈ am_gw := List.mem_filter.mpr ⟨List.mem_of_getElem? (i := 550) (by decide +kernel), rfl⟩
theorem wf_RX6_36 : Cond.fieldLink RX6 36 "ByteIntervals" "imageState" "LByteIntervals$State;" ∈ am_gw := List.mem_filter.mpr ⟨List.mem_of_getElem? (i := 551) (by decide +kernel), rfl⟩
theorem wf_RX6_42 : Cond.fieldLink RX6 42 "ByteIntervals" "trial" "LByteIntervals$Moment;" ∈ am_gw := List.mem_filter.mpr ⟨List.mem_of_getElem? (i := 552) (by decide +kernel), rfl⟩
theorem wf_RX6_49 : Cond.fieldLink RX6 49 "ByteIntervals" "parser" "LByteIntervals$Parser;" ∈ am_gw := List.mem_filter.mpr ⟨List.mem_of_getElem? (i := 553) (by decide +kernel), rfl⟩
theorem wf_RX6_56 : Cond.fieldLink RX6 56 "ByteIntervals" "reader" "LByteIntervals$Reader;" ∈ am_gw := List.mem_filter.mpr ⟨List.mem_of_getElem? (i := 554) (by decide +kernel), rfl⟩
theorem wf_RX6_9 : Cond.fieldLink RX6 9 "ByteIntervals" "tape" "[I" ∈ am_gw := List.mem_filter.mpr ⟨List.mem_of_getElem? (i := 545) (by decide +kernel), rfl⟩
theorem wf_RX7_101 : Cond.fieldLink RX7 101 "ByteIntervalsModel" "howWas" "[I" ∈ am_gw := List.mem_filter.mpr ⟨List.mem_of_getElem? (i := 1343) (by decide +kernel), rfl⟩
theorem wf_RX7_112 : Cond.fieldLink RX7 112 "ByteIntervalsModel" "taped" "I" ∈ am_gw := List.mem_filter.mpr ⟨List.mem_of_getElem? (i := 1293) (by decide +kernel), rfl⟩
theorem wf_RX7_119 : Cond.fieldLink RX7 119 "ByteIntervalsModel" "cursor" "I" ∈ am_gw := List.mem_filter.mpr ⟨List.mem_of_getElem? (i := 1296) (by decide +kernel), rfl⟩
theorem wf_RX7_126 : Cond.fieldLink RX7 126 "ByteIntervalsModel" "place" "I" ∈ am_gw := List.mem_filter.mpr ⟨List.mem_of_getElem? (i := 1297) (by decide +kernel), rfl⟩
theorem wf_RX7_129 : Cond.fieldLink RX7 129 "ByteIntervalsModel" "token" "I" ∈ am_gw := List.mem_filter.mpr ⟨List.mem_of_getElem? (i := 1298) (by decide +kernel), rfl⟩
theorem wf_RX7_13 : Cond.fieldLink RX7 13 "ByteIntervalsModel" "image" "[I" ∈ am_gw := List.mem_filter.mpr ⟨List.mem_of_getElem? (i := 1290) (by decide +kernel), rfl⟩
theorem wf_RX7_136 : Cond.fieldLink RX7 136 "ByteIntervalsModel" "figures" "I" ∈ am_gw := List.mem_filter.mpr ⟨List.mem_of_getElem? (i := 1299) (by decide +kernel), rfl⟩
theorem wf_RX7_143 : Cond.fieldLink RX7 143 "ByteIntervalsModel" "word" "J" ∈ am_gw := List.mem_filter.mpr ⟨List.mem_of_getElem? (i := 1300) (by decide +kernel), rfl⟩
theorem wf_RX7_16 : Cond.fieldLink RX7 16 "ByteIntervalsModel" "texts" "[I" ∈ am_gw := List.mem_filter.mpr ⟨List.mem_of_getElem? (i := 1291) (by decide +kernel), rfl⟩
theorem wf_RX7_168 : Cond.fieldLink RX7 168 "ByteIntervalsModel" "text0" "I" ∈ am_gw := List.mem_filter.mpr ⟨List.mem_of_getElem? (i := 1301) (by decide +kernel), rfl⟩
theorem wf_RX7_171 : Cond.fieldLink RX7 171 "ByteIntervalsModel" "written" "I" ∈ am_gw := List.mem_filter.mpr ⟨List.mem_of_getElem? (i := 1302) (by decide +kernel), rfl⟩
theorem wf_RX7_178 : Cond.fieldLink RX7 178 "ByteIntervalsModel" "sort0" "I" ∈ am_gw := List.mem_filter.mpr ⟨List.mem_of_getElem? (i := 1303) (by decide +kernel), rfl⟩
theorem wf_RX7_181 : Cond.fieldLink RX7 181 "ByteIntervalsModel" "piled" "I" ∈ am_gw := List.mem_filter.mpr ⟨List.mem_of_getElem? (i := 1305) (by decide +kernel), rfl⟩
theorem wf_RX7_19 : Cond.fieldLink RX7 19 "ByteIntervalsModel" "tape" "[I" ∈ am_gw := List.mem_filter.mpr ⟨List.mem_of_getElem? (i := 1292) (by decide +kernel), rfl⟩
theorem wf_RX7_191 : Cond.fieldLink RX7 191 "ByteIntervalsModel" "opens" "I" ∈ am_gw := List.mem_filter.mpr ⟨List.mem_of_getElem? (i := 1306) (by decide +kernel), rfl⟩
theorem wf_RX7_212 : Cond.fieldLink RX7 212 "ByteIntervalsModel" "isWhole" "Z" ∈ am_gw := List.mem_filter.mpr ⟨List.mem_of_getElem? (i := 1307) (by decide +kernel), rfl⟩
theorem wf_RX7_22 : Cond.fieldLink RX7 22 "ByteIntervalsModel" "fault" "I" ∈ am_gw := List.mem_filter.mpr ⟨List.mem_of_getElem? (i := 1294) (by decide +kernel), rfl⟩
theorem wf_RX7_257 : Cond.fieldLink RX7 257 "ByteIntervalsModel" "told0" "I" ∈ am_gw := List.mem_filter.mpr ⟨List.mem_of_getElem? (i := 1309) (by decide +kernel), rfl⟩
theorem wf_RX7_26 : Cond.fieldLink RX7 26 "ByteIntervalsModel" "faultPlace" "I" ∈ am_gw := List.mem_filter.mpr ⟨List.mem_of_getElem? (i := 1295) (by decide +kernel), rfl⟩
theorem wf_RX7_284 : Cond.fieldLink RX7 284 "ByteIntervalsModel" "hasRots" "Z" ∈ am_gw := List.mem_filter.mpr ⟨List.mem_of_getElem? (i := 1308) (by decide +kernel), rfl⟩
theorem wf_RX7_29 : Cond.fieldLink RX7 29 "ByteIntervalsModel" "pile" "[I" ∈ am_gw := List.mem_filter.mpr ⟨List.mem_of_getElem? (i := 1304) (by decide +kernel), rfl⟩
theorem wf_RX7_304 : Cond.fieldLink RX7 304 "ByteIntervalsModel" "nowLong" "I" ∈ am_gw := List.mem_filter.mpr ⟨List.mem_of_getElem? (i := 1312) (by decide +kernel), rfl⟩
theorem wf_RX7_310 : Cond.fieldLink RX7 310 "ByteIntervalsModel" "nowBase" "I" ∈ am_gw := List.mem_filter.mpr ⟨List.mem_of_getElem? (i := 1311) (by decide +kernel), rfl⟩
theorem wf_RX7_32 : Cond.fieldLink RX7 32 "ByteIntervalsModel" "named" "[I" ∈ am_gw := List.mem_filter.mpr ⟨List.mem_of_getElem? (i := 1310) (by decide +kernel), rfl⟩
theorem wf_RX7_35 : Cond.fieldLink RX7 35 "ByteIntervalsModel" "values" "[J" ∈ am_gw := List.mem_filter.mpr ⟨List.mem_of_getElem? (i := 1313) (by decide +kernel), rfl⟩
theorem wf_RX7_351 : Cond.fieldLink RX7 351 "ByteIntervalsModel" "toldFields" "I" ∈ am_gw := List.mem_filter.mpr ⟨List.mem_of_getElem? (i := 1321) (by decide +kernel), rfl⟩
theorem wf_RX7_357 : Cond.fieldLink RX7 357 "ByteIntervalsModel" "rowMany" "I" ∈ am_gw := List.mem_filter.mpr ⟨List.mem_of_getElem? (i := 1320) (by decide +kernel), rfl⟩
theorem wf_RX7_360 : Cond.fieldLink RX7 360 "ByteIntervalsModel" "ringFields" "I" ∈ am_gw := List.mem_filter.mpr ⟨List.mem_of_getElem? (i := 1322) (by decide +kernel), rfl⟩
theorem wf_RX7_363 : Cond.fieldLink RX7 363 "ByteIntervalsModel" "level" "I" ∈ am_gw := List.mem_filter.mpr ⟨List.mem_of_getElem? (i := 1332) (by decide +kernel), rfl⟩
theorem wf_RX7_366 : Cond.fieldLink RX7 366 "ByteIntervalsModel" "deepest" "I" ∈ am_gw := List.mem_filter.mpr ⟨List.mem_of_getElem? (i := 1333) (by decide +kernel), rfl⟩
theorem wf_RX7_39 : Cond.fieldLink RX7 39 "ByteIntervalsModel" "looks" "[J" ∈ am_gw := List.mem_filter.mpr ⟨List.mem_of_getElem? (i := 1314) (by decide +kernel), rfl⟩
theorem wf_RX7_391 : Cond.fieldLink RX7 391 "ByteIntervalsModel" "isMust" "Z" ∈ am_gw := List.mem_filter.mpr ⟨List.mem_of_getElem? (i := 1335) (by decide +kernel), rfl⟩
theorem wf_RX7_400 : Cond.fieldLink RX7 400 "ByteIntervalsModel" "mustFirst" "I" ∈ am_gw := List.mem_filter.mpr ⟨List.mem_of_getElem? (i := 1334) (by decide +kernel), rfl⟩
theorem wf_RX7_403 : Cond.fieldLink RX7 403 "ByteIntervalsModel" "textNow" "I" ∈ am_gw := List.mem_filter.mpr ⟨List.mem_of_getElem? (i := 1336) (by decide +kernel), rfl⟩
theorem wf_RX7_42 : Cond.fieldLink RX7 42 "ByteIntervalsModel" "truth" "[Z" ∈ am_gw := List.mem_filter.mpr ⟨List.mem_of_getElem? (i := 1315) (by decide +kernel), rfl⟩
theorem wf_RX7_46 : Cond.fieldLink RX7 46 "ByteIntervalsModel" "truthLooks" "[J" ∈ am_gw := List.mem_filter.mpr ⟨List.mem_of_getElem? (i := 1316) (by decide +kernel), rfl⟩
theorem wf_RX7_466 : Cond.fieldLink RX7 466 "ByteIntervalsModel" "rotted" "I" ∈ am_gw := List.mem_filter.mpr ⟨List.mem_of_getElem? (i := 1340) (by decide +kernel), rfl⟩
theorem wf_RX7_49 : Cond.fieldLink RX7 49 "ByteIntervalsModel" "clauseOf" "[I" ∈ am_gw := List.mem_filter.mpr ⟨List.mem_of_getElem? (i := 1317) (by decide +kernel), rfl⟩
theorem wf_RX7_52 : Cond.fieldLink RX7 52 "ByteIntervalsModel" "hangs" "[I" ∈ am_gw := List.mem_filter.mpr ⟨List.mem_of_getElem? (i := 1318) (by decide +kernel), rfl⟩
theorem wf_RX7_55 : Cond.fieldLink RX7 55 "ByteIntervalsModel" "row" "[I" ∈ am_gw := List.mem_filter.mpr ⟨List.mem_of_getElem? (i := 1319) (by decide +kernel), rfl⟩
theorem wf_RX7_58 : Cond.fieldLink RX7 58 "ByteIntervalsModel" "base" "[I" ∈ am_gw := List.mem_filter.mpr ⟨List.mem_of_getElem? (i := 1323) (by decide +kernel), rfl⟩
theorem wf_RX7_61 : Cond.fieldLink RX7 61 "ByteIntervalsModel" "longs" "[I" ∈ am_gw := List.mem_filter.mpr ⟨List.mem_of_getElem? (i := 1324) (by decide +kernel), rfl⟩
theorem wf_RX7_64 : Cond.fieldLink RX7 64 "ByteIntervalsModel" "next" "[I" ∈ am_gw := List.mem_filter.mpr ⟨List.mem_of_getElem? (i := 1325) (by decide +kernel), rfl⟩
theorem wf_RX7_67 : Cond.fieldLink RX7 67 "ByteIntervalsModel" "levelLooks" "[J" ∈ am_gw := List.mem_filter.mpr ⟨List.mem_of_getElem? (i := 1326) (by decide +kernel), rfl⟩
theorem wf_RX7_7 : Cond.fieldLink RX7 7 "ByteIntervalsModel" "a" "[I" ∈ am_gw := List.mem_filter.mpr ⟨List.mem_of_getElem? (i := 1289) (by decide +kernel), rfl⟩
theorem wf_RX7_70 : Cond.fieldLink RX7 70 "ByteIntervalsModel" "value" "[I" ∈ am_gw := List.mem_filter.mpr ⟨List.mem_of_getElem? (i := 1327) (by decide +kernel), rfl⟩
theorem wf_RX7_73 : Cond.fieldLink RX7 73 "ByteIntervalsModel" "from" "[I" ∈ am_gw := List.mem_filter.mpr ⟨List.mem_of_getElem? (i := 1328) (by decide +kernel), rfl⟩
theorem wf_RX7_76 : Cond.fieldLink RX7 76 "ByteIntervalsModel" "to" "[I" ∈ am_gw := List.mem_filter.mpr ⟨List.mem_of_getElem? (i := 1329) (by decide +kernel), rfl⟩
theorem wf_RX7_79 : Cond.fieldLink RX7 79 "ByteIntervalsModel" "how" "[I" ∈ am_gw := List.mem_filter.mpr ⟨List.mem_of_getElem? (i := 1330) (by decide +kernel), rfl⟩
theorem wf_RX7_82 : Cond.fieldLink RX7 82 "ByteIntervalsModel" "own" "[J" ∈ am_gw := List.mem_filter.mpr ⟨List.mem_of_getElem? (i := 1331) (by decide +kernel), rfl⟩
theorem wf_RX7_85 : Cond.fieldLink RX7 85 "ByteIntervalsModel" "aside" "[I" ∈ am_gw := List.mem_filter.mpr ⟨List.mem_of_getElem? (i := 1337) (by decide +kernel), rfl⟩
theorem wf_RX7_88 : Cond.fieldLink RX7 88 "ByteIntervalsModel" "round" "[I" ∈ am_gw := List.mem_filter.mpr ⟨List.mem_of_getElem? (i := 1338) (by decide +kernel), rfl⟩
theorem wf_RX7_91 : Cond.fieldLink RX7 91 "ByteIntervalsModel" "isWritten" "Z" ∈ am_gw := List.mem_filter.mpr ⟨List.mem_of_getElem? (i := 1339) (by decide +kernel), rfl⟩
theorem wf_RX7_95 : Cond.fieldLink RX7 95 "ByteIntervalsModel" "kept" "[I" ∈ am_gw := List.mem_filter.mpr ⟨List.mem_of_getElem? (i := 1341) (by decide +kernel), rfl⟩
theorem wf_RX7_98 : Cond.fieldLink RX7 98 "ByteIntervalsModel" "valueWas" "[I" ∈ am_gw := List.mem_filter.mpr ⟨List.mem_of_getElem? (i := 1342) (by decide +kernel), rfl⟩
theorem wg_RX1_127 : Cond.fieldLinkNest RX1 127 "ByteIntervals$Text" "code" "[I" "ByteIntervals" ∈ lw_tbl := List.mem_of_getElem? (i := 303) (by decide +kernel)
theorem wg_RX1_130 : Cond.fieldLinkNest RX1 130 "ByteIntervals$Text" "rotsCode" "I" "ByteIntervals" ∈ lw_tbl := List.mem_of_getElem? (i := 306) (by decide +kernel)
theorem wg_RX1_136 : Cond.fieldLinkNest RX1 136 "ByteIntervals$Text" "clauseKinds" "[I" "ByteIntervals" ∈ lw_tbl := List.mem_of_getElem? (i := 292) (by decide +kernel)
theorem wg_RX1_139 : Cond.fieldLinkNest RX1 139 "ByteIntervals$Text" "first" "[I" "ByteIntervals" ∈ lw_tbl := List.mem_of_getElem? (i := 296) (by decide +kernel)
theorem wg_RX1_142 : Cond.fieldLinkNest RX1 142 "ByteIntervals$Text" "second" "[I" "ByteIntervals" ∈ lw_tbl := List.mem_of_getElem? (i := 300) (by decide +kernel)
theorem wg_RX1_173 : Cond.fieldLinkNest RX1 173 "ByteIntervals$Text" "told" "I" "ByteIntervals" ∈ lw_tbl := List.mem_of_getElem? (i := 310) (by decide +kernel)
theorem wg_RX1_176 : Cond.fieldLinkNest RX1 176 "ByteIntervals$Text" "kinds" "[I" "ByteIntervals" ∈ lw_tbl := List.mem_of_getElem? (i := 314) (by decide +kernel)
theorem wg_RX1_179 : Cond.fieldLinkNest RX1 179 "ByteIntervals$Text" "atCode" "[I" "ByteIntervals" ∈ lw_tbl := List.mem_of_getElem? (i := 318) (by decide +kernel)
theorem wg_RX1_186 : Cond.fieldLinkNest RX1 186 "ByteIntervals$Text" "ofCode" "[I" "ByteIntervals" ∈ lw_tbl := List.mem_of_getElem? (i := 321) (by decide +kernel)
theorem wg_RX1_189 : Cond.fieldLinkNest RX1 189 "ByteIntervals$Text" "toCode" "[I" "ByteIntervals" ∈ lw_tbl := List.mem_of_getElem? (i := 324) (by decide +kernel)
theorem wg_RX1_192 : Cond.fieldLinkNest RX1 192 "ByteIntervals$Text" "hangs" "[I" "ByteIntervals" ∈ lw_tbl := List.mem_of_getElem? (i := 327) (by decide +kernel)
theorem wg_RX1_195 : Cond.fieldLinkNest RX1 195 "ByteIntervals$Text" "swayed" "[I" "ByteIntervals" ∈ lw_tbl := List.mem_of_getElem? (i := 330) (by decide +kernel)
theorem wg_RX1_67 : Cond.fieldLinkNest RX1 67 "ByteIntervals$Text" "clauses" "I" "ByteIntervals" ∈ lw_tbl := List.mem_of_getElem? (i := 287) (by decide +kernel)
theorem wg_RX2_100 : Cond.fieldLinkNest RX2 100 "ByteIntervals$Text" "hangs" "[I" "ByteIntervals" ∈ lw_tbl := List.mem_of_getElem? (i := 326) (by decide +kernel)
theorem wg_RX2_103 : Cond.fieldLinkNest RX2 103 "ByteIntervals$Reading" "broken" "I" "ByteIntervals" ∈ lw_tbl := List.mem_of_getElem? (i := 454) (by decide +kernel)
theorem wg_RX2_106 : Cond.fieldLinkNest RX2 106 "ByteIntervals$Text" "kinds" "[I" "ByteIntervals" ∈ lw_tbl := List.mem_of_getElem? (i := 313) (by decide +kernel)
theorem wg_RX2_113 : Cond.fieldLinkNest RX2 113 "ByteIntervals$Text" "atCode" "[I" "ByteIntervals" ∈ lw_tbl := List.mem_of_getElem? (i := 317) (by decide +kernel)
theorem wg_RX2_120 : Cond.fieldLinkNest RX2 120 "ByteIntervals$Text" "ofCode" "[I" "ByteIntervals" ∈ lw_tbl := List.mem_of_getElem? (i := 320) (by decide +kernel)
theorem wg_RX2_123 : Cond.fieldLinkNest RX2 123 "ByteIntervals$Text" "toCode" "[I" "ByteIntervals" ∈ lw_tbl := List.mem_of_getElem? (i := 323) (by decide +kernel)
theorem wg_RX2_126 : Cond.fieldLinkNest RX2 126 "ByteIntervals$Reading" "looks" "[J" "ByteIntervals" ∈ lw_tbl := List.mem_of_getElem? (i := 466) (by decide +kernel)
theorem wg_RX2_130 : Cond.fieldLinkNest RX2 130 "ByteIntervals$Reading" "size" "I" "ByteIntervals" ∈ lw_tbl := List.mem_of_getElem? (i := 449) (by decide +kernel)
theorem wg_RX2_131 : Cond.fieldLinkNest RX2 131 "ByteIntervals$Reading" "base" "I" "ByteIntervals" ∈ lw_tbl := List.mem_of_getElem? (i := 447) (by decide +kernel)
theorem wg_RX2_149 : Cond.fieldLinkNest RX2 149 "ByteIntervals$Reading" "deep" "I" "ByteIntervals" ∈ lw_tbl := List.mem_of_getElem? (i := 451) (by decide +kernel)
theorem wg_RX2_156 : Cond.fieldLinkNest RX2 156 "ByteIntervals$Reading" "froms" "[I" "ByteIntervals" ∈ lw_tbl := List.mem_of_getElem? (i := 460) (by decide +kernel)
theorem wg_RX2_159 : Cond.fieldLinkNest RX2 159 "ByteIntervals$Reading" "tos" "[I" "ByteIntervals" ∈ lw_tbl := List.mem_of_getElem? (i := 463) (by decide +kernel)
theorem wg_RX2_162 : Cond.fieldLinkNest RX2 162 "ByteIntervals$Reading" "values" "[I" "ByteIntervals" ∈ lw_tbl := List.mem_of_getElem? (i := 458) (by decide +kernel)
theorem wg_RX2_171 : Cond.fieldLinkNest RX2 171 "ByteIntervals$Reading" "wrong" "I" "ByteIntervals" ∈ lw_tbl := List.mem_of_getElem? (i := 456) (by decide +kernel)
theorem wg_RX2_180 : Cond.fieldLinkNest RX2 180 "ByteIntervals$Text" "nestNeeds" "I" "ByteIntervals" ∈ lw_tbl := List.mem_of_getElem? (i := 348) (by decide +kernel)
theorem wg_RX2_190 : Cond.fieldLinkNest RX2 190 "ByteIntervals$Reading" "mustLooks" "J" "ByteIntervals" ∈ lw_tbl := List.mem_of_getElem? (i := 471) (by decide +kernel)
theorem wg_RX2_193 : Cond.fieldLinkNest RX2 193 "ByteIntervals$Text" "clauses" "I" "ByteIntervals" ∈ lw_tbl := List.mem_of_getElem? (i := 288) (by decide +kernel)
theorem wg_RX2_196 : Cond.fieldLinkNest RX2 196 "ByteIntervals$Text" "clauseKinds" "[I" "ByteIntervals" ∈ lw_tbl := List.mem_of_getElem? (i := 291) (by decide +kernel)
theorem wg_RX2_199 : Cond.fieldLinkNest RX2 199 "ByteIntervals$Text" "second" "[I" "ByteIntervals" ∈ lw_tbl := List.mem_of_getElem? (i := 299) (by decide +kernel)
theorem wg_RX2_202 : Cond.fieldLinkNest RX2 202 "ByteIntervals$Text" "first" "[I" "ByteIntervals" ∈ lw_tbl := List.mem_of_getElem? (i := 295) (by decide +kernel)
theorem wg_RX2_205 : Cond.fieldLinkNest RX2 205 "ByteIntervals$Reading" "unmet" "I" "ByteIntervals" ∈ lw_tbl := List.mem_of_getElem? (i := 468) (by decide +kernel)
theorem wg_RX2_208 : Cond.fieldLinkNest RX2 208 "ByteIntervals$Text" "tellsSum" "Z" "ByteIntervals" ∈ lw_tbl := List.mem_of_getElem? (i := 344) (by decide +kernel)
theorem wg_RX2_217 : Cond.fieldLinkNest RX2 217 "ByteIntervals$Text" "sumNeeds" "I" "ByteIntervals" ∈ lw_tbl := List.mem_of_getElem? (i := 346) (by decide +kernel)
theorem wg_RX2_228 : Cond.fieldLinkNest RX2 228 "ByteIntervals$Text" "rotsCode" "I" "ByteIntervals" ∈ lw_tbl := List.mem_of_getElem? (i := 307) (by decide +kernel)
theorem wg_RX2_231 : Cond.fieldLinkNest RX2 231 "ByteIntervals$Moment" "day" "I" "ByteIntervals" ∈ lw_tbl := List.mem_of_getElem? (i := 219) (by decide +kernel)
theorem wg_RX2_246 : Cond.fieldLinkNest RX2 246 "ByteIntervals$Text" "code" "[I" "ByteIntervals" ∈ lw_tbl := List.mem_of_getElem? (i := 304) (by decide +kernel)
theorem wg_RX2_40 : Cond.fieldLinkNest RX2 40 "ByteIntervals$Moment" "bytes" "[I" "ByteIntervals" ∈ lw_tbl := List.mem_of_getElem? (i := 208) (by decide +kernel)
theorem wg_RX2_47 : Cond.fieldLinkNest RX2 47 "ByteIntervals$Moment" "size" "I" "ByteIntervals" ∈ lw_tbl := List.mem_of_getElem? (i := 215) (by decide +kernel)
theorem wg_RX2_58 : Cond.fieldLinkNest RX2 58 "ByteIntervals$Text" "ringed" "I" "ByteIntervals" ∈ lw_tbl := List.mem_of_getElem? (i := 339) (by decide +kernel)
theorem wg_RX2_71 : Cond.fieldLinkNest RX2 71 "ByteIntervals$Text" "told" "I" "ByteIntervals" ∈ lw_tbl := List.mem_of_getElem? (i := 309) (by decide +kernel)
theorem wg_RX2_78 : Cond.fieldLinkNest RX2 78 "ByteIntervals$Text" "sortedCount" "I" "ByteIntervals" ∈ lw_tbl := List.mem_of_getElem? (i := 336) (by decide +kernel)
theorem wg_RX2_81 : Cond.fieldLinkNest RX2 81 "ByteIntervals$Text" "sorted" "[I" "ByteIntervals" ∈ lw_tbl := List.mem_of_getElem? (i := 333) (by decide +kernel)
theorem wg_RX6_111 : Cond.fieldLinkNest RX6 111 "ByteIntervals$Reader" "mendedBytes" "[I" "ByteIntervals" ∈ lw_tbl := List.mem_of_getElem? (i := 505) (by decide +kernel)
theorem wg_RX6_118 : Cond.fieldLinkNest RX6 118 "ByteIntervals$Moment" "day" "I" "ByteIntervals" ∈ lw_tbl := List.mem_of_getElem? (i := 218) (by decide +kernel)
theorem wg_RX6_129 : Cond.fieldLinkNest RX6 129 "ByteIntervals$Moment" "size" "I" "ByteIntervals" ∈ lw_tbl := List.mem_of_getElem? (i := 216) (by decide +kernel)
theorem wg_RX6_142 : Cond.fieldLinkNest RX6 142 "ByteIntervals$Text" "clauses" "I" "ByteIntervals" ∈ lw_tbl := List.mem_of_getElem? (i := 289) (by decide +kernel)
theorem wg_RX6_145 : Cond.fieldLinkNest RX6 145 "ByteIntervals$Text" "clauseKinds" "[I" "ByteIntervals" ∈ lw_tbl := List.mem_of_getElem? (i := 293) (by decide +kernel)
theorem wg_RX6_148 : Cond.fieldLinkNest RX6 148 "ByteIntervals$Text" "first" "[I" "ByteIntervals" ∈ lw_tbl := List.mem_of_getElem? (i := 297) (by decide +kernel)
theorem wg_RX6_151 : Cond.fieldLinkNest RX6 151 "ByteIntervals$Text" "second" "[I" "ByteIntervals" ∈ lw_tbl := List.mem_of_getElem? (i := 301) (by decide +kernel)
theorem wg_RX6_169 : Cond.fieldLinkNest RX6 169 "ByteIntervals$Moment" "x" "I" "ByteIntervals" ∈ lw_tbl := List.mem_of_getElem? (i := 221) (by decide +kernel)
theorem wg_RX6_182 : Cond.fieldLinkNest RX6 182 "ByteIntervals$Moment" "bytes" "[I" "ByteIntervals" ∈ lw_tbl := List.mem_of_getElem? (i := 209) (by decide +kernel)
theorem wg_RX6_188 : Cond.fieldLinkNest RX6 188 "ByteIntervals$Moment" "lineCount" "I" "ByteIntervals" ∈ lw_tbl := List.mem_of_getElem? (i := 213) (by decide +kernel)
theorem wg_RX6_191 : Cond.fieldLinkNest RX6 191 "ByteIntervals$Moment" "lines" "[I" "ByteIntervals" ∈ lw_tbl := List.mem_of_getElem? (i := 211) (by decide +kernel)
theorem wg_RX6_218 : Cond.fieldLinkNest RX6 218 "ByteIntervals$Text" "needed" "[I" "ByteIntervals" ∈ lw_tbl := List.mem_of_getElem? (i := 342) (by decide +kernel)
theorem wg_RX6_228 : Cond.fieldLinkNest RX6 228 "ByteIntervals$Text" "kinds" "[I" "ByteIntervals" ∈ lw_tbl := List.mem_of_getElem? (i := 315) (by decide +kernel)
theorem wg_RX6_234 : Cond.fieldLinkNest RX6 234 "ByteIntervals$Reading" "froms" "[I" "ByteIntervals" ∈ lw_tbl := List.mem_of_getElem? (i := 461) (by decide +kernel)
theorem wg_RX6_237 : Cond.fieldLinkNest RX6 237 "ByteIntervals$Reading" "tos" "[I" "ByteIntervals" ∈ lw_tbl := List.mem_of_getElem? (i := 464) (by decide +kernel)
theorem wg_RX6_244 : Cond.fieldLinkNest RX6 244 "ByteIntervals$Text" "sortedCount" "I" "ByteIntervals" ∈ lw_tbl := List.mem_of_getElem? (i := 337) (by decide +kernel)
theorem wg_RX6_247 : Cond.fieldLinkNest RX6 247 "ByteIntervals$Text" "sorted" "[I" "ByteIntervals" ∈ lw_tbl := List.mem_of_getElem? (i := 334) (by decide +kernel)
theorem wg_RX6_250 : Cond.fieldLinkNest RX6 250 "ByteIntervals$Text" "ringed" "I" "ByteIntervals" ∈ lw_tbl := List.mem_of_getElem? (i := 340) (by decide +kernel)
theorem wg_RX6_272 : Cond.fieldLinkNest RX6 272 "ByteIntervals$Reader" "kept" "LByteIntervals$Reading;" "ByteIntervals" ∈ lw_tbl := List.mem_of_getElem? (i := 503) (by decide +kernel)
theorem wg_RX6_279 : Cond.fieldLinkNest RX6 279 "ByteIntervals$Text" "told" "I" "ByteIntervals" ∈ lw_tbl := List.mem_of_getElem? (i := 311) (by decide +kernel)
theorem wg_RX6_286 : Cond.fieldLinkNest RX6 286 "ByteIntervals$Text" "hangs" "[I" "ByteIntervals" ∈ lw_tbl := List.mem_of_getElem? (i := 328) (by decide +kernel)
theorem wg_RX6_289 : Cond.fieldLinkNest RX6 289 "ByteIntervals$Text" "swayed" "[I" "ByteIntervals" ∈ lw_tbl := List.mem_of_getElem? (i := 331) (by decide +kernel)
theorem wg_RX6_309 : Cond.fieldLinkNest RX6 309 "ByteIntervals$Reading" "unmet" "I" "ByteIntervals" ∈ lw_tbl := List.mem_of_getElem? (i := 469) (by decide +kernel)
theorem wg_RX6_312 : Cond.fieldLinkNest RX6 312 "ByteIntervals$Reader" "deepest" "I" "ByteIntervals" ∈ lw_tbl := List.mem_of_getElem? (i := 509) (by decide +kernel)
theorem wg_RX6_315 : Cond.fieldLinkNest RX6 315 "ByteIntervals$State" "saidCount" "I" "ByteIntervals" ∈ lw_tbl := List.mem_of_getElem? (i := 252) (by decide +kernel)
theorem wg_RX6_319 : Cond.fieldLinkNest RX6 319 "ByteIntervals$State" "saidFields" "[I" "ByteIntervals" ∈ lw_tbl := List.mem_of_getElem? (i := 248) (by decide +kernel)
theorem wg_RX6_322 : Cond.fieldLinkNest RX6 322 "ByteIntervals$State" "saidValues" "[I" "ByteIntervals" ∈ lw_tbl := List.mem_of_getElem? (i := 250) (by decide +kernel)
theorem wg_RX6_332 : Cond.fieldLinkNest RX6 332 "ByteIntervals$State" "stepCount" "I" "ByteIntervals" ∈ lw_tbl := List.mem_of_getElem? (i := 242) (by decide +kernel)
theorem wg_RX6_65 : Cond.fieldLinkNest RX6 65 "ByteIntervals$State" "textCount" "I" "ByteIntervals" ∈ lw_tbl := List.mem_of_getElem? (i := 244) (by decide +kernel)
theorem wg_RX6_72 : Cond.fieldLinkNest RX6 72 "ByteIntervals$Parser" "faultPlace" "I" "ByteIntervals" ∈ lw_tbl := List.mem_of_getElem? (i := 404) (by decide +kernel)
theorem wg_RX6_75 : Cond.fieldLinkNest RX6 75 "ByteIntervals$State" "ruling" "I" "ByteIntervals" ∈ lw_tbl := List.mem_of_getElem? (i := 246) (by decide +kernel)
theorem wg_RX6_82 : Cond.fieldLinkNest RX6 82 "ByteIntervals$State" "now" "LByteIntervals$Moment;" "ByteIntervals" ∈ lw_tbl := List.mem_of_getElem? (i := 238) (by decide +kernel)
theorem wi_yX0_canPut : Cond.instanceMethod yX0_canPut ∈ am_gw := List.mem_filter.mpr ⟨List.mem_of_getElem? (i := 862) (by decide +kernel), rfl⟩
theorem wi_yX0_canResize : Cond.instanceMethod yX0_canResize ∈ am_gw := List.mem_filter.mpr ⟨List.mem_of_getElem? (i := 899) (by decide +kernel), rfl⟩
theorem wi_yX0_copy : Cond.instanceMethod yX0_copy ∈ am_gw := List.mem_filter.mpr ⟨List.mem_of_getElem? (i := 880) (by decide +kernel), rfl⟩
theorem wi_yX0_covers : Cond.instanceMethod yX0_covers ∈ am_gw := List.mem_filter.mpr ⟨List.mem_of_getElem? (i := 1103) (by decide +kernel), rfl⟩
theorem wi_yX0_draw : Cond.instanceMethod yX0_draw ∈ am_gw := List.mem_filter.mpr ⟨List.mem_of_getElem? (i := 1033) (by decide +kernel), rfl⟩
theorem wi_yX0_drawAnew : Cond.instanceMethod yX0_drawAnew ∈ am_gw := List.mem_filter.mpr ⟨List.mem_of_getElem? (i := 1037) (by decide +kernel), rfl⟩
theorem wi_yX0_putByte : Cond.instanceMethod yX0_putByte ∈ am_gw := List.mem_filter.mpr ⟨List.mem_of_getElem? (i := 887) (by decide +kernel), rfl⟩
theorem wi_yX0_resize : Cond.instanceMethod yX0_resize ∈ am_gw := List.mem_filter.mpr ⟨List.mem_of_getElem? (i := 903) (by decide +kernel), rfl⟩
theorem wi_yX0_rot : Cond.instanceMethod yX0_rot ∈ am_gw := List.mem_filter.mpr ⟨List.mem_of_getElem? (i := 1046) (by decide +kernel), rfl⟩
theorem wi_yX0_takeMended : Cond.instanceMethod yX0_takeMended ∈ am_gw := List.mem_filter.mpr ⟨List.mem_of_getElem? (i := 1017) (by decide +kernel), rfl⟩
theorem wi_yX0_together : Cond.instanceMethod yX0_together ∈ am_gw := List.mem_filter.mpr ⟨List.mem_of_getElem? (i := 1083) (by decide +kernel), rfl⟩
theorem wi_yX0_write : Cond.instanceMethod yX0_write ∈ am_gw := List.mem_filter.mpr ⟨List.mem_of_getElem? (i := 891) (by decide +kernel), rfl⟩
theorem wi_yX1_advance : Cond.instanceMethod yX1_advance ∈ am_gw := List.mem_filter.mpr ⟨List.mem_of_getElem? (i := 744) (by decide +kernel), rfl⟩
theorem wi_yX1_aim : Cond.instanceMethod yX1_aim ∈ am_gw := List.mem_filter.mpr ⟨List.mem_of_getElem? (i := 796) (by decide +kernel), rfl⟩
theorem wi_yX1_closes : Cond.instanceMethod yX1_closes ∈ am_gw := List.mem_filter.mpr ⟨List.mem_of_getElem? (i := 768) (by decide +kernel), rfl⟩
theorem wi_yX1_comparisonHere : Cond.instanceMethod yX1_comparisonHere ∈ am_gw := List.mem_filter.mpr ⟨List.mem_of_getElem? (i := 808) (by decide +kernel), rfl⟩
theorem wi_yX1_emit : Cond.instanceMethod yX1_emit ∈ am_gw := List.mem_filter.mpr ⟨List.mem_of_getElem? (i := 772) (by decide +kernel), rfl⟩
theorem wi_yX1_fail : Cond.instanceMethod yX1_fail ∈ am_gw := List.mem_filter.mpr ⟨List.mem_of_getElem? (i := 740) (by decide +kernel), rfl⟩
theorem wi_yX1_numberHere : Cond.instanceMethod yX1_numberHere ∈ am_gw := List.mem_filter.mpr ⟨List.mem_of_getElem? (i := 804) (by decide +kernel), rfl⟩
theorem wi_yX1_opens : Cond.instanceMethod yX1_opens ∈ am_gw := List.mem_filter.mpr ⟨List.mem_of_getElem? (i := 764) (by decide +kernel), rfl⟩
theorem wi_yX1_parse : Cond.instanceMethod yX1_parse ∈ am_gw := List.mem_filter.mpr ⟨List.mem_of_getElem? (i := 594) (by decide +kernel), rfl⟩
theorem wi_yX1_put : Cond.instanceMethod yX1_put ∈ am_gw := List.mem_filter.mpr ⟨List.mem_of_getElem? (i := 666) (by decide +kernel), rfl⟩
theorem wi_yX1_readAsk : Cond.instanceMethod yX1_readAsk ∈ am_gw := List.mem_filter.mpr ⟨List.mem_of_getElem? (i := 760) (by decide +kernel), rfl⟩
theorem wi_yX1_readBoth : Cond.instanceMethod yX1_readBoth ∈ am_gw := List.mem_filter.mpr ⟨List.mem_of_getElem? (i := 756) (by decide +kernel), rfl⟩
theorem wi_yX1_readEither : Cond.instanceMethod yX1_readEither ∈ am_gw := List.mem_filter.mpr ⟨List.mem_of_getElem? (i := 752) (by decide +kernel), rfl⟩
theorem wi_yX1_readField : Cond.instanceMethod yX1_readField ∈ am_gw := List.mem_filter.mpr ⟨List.mem_of_getElem? (i := 816) (by decide +kernel), rfl⟩
theorem wi_yX1_readIf : Cond.instanceMethod yX1_readIf ∈ am_gw := List.mem_filter.mpr ⟨List.mem_of_getElem? (i := 792) (by decide +kernel), rfl⟩
theorem wi_yX1_readKind : Cond.instanceMethod yX1_readKind ∈ am_gw := List.mem_filter.mpr ⟨List.mem_of_getElem? (i := 736) (by decide +kernel), rfl⟩
theorem wi_yX1_readName : Cond.instanceMethod yX1_readName ∈ am_gw := List.mem_filter.mpr ⟨List.mem_of_getElem? (i := 800) (by decide +kernel), rfl⟩
theorem wi_yX1_readNumber : Cond.instanceMethod yX1_readNumber ∈ am_gw := List.mem_filter.mpr ⟨List.mem_of_getElem? (i := 812) (by decide +kernel), rfl⟩
theorem wi_yX1_readOne : Cond.instanceMethod yX1_readOne ∈ am_gw := List.mem_filter.mpr ⟨List.mem_of_getElem? (i := 784) (by decide +kernel), rfl⟩
theorem wi_yX1_readPart : Cond.instanceMethod yX1_readPart ∈ am_gw := List.mem_filter.mpr ⟨List.mem_of_getElem? (i := 827) (by decide +kernel), rfl⟩
theorem wi_yX1_readProduct : Cond.instanceMethod yX1_readProduct ∈ am_gw := List.mem_filter.mpr ⟨List.mem_of_getElem? (i := 780) (by decide +kernel), rfl⟩
theorem wi_yX1_readRest : Cond.instanceMethod yX1_readRest ∈ am_gw := List.mem_filter.mpr ⟨List.mem_of_getElem? (i := 748) (by decide +kernel), rfl⟩
theorem wi_yX1_readSum : Cond.instanceMethod yX1_readSum ∈ am_gw := List.mem_filter.mpr ⟨List.mem_of_getElem? (i := 776) (by decide +kernel), rfl⟩
theorem wi_yX1_split : Cond.instanceMethod yX1_split ∈ am_gw := List.mem_filter.mpr ⟨List.mem_of_getElem? (i := 604) (by decide +kernel), rfl⟩
theorem wi_yX1_take : Cond.instanceMethod yX1_take ∈ am_gw := List.mem_filter.mpr ⟨List.mem_of_getElem? (i := 788) (by decide +kernel), rfl⟩
theorem wi_yX2_answer : Cond.instanceMethod yX2_answer ∈ am_gw := List.mem_filter.mpr ⟨List.mem_of_getElem? (i := 940) (by decide +kernel), rfl⟩
theorem wi_yX2_askMusts : Cond.instanceMethod yX2_askMusts ∈ am_gw := List.mem_filter.mpr ⟨List.mem_of_getElem? (i := 1005) (by decide +kernel), rfl⟩
theorem wi_yX2_byteIn : Cond.instanceMethod yX2_byteIn ∈ am_gw := List.mem_filter.mpr ⟨List.mem_of_getElem? (i := 956) (by decide +kernel), rfl⟩
theorem wi_yX2_isShorter : Cond.instanceMethod yX2_isShorter ∈ am_gw := List.mem_filter.mpr ⟨List.mem_of_getElem? (i := 1207) (by decide +kernel), rfl⟩
theorem wi_yX2_isValid : Cond.instanceMethod yX2_isValid ∈ am_gw := List.mem_filter.mpr ⟨List.mem_of_getElem? (i := 1128) (by decide +kernel), rfl⟩
theorem wi_yX2_leaf : Cond.instanceMethod yX2_leaf ∈ am_gw := List.mem_filter.mpr ⟨List.mem_of_getElem? (i := 945) (by decide +kernel), rfl⟩
theorem wi_yX2_mended : Cond.instanceMethod yX2_mended ∈ am_gw := List.mem_filter.mpr ⟨List.mem_of_getElem? (i := 916) (by decide +kernel), rfl⟩
theorem wi_yX2_ofOne : Cond.instanceMethod yX2_ofOne ∈ am_gw := List.mem_filter.mpr ⟨List.mem_of_getElem? (i := 949) (by decide +kernel), rfl⟩
theorem wi_yX2_putSums : Cond.instanceMethod yX2_putSums ∈ am_gw := List.mem_filter.mpr ⟨List.mem_of_getElem? (i := 1009) (by decide +kernel), rfl⟩
theorem wi_yX2_readField : Cond.instanceMethod yX2_readField ∈ am_gw := List.mem_filter.mpr ⟨List.mem_of_getElem? (i := 936) (by decide +kernel), rfl⟩
theorem wi_yX2_readFile : Cond.instanceMethod yX2_readFile ∈ am_gw := List.mem_filter.mpr ⟨List.mem_of_getElem? (i := 1137) (by decide +kernel), rfl⟩
theorem wi_yX2_readFormat : Cond.instanceMethod yX2_readFormat ∈ am_gw := List.mem_filter.mpr ⟨List.mem_of_getElem? (i := 921) (by decide +kernel), rfl⟩
theorem wi_yX2_readInside : Cond.instanceMethod yX2_readInside ∈ am_gw := List.mem_filter.mpr ⟨List.mem_of_getElem? (i := 1155) (by decide +kernel), rfl⟩
theorem wi_yX2_readNest : Cond.instanceMethod yX2_readNest ∈ am_gw := List.mem_filter.mpr ⟨List.mem_of_getElem? (i := 989) (by decide +kernel), rfl⟩
theorem wi_yX2_readSummed : Cond.instanceMethod yX2_readSummed ∈ am_gw := List.mem_filter.mpr ⟨List.mem_of_getElem? (i := 984) (by decide +kernel), rfl⟩
theorem wi_yX2_readValues : Cond.instanceMethod yX2_readValues ∈ am_gw := List.mem_filter.mpr ⟨List.mem_of_getElem? (i := 1224) (by decide +kernel), rfl⟩
theorem wi_yX2_readingAt : Cond.instanceMethod yX2_readingAt ∈ am_gw := List.mem_filter.mpr ⟨List.mem_of_getElem? (i := 925) (by decide +kernel), rfl⟩
theorem wi_yX2_rots : Cond.instanceMethod yX2_rots ∈ am_gw := List.mem_filter.mpr ⟨List.mem_of_getElem? (i := 1041) (by decide +kernel), rfl⟩
theorem wi_yX2_unlikeBytes : Cond.instanceMethod yX2_unlikeBytes ∈ am_gw := List.mem_filter.mpr ⟨List.mem_of_getElem? (i := 1013) (by decide +kernel), rfl⟩
theorem wi_yX3_begin : Cond.instanceMethod yX3_begin ∈ am_gw := List.mem_filter.mpr ⟨List.mem_of_getElem? (i := 929) (by decide +kernel), rfl⟩
theorem wi_yX3_copy : Cond.instanceMethod yX3_copy ∈ am_gw := List.mem_filter.mpr ⟨List.mem_of_getElem? (i := 1194) (by decide +kernel), rfl⟩
theorem wi_yX3_covered : Cond.instanceMethod yX3_covered ∈ am_gw := List.mem_filter.mpr ⟨List.mem_of_getElem? (i := 1172) (by decide +kernel), rfl⟩
theorem wi_yX3_has : Cond.instanceMethod yX3_has ∈ am_gw := List.mem_filter.mpr ⟨List.mem_of_getElem? (i := 1228) (by decide +kernel), rfl⟩
theorem wi_yX3_how : Cond.instanceMethod yX3_how ∈ am_gw := List.mem_filter.mpr ⟨List.mem_of_getElem? (i := 1146) (by decide +kernel), rfl⟩
theorem wi_yX3_isKnown : Cond.instanceMethod yX3_isKnown ∈ am_gw := List.mem_filter.mpr ⟨List.mem_of_getElem? (i := 993) (by decide +kernel), rfl⟩
theorem wi_yX3_isSound : Cond.instanceMethod yX3_isSound ∈ am_gw := List.mem_filter.mpr ⟨List.mem_of_getElem? (i := 1001) (by decide +kernel), rfl⟩
theorem wi_yX3_likeFields : Cond.instanceMethod yX3_likeFields ∈ am_gw := List.mem_filter.mpr ⟨List.mem_of_getElem? (i := 1199) (by decide +kernel), rfl⟩
theorem wi_yX3_looksOf : Cond.instanceMethod yX3_looksOf ∈ am_gw := List.mem_filter.mpr ⟨List.mem_of_getElem? (i := 997) (by decide +kernel), rfl⟩
theorem wi_yX3_tell : Cond.instanceMethod yX3_tell ∈ am_gw := List.mem_filter.mpr ⟨List.mem_of_getElem? (i := 1141) (by decide +kernel), rfl⟩
theorem wi_yX4_copy : Cond.instanceMethod yX4_copy ∈ am_gw := List.mem_filter.mpr ⟨List.mem_of_getElem? (i := 1269) (by decide +kernel), rfl⟩
theorem wi_yX4_keepStep : Cond.instanceMethod yX4_keepStep ∈ am_gw := List.mem_filter.mpr ⟨List.mem_of_getElem? (i := 866) (by decide +kernel), rfl⟩
theorem wi_yX4_stepAt : Cond.instanceMethod yX4_stepAt ∈ am_gw := List.mem_filter.mpr ⟨List.mem_of_getElem? (i := 870) (by decide +kernel), rfl⟩
theorem wi_yX4_takeBack : Cond.instanceMethod yX4_takeBack ∈ am_gw := List.mem_filter.mpr ⟨List.mem_of_getElem? (i := 1071) (by decide +kernel), rfl⟩
theorem wi_yX5_clear : Cond.instanceMethod yX5_clear ∈ am_gw := List.mem_filter.mpr ⟨List.mem_of_getElem? (i := 732) (by decide +kernel), rfl⟩
theorem wi_yX5_gatherNeeded : Cond.instanceMethod yX5_gatherNeeded ∈ am_gw := List.mem_filter.mpr ⟨List.mem_of_getElem? (i := 840) (by decide +kernel), rfl⟩
theorem wi_yX5_lowestReady : Cond.instanceMethod yX5_lowestReady ∈ am_gw := List.mem_filter.mpr ⟨List.mem_of_getElem? (i := 835) (by decide +kernel), rfl⟩
theorem wi_yX5_mostOf : Cond.instanceMethod yX5_mostOf ∈ am_gw := List.mem_filter.mpr ⟨List.mem_of_getElem? (i := 1219) (by decide +kernel), rfl⟩
theorem wi_yX5_sort : Cond.instanceMethod yX5_sort ∈ am_gw := List.mem_filter.mpr ⟨List.mem_of_getElem? (i := 831) (by decide +kernel), rfl⟩
theorem wi_yX5_tells : Cond.instanceMethod yX5_tells ∈ am_gw := List.mem_filter.mpr ⟨List.mem_of_getElem? (i := 820) (by decide +kernel), rfl⟩
theorem wi_yX6_allSaidIsSo : Cond.instanceMethod yX6_allSaidIsSo ∈ am_gw := List.mem_filter.mpr ⟨List.mem_of_getElem? (i := 1261) (by decide +kernel), rfl⟩
theorem wi_yX6_madeAt : Cond.instanceMethod yX6_madeAt ∈ am_gw := List.mem_filter.mpr ⟨List.mem_of_getElem? (i := 1232) (by decide +kernel), rfl⟩
theorem wi_yX6_mend : Cond.instanceMethod yX6_mend ∈ am_gw := List.mem_filter.mpr ⟨List.mem_of_getElem? (i := 907) (by decide +kernel), rfl⟩
theorem wi_yX6_passDay : Cond.instanceMethod yX6_passDay ∈ am_gw := List.mem_filter.mpr ⟨List.mem_of_getElem? (i := 1029) (by decide +kernel), rfl⟩
theorem wi_yX6_passDays : Cond.instanceMethod yX6_passDays ∈ am_gw := List.mem_filter.mpr ⟨List.mem_of_getElem? (i := 1025) (by decide +kernel), rfl⟩
theorem wi_yX6_passYear : Cond.instanceMethod yX6_passYear ∈ am_gw := List.mem_filter.mpr ⟨List.mem_of_getElem? (i := 1063) (by decide +kernel), rfl⟩
theorem wi_yX6_putOnTape : Cond.instanceMethod yX6_putOnTape ∈ am_gw := List.mem_filter.mpr ⟨List.mem_of_getElem? (i := 582) (by decide +kernel), rfl⟩
theorem wi_yX6_set : Cond.instanceMethod yX6_set ∈ am_gw := List.mem_filter.mpr ⟨List.mem_of_getElem? (i := 857) (by decide +kernel), rfl⟩
theorem wi_yX6_size : Cond.instanceMethod yX6_size ∈ am_gw := List.mem_filter.mpr ⟨List.mem_of_getElem? (i := 894) (by decide +kernel), rfl⟩
theorem wi_yX6_textAt : Cond.instanceMethod yX6_textAt ∈ am_gw := List.mem_filter.mpr ⟨List.mem_of_getElem? (i := 854) (by decide +kernel), rfl⟩
theorem wi_yX6_theText : Cond.instanceMethod yX6_theText ∈ am_gw := List.mem_filter.mpr ⟨List.mem_of_getElem? (i := 912) (by decide +kernel), rfl⟩
theorem wi_yX7_all : Cond.instanceMethod yX7_all ∈ am_gw := List.mem_filter.mpr ⟨List.mem_of_getElem? (i := 1529) (by decide +kernel), rfl⟩
theorem wi_yX7_allOf : Cond.instanceMethod yX7_allOf ∈ am_gw := List.mem_filter.mpr ⟨List.mem_of_getElem? (i := 1954) (by decide +kernel), rfl⟩
theorem wi_yX7_anew : Cond.instanceMethod yX7_anew ∈ am_gw := List.mem_filter.mpr ⟨List.mem_of_getElem? (i := 1832) (by decide +kernel), rfl⟩
theorem wi_yX7_arePassed : Cond.instanceMethod yX7_arePassed ∈ am_gw := List.mem_filter.mpr ⟨List.mem_of_getElem? (i := 1820) (by decide +kernel), rfl⟩
theorem wi_yX7_beginLevel : Cond.instanceMethod yX7_beginLevel ∈ am_gw := List.mem_filter.mpr ⟨List.mem_of_getElem? (i := 1727) (by decide +kernel), rfl⟩
theorem wi_yX7_beginOne : Cond.instanceMethod yX7_beginOne ∈ am_gw := List.mem_filter.mpr ⟨List.mem_of_getElem? (i := 1575) (by decide +kernel), rfl⟩
theorem wi_yX7_behindOne : Cond.instanceMethod yX7_behindOne ∈ am_gw := List.mem_filter.mpr ⟨List.mem_of_getElem? (i := 1533) (by decide +kernel), rfl⟩
theorem wi_yX7_betweenOf : Cond.instanceMethod yX7_betweenOf ∈ am_gw := List.mem_filter.mpr ⟨List.mem_of_getElem? (i := 1537) (by decide +kernel), rfl⟩
theorem wi_yX7_body : Cond.instanceMethod yX7_body ∈ am_gw := List.mem_filter.mpr ⟨List.mem_of_getElem? (i := 1521) (by decide +kernel), rfl⟩
theorem wi_yX7_bringBack : Cond.instanceMethod yX7_bringBack ∈ am_gw := List.mem_filter.mpr ⟨List.mem_of_getElem? (i := 1812) (by decide +kernel), rfl⟩
theorem wi_yX7_byteAt : Cond.instanceMethod yX7_byteAt ∈ am_gw := List.mem_filter.mpr ⟨List.mem_of_getElem? (i := 1485) (by decide +kernel), rfl⟩
theorem wi_yX7_byteFor : Cond.instanceMethod yX7_byteFor ∈ am_gw := List.mem_filter.mpr ⟨List.mem_of_getElem? (i := 1980) (by decide +kernel), rfl⟩
theorem wi_yX7_bytesFrom : Cond.instanceMethod yX7_bytesFrom ∈ am_gw := List.mem_filter.mpr ⟨List.mem_of_getElem? (i := 1800) (by decide +kernel), rfl⟩
theorem wi_yX7_canSet : Cond.instanceMethod yX7_canSet ∈ am_gw := List.mem_filter.mpr ⟨List.mem_of_getElem? (i := 1645) (by decide +kernel), rfl⟩
theorem wi_yX7_canSize : Cond.instanceMethod yX7_canSize ∈ am_gw := List.mem_filter.mpr ⟨List.mem_of_getElem? (i := 1669) (by decide +kernel), rfl⟩
theorem wi_yX7_clause : Cond.instanceMethod yX7_clause ∈ am_gw := List.mem_filter.mpr ⟨List.mem_of_getElem? (i := 1500) (by decide +kernel), rfl⟩
theorem wi_yX7_clauses : Cond.instanceMethod yX7_clauses ∈ am_gw := List.mem_filter.mpr ⟨List.mem_of_getElem? (i := 1693) (by decide +kernel), rfl⟩
theorem wi_yX7_compareOf : Cond.instanceMethod yX7_compareOf ∈ am_gw := List.mem_filter.mpr ⟨List.mem_of_getElem? (i := 1559) (by decide +kernel), rfl⟩
theorem wi_yX7_cutTo : Cond.instanceMethod yX7_cutTo ∈ am_gw := List.mem_filter.mpr ⟨List.mem_of_getElem? (i := 1677) (by decide +kernel), rfl⟩
theorem wi_yX7_drawnBy : Cond.instanceMethod yX7_drawnBy ∈ am_gw := List.mem_filter.mpr ⟨List.mem_of_getElem? (i := 1828) (by decide +kernel), rfl⟩
theorem wi_yX7_emit : Cond.instanceMethod yX7_emit ∈ am_gw := List.mem_filter.mpr ⟨List.mem_of_getElem? (i := 1567) (by decide +kernel), rfl⟩
theorem wi_yX7_endLevel : Cond.instanceMethod yX7_endLevel ∈ am_gw := List.mem_filter.mpr ⟨List.mem_of_getElem? (i := 1808) (by decide +kernel), rfl⟩
theorem wi_yX7_fieldClause : Cond.instanceMethod yX7_fieldClause ∈ am_gw := List.mem_filter.mpr ⟨List.mem_of_getElem? (i := 1618) (by decide +kernel), rfl⟩
theorem wi_yX7_fieldNamed : Cond.instanceMethod yX7_fieldNamed ∈ am_gw := List.mem_filter.mpr ⟨List.mem_of_getElem? (i := 1583) (by decide +kernel), rfl⟩
theorem wi_yX7_figure : Cond.instanceMethod yX7_figure ∈ am_gw := List.mem_filter.mpr ⟨List.mem_of_getElem? (i := 1614) (by decide +kernel), rfl⟩
theorem wi_yX7_four : Cond.instanceMethod yX7_four ∈ am_gw := List.mem_filter.mpr ⟨List.mem_of_getElem? (i := 1462) (by decide +kernel), rfl⟩
theorem wi_yX7_furtherSum : Cond.instanceMethod yX7_furtherSum ∈ am_gw := List.mem_filter.mpr ⟨List.mem_of_getElem? (i := 1625) (by decide +kernel), rfl⟩
theorem wi_yX7_happens : Cond.instanceMethod yX7_happens ∈ am_gw := List.mem_filter.mpr ⟨List.mem_of_getElem? (i := 1865) (by decide +kernel), rfl⟩
theorem wi_yX7_hasSum : Cond.instanceMethod yX7_hasSum ∈ am_gw := List.mem_filter.mpr ⟨List.mem_of_getElem? (i := 1689) (by decide +kernel), rfl⟩
theorem wi_yX7_hasValue : Cond.instanceMethod yX7_hasValue ∈ am_gw := List.mem_filter.mpr ⟨List.mem_of_getElem? (i := 1984) (by decide +kernel), rfl⟩
theorem wi_yX7_isAnyBroken : Cond.instanceMethod yX7_isAnyBroken ∈ am_gw := List.mem_filter.mpr ⟨List.mem_of_getElem? (i := 1735) (by decide +kernel), rfl⟩
theorem wi_yX7_isAskAhead : Cond.instanceMethod yX7_isAskAhead ∈ am_gw := List.mem_filter.mpr ⟨List.mem_of_getElem? (i := 1598) (by decide +kernel), rfl⟩
theorem wi_yX7_isCompared : Cond.instanceMethod yX7_isCompared ∈ am_gw := List.mem_filter.mpr ⟨List.mem_of_getElem? (i := 1552) (by decide +kernel), rfl⟩
theorem wi_yX7_isHeld : Cond.instanceMethod yX7_isHeld ∈ am_gw := List.mem_filter.mpr ⟨List.mem_of_getElem? (i := 1941) (by decide +kernel), rfl⟩
theorem wi_yX7_isInside : Cond.instanceMethod yX7_isInside ∈ am_gw := List.mem_filter.mpr ⟨List.mem_of_getElem? (i := 1759) (by decide +kernel), rfl⟩
theorem wi_yX7_isNestBegun : Cond.instanceMethod yX7_isNestBegun ∈ am_gw := List.mem_filter.mpr ⟨List.mem_of_getElem? (i := 1743) (by decide +kernel), rfl⟩
theorem wi_yX7_isOf : Cond.instanceMethod yX7_isOf ∈ am_gw := List.mem_filter.mpr ⟨List.mem_of_getElem? (i := 1590) (by decide +kernel), rfl⟩
theorem wi_yX7_isPlace : Cond.instanceMethod yX7_isPlace ∈ am_gw := List.mem_filter.mpr ⟨List.mem_of_getElem? (i := 1649) (by decide +kernel), rfl⟩
theorem wi_yX7_isPlain : Cond.instanceMethod yX7_isPlain ∈ am_gw := List.mem_filter.mpr ⟨List.mem_of_getElem? (i := 1966) (by decide +kernel), rfl⟩
theorem wi_yX7_isPlayed : Cond.instanceMethod yX7_isPlayed ∈ am_gw := List.mem_filter.mpr ⟨List.mem_of_getElem? (i := 1854) (by decide +kernel), rfl⟩
theorem wi_yX7_isStretch : Cond.instanceMethod yX7_isStretch ∈ am_gw := List.mem_filter.mpr ⟨List.mem_of_getElem? (i := 2008) (by decide +kernel), rfl⟩
theorem wi_yX7_isText : Cond.instanceMethod yX7_isText ∈ am_gw := List.mem_filter.mpr ⟨List.mem_of_getElem? (i := 1850) (by decide +kernel), rfl⟩
theorem wi_yX7_isValidNow : Cond.instanceMethod yX7_isValidNow ∈ am_gw := List.mem_filter.mpr ⟨List.mem_of_getElem? (i := 1902) (by decide +kernel), rfl⟩
theorem wi_yX7_isWord : Cond.instanceMethod yX7_isWord ∈ am_gw := List.mem_filter.mpr ⟨List.mem_of_getElem? (i := 1514) (by decide +kernel), rfl⟩
theorem wi_yX7_keep : Cond.instanceMethod yX7_keep ∈ am_gw := List.mem_filter.mpr ⟨List.mem_of_getElem? (i := 1653) (by decide +kernel), rfl⟩
theorem wi_yX7_layOrder : Cond.instanceMethod yX7_layOrder ∈ am_gw := List.mem_filter.mpr ⟨List.mem_of_getElem? (i := 1700) (by decide +kernel), rfl⟩
theorem wi_yX7_lineOf : Cond.instanceMethod yX7_lineOf ∈ am_gw := List.mem_filter.mpr ⟨List.mem_of_getElem? (i := 1881) (by decide +kernel), rfl⟩
theorem wi_yX7_mend : Cond.instanceMethod yX7_mend ∈ am_gw := List.mem_filter.mpr ⟨List.mem_of_getElem? (i := 1680) (by decide +kernel), rfl⟩
theorem wi_yX7_mendNow : Cond.instanceMethod yX7_mendNow ∈ am_gw := List.mem_filter.mpr ⟨List.mem_of_getElem? (i := 1685) (by decide +kernel), rfl⟩
theorem wi_yX7_mendRound : Cond.instanceMethod yX7_mendRound ∈ am_gw := List.mem_filter.mpr ⟨List.mem_of_getElem? (i := 1719) (by decide +kernel), rfl⟩
theorem wi_yX7_mustClause : Cond.instanceMethod yX7_mustClause ∈ am_gw := List.mem_filter.mpr ⟨List.mem_of_getElem? (i := 1525) (by decide +kernel), rfl⟩
theorem wi_yX7_nameLevel : Cond.instanceMethod yX7_nameLevel ∈ am_gw := List.mem_filter.mpr ⟨List.mem_of_getElem? (i := 1739) (by decide +kernel), rfl⟩
theorem wi_yX7_nameOf : Cond.instanceMethod yX7_nameOf ∈ am_gw := List.mem_filter.mpr ⟨List.mem_of_getElem? (i := 1579) (by decide +kernel), rfl⟩
theorem wi_yX7_namesIn : Cond.instanceMethod yX7_namesIn ∈ am_gw := List.mem_filter.mpr ⟨List.mem_of_getElem? (i := 1711) (by decide +kernel), rfl⟩
theorem wi_yX7_namesOf : Cond.instanceMethod yX7_namesOf ∈ am_gw := List.mem_filter.mpr ⟨List.mem_of_getElem? (i := 1704) (by decide +kernel), rfl⟩
theorem wi_yX7_needs : Cond.instanceMethod yX7_needs ∈ am_gw := List.mem_filter.mpr ⟨List.mem_of_getElem? (i := 1949) (by decide +kernel), rfl⟩
theorem wi_yX7_nextToken : Cond.instanceMethod yX7_nextToken ∈ am_gw := List.mem_filter.mpr ⟨List.mem_of_getElem? (i := 1481) (by decide +kernel), rfl⟩
theorem wi_yX7_numberFrom : Cond.instanceMethod yX7_numberFrom ∈ am_gw := List.mem_filter.mpr ⟨List.mem_of_getElem? (i := 1785) (by decide +kernel), rfl⟩
theorem wi_yX7_ofOne : Cond.instanceMethod yX7_ofOne ∈ am_gw := List.mem_filter.mpr ⟨List.mem_of_getElem? (i := 1755) (by decide +kernel), rfl⟩
theorem wi_yX7_openAt : Cond.instanceMethod yX7_openAt ∈ am_gw := List.mem_filter.mpr ⟨List.mem_of_getElem? (i := 1545) (by decide +kernel), rfl⟩
theorem wi_yX7_openNow : Cond.instanceMethod yX7_openNow ∈ am_gw := List.mem_filter.mpr ⟨List.mem_of_getElem? (i := 1541) (by decide +kernel), rfl⟩
theorem wi_yX7_opened : Cond.instanceMethod yX7_opened ∈ am_gw := List.mem_filter.mpr ⟨List.mem_of_getElem? (i := 1594) (by decide +kernel), rfl⟩
theorem wi_yX7_partOf : Cond.instanceMethod yX7_partOf ∈ am_gw := List.mem_filter.mpr ⟨List.mem_of_getElem? (i := 1571) (by decide +kernel), rfl⟩
theorem wi_yX7_pass : Cond.instanceMethod yX7_pass ∈ am_gw := List.mem_filter.mpr ⟨List.mem_of_getElem? (i := 1824) (by decide +kernel), rfl⟩
theorem wi_yX7_putAside : Cond.instanceMethod yX7_putAside ∈ am_gw := List.mem_filter.mpr ⟨List.mem_of_getElem? (i := 1715) (by decide +kernel), rfl⟩
theorem wi_yX7_read : Cond.instanceMethod yX7_read ∈ am_gw := List.mem_filter.mpr ⟨List.mem_of_getElem? (i := 1898) (by decide +kernel), rfl⟩
theorem wi_yX7_readBy : Cond.instanceMethod yX7_readBy ∈ am_gw := List.mem_filter.mpr ⟨List.mem_of_getElem? (i := 1723) (by decide +kernel), rfl⟩
theorem wi_yX7_readField : Cond.instanceMethod yX7_readField ∈ am_gw := List.mem_filter.mpr ⟨List.mem_of_getElem? (i := 1731) (by decide +kernel), rfl⟩
theorem wi_yX7_readMusts : Cond.instanceMethod yX7_readMusts ∈ am_gw := List.mem_filter.mpr ⟨List.mem_of_getElem? (i := 1804) (by decide +kernel), rfl⟩
theorem wi_yX7_readNum : Cond.instanceMethod yX7_readNum ∈ am_gw := List.mem_filter.mpr ⟨List.mem_of_getElem? (i := 1780) (by decide +kernel), rfl⟩
theorem wi_yX7_readSum : Cond.instanceMethod yX7_readSum ∈ am_gw := List.mem_filter.mpr ⟨List.mem_of_getElem? (i := 1796) (by decide +kernel), rfl⟩
theorem wi_yX7_readText : Cond.instanceMethod yX7_readText ∈ am_gw := List.mem_filter.mpr ⟨List.mem_of_getElem? (i := 1477) (by decide +kernel), rfl⟩
theorem wi_yX7_readUpTo : Cond.instanceMethod yX7_readUpTo ∈ am_gw := List.mem_filter.mpr ⟨List.mem_of_getElem? (i := 1925) (by decide +kernel), rfl⟩
theorem wi_yX7_rotsNow : Cond.instanceMethod yX7_rotsNow ∈ am_gw := List.mem_filter.mpr ⟨List.mem_of_getElem? (i := 1839) (by decide +kernel), rfl⟩
theorem wi_yX7_set : Cond.instanceMethod yX7_set ∈ am_gw := List.mem_filter.mpr ⟨List.mem_of_getElem? (i := 1640) (by decide +kernel), rfl⟩
theorem wi_yX7_setClause : Cond.instanceMethod yX7_setClause ∈ am_gw := List.mem_filter.mpr ⟨List.mem_of_getElem? (i := 1610) (by decide +kernel), rfl⟩
theorem wi_yX7_setNow : Cond.instanceMethod yX7_setNow ∈ am_gw := List.mem_filter.mpr ⟨List.mem_of_getElem? (i := 1657) (by decide +kernel), rfl⟩
theorem wi_yX7_settle : Cond.instanceMethod yX7_settle ∈ am_gw := List.mem_filter.mpr ⟨List.mem_of_getElem? (i := 1563) (by decide +kernel), rfl⟩
theorem wi_yX7_settleField : Cond.instanceMethod yX7_settleField ∈ am_gw := List.mem_filter.mpr ⟨List.mem_of_getElem? (i := 1789) (by decide +kernel), rfl⟩
theorem wi_yX7_size : Cond.instanceMethod yX7_size ∈ am_gw := List.mem_filter.mpr ⟨List.mem_of_getElem? (i := 1664) (by decide +kernel), rfl⟩
theorem wi_yX7_sizeNow : Cond.instanceMethod yX7_sizeNow ∈ am_gw := List.mem_filter.mpr ⟨List.mem_of_getElem? (i := 1673) (by decide +kernel), rfl⟩
theorem wi_yX7_sortOf : Cond.instanceMethod yX7_sortOf ∈ am_gw := List.mem_filter.mpr ⟨List.mem_of_getElem? (i := 1504) (by decide +kernel), rfl⟩
theorem wi_yX7_sortOfField : Cond.instanceMethod yX7_sortOfField ∈ am_gw := List.mem_filter.mpr ⟨List.mem_of_getElem? (i := 1921) (by decide +kernel), rfl⟩
theorem wi_yX7_sumClause : Cond.instanceMethod yX7_sumClause ∈ am_gw := List.mem_filter.mpr ⟨List.mem_of_getElem? (i := 1602) (by decide +kernel), rfl⟩
theorem wi_yX7_sumOf : Cond.instanceMethod yX7_sumOf ∈ am_gw := List.mem_filter.mpr ⟨List.mem_of_getElem? (i := 1747) (by decide +kernel), rfl⟩
theorem wi_yX7_summed : Cond.instanceMethod yX7_summed ∈ am_gw := List.mem_filter.mpr ⟨List.mem_of_getElem? (i := 1606) (by decide +kernel), rfl⟩
theorem wi_yX7_toldOf : Cond.instanceMethod yX7_toldOf ∈ am_gw := List.mem_filter.mpr ⟨List.mem_of_getElem? (i := 1913) (by decide +kernel), rfl⟩
theorem wi_yX7_work : Cond.instanceMethod yX7_work ∈ am_gw := List.mem_filter.mpr ⟨List.mem_of_getElem? (i := 1751) (by decide +kernel), rfl⟩
theorem wi_yX7_write : Cond.instanceMethod yX7_write ∈ am_gw := List.mem_filter.mpr ⟨List.mem_of_getElem? (i := 1661) (by decide +kernel), rfl⟩
theorem wk_RX2_169 : Cond.constantLong RX2 169 (Int64.ofInt (-1)) ∈ am_gw := List.mem_filter.mpr ⟨List.mem_of_getElem? (i := 986) (by decide +kernel), rfl⟩
theorem wk_RX2_268 : Cond.constantLong RX2 268 (Int64.ofInt (-1000000)) ∈ am_gw := List.mem_filter.mpr ⟨List.mem_of_getElem? (i := 964) (by decide +kernel), rfl⟩
theorem wk_RX2_270 : Cond.constantLong RX2 270 (Int64.ofInt (1000000)) ∈ am_gw := List.mem_filter.mpr ⟨List.mem_of_getElem? (i := 965) (by decide +kernel), rfl⟩
theorem wk_RX5_92 : Cond.constant RX5 92 (Int32.ofInt (16777215)) ∈ am_gw := List.mem_filter.mpr ⟨List.mem_of_getElem? (i := 1221) (by decide +kernel), rfl⟩
theorem wk_RX6_260 : Cond.constantLong RX6 260 (Int64.ofInt (-1)) ∈ am_gw := List.mem_filter.mpr ⟨List.mem_of_getElem? (i := 1180) (by decide +kernel), rfl⟩
theorem wk_RX6_318 : Cond.constant RX6 318 (Int32.ofInt (16777215)) ∈ am_gw := List.mem_filter.mpr ⟨List.mem_of_getElem? (i := 1254) (by decide +kernel), rfl⟩
theorem wk_RX7_139 : Cond.constant RX7 139 (Int32.ofInt (99999)) ∈ am_gw := List.mem_filter.mpr ⟨List.mem_of_getElem? (i := 1490) (by decide +kernel), rfl⟩
theorem wk_RX7_147 : Cond.constantLong RX7 147 (Int64.ofInt (1152921504606846976)) ∈ am_gw := List.mem_filter.mpr ⟨List.mem_of_getElem? (i := 1494) (by decide +kernel), rfl⟩
theorem wk_RX7_296 : Cond.constantLong RX7 296 (Int64.ofInt (1000000)) ∈ am_gw := List.mem_filter.mpr ⟨List.mem_of_getElem? (i := 1767) (by decide +kernel), rfl⟩
theorem wk_RX7_298 : Cond.constantLong RX7 298 (Int64.ofInt (-1000000)) ∈ am_gw := List.mem_filter.mpr ⟨List.mem_of_getElem? (i := 1768) (by decide +kernel), rfl⟩
theorem wk_RX7_373 : Cond.constantLong RX7 373 (Int64.ofInt (3)) ∈ am_gw := List.mem_filter.mpr ⟨List.mem_of_getElem? (i := 1782) (by decide +kernel), rfl⟩
theorem wk_RX7_445 : Cond.constantLong RX7 445 (Int64.ofInt (743)) ∈ am_gw := List.mem_filter.mpr ⟨List.mem_of_getElem? (i := 1834) (by decide +kernel), rfl⟩
theorem wk_RX7_447 : Cond.constantLong RX7 447 (Int64.ofInt (607)) ∈ am_gw := List.mem_filter.mpr ⟨List.mem_of_getElem? (i := 1835) (by decide +kernel), rfl⟩
theorem wk_RX7_449 : Cond.constantLong RX7 449 (Int64.ofInt (31079)) ∈ am_gw := List.mem_filter.mpr ⟨List.mem_of_getElem? (i := 1836) (by decide +kernel), rfl⟩
theorem wk_RX7_511 : Cond.constant RX7 511 (Int32.ofInt (41984)) ∈ am_gw := List.mem_filter.mpr ⟨List.mem_of_getElem? (i := 1883) (by decide +kernel), rfl⟩
theorem wk_RX7_536 : Cond.constantLong RX7 536 (Int64.ofInt (-1)) ∈ am_gw := List.mem_filter.mpr ⟨List.mem_of_getElem? (i := 1947) (by decide +kernel), rfl⟩
theorem wk_RX7_547 : Cond.constant RX7 547 (Int32.ofInt (16777215)) ∈ am_gw := List.mem_filter.mpr ⟨List.mem_of_getElem? (i := 1976) (by decide +kernel), rfl⟩
theorem wl_yX0_canPut : Cond.selects RX0 yX0_canPut yX0_canPut ∈ am_gw := List.mem_filter.mpr ⟨List.mem_of_getElem? (i := 32) (by decide +kernel), rfl⟩
theorem wl_yX0_canResize : Cond.selects RX0 yX0_canResize yX0_canResize ∈ am_gw := List.mem_filter.mpr ⟨List.mem_of_getElem? (i := 38) (by decide +kernel), rfl⟩
theorem wl_yX0_copy : Cond.selects RX0 yX0_copy yX0_copy ∈ am_gw := List.mem_filter.mpr ⟨List.mem_of_getElem? (i := 35) (by decide +kernel), rfl⟩
theorem wl_yX0_covers : Cond.selects RX0 yX0_covers yX0_covers ∈ am_gw := List.mem_filter.mpr ⟨List.mem_of_getElem? (i := 68) (by decide +kernel), rfl⟩
theorem wl_yX0_draw : Cond.selects RX0 yX0_draw yX0_draw ∈ am_gw := List.mem_filter.mpr ⟨List.mem_of_getElem? (i := 61) (by decide +kernel), rfl⟩
theorem wl_yX0_drawAnew : Cond.selects RX0 yX0_drawAnew yX0_drawAnew ∈ am_gw := List.mem_filter.mpr ⟨List.mem_of_getElem? (i := 62) (by decide +kernel), rfl⟩
theorem wl_yX0_putByte : Cond.selects RX0 yX0_putByte yX0_putByte ∈ am_gw := List.mem_filter.mpr ⟨List.mem_of_getElem? (i := 36) (by decide +kernel), rfl⟩
theorem wl_yX0_resize : Cond.selects RX0 yX0_resize yX0_resize ∈ am_gw := List.mem_filter.mpr ⟨List.mem_of_getElem? (i := 39) (by decide +kernel), rfl⟩
theorem wl_yX0_rot : Cond.selects RX0 yX0_rot yX0_rot ∈ am_gw := List.mem_filter.mpr ⟨List.mem_of_getElem? (i := 64) (by decide +kernel), rfl⟩
theorem wl_yX0_takeMended : Cond.selects RX0 yX0_takeMended yX0_takeMended ∈ am_gw := List.mem_filter.mpr ⟨List.mem_of_getElem? (i := 58) (by decide +kernel), rfl⟩
theorem wl_yX0_together : Cond.selects RX0 yX0_together yX0_together ∈ am_gw := List.mem_filter.mpr ⟨List.mem_of_getElem? (i := 67) (by decide +kernel), rfl⟩
theorem wl_yX0_write : Cond.selects RX0 yX0_write yX0_write ∈ am_gw := List.mem_filter.mpr ⟨List.mem_of_getElem? (i := 37) (by decide +kernel), rfl⟩
theorem wl_yX1_advance : Cond.selects RX1 yX1_advance yX1_advance ∈ am_gw := List.mem_filter.mpr ⟨List.mem_of_getElem? (i := 7) (by decide +kernel), rfl⟩
theorem wl_yX1_aim : Cond.selects RX1 yX1_aim yX1_aim ∈ am_gw := List.mem_filter.mpr ⟨List.mem_of_getElem? (i := 20) (by decide +kernel), rfl⟩
theorem wl_yX1_closes : Cond.selects RX1 yX1_closes yX1_closes ∈ am_gw := List.mem_filter.mpr ⟨List.mem_of_getElem? (i := 13) (by decide +kernel), rfl⟩
theorem wl_yX1_comparisonHere : Cond.selects RX1 yX1_comparisonHere yX1_comparisonHere ∈ am_gw := List.mem_filter.mpr ⟨List.mem_of_getElem? (i := 23) (by decide +kernel), rfl⟩
theorem wl_yX1_emit : Cond.selects RX1 yX1_emit yX1_emit ∈ am_gw := List.mem_filter.mpr ⟨List.mem_of_getElem? (i := 14) (by decide +kernel), rfl⟩
theorem wl_yX1_fail : Cond.selects RX1 yX1_fail yX1_fail ∈ am_gw := List.mem_filter.mpr ⟨List.mem_of_getElem? (i := 6) (by decide +kernel), rfl⟩
theorem wl_yX1_numberHere : Cond.selects RX1 yX1_numberHere yX1_numberHere ∈ am_gw := List.mem_filter.mpr ⟨List.mem_of_getElem? (i := 22) (by decide +kernel), rfl⟩
theorem wl_yX1_opens : Cond.selects RX1 yX1_opens yX1_opens ∈ am_gw := List.mem_filter.mpr ⟨List.mem_of_getElem? (i := 12) (by decide +kernel), rfl⟩
theorem wl_yX1_parse : Cond.selects RX1 yX1_parse yX1_parse ∈ am_gw := List.mem_filter.mpr ⟨List.mem_of_getElem? (i := 1) (by decide +kernel), rfl⟩
theorem wl_yX1_put : Cond.selects RX1 yX1_put yX1_put ∈ am_gw := List.mem_filter.mpr ⟨List.mem_of_getElem? (i := 3) (by decide +kernel), rfl⟩
theorem wl_yX1_readAsk : Cond.selects RX1 yX1_readAsk yX1_readAsk ∈ am_gw := List.mem_filter.mpr ⟨List.mem_of_getElem? (i := 11) (by decide +kernel), rfl⟩
theorem wl_yX1_readBoth : Cond.selects RX1 yX1_readBoth yX1_readBoth ∈ am_gw := List.mem_filter.mpr ⟨List.mem_of_getElem? (i := 10) (by decide +kernel), rfl⟩
theorem wl_yX1_readEither : Cond.selects RX1 yX1_readEither yX1_readEither ∈ am_gw := List.mem_filter.mpr ⟨List.mem_of_getElem? (i := 9) (by decide +kernel), rfl⟩
theorem wl_yX1_readField : Cond.selects RX1 yX1_readField yX1_readField ∈ am_gw := List.mem_filter.mpr ⟨List.mem_of_getElem? (i := 25) (by decide +kernel), rfl⟩
theorem wl_yX1_readIf : Cond.selects RX1 yX1_readIf yX1_readIf ∈ am_gw := List.mem_filter.mpr ⟨List.mem_of_getElem? (i := 19) (by decide +kernel), rfl⟩
theorem wl_yX1_readKind : Cond.selects RX1 yX1_readKind yX1_readKind ∈ am_gw := List.mem_filter.mpr ⟨List.mem_of_getElem? (i := 5) (by decide +kernel), rfl⟩
theorem wl_yX1_readName : Cond.selects RX1 yX1_readName yX1_readName ∈ am_gw := List.mem_filter.mpr ⟨List.mem_of_getElem? (i := 21) (by decide +kernel), rfl⟩
theorem wl_yX1_readNumber : Cond.selects RX1 yX1_readNumber yX1_readNumber ∈ am_gw := List.mem_filter.mpr ⟨List.mem_of_getElem? (i := 24) (by decide +kernel), rfl⟩
theorem wl_yX1_readOne : Cond.selects RX1 yX1_readOne yX1_readOne ∈ am_gw := List.mem_filter.mpr ⟨List.mem_of_getElem? (i := 17) (by decide +kernel), rfl⟩
theorem wl_yX1_readPart : Cond.selects RX1 yX1_readPart yX1_readPart ∈ am_gw := List.mem_filter.mpr ⟨List.mem_of_getElem? (i := 27) (by decide +kernel), rfl⟩
theorem wl_yX1_readProduct : Cond.selects RX1 yX1_readProduct yX1_readProduct ∈ am_gw := List.mem_filter.mpr ⟨List.mem_of_getElem? (i := 16) (by decide +kernel), rfl⟩
theorem wl_yX1_readRest : Cond.selects RX1 yX1_readRest yX1_readRest ∈ am_gw := List.mem_filter.mpr ⟨List.mem_of_getElem? (i := 8) (by decide +kernel), rfl⟩
theorem wl_yX1_readSum : Cond.selects RX1 yX1_readSum yX1_readSum ∈ am_gw := List.mem_filter.mpr ⟨List.mem_of_getElem? (i := 15) (by decide +kernel), rfl⟩
theorem wl_yX1_split : Cond.selects RX1 yX1_split yX1_split ∈ am_gw := List.mem_filter.mpr ⟨List.mem_of_getElem? (i := 2) (by decide +kernel), rfl⟩
theorem wl_yX1_take : Cond.selects RX1 yX1_take yX1_take ∈ am_gw := List.mem_filter.mpr ⟨List.mem_of_getElem? (i := 18) (by decide +kernel), rfl⟩
theorem wl_yX2_answer : Cond.selects RX2 yX2_answer yX2_answer ∈ am_gw := List.mem_filter.mpr ⟨List.mem_of_getElem? (i := 46) (by decide +kernel), rfl⟩
theorem wl_yX2_askMusts : Cond.selects RX2 yX2_askMusts yX2_askMusts ∈ am_gw := List.mem_filter.mpr ⟨List.mem_of_getElem? (i := 55) (by decide +kernel), rfl⟩
theorem wl_yX2_byteIn : Cond.selects RX2 yX2_byteIn yX2_byteIn ∈ am_gw := List.mem_filter.mpr ⟨List.mem_of_getElem? (i := 49) (by decide +kernel), rfl⟩
theorem wl_yX2_isShorter : Cond.selects RX2 yX2_isShorter yX2_isShorter ∈ am_gw := List.mem_filter.mpr ⟨List.mem_of_getElem? (i := 77) (by decide +kernel), rfl⟩
theorem wl_yX2_isValid : Cond.selects RX2 yX2_isValid yX2_isValid ∈ am_gw := List.mem_filter.mpr ⟨List.mem_of_getElem? (i := 69) (by decide +kernel), rfl⟩
theorem wl_yX2_leaf : Cond.selects RX2 yX2_leaf yX2_leaf ∈ am_gw := List.mem_filter.mpr ⟨List.mem_of_getElem? (i := 47) (by decide +kernel), rfl⟩
theorem wl_yX2_mended : Cond.selects RX2 yX2_mended yX2_mended ∈ am_gw := List.mem_filter.mpr ⟨List.mem_of_getElem? (i := 41) (by decide +kernel), rfl⟩
theorem wl_yX2_ofOne : Cond.selects RX2 yX2_ofOne yX2_ofOne ∈ am_gw := List.mem_filter.mpr ⟨List.mem_of_getElem? (i := 48) (by decide +kernel), rfl⟩
theorem wl_yX2_putSums : Cond.selects RX2 yX2_putSums yX2_putSums ∈ am_gw := List.mem_filter.mpr ⟨List.mem_of_getElem? (i := 56) (by decide +kernel), rfl⟩
theorem wl_yX2_readField : Cond.selects RX2 yX2_readField yX2_readField ∈ am_gw := List.mem_filter.mpr ⟨List.mem_of_getElem? (i := 45) (by decide +kernel), rfl⟩
theorem wl_yX2_readFile : Cond.selects RX2 yX2_readFile yX2_readFile ∈ am_gw := List.mem_filter.mpr ⟨List.mem_of_getElem? (i := 70) (by decide +kernel), rfl⟩
theorem wl_yX2_readFormat : Cond.selects RX2 yX2_readFormat yX2_readFormat ∈ am_gw := List.mem_filter.mpr ⟨List.mem_of_getElem? (i := 42) (by decide +kernel), rfl⟩
theorem wl_yX2_readInside : Cond.selects RX2 yX2_readInside yX2_readInside ∈ am_gw := List.mem_filter.mpr ⟨List.mem_of_getElem? (i := 73) (by decide +kernel), rfl⟩
theorem wl_yX2_readNest : Cond.selects RX2 yX2_readNest yX2_readNest ∈ am_gw := List.mem_filter.mpr ⟨List.mem_of_getElem? (i := 51) (by decide +kernel), rfl⟩
theorem wl_yX2_readSummed : Cond.selects RX2 yX2_readSummed yX2_readSummed ∈ am_gw := List.mem_filter.mpr ⟨List.mem_of_getElem? (i := 50) (by decide +kernel), rfl⟩
theorem wl_yX2_readValues : Cond.selects RX2 yX2_readValues yX2_readValues ∈ am_gw := List.mem_filter.mpr ⟨List.mem_of_getElem? (i := 79) (by decide +kernel), rfl⟩
theorem wl_yX2_readingAt : Cond.selects RX2 yX2_readingAt yX2_readingAt ∈ am_gw := List.mem_filter.mpr ⟨List.mem_of_getElem? (i := 43) (by decide +kernel), rfl⟩
theorem wl_yX2_rots : Cond.selects RX2 yX2_rots yX2_rots ∈ am_gw := List.mem_filter.mpr ⟨List.mem_of_getElem? (i := 63) (by decide +kernel), rfl⟩
theorem wl_yX2_unlikeBytes : Cond.selects RX2 yX2_unlikeBytes yX2_unlikeBytes ∈ am_gw := List.mem_filter.mpr ⟨List.mem_of_getElem? (i := 57) (by decide +kernel), rfl⟩
theorem wl_yX3_begin : Cond.selects RX3 yX3_begin yX3_begin ∈ am_gw := List.mem_filter.mpr ⟨List.mem_of_getElem? (i := 44) (by decide +kernel), rfl⟩
theorem wl_yX3_copy : Cond.selects RX3 yX3_copy yX3_copy ∈ am_gw := List.mem_filter.mpr ⟨List.mem_of_getElem? (i := 75) (by decide +kernel), rfl⟩
theorem wl_yX3_covered : Cond.selects RX3 yX3_covered yX3_covered ∈ am_gw := List.mem_filter.mpr ⟨List.mem_of_getElem? (i := 74) (by decide +kernel), rfl⟩
theorem wl_yX3_has : Cond.selects RX3 yX3_has yX3_has ∈ am_gw := List.mem_filter.mpr ⟨List.mem_of_getElem? (i := 80) (by decide +kernel), rfl⟩
theorem wl_yX3_how : Cond.selects RX3 yX3_how yX3_how ∈ am_gw := List.mem_filter.mpr ⟨List.mem_of_getElem? (i := 72) (by decide +kernel), rfl⟩
theorem wl_yX3_isKnown : Cond.selects RX3 yX3_isKnown yX3_isKnown ∈ am_gw := List.mem_filter.mpr ⟨List.mem_of_getElem? (i := 52) (by decide +kernel), rfl⟩
theorem wl_yX3_isSound : Cond.selects RX3 yX3_isSound yX3_isSound ∈ am_gw := List.mem_filter.mpr ⟨List.mem_of_getElem? (i := 54) (by decide +kernel), rfl⟩
theorem wl_yX3_likeFields : Cond.selects RX3 yX3_likeFields yX3_likeFields ∈ am_gw := List.mem_filter.mpr ⟨List.mem_of_getElem? (i := 76) (by decide +kernel), rfl⟩
theorem wl_yX3_looksOf : Cond.selects RX3 yX3_looksOf yX3_looksOf ∈ am_gw := List.mem_filter.mpr ⟨List.mem_of_getElem? (i := 53) (by decide +kernel), rfl⟩
theorem wl_yX3_tell : Cond.selects RX3 yX3_tell yX3_tell ∈ am_gw := List.mem_filter.mpr ⟨List.mem_of_getElem? (i := 71) (by decide +kernel), rfl⟩
theorem wl_yX4_copy : Cond.selects RX4 yX4_copy yX4_copy ∈ am_gw := List.mem_filter.mpr ⟨List.mem_of_getElem? (i := 83) (by decide +kernel), rfl⟩
theorem wl_yX4_keepStep : Cond.selects RX4 yX4_keepStep yX4_keepStep ∈ am_gw := List.mem_filter.mpr ⟨List.mem_of_getElem? (i := 33) (by decide +kernel), rfl⟩
theorem wl_yX4_stepAt : Cond.selects RX4 yX4_stepAt yX4_stepAt ∈ am_gw := List.mem_filter.mpr ⟨List.mem_of_getElem? (i := 34) (by decide +kernel), rfl⟩
theorem wl_yX4_takeBack : Cond.selects RX4 yX4_takeBack yX4_takeBack ∈ am_gw := List.mem_filter.mpr ⟨List.mem_of_getElem? (i := 66) (by decide +kernel), rfl⟩
theorem wl_yX5_clear : Cond.selects RX5 yX5_clear yX5_clear ∈ am_gw := List.mem_filter.mpr ⟨List.mem_of_getElem? (i := 4) (by decide +kernel), rfl⟩
theorem wl_yX5_gatherNeeded : Cond.selects RX5 yX5_gatherNeeded yX5_gatherNeeded ∈ am_gw := List.mem_filter.mpr ⟨List.mem_of_getElem? (i := 30) (by decide +kernel), rfl⟩
theorem wl_yX5_lowestReady : Cond.selects RX5 yX5_lowestReady yX5_lowestReady ∈ am_gw := List.mem_filter.mpr ⟨List.mem_of_getElem? (i := 29) (by decide +kernel), rfl⟩
theorem wl_yX5_mostOf : Cond.selects RX5 yX5_mostOf yX5_mostOf ∈ am_gw := List.mem_filter.mpr ⟨List.mem_of_getElem? (i := 78) (by decide +kernel), rfl⟩
theorem wl_yX5_sort : Cond.selects RX5 yX5_sort yX5_sort ∈ am_gw := List.mem_filter.mpr ⟨List.mem_of_getElem? (i := 28) (by decide +kernel), rfl⟩
theorem wl_yX5_tells : Cond.selects RX5 yX5_tells yX5_tells ∈ am_gw := List.mem_filter.mpr ⟨List.mem_of_getElem? (i := 26) (by decide +kernel), rfl⟩
theorem wl_yX6_allSaidIsSo : Cond.selects RX6 yX6_allSaidIsSo yX6_allSaidIsSo ∈ am_gw := List.mem_filter.mpr ⟨List.mem_of_getElem? (i := 82) (by decide +kernel), rfl⟩
theorem wl_yX6_madeAt : Cond.selects RX6 yX6_madeAt yX6_madeAt ∈ am_gw := List.mem_filter.mpr ⟨List.mem_of_getElem? (i := 81) (by decide +kernel), rfl⟩
theorem wl_yX6_mend : Cond.selects RX6 yX6_mend yX6_mend ∈ am_gw := List.mem_filter.mpr ⟨List.mem_of_getElem? (i := 908) (by decide +kernel), rfl⟩
theorem wl_yX6_passDay : Cond.selects RX6 yX6_passDay yX6_passDay ∈ am_gw := List.mem_filter.mpr ⟨List.mem_of_getElem? (i := 60) (by decide +kernel), rfl⟩
theorem wl_yX6_passDays : Cond.selects RX6 yX6_passDays yX6_passDays ∈ am_gw := List.mem_filter.mpr ⟨List.mem_of_getElem? (i := 59) (by decide +kernel), rfl⟩
theorem wl_yX6_passYear : Cond.selects RX6 yX6_passYear yX6_passYear ∈ am_gw := List.mem_filter.mpr ⟨List.mem_of_getElem? (i := 65) (by decide +kernel), rfl⟩
theorem wl_yX6_putOnTape : Cond.selects RX6 yX6_putOnTape yX6_putOnTape ∈ am_gw := List.mem_filter.mpr ⟨List.mem_of_getElem? (i := 0) (by decide +kernel), rfl⟩
theorem wl_yX6_set : Cond.selects RX6 yX6_set yX6_set ∈ am_gw := List.mem_filter.mpr ⟨List.mem_of_getElem? (i := 858) (by decide +kernel), rfl⟩
theorem wl_yX6_size : Cond.selects RX6 yX6_size yX6_size ∈ am_gw := List.mem_filter.mpr ⟨List.mem_of_getElem? (i := 895) (by decide +kernel), rfl⟩
theorem wl_yX6_textAt : Cond.selects RX6 yX6_textAt yX6_textAt ∈ am_gw := List.mem_filter.mpr ⟨List.mem_of_getElem? (i := 31) (by decide +kernel), rfl⟩
theorem wl_yX6_theText : Cond.selects RX6 yX6_theText yX6_theText ∈ am_gw := List.mem_filter.mpr ⟨List.mem_of_getElem? (i := 40) (by decide +kernel), rfl⟩
theorem wl_yX7_all : Cond.selects RX7 yX7_all yX7_all ∈ am_gw := List.mem_filter.mpr ⟨List.mem_of_getElem? (i := 93) (by decide +kernel), rfl⟩
theorem wl_yX7_allOf : Cond.selects RX7 yX7_allOf yX7_allOf ∈ am_gw := List.mem_filter.mpr ⟨List.mem_of_getElem? (i := 164) (by decide +kernel), rfl⟩
theorem wl_yX7_anew : Cond.selects RX7 yX7_anew yX7_anew ∈ am_gw := List.mem_filter.mpr ⟨List.mem_of_getElem? (i := 152) (by decide +kernel), rfl⟩
theorem wl_yX7_arePassed : Cond.selects RX7 yX7_arePassed yX7_arePassed ∈ am_gw := List.mem_filter.mpr ⟨List.mem_of_getElem? (i := 149) (by decide +kernel), rfl⟩
theorem wl_yX7_beginLevel : Cond.selects RX7 yX7_beginLevel yX7_beginLevel ∈ am_gw := List.mem_filter.mpr ⟨List.mem_of_getElem? (i := 132) (by decide +kernel), rfl⟩
theorem wl_yX7_beginOne : Cond.selects RX7 yX7_beginOne yX7_beginOne ∈ am_gw := List.mem_filter.mpr ⟨List.mem_of_getElem? (i := 103) (by decide +kernel), rfl⟩
theorem wl_yX7_behindOne : Cond.selects RX7 yX7_behindOne yX7_behindOne ∈ am_gw := List.mem_filter.mpr ⟨List.mem_of_getElem? (i := 94) (by decide +kernel), rfl⟩
theorem wl_yX7_betweenOf : Cond.selects RX7 yX7_betweenOf yX7_betweenOf ∈ am_gw := List.mem_filter.mpr ⟨List.mem_of_getElem? (i := 95) (by decide +kernel), rfl⟩
theorem wl_yX7_body : Cond.selects RX7 yX7_body yX7_body ∈ am_gw := List.mem_filter.mpr ⟨List.mem_of_getElem? (i := 91) (by decide +kernel), rfl⟩
theorem wl_yX7_bringBack : Cond.selects RX7 yX7_bringBack yX7_bringBack ∈ am_gw := List.mem_filter.mpr ⟨List.mem_of_getElem? (i := 148) (by decide +kernel), rfl⟩
theorem wl_yX7_byteAt : Cond.selects RX7 yX7_byteAt yX7_byteAt ∈ am_gw := List.mem_filter.mpr ⟨List.mem_of_getElem? (i := 87) (by decide +kernel), rfl⟩
theorem wl_yX7_byteFor : Cond.selects RX7 yX7_byteFor yX7_byteFor ∈ am_gw := List.mem_filter.mpr ⟨List.mem_of_getElem? (i := 166) (by decide +kernel), rfl⟩
theorem wl_yX7_bytesFrom : Cond.selects RX7 yX7_bytesFrom yX7_bytesFrom ∈ am_gw := List.mem_filter.mpr ⟨List.mem_of_getElem? (i := 145) (by decide +kernel), rfl⟩
theorem wl_yX7_canSet : Cond.selects RX7 yX7_canSet yX7_canSet ∈ am_gw := List.mem_filter.mpr ⟨List.mem_of_getElem? (i := 115) (by decide +kernel), rfl⟩
theorem wl_yX7_canSize : Cond.selects RX7 yX7_canSize yX7_canSize ∈ am_gw := List.mem_filter.mpr ⟨List.mem_of_getElem? (i := 120) (by decide +kernel), rfl⟩
theorem wl_yX7_clause : Cond.selects RX7 yX7_clause yX7_clause ∈ am_gw := List.mem_filter.mpr ⟨List.mem_of_getElem? (i := 88) (by decide +kernel), rfl⟩
theorem wl_yX7_clauses : Cond.selects RX7 yX7_clauses yX7_clauses ∈ am_gw := List.mem_filter.mpr ⟨List.mem_of_getElem? (i := 125) (by decide +kernel), rfl⟩
theorem wl_yX7_compareOf : Cond.selects RX7 yX7_compareOf yX7_compareOf ∈ am_gw := List.mem_filter.mpr ⟨List.mem_of_getElem? (i := 99) (by decide +kernel), rfl⟩
theorem wl_yX7_cutTo : Cond.selects RX7 yX7_cutTo yX7_cutTo ∈ am_gw := List.mem_filter.mpr ⟨List.mem_of_getElem? (i := 122) (by decide +kernel), rfl⟩
theorem wl_yX7_drawnBy : Cond.selects RX7 yX7_drawnBy yX7_drawnBy ∈ am_gw := List.mem_filter.mpr ⟨List.mem_of_getElem? (i := 151) (by decide +kernel), rfl⟩
theorem wl_yX7_emit : Cond.selects RX7 yX7_emit yX7_emit ∈ am_gw := List.mem_filter.mpr ⟨List.mem_of_getElem? (i := 101) (by decide +kernel), rfl⟩
theorem wl_yX7_endLevel : Cond.selects RX7 yX7_endLevel yX7_endLevel ∈ am_gw := List.mem_filter.mpr ⟨List.mem_of_getElem? (i := 147) (by decide +kernel), rfl⟩
theorem wl_yX7_fieldClause : Cond.selects RX7 yX7_fieldClause yX7_fieldClause ∈ am_gw := List.mem_filter.mpr ⟨List.mem_of_getElem? (i := 113) (by decide +kernel), rfl⟩
theorem wl_yX7_fieldNamed : Cond.selects RX7 yX7_fieldNamed yX7_fieldNamed ∈ am_gw := List.mem_filter.mpr ⟨List.mem_of_getElem? (i := 105) (by decide +kernel), rfl⟩
theorem wl_yX7_figure : Cond.selects RX7 yX7_figure yX7_figure ∈ am_gw := List.mem_filter.mpr ⟨List.mem_of_getElem? (i := 112) (by decide +kernel), rfl⟩
theorem wl_yX7_four : Cond.selects RX7 yX7_four yX7_four ∈ am_gw := List.mem_filter.mpr ⟨List.mem_of_getElem? (i := 84) (by decide +kernel), rfl⟩
theorem wl_yX7_furtherSum : Cond.selects RX7 yX7_furtherSum yX7_furtherSum ∈ am_gw := List.mem_filter.mpr ⟨List.mem_of_getElem? (i := 114) (by decide +kernel), rfl⟩
theorem wl_yX7_happens : Cond.selects RX7 yX7_happens yX7_happens ∈ am_gw := List.mem_filter.mpr ⟨List.mem_of_getElem? (i := 156) (by decide +kernel), rfl⟩
theorem wl_yX7_hasSum : Cond.selects RX7 yX7_hasSum yX7_hasSum ∈ am_gw := List.mem_filter.mpr ⟨List.mem_of_getElem? (i := 124) (by decide +kernel), rfl⟩
theorem wl_yX7_hasValue : Cond.selects RX7 yX7_hasValue yX7_hasValue ∈ am_gw := List.mem_filter.mpr ⟨List.mem_of_getElem? (i := 167) (by decide +kernel), rfl⟩
theorem wl_yX7_isAnyBroken : Cond.selects RX7 yX7_isAnyBroken yX7_isAnyBroken ∈ am_gw := List.mem_filter.mpr ⟨List.mem_of_getElem? (i := 134) (by decide +kernel), rfl⟩
theorem wl_yX7_isAskAhead : Cond.selects RX7 yX7_isAskAhead yX7_isAskAhead ∈ am_gw := List.mem_filter.mpr ⟨List.mem_of_getElem? (i := 108) (by decide +kernel), rfl⟩
theorem wl_yX7_isCompared : Cond.selects RX7 yX7_isCompared yX7_isCompared ∈ am_gw := List.mem_filter.mpr ⟨List.mem_of_getElem? (i := 98) (by decide +kernel), rfl⟩
theorem wl_yX7_isHeld : Cond.selects RX7 yX7_isHeld yX7_isHeld ∈ am_gw := List.mem_filter.mpr ⟨List.mem_of_getElem? (i := 163) (by decide +kernel), rfl⟩
theorem wl_yX7_isInside : Cond.selects RX7 yX7_isInside yX7_isInside ∈ am_gw := List.mem_filter.mpr ⟨List.mem_of_getElem? (i := 140) (by decide +kernel), rfl⟩
theorem wl_yX7_isNestBegun : Cond.selects RX7 yX7_isNestBegun yX7_isNestBegun ∈ am_gw := List.mem_filter.mpr ⟨List.mem_of_getElem? (i := 136) (by decide +kernel), rfl⟩
theorem wl_yX7_isOf : Cond.selects RX7 yX7_isOf yX7_isOf ∈ am_gw := List.mem_filter.mpr ⟨List.mem_of_getElem? (i := 106) (by decide +kernel), rfl⟩
theorem wl_yX7_isPlace : Cond.selects RX7 yX7_isPlace yX7_isPlace ∈ am_gw := List.mem_filter.mpr ⟨List.mem_of_getElem? (i := 116) (by decide +kernel), rfl⟩
theorem wl_yX7_isPlain : Cond.selects RX7 yX7_isPlain yX7_isPlain ∈ am_gw := List.mem_filter.mpr ⟨List.mem_of_getElem? (i := 165) (by decide +kernel), rfl⟩
theorem wl_yX7_isPlayed : Cond.selects RX7 yX7_isPlayed yX7_isPlayed ∈ am_gw := List.mem_filter.mpr ⟨List.mem_of_getElem? (i := 155) (by decide +kernel), rfl⟩
theorem wl_yX7_isStretch : Cond.selects RX7 yX7_isStretch yX7_isStretch ∈ am_gw := List.mem_filter.mpr ⟨List.mem_of_getElem? (i := 168) (by decide +kernel), rfl⟩
theorem wl_yX7_isText : Cond.selects RX7 yX7_isText yX7_isText ∈ am_gw := List.mem_filter.mpr ⟨List.mem_of_getElem? (i := 154) (by decide +kernel), rfl⟩
theorem wl_yX7_isValidNow : Cond.selects RX7 yX7_isValidNow yX7_isValidNow ∈ am_gw := List.mem_filter.mpr ⟨List.mem_of_getElem? (i := 159) (by decide +kernel), rfl⟩
theorem wl_yX7_isWord : Cond.selects RX7 yX7_isWord yX7_isWord ∈ am_gw := List.mem_filter.mpr ⟨List.mem_of_getElem? (i := 90) (by decide +kernel), rfl⟩
theorem wl_yX7_keep : Cond.selects RX7 yX7_keep yX7_keep ∈ am_gw := List.mem_filter.mpr ⟨List.mem_of_getElem? (i := 117) (by decide +kernel), rfl⟩
theorem wl_yX7_layOrder : Cond.selects RX7 yX7_layOrder yX7_layOrder ∈ am_gw := List.mem_filter.mpr ⟨List.mem_of_getElem? (i := 126) (by decide +kernel), rfl⟩
theorem wl_yX7_lineOf : Cond.selects RX7 yX7_lineOf yX7_lineOf ∈ am_gw := List.mem_filter.mpr ⟨List.mem_of_getElem? (i := 157) (by decide +kernel), rfl⟩
theorem wl_yX7_mend : Cond.selects RX7 yX7_mend yX7_mend ∈ am_gw := List.mem_filter.mpr ⟨List.mem_of_getElem? (i := 1681) (by decide +kernel), rfl⟩
theorem wl_yX7_mendNow : Cond.selects RX7 yX7_mendNow yX7_mendNow ∈ am_gw := List.mem_filter.mpr ⟨List.mem_of_getElem? (i := 123) (by decide +kernel), rfl⟩
theorem wl_yX7_mendRound : Cond.selects RX7 yX7_mendRound yX7_mendRound ∈ am_gw := List.mem_filter.mpr ⟨List.mem_of_getElem? (i := 130) (by decide +kernel), rfl⟩
theorem wl_yX7_mustClause : Cond.selects RX7 yX7_mustClause yX7_mustClause ∈ am_gw := List.mem_filter.mpr ⟨List.mem_of_getElem? (i := 92) (by decide +kernel), rfl⟩
theorem wl_yX7_nameLevel : Cond.selects RX7 yX7_nameLevel yX7_nameLevel ∈ am_gw := List.mem_filter.mpr ⟨List.mem_of_getElem? (i := 135) (by decide +kernel), rfl⟩
theorem wl_yX7_nameOf : Cond.selects RX7 yX7_nameOf yX7_nameOf ∈ am_gw := List.mem_filter.mpr ⟨List.mem_of_getElem? (i := 104) (by decide +kernel), rfl⟩
theorem wl_yX7_namesIn : Cond.selects RX7 yX7_namesIn yX7_namesIn ∈ am_gw := List.mem_filter.mpr ⟨List.mem_of_getElem? (i := 128) (by decide +kernel), rfl⟩
theorem wl_yX7_namesOf : Cond.selects RX7 yX7_namesOf yX7_namesOf ∈ am_gw := List.mem_filter.mpr ⟨List.mem_of_getElem? (i := 127) (by decide +kernel), rfl⟩
theorem wl_yX7_needs : Cond.selects RX7 yX7_needs yX7_needs ∈ am_gw := List.mem_filter.mpr ⟨List.mem_of_getElem? (i := 1950) (by decide +kernel), rfl⟩
theorem wl_yX7_nextToken : Cond.selects RX7 yX7_nextToken yX7_nextToken ∈ am_gw := List.mem_filter.mpr ⟨List.mem_of_getElem? (i := 86) (by decide +kernel), rfl⟩
theorem wl_yX7_numberFrom : Cond.selects RX7 yX7_numberFrom yX7_numberFrom ∈ am_gw := List.mem_filter.mpr ⟨List.mem_of_getElem? (i := 142) (by decide +kernel), rfl⟩
theorem wl_yX7_ofOne : Cond.selects RX7 yX7_ofOne yX7_ofOne ∈ am_gw := List.mem_filter.mpr ⟨List.mem_of_getElem? (i := 139) (by decide +kernel), rfl⟩
theorem wl_yX7_openAt : Cond.selects RX7 yX7_openAt yX7_openAt ∈ am_gw := List.mem_filter.mpr ⟨List.mem_of_getElem? (i := 97) (by decide +kernel), rfl⟩
theorem wl_yX7_openNow : Cond.selects RX7 yX7_openNow yX7_openNow ∈ am_gw := List.mem_filter.mpr ⟨List.mem_of_getElem? (i := 96) (by decide +kernel), rfl⟩
theorem wl_yX7_opened : Cond.selects RX7 yX7_opened yX7_opened ∈ am_gw := List.mem_filter.mpr ⟨List.mem_of_getElem? (i := 107) (by decide +kernel), rfl⟩
theorem wl_yX7_partOf : Cond.selects RX7 yX7_partOf yX7_partOf ∈ am_gw := List.mem_filter.mpr ⟨List.mem_of_getElem? (i := 102) (by decide +kernel), rfl⟩
theorem wl_yX7_pass : Cond.selects RX7 yX7_pass yX7_pass ∈ am_gw := List.mem_filter.mpr ⟨List.mem_of_getElem? (i := 150) (by decide +kernel), rfl⟩
theorem wl_yX7_putAside : Cond.selects RX7 yX7_putAside yX7_putAside ∈ am_gw := List.mem_filter.mpr ⟨List.mem_of_getElem? (i := 129) (by decide +kernel), rfl⟩
theorem wl_yX7_read : Cond.selects RX7 yX7_read yX7_read ∈ am_gw := List.mem_filter.mpr ⟨List.mem_of_getElem? (i := 158) (by decide +kernel), rfl⟩
theorem wl_yX7_readBy : Cond.selects RX7 yX7_readBy yX7_readBy ∈ am_gw := List.mem_filter.mpr ⟨List.mem_of_getElem? (i := 131) (by decide +kernel), rfl⟩
theorem wl_yX7_readField : Cond.selects RX7 yX7_readField yX7_readField ∈ am_gw := List.mem_filter.mpr ⟨List.mem_of_getElem? (i := 133) (by decide +kernel), rfl⟩
theorem wl_yX7_readMusts : Cond.selects RX7 yX7_readMusts yX7_readMusts ∈ am_gw := List.mem_filter.mpr ⟨List.mem_of_getElem? (i := 146) (by decide +kernel), rfl⟩
theorem wl_yX7_readNum : Cond.selects RX7 yX7_readNum yX7_readNum ∈ am_gw := List.mem_filter.mpr ⟨List.mem_of_getElem? (i := 141) (by decide +kernel), rfl⟩
theorem wl_yX7_readSum : Cond.selects RX7 yX7_readSum yX7_readSum ∈ am_gw := List.mem_filter.mpr ⟨List.mem_of_getElem? (i := 144) (by decide +kernel), rfl⟩
theorem wl_yX7_readText : Cond.selects RX7 yX7_readText yX7_readText ∈ am_gw := List.mem_filter.mpr ⟨List.mem_of_getElem? (i := 85) (by decide +kernel), rfl⟩
theorem wl_yX7_readUpTo : Cond.selects RX7 yX7_readUpTo yX7_readUpTo ∈ am_gw := List.mem_filter.mpr ⟨List.mem_of_getElem? (i := 162) (by decide +kernel), rfl⟩
theorem wl_yX7_rotsNow : Cond.selects RX7 yX7_rotsNow yX7_rotsNow ∈ am_gw := List.mem_filter.mpr ⟨List.mem_of_getElem? (i := 153) (by decide +kernel), rfl⟩
theorem wl_yX7_set : Cond.selects RX7 yX7_set yX7_set ∈ am_gw := List.mem_filter.mpr ⟨List.mem_of_getElem? (i := 1641) (by decide +kernel), rfl⟩
theorem wl_yX7_setClause : Cond.selects RX7 yX7_setClause yX7_setClause ∈ am_gw := List.mem_filter.mpr ⟨List.mem_of_getElem? (i := 111) (by decide +kernel), rfl⟩
theorem wl_yX7_setNow : Cond.selects RX7 yX7_setNow yX7_setNow ∈ am_gw := List.mem_filter.mpr ⟨List.mem_of_getElem? (i := 118) (by decide +kernel), rfl⟩
theorem wl_yX7_settle : Cond.selects RX7 yX7_settle yX7_settle ∈ am_gw := List.mem_filter.mpr ⟨List.mem_of_getElem? (i := 100) (by decide +kernel), rfl⟩
theorem wl_yX7_settleField : Cond.selects RX7 yX7_settleField yX7_settleField ∈ am_gw := List.mem_filter.mpr ⟨List.mem_of_getElem? (i := 143) (by decide +kernel), rfl⟩
theorem wl_yX7_size : Cond.selects RX7 yX7_size yX7_size ∈ am_gw := List.mem_filter.mpr ⟨List.mem_of_getElem? (i := 1665) (by decide +kernel), rfl⟩
theorem wl_yX7_sizeNow : Cond.selects RX7 yX7_sizeNow yX7_sizeNow ∈ am_gw := List.mem_filter.mpr ⟨List.mem_of_getElem? (i := 121) (by decide +kernel), rfl⟩
theorem wl_yX7_sortOf : Cond.selects RX7 yX7_sortOf yX7_sortOf ∈ am_gw := List.mem_filter.mpr ⟨List.mem_of_getElem? (i := 89) (by decide +kernel), rfl⟩
theorem wl_yX7_sortOfField : Cond.selects RX7 yX7_sortOfField yX7_sortOfField ∈ am_gw := List.mem_filter.mpr ⟨List.mem_of_getElem? (i := 161) (by decide +kernel), rfl⟩
theorem wl_yX7_sumClause : Cond.selects RX7 yX7_sumClause yX7_sumClause ∈ am_gw := List.mem_filter.mpr ⟨List.mem_of_getElem? (i := 109) (by decide +kernel), rfl⟩
theorem wl_yX7_sumOf : Cond.selects RX7 yX7_sumOf yX7_sumOf ∈ am_gw := List.mem_filter.mpr ⟨List.mem_of_getElem? (i := 137) (by decide +kernel), rfl⟩
theorem wl_yX7_summed : Cond.selects RX7 yX7_summed yX7_summed ∈ am_gw := List.mem_filter.mpr ⟨List.mem_of_getElem? (i := 110) (by decide +kernel), rfl⟩
theorem wl_yX7_toldOf : Cond.selects RX7 yX7_toldOf yX7_toldOf ∈ am_gw := List.mem_filter.mpr ⟨List.mem_of_getElem? (i := 160) (by decide +kernel), rfl⟩
theorem wl_yX7_work : Cond.selects RX7 yX7_work yX7_work ∈ am_gw := List.mem_filter.mpr ⟨List.mem_of_getElem? (i := 138) (by decide +kernel), rfl⟩
theorem wl_yX7_write : Cond.selects RX7 yX7_write yX7_write ∈ am_gw := List.mem_filter.mpr ⟨List.mem_of_getElem? (i := 119) (by decide +kernel), rfl⟩
theorem wm_RX0_31 : Cond.methodLink RX0 31 ⟨"java/lang/System", "arraycopy", "(Ljava/lang/Object;ILjava/lang/Object;II)V"⟩ ∈ am_gw := List.mem_filter.mpr ⟨List.mem_of_getElem? (i := 882) (by decide +kernel), rfl⟩
theorem wm_RX0_37 : Cond.methodLink RX0 37 yX0_drawAnew ∈ am_gw := List.mem_filter.mpr ⟨List.mem_of_getElem? (i := 1035) (by decide +kernel), rfl⟩
theorem wm_RX0_40 : Cond.methodLink RX0 40 yJ9_max_7cf53 ∈ am_gw := List.mem_filter.mpr ⟨List.mem_of_getElem? (i := 905) (by decide +kernel), rfl⟩
theorem wm_RX0_46 : Cond.methodLink RX0 46 yX0_write ∈ am_gw := List.mem_filter.mpr ⟨List.mem_of_getElem? (i := 889) (by decide +kernel), rfl⟩
theorem wm_RX1_121 : Cond.methodLink RX1 121 yX1_advance ∈ am_gw := List.mem_filter.mpr ⟨List.mem_of_getElem? (i := 742) (by decide +kernel), rfl⟩
theorem wm_RX1_124 : Cond.methodLink RX1 124 yX1_fail ∈ am_gw := List.mem_filter.mpr ⟨List.mem_of_getElem? (i := 738) (by decide +kernel), rfl⟩
theorem wm_RX1_151 : Cond.methodLink RX1 151 yX1_readEither ∈ am_gw := List.mem_filter.mpr ⟨List.mem_of_getElem? (i := 750) (by decide +kernel), rfl⟩
theorem wm_RX1_154 : Cond.methodLink RX1 154 yX1_emit ∈ am_gw := List.mem_filter.mpr ⟨List.mem_of_getElem? (i := 770) (by decide +kernel), rfl⟩
theorem wm_RX1_157 : Cond.methodLink RX1 157 yX1_readSum ∈ am_gw := List.mem_filter.mpr ⟨List.mem_of_getElem? (i := 774) (by decide +kernel), rfl⟩
theorem wm_RX1_160 : Cond.methodLink RX1 160 yX1_readNumber ∈ am_gw := List.mem_filter.mpr ⟨List.mem_of_getElem? (i := 810) (by decide +kernel), rfl⟩
theorem wm_RX1_164 : Cond.methodLink RX1 164 yX1_readField ∈ am_gw := List.mem_filter.mpr ⟨List.mem_of_getElem? (i := 814) (by decide +kernel), rfl⟩
theorem wm_RX1_167 : Cond.methodLink RX1 167 yX1_numberHere ∈ am_gw := List.mem_filter.mpr ⟨List.mem_of_getElem? (i := 802) (by decide +kernel), rfl⟩
theorem wm_RX1_182 : Cond.methodLink RX1 182 yX1_readPart ∈ am_gw := List.mem_filter.mpr ⟨List.mem_of_getElem? (i := 825) (by decide +kernel), rfl⟩
theorem wm_RX1_197 : Cond.methodLink RX1 197 yX1_readProduct ∈ am_gw := List.mem_filter.mpr ⟨List.mem_of_getElem? (i := 778) (by decide +kernel), rfl⟩
theorem wm_RX1_200 : Cond.methodLink RX1 200 yX1_readOne ∈ am_gw := List.mem_filter.mpr ⟨List.mem_of_getElem? (i := 782) (by decide +kernel), rfl⟩
theorem wm_RX1_203 : Cond.methodLink RX1 203 yX1_opens ∈ am_gw := List.mem_filter.mpr ⟨List.mem_of_getElem? (i := 762) (by decide +kernel), rfl⟩
theorem wm_RX1_206 : Cond.methodLink RX1 206 yX1_closes ∈ am_gw := List.mem_filter.mpr ⟨List.mem_of_getElem? (i := 766) (by decide +kernel), rfl⟩
theorem wm_RX1_209 : Cond.methodLink RX1 209 yX1_readIf ∈ am_gw := List.mem_filter.mpr ⟨List.mem_of_getElem? (i := 790) (by decide +kernel), rfl⟩
theorem wm_RX1_212 : Cond.methodLink RX1 212 yX1_readName ∈ am_gw := List.mem_filter.mpr ⟨List.mem_of_getElem? (i := 798) (by decide +kernel), rfl⟩
theorem wm_RX1_215 : Cond.methodLink RX1 215 yX1_aim ∈ am_gw := List.mem_filter.mpr ⟨List.mem_of_getElem? (i := 794) (by decide +kernel), rfl⟩
theorem wm_RX1_219 : Cond.methodLink RX1 219 yX1_readBoth ∈ am_gw := List.mem_filter.mpr ⟨List.mem_of_getElem? (i := 754) (by decide +kernel), rfl⟩
theorem wm_RX1_222 : Cond.methodLink RX1 222 yX1_readAsk ∈ am_gw := List.mem_filter.mpr ⟨List.mem_of_getElem? (i := 758) (by decide +kernel), rfl⟩
theorem wm_RX1_225 : Cond.methodLink RX1 225 yX1_comparisonHere ∈ am_gw := List.mem_filter.mpr ⟨List.mem_of_getElem? (i := 806) (by decide +kernel), rfl⟩
theorem wm_RX1_28 : Cond.methodLink RX1 28 yJ9_min_7cf53 ∈ am_gw := List.mem_filter.mpr ⟨List.mem_of_getElem? (i := 596) (by decide +kernel), rfl⟩
theorem wm_RX1_34 : Cond.methodLink RX1 34 yJ9_max_7cf53 ∈ am_gw := List.mem_filter.mpr ⟨List.mem_of_getElem? (i := 599) (by decide +kernel), rfl⟩
theorem wm_RX1_37 : Cond.methodLink RX1 37 yX1_split ∈ am_gw := List.mem_filter.mpr ⟨List.mem_of_getElem? (i := 602) (by decide +kernel), rfl⟩
theorem wm_RX1_63 : Cond.methodLink RX1 63 yX1_readKind ∈ am_gw := List.mem_filter.mpr ⟨List.mem_of_getElem? (i := 734) (by decide +kernel), rfl⟩
theorem wm_RX1_70 : Cond.methodLink RX1 70 yX1_readRest ∈ am_gw := List.mem_filter.mpr ⟨List.mem_of_getElem? (i := 746) (by decide +kernel), rfl⟩
theorem wm_RX1_74 : Cond.methodLink RX1 74 yX1_take ∈ am_gw := List.mem_filter.mpr ⟨List.mem_of_getElem? (i := 786) (by decide +kernel), rfl⟩
theorem wm_RX1_83 : Cond.methodLink RX1 83 yX1_isLetter ∈ am_gw := List.mem_filter.mpr ⟨List.mem_of_getElem? (i := 606) (by decide +kernel), rfl⟩
theorem wm_RX1_86 : Cond.methodLink RX1 86 yX1_wordToken ∈ am_gw := List.mem_filter.mpr ⟨List.mem_of_getElem? (i := 609) (by decide +kernel), rfl⟩
theorem wm_RX1_90 : Cond.methodLink RX1 90 yX1_put ∈ am_gw := List.mem_filter.mpr ⟨List.mem_of_getElem? (i := 664) (by decide +kernel), rfl⟩
theorem wm_RX1_94 : Cond.methodLink RX1 94 yX1_isDigit ∈ am_gw := List.mem_filter.mpr ⟨List.mem_of_getElem? (i := 668) (by decide +kernel), rfl⟩
theorem wm_RX1_97 : Cond.methodLink RX1 97 yX1_signToken ∈ am_gw := List.mem_filter.mpr ⟨List.mem_of_getElem? (i := 671) (by decide +kernel), rfl⟩
theorem wm_RX2_116 : Cond.methodLink RX2 116 yX2_answer ∈ am_gw := List.mem_filter.mpr ⟨List.mem_of_getElem? (i := 938) (by decide +kernel), rfl⟩
theorem wm_RX2_142 : Cond.methodLink RX2 142 yX2_know ∈ am_gw := List.mem_filter.mpr ⟨List.mem_of_getElem? (i := 979) (by decide +kernel), rfl⟩
theorem wm_RX2_146 : Cond.methodLink RX2 146 yX2_readSummed ∈ am_gw := List.mem_filter.mpr ⟨List.mem_of_getElem? (i := 982) (by decide +kernel), rfl⟩
theorem wm_RX2_152 : Cond.methodLink RX2 152 yX2_readNest ∈ am_gw := List.mem_filter.mpr ⟨List.mem_of_getElem? (i := 987) (by decide +kernel), rfl⟩
theorem wm_RX2_165 : Cond.methodLink RX2 165 yX2_byteIn ∈ am_gw := List.mem_filter.mpr ⟨List.mem_of_getElem? (i := 954) (by decide +kernel), rfl⟩
theorem wm_RX2_174 : Cond.methodLink RX2 174 yJ9_max_7cf53 ∈ am_gw := List.mem_filter.mpr ⟨List.mem_of_getElem? (i := 942) (by decide +kernel), rfl⟩
theorem wm_RX2_211 : Cond.methodLink RX2 211 ⟨"java/lang/System", "arraycopy", "(Ljava/lang/Object;ILjava/lang/Object;II)V"⟩ ∈ am_gw := List.mem_filter.mpr ⟨List.mem_of_getElem? (i := 918) (by decide +kernel), rfl⟩
theorem wm_RX2_220 : Cond.methodLink RX2 220 yX2_putSums ∈ am_gw := List.mem_filter.mpr ⟨List.mem_of_getElem? (i := 1007) (by decide +kernel), rfl⟩
theorem wm_RX2_224 : Cond.methodLink RX2 224 yX2_unlikeBytes ∈ am_gw := List.mem_filter.mpr ⟨List.mem_of_getElem? (i := 1011) (by decide +kernel), rfl⟩
theorem wm_RX2_243 : Cond.methodLink RX2 243 yJ9_min_7cf53 ∈ am_gw := List.mem_filter.mpr ⟨List.mem_of_getElem? (i := 1043) (by decide +kernel), rfl⟩
theorem wm_RX2_249 : Cond.methodLink RX2 249 yX2_leaf ∈ am_gw := List.mem_filter.mpr ⟨List.mem_of_getElem? (i := 943) (by decide +kernel), rfl⟩
theorem wm_RX2_253 : Cond.methodLink RX2 253 yX2_ofOne ∈ am_gw := List.mem_filter.mpr ⟨List.mem_of_getElem? (i := 947) (by decide +kernel), rfl⟩
theorem wm_RX2_256 : Cond.methodLink RX2 256 yX2_ofTwo ∈ am_gw := List.mem_filter.mpr ⟨List.mem_of_getElem? (i := 958) (by decide +kernel), rfl⟩
theorem wm_RX2_260 : Cond.methodLink RX2 260 yX2_confined ∈ am_gw := List.mem_filter.mpr ⟨List.mem_of_getElem? (i := 961) (by decide +kernel), rfl⟩
theorem wm_RX2_264 : Cond.methodLink RX2 264 yX2_compares ∈ am_gw := List.mem_filter.mpr ⟨List.mem_of_getElem? (i := 972) (by decide +kernel), rfl⟩
theorem wm_RX2_272 : Cond.methodLink RX2 272 yJ9_min_f86c9 ∈ am_gw := List.mem_filter.mpr ⟨List.mem_of_getElem? (i := 966) (by decide +kernel), rfl⟩
theorem wm_RX2_275 : Cond.methodLink RX2 275 yJ9_max_f86c9 ∈ am_gw := List.mem_filter.mpr ⟨List.mem_of_getElem? (i := 969) (by decide +kernel), rfl⟩
theorem wm_RX2_50 : Cond.methodLink RX2 50 yX2_readFormat ∈ am_gw := List.mem_filter.mpr ⟨List.mem_of_getElem? (i := 919) (by decide +kernel), rfl⟩
theorem wm_RX2_67 : Cond.methodLink RX2 67 yX2_readingAt ∈ am_gw := List.mem_filter.mpr ⟨List.mem_of_getElem? (i := 923) (by decide +kernel), rfl⟩
theorem wm_RX2_92 : Cond.methodLink RX2 92 yX2_readField ∈ am_gw := List.mem_filter.mpr ⟨List.mem_of_getElem? (i := 934) (by decide +kernel), rfl⟩
theorem wm_RX2_96 : Cond.methodLink RX2 96 yX2_askMusts ∈ am_gw := List.mem_filter.mpr ⟨List.mem_of_getElem? (i := 1003) (by decide +kernel), rfl⟩
theorem wm_RX3_55 : Cond.methodLink RX3 55 ⟨"java/lang/System", "arraycopy", "(Ljava/lang/Object;ILjava/lang/Object;II)V"⟩ ∈ am_gw := List.mem_filter.mpr ⟨List.mem_of_getElem? (i := 1196) (by decide +kernel), rfl⟩
theorem wm_RX3_65 : Cond.methodLink RX3 65 yX3_isKnown ∈ am_gw := List.mem_filter.mpr ⟨List.mem_of_getElem? (i := 1174) (by decide +kernel), rfl⟩
theorem wm_RX3_68 : Cond.methodLink RX3 68 yX3_how ∈ am_gw := List.mem_filter.mpr ⟨List.mem_of_getElem? (i := 1144) (by decide +kernel), rfl⟩
theorem wm_RX4_49 : Cond.methodLink RX4 49 yX4_copyStep ∈ am_gw := List.mem_filter.mpr ⟨List.mem_of_getElem? (i := 875) (by decide +kernel), rfl⟩
theorem wm_RX4_53 : Cond.methodLink RX4 53 ⟨"java/lang/System", "arraycopy", "(Ljava/lang/Object;ILjava/lang/Object;II)V"⟩ ∈ am_gw := List.mem_filter.mpr ⟨List.mem_of_getElem? (i := 1271) (by decide +kernel), rfl⟩
theorem wm_RX4_59 : Cond.methodLink RX4 59 yJ9_floorMod_7cf53 ∈ am_gw := List.mem_filter.mpr ⟨List.mem_of_getElem? (i := 872) (by decide +kernel), rfl⟩
theorem wm_RX4_65 : Cond.methodLink RX4 65 yX4_stepAt ∈ am_gw := List.mem_filter.mpr ⟨List.mem_of_getElem? (i := 868) (by decide +kernel), rfl⟩
theorem wm_RX5_65 : Cond.methodLink RX5 65 yX5_lowestReady ∈ am_gw := List.mem_filter.mpr ⟨List.mem_of_getElem? (i := 833) (by decide +kernel), rfl⟩
theorem wm_RX5_72 : Cond.methodLink RX5 72 yX5_gatherNeeded ∈ am_gw := List.mem_filter.mpr ⟨List.mem_of_getElem? (i := 838) (by decide +kernel), rfl⟩
theorem wm_RX5_75 : Cond.methodLink RX5 75 yX5_tells ∈ am_gw := List.mem_filter.mpr ⟨List.mem_of_getElem? (i := 837) (by decide +kernel), rfl⟩
theorem wm_RX6_103 : Cond.methodLink RX6 103 yX6_theText ∈ am_gw := List.mem_filter.mpr ⟨List.mem_of_getElem? (i := 910) (by decide +kernel), rfl⟩
theorem wm_RX6_121 : Cond.methodLink RX6 121 yX6_passDays ∈ am_gw := List.mem_filter.mpr ⟨List.mem_of_getElem? (i := 1023) (by decide +kernel), rfl⟩
theorem wm_RX6_125 : Cond.methodLink RX6 125 yX6_passDay ∈ am_gw := List.mem_filter.mpr ⟨List.mem_of_getElem? (i := 1027) (by decide +kernel), rfl⟩
theorem wm_RX6_154 : Cond.methodLink RX6 154 yX6_set ∈ am_gw := List.mem_filter.mpr ⟨List.mem_of_getElem? (i := 1052) (by decide +kernel), rfl⟩
theorem wm_RX6_157 : Cond.methodLink RX6 157 yX6_size ∈ am_gw := List.mem_filter.mpr ⟨List.mem_of_getElem? (i := 1053) (by decide +kernel), rfl⟩
theorem wm_RX6_159 : Cond.methodLink RX6 159 yX6_mend ∈ am_gw := List.mem_filter.mpr ⟨List.mem_of_getElem? (i := 1054) (by decide +kernel), rfl⟩
theorem wm_RX6_163 : Cond.methodLink RX6 163 yJ9_min_7cf53 ∈ am_gw := List.mem_filter.mpr ⟨List.mem_of_getElem? (i := 1055) (by decide +kernel), rfl⟩
theorem wm_RX6_175 : Cond.methodLink RX6 175 yX6_passYear ∈ am_gw := List.mem_filter.mpr ⟨List.mem_of_getElem? (i := 1061) (by decide +kernel), rfl⟩
theorem wm_RX6_204 : Cond.methodLink RX6 204 yX6_asNumber ∈ am_gw := List.mem_filter.mpr ⟨List.mem_of_getElem? (i := 1105) (by decide +kernel), rfl⟩
theorem wm_RX6_208 : Cond.methodLink RX6 208 yJ9_max_7cf53 ∈ am_gw := List.mem_filter.mpr ⟨List.mem_of_getElem? (i := 978) (by decide +kernel), rfl⟩
theorem wm_RX6_215 : Cond.methodLink RX6 215 yX6_isField ∈ am_gw := List.mem_filter.mpr ⟨List.mem_of_getElem? (i := 1134) (by decide +kernel), rfl⟩
theorem wm_RX6_262 : Cond.methodLink RX6 262 yX6_span ∈ am_gw := List.mem_filter.mpr ⟨List.mem_of_getElem? (i := 1181) (by decide +kernel), rfl⟩
theorem wm_RX6_305 : Cond.methodLink RX6 305 yX6_madeAt ∈ am_gw := List.mem_filter.mpr ⟨List.mem_of_getElem? (i := 1230) (by decide +kernel), rfl⟩
theorem wm_RX6_325 : Cond.methodLink RX6 325 yX6_allSaidIsSo ∈ am_gw := List.mem_filter.mpr ⟨List.mem_of_getElem? (i := 1259) (by decide +kernel), rfl⟩
theorem wm_RX6_61 : Cond.methodLink RX6 61 yX6_putOnTape ∈ am_gw := List.mem_filter.mpr ⟨List.mem_of_getElem? (i := 580) (by decide +kernel), rfl⟩
theorem wm_RX6_78 : Cond.methodLink RX6 78 yX6_textAt ∈ am_gw := List.mem_filter.mpr ⟨List.mem_of_getElem? (i := 852) (by decide +kernel), rfl⟩
theorem wm_RX7_104 : Cond.methodLink RX7 104 yX7_copy ∈ am_gw := List.mem_filter.mpr ⟨List.mem_of_getElem? (i := 1286) (by decide +kernel), rfl⟩
theorem wm_RX7_108 : Cond.methodLink RX7 108 yX7_isIn ∈ am_gw := List.mem_filter.mpr ⟨List.mem_of_getElem? (i := 1468) (by decide +kernel), rfl⟩
theorem wm_RX7_115 : Cond.methodLink RX7 115 yX7_four ∈ am_gw := List.mem_filter.mpr ⟨List.mem_of_getElem? (i := 1460) (by decide +kernel), rfl⟩
theorem wm_RX7_122 : Cond.methodLink RX7 122 yX7_byteAt ∈ am_gw := List.mem_filter.mpr ⟨List.mem_of_getElem? (i := 1483) (by decide +kernel), rfl⟩
theorem wm_RX7_132 : Cond.methodLink RX7 132 yX7_isFigure ∈ am_gw := List.mem_filter.mpr ⟨List.mem_of_getElem? (i := 1487) (by decide +kernel), rfl⟩
theorem wm_RX7_140 : Cond.methodLink RX7 140 yX7_isLetterByte ∈ am_gw := List.mem_filter.mpr ⟨List.mem_of_getElem? (i := 1491) (by decide +kernel), rfl⟩
theorem wm_RX7_149 : Cond.methodLink RX7 149 yX7_isSign ∈ am_gw := List.mem_filter.mpr ⟨List.mem_of_getElem? (i := 1495) (by decide +kernel), rfl⟩
theorem wm_RX7_152 : Cond.methodLink RX7 152 yX7_w2 ∈ am_gw := List.mem_filter.mpr ⟨List.mem_of_getElem? (i := 1509) (by decide +kernel), rfl⟩
theorem wm_RX7_156 : Cond.methodLink RX7 156 yX7_w3 ∈ am_gw := List.mem_filter.mpr ⟨List.mem_of_getElem? (i := 1506) (by decide +kernel), rfl⟩
theorem wm_RX7_160 : Cond.methodLink RX7 160 yX7_w4 ∈ am_gw := List.mem_filter.mpr ⟨List.mem_of_getElem? (i := 1516) (by decide +kernel), rfl⟩
theorem wm_RX7_164 : Cond.methodLink RX7 164 yX7_w5 ∈ am_gw := List.mem_filter.mpr ⟨List.mem_of_getElem? (i := 1585) (by decide +kernel), rfl⟩
theorem wm_RX7_174 : Cond.methodLink RX7 174 yX7_fieldNamed ∈ am_gw := List.mem_filter.mpr ⟨List.mem_of_getElem? (i := 1581) (by decide +kernel), rfl⟩
theorem wm_RX7_184 : Cond.methodLink RX7 184 yX7_rank ∈ am_gw := List.mem_filter.mpr ⟨List.mem_of_getElem? (i := 1554) (by decide +kernel), rfl⟩
theorem wm_RX7_187 : Cond.methodLink RX7 187 yX7_emit ∈ am_gw := List.mem_filter.mpr ⟨List.mem_of_getElem? (i := 1565) (by decide +kernel), rfl⟩
theorem wm_RX7_194 : Cond.methodLink RX7 194 yX7_openAt ∈ am_gw := List.mem_filter.mpr ⟨List.mem_of_getElem? (i := 1543) (by decide +kernel), rfl⟩
theorem wm_RX7_197 : Cond.methodLink RX7 197 yX7_openNow ∈ am_gw := List.mem_filter.mpr ⟨List.mem_of_getElem? (i := 1539) (by decide +kernel), rfl⟩
theorem wm_RX7_200 : Cond.methodLink RX7 200 yX7_isAsk ∈ am_gw := List.mem_filter.mpr ⟨List.mem_of_getElem? (i := 1547) (by decide +kernel), rfl⟩
theorem wm_RX7_203 : Cond.methodLink RX7 203 yX7_nextToken ∈ am_gw := List.mem_filter.mpr ⟨List.mem_of_getElem? (i := 1479) (by decide +kernel), rfl⟩
theorem wm_RX7_206 : Cond.methodLink RX7 206 yX7_nameOf ∈ am_gw := List.mem_filter.mpr ⟨List.mem_of_getElem? (i := 1577) (by decide +kernel), rfl⟩
theorem wm_RX7_209 : Cond.methodLink RX7 209 yX7_isOf ∈ am_gw := List.mem_filter.mpr ⟨List.mem_of_getElem? (i := 1588) (by decide +kernel), rfl⟩
theorem wm_RX7_215 : Cond.methodLink RX7 215 yX7_settle ∈ am_gw := List.mem_filter.mpr ⟨List.mem_of_getElem? (i := 1561) (by decide +kernel), rfl⟩
theorem wm_RX7_218 : Cond.methodLink RX7 218 yX7_opened ∈ am_gw := List.mem_filter.mpr ⟨List.mem_of_getElem? (i := 1592) (by decide +kernel), rfl⟩
theorem wm_RX7_221 : Cond.methodLink RX7 221 yX7_isWord ∈ am_gw := List.mem_filter.mpr ⟨List.mem_of_getElem? (i := 1512) (by decide +kernel), rfl⟩
theorem wm_RX7_225 : Cond.methodLink RX7 225 yX7_isAskAhead ∈ am_gw := List.mem_filter.mpr ⟨List.mem_of_getElem? (i := 1596) (by decide +kernel), rfl⟩
theorem wm_RX7_229 : Cond.methodLink RX7 229 yX7_isCompared ∈ am_gw := List.mem_filter.mpr ⟨List.mem_of_getElem? (i := 1550) (by decide +kernel), rfl⟩
theorem wm_RX7_232 : Cond.methodLink RX7 232 yX7_compareOf ∈ am_gw := List.mem_filter.mpr ⟨List.mem_of_getElem? (i := 1557) (by decide +kernel), rfl⟩
theorem wm_RX7_235 : Cond.methodLink RX7 235 yX7_betweenOf ∈ am_gw := List.mem_filter.mpr ⟨List.mem_of_getElem? (i := 1535) (by decide +kernel), rfl⟩
theorem wm_RX7_238 : Cond.methodLink RX7 238 yX7_partOf ∈ am_gw := List.mem_filter.mpr ⟨List.mem_of_getElem? (i := 1569) (by decide +kernel), rfl⟩
theorem wm_RX7_241 : Cond.methodLink RX7 241 yX7_all ∈ am_gw := List.mem_filter.mpr ⟨List.mem_of_getElem? (i := 1527) (by decide +kernel), rfl⟩
theorem wm_RX7_244 : Cond.methodLink RX7 244 yX7_behindOne ∈ am_gw := List.mem_filter.mpr ⟨List.mem_of_getElem? (i := 1531) (by decide +kernel), rfl⟩
theorem wm_RX7_247 : Cond.methodLink RX7 247 yX7_beginOne ∈ am_gw := List.mem_filter.mpr ⟨List.mem_of_getElem? (i := 1573) (by decide +kernel), rfl⟩
theorem wm_RX7_250 : Cond.methodLink RX7 250 yX7_summed ∈ am_gw := List.mem_filter.mpr ⟨List.mem_of_getElem? (i := 1604) (by decide +kernel), rfl⟩
theorem wm_RX7_253 : Cond.methodLink RX7 253 yX7_sumClause ∈ am_gw := List.mem_filter.mpr ⟨List.mem_of_getElem? (i := 1600) (by decide +kernel), rfl⟩
theorem wm_RX7_260 : Cond.methodLink RX7 260 yX7_has ∈ am_gw := List.mem_filter.mpr ⟨List.mem_of_getElem? (i := 1620) (by decide +kernel), rfl⟩
theorem wm_RX7_264 : Cond.methodLink RX7 264 yX7_furtherSum ∈ am_gw := List.mem_filter.mpr ⟨List.mem_of_getElem? (i := 1623) (by decide +kernel), rfl⟩
theorem wm_RX7_268 : Cond.methodLink RX7 268 yX7_figure ∈ am_gw := List.mem_filter.mpr ⟨List.mem_of_getElem? (i := 1612) (by decide +kernel), rfl⟩
theorem wm_RX7_272 : Cond.methodLink RX7 272 yX7_mustClause ∈ am_gw := List.mem_filter.mpr ⟨List.mem_of_getElem? (i := 1523) (by decide +kernel), rfl⟩
theorem wm_RX7_275 : Cond.methodLink RX7 275 yX7_setClause ∈ am_gw := List.mem_filter.mpr ⟨List.mem_of_getElem? (i := 1608) (by decide +kernel), rfl⟩
theorem wm_RX7_278 : Cond.methodLink RX7 278 yX7_fieldClause ∈ am_gw := List.mem_filter.mpr ⟨List.mem_of_getElem? (i := 1616) (by decide +kernel), rfl⟩
theorem wm_RX7_281 : Cond.methodLink RX7 281 yX7_sortOf ∈ am_gw := List.mem_filter.mpr ⟨List.mem_of_getElem? (i := 1502) (by decide +kernel), rfl⟩
theorem wm_RX7_287 : Cond.methodLink RX7 287 yX7_body ∈ am_gw := List.mem_filter.mpr ⟨List.mem_of_getElem? (i := 1519) (by decide +kernel), rfl⟩
theorem wm_RX7_290 : Cond.methodLink RX7 290 yX7_clause ∈ am_gw := List.mem_filter.mpr ⟨List.mem_of_getElem? (i := 1498) (by decide +kernel), rfl⟩
theorem wm_RX7_293 : Cond.methodLink RX7 293 yX7_readText ∈ am_gw := List.mem_filter.mpr ⟨List.mem_of_getElem? (i := 1475) (by decide +kernel), rfl⟩
theorem wm_RX7_300 : Cond.methodLink RX7 300 yX7_clip ∈ am_gw := List.mem_filter.mpr ⟨List.mem_of_getElem? (i := 1764) (by decide +kernel), rfl⟩
theorem wm_RX7_307 : Cond.methodLink RX7 307 yX7_isInside ∈ am_gw := List.mem_filter.mpr ⟨List.mem_of_getElem? (i := 1757) (by decide +kernel), rfl⟩
theorem wm_RX7_313 : Cond.methodLink RX7 313 yX7_ofOne ∈ am_gw := List.mem_filter.mpr ⟨List.mem_of_getElem? (i := 1753) (by decide +kernel), rfl⟩
theorem wm_RX7_316 : Cond.methodLink RX7 316 yX7_two ∈ am_gw := List.mem_filter.mpr ⟨List.mem_of_getElem? (i := 1761) (by decide +kernel), rfl⟩
theorem wm_RX7_320 : Cond.methodLink RX7 320 yX7_isAsked ∈ am_gw := List.mem_filter.mpr ⟨List.mem_of_getElem? (i := 1769) (by decide +kernel), rfl⟩
theorem wm_RX7_324 : Cond.methodLink RX7 324 yX7_joined ∈ am_gw := List.mem_filter.mpr ⟨List.mem_of_getElem? (i := 1772) (by decide +kernel), rfl⟩
theorem wm_RX7_328 : Cond.methodLink RX7 328 yX7_clauseAt ∈ am_gw := List.mem_filter.mpr ⟨List.mem_of_getElem? (i := 1695) (by decide +kernel), rfl⟩
theorem wm_RX7_331 : Cond.methodLink RX7 331 yX7_work ∈ am_gw := List.mem_filter.mpr ⟨List.mem_of_getElem? (i := 1749) (by decide +kernel), rfl⟩
theorem wm_RX7_335 : Cond.methodLink RX7 335 yX7_clauses ∈ am_gw := List.mem_filter.mpr ⟨List.mem_of_getElem? (i := 1691) (by decide +kernel), rfl⟩
theorem wm_RX7_338 : Cond.methodLink RX7 338 yX7_sumOf ∈ am_gw := List.mem_filter.mpr ⟨List.mem_of_getElem? (i := 1745) (by decide +kernel), rfl⟩
theorem wm_RX7_341 : Cond.methodLink RX7 341 yX7_held ∈ am_gw := List.mem_filter.mpr ⟨List.mem_of_getElem? (i := 1841) (by decide +kernel), rfl⟩
theorem wm_RX7_345 : Cond.methodLink RX7 345 yX7_sumsOf ∈ am_gw := List.mem_filter.mpr ⟨List.mem_of_getElem? (i := 1706) (by decide +kernel), rfl⟩
theorem wm_RX7_348 : Cond.methodLink RX7 348 yX7_namesIn ∈ am_gw := List.mem_filter.mpr ⟨List.mem_of_getElem? (i := 1709) (by decide +kernel), rfl⟩
theorem wm_RX7_354 : Cond.methodLink RX7 354 yX7_namesOf ∈ am_gw := List.mem_filter.mpr ⟨List.mem_of_getElem? (i := 1702) (by decide +kernel), rfl⟩
theorem wm_RX7_369 : Cond.methodLink RX7 369 yX7_isWithin ∈ am_gw := List.mem_filter.mpr ⟨List.mem_of_getElem? (i := 1775) (by decide +kernel), rfl⟩
theorem wm_RX7_375 : Cond.methodLink RX7 375 yX7_numberFrom ∈ am_gw := List.mem_filter.mpr ⟨List.mem_of_getElem? (i := 1783) (by decide +kernel), rfl⟩
theorem wm_RX7_378 : Cond.methodLink RX7 378 yX7_settleField ∈ am_gw := List.mem_filter.mpr ⟨List.mem_of_getElem? (i := 1787) (by decide +kernel), rfl⟩
theorem wm_RX7_382 : Cond.methodLink RX7 382 yX7_bitsFrom ∈ am_gw := List.mem_filter.mpr ⟨List.mem_of_getElem? (i := 1791) (by decide +kernel), rfl⟩
theorem wm_RX7_385 : Cond.methodLink RX7 385 yX7_bytesFrom ∈ am_gw := List.mem_filter.mpr ⟨List.mem_of_getElem? (i := 1798) (by decide +kernel), rfl⟩
theorem wm_RX7_388 : Cond.methodLink RX7 388 yX7_beginLevel ∈ am_gw := List.mem_filter.mpr ⟨List.mem_of_getElem? (i := 1725) (by decide +kernel), rfl⟩
theorem wm_RX7_394 : Cond.methodLink RX7 394 yX7_nameLevel ∈ am_gw := List.mem_filter.mpr ⟨List.mem_of_getElem? (i := 1737) (by decide +kernel), rfl⟩
theorem wm_RX7_397 : Cond.methodLink RX7 397 yX7_isAnyBroken ∈ am_gw := List.mem_filter.mpr ⟨List.mem_of_getElem? (i := 1733) (by decide +kernel), rfl⟩
theorem wm_RX7_406 : Cond.methodLink RX7 406 yX7_isNestBegun ∈ am_gw := List.mem_filter.mpr ⟨List.mem_of_getElem? (i := 1741) (by decide +kernel), rfl⟩
theorem wm_RX7_409 : Cond.methodLink RX7 409 yX7_readNum ∈ am_gw := List.mem_filter.mpr ⟨List.mem_of_getElem? (i := 1778) (by decide +kernel), rfl⟩
theorem wm_RX7_412 : Cond.methodLink RX7 412 yX7_readSum ∈ am_gw := List.mem_filter.mpr ⟨List.mem_of_getElem? (i := 1794) (by decide +kernel), rfl⟩
theorem wm_RX7_415 : Cond.methodLink RX7 415 yX7_readField ∈ am_gw := List.mem_filter.mpr ⟨List.mem_of_getElem? (i := 1729) (by decide +kernel), rfl⟩
theorem wm_RX7_418 : Cond.methodLink RX7 418 yX7_readMusts ∈ am_gw := List.mem_filter.mpr ⟨List.mem_of_getElem? (i := 1802) (by decide +kernel), rfl⟩
theorem wm_RX7_421 : Cond.methodLink RX7 421 yX7_endLevel ∈ am_gw := List.mem_filter.mpr ⟨List.mem_of_getElem? (i := 1806) (by decide +kernel), rfl⟩
theorem wm_RX7_424 : Cond.methodLink RX7 424 yX7_layOrder ∈ am_gw := List.mem_filter.mpr ⟨List.mem_of_getElem? (i := 1698) (by decide +kernel), rfl⟩
theorem wm_RX7_427 : Cond.methodLink RX7 427 yX7_readBy ∈ am_gw := List.mem_filter.mpr ⟨List.mem_of_getElem? (i := 1721) (by decide +kernel), rfl⟩
theorem wm_RX7_430 : Cond.methodLink RX7 430 yX7_hasSum ∈ am_gw := List.mem_filter.mpr ⟨List.mem_of_getElem? (i := 1687) (by decide +kernel), rfl⟩
theorem wm_RX7_433 : Cond.methodLink RX7 433 yX7_putAside ∈ am_gw := List.mem_filter.mpr ⟨List.mem_of_getElem? (i := 1713) (by decide +kernel), rfl⟩
theorem wm_RX7_436 : Cond.methodLink RX7 436 yX7_mendRound ∈ am_gw := List.mem_filter.mpr ⟨List.mem_of_getElem? (i := 1717) (by decide +kernel), rfl⟩
theorem wm_RX7_439 : Cond.methodLink RX7 439 yX7_bringBack ∈ am_gw := List.mem_filter.mpr ⟨List.mem_of_getElem? (i := 1810) (by decide +kernel), rfl⟩
theorem wm_RX7_442 : Cond.methodLink RX7 442 yX7_anew ∈ am_gw := List.mem_filter.mpr ⟨List.mem_of_getElem? (i := 1830) (by decide +kernel), rfl⟩
theorem wm_RX7_451 : Cond.methodLink RX7 451 yX7_isPlace ∈ am_gw := List.mem_filter.mpr ⟨List.mem_of_getElem? (i := 1647) (by decide +kernel), rfl⟩
theorem wm_RX7_454 : Cond.methodLink RX7 454 yX7_write ∈ am_gw := List.mem_filter.mpr ⟨List.mem_of_getElem? (i := 1659) (by decide +kernel), rfl⟩
theorem wm_RX7_457 : Cond.methodLink RX7 457 yX7_cutTo ∈ am_gw := List.mem_filter.mpr ⟨List.mem_of_getElem? (i := 1675) (by decide +kernel), rfl⟩
theorem wm_RX7_460 : Cond.methodLink RX7 460 yX7_drawnBy ∈ am_gw := List.mem_filter.mpr ⟨List.mem_of_getElem? (i := 1826) (by decide +kernel), rfl⟩
theorem wm_RX7_463 : Cond.methodLink RX7 463 yX7_rotsNow ∈ am_gw := List.mem_filter.mpr ⟨List.mem_of_getElem? (i := 1837) (by decide +kernel), rfl⟩
theorem wm_RX7_469 : Cond.methodLink RX7 469 yX7_canSet ∈ am_gw := List.mem_filter.mpr ⟨List.mem_of_getElem? (i := 1643) (by decide +kernel), rfl⟩
theorem wm_RX7_472 : Cond.methodLink RX7 472 yX7_keep ∈ am_gw := List.mem_filter.mpr ⟨List.mem_of_getElem? (i := 1651) (by decide +kernel), rfl⟩
theorem wm_RX7_475 : Cond.methodLink RX7 475 yX7_setNow ∈ am_gw := List.mem_filter.mpr ⟨List.mem_of_getElem? (i := 1655) (by decide +kernel), rfl⟩
theorem wm_RX7_478 : Cond.methodLink RX7 478 yX7_canSize ∈ am_gw := List.mem_filter.mpr ⟨List.mem_of_getElem? (i := 1667) (by decide +kernel), rfl⟩
theorem wm_RX7_481 : Cond.methodLink RX7 481 yX7_sizeNow ∈ am_gw := List.mem_filter.mpr ⟨List.mem_of_getElem? (i := 1671) (by decide +kernel), rfl⟩
theorem wm_RX7_484 : Cond.methodLink RX7 484 yX7_mendNow ∈ am_gw := List.mem_filter.mpr ⟨List.mem_of_getElem? (i := 1683) (by decide +kernel), rfl⟩
theorem wm_RX7_487 : Cond.methodLink RX7 487 yX7_pass ∈ am_gw := List.mem_filter.mpr ⟨List.mem_of_getElem? (i := 1822) (by decide +kernel), rfl⟩
theorem wm_RX7_490 : Cond.methodLink RX7 490 yX7_arePassed ∈ am_gw := List.mem_filter.mpr ⟨List.mem_of_getElem? (i := 1818) (by decide +kernel), rfl⟩
theorem wm_RX7_493 : Cond.methodLink RX7 493 yX7_set ∈ am_gw := List.mem_filter.mpr ⟨List.mem_of_getElem? (i := 1856) (by decide +kernel), rfl⟩
theorem wm_RX7_496 : Cond.methodLink RX7 496 yX7_size ∈ am_gw := List.mem_filter.mpr ⟨List.mem_of_getElem? (i := 1857) (by decide +kernel), rfl⟩
theorem wm_RX7_499 : Cond.methodLink RX7 499 yX7_mend ∈ am_gw := List.mem_filter.mpr ⟨List.mem_of_getElem? (i := 1858) (by decide +kernel), rfl⟩
theorem wm_RX7_502 : Cond.methodLink RX7 502 yX7_isText ∈ am_gw := List.mem_filter.mpr ⟨List.mem_of_getElem? (i := 1848) (by decide +kernel), rfl⟩
theorem wm_RX7_505 : Cond.methodLink RX7 505 yX7_isPlayed ∈ am_gw := List.mem_filter.mpr ⟨List.mem_of_getElem? (i := 1852) (by decide +kernel), rfl⟩
theorem wm_RX7_508 : Cond.methodLink RX7 508 yX7_happens ∈ am_gw := List.mem_filter.mpr ⟨List.mem_of_getElem? (i := 1863) (by decide +kernel), rfl⟩
theorem wm_RX7_512 : Cond.methodLink RX7 512 yX7_lineOf ∈ am_gw := List.mem_filter.mpr ⟨List.mem_of_getElem? (i := 1879) (by decide +kernel), rfl⟩
theorem wm_RX7_515 : Cond.methodLink RX7 515 yX7_read ∈ am_gw := List.mem_filter.mpr ⟨List.mem_of_getElem? (i := 1896) (by decide +kernel), rfl⟩
theorem wm_RX7_518 : Cond.methodLink RX7 518 yX7_isValidNow ∈ am_gw := List.mem_filter.mpr ⟨List.mem_of_getElem? (i := 1900) (by decide +kernel), rfl⟩
theorem wm_RX7_521 : Cond.methodLink RX7 521 yX7_isField ∈ am_gw := List.mem_filter.mpr ⟨List.mem_of_getElem? (i := 1908) (by decide +kernel), rfl⟩
theorem wm_RX7_524 : Cond.methodLink RX7 524 yX7_toldOf ∈ am_gw := List.mem_filter.mpr ⟨List.mem_of_getElem? (i := 1911) (by decide +kernel), rfl⟩
theorem wm_RX7_527 : Cond.methodLink RX7 527 yX7_sortOfField ∈ am_gw := List.mem_filter.mpr ⟨List.mem_of_getElem? (i := 1919) (by decide +kernel), rfl⟩
theorem wm_RX7_530 : Cond.methodLink RX7 530 yX7_readUpTo ∈ am_gw := List.mem_filter.mpr ⟨List.mem_of_getElem? (i := 1923) (by decide +kernel), rfl⟩
theorem wm_RX7_533 : Cond.methodLink RX7 533 yX7_isHeld ∈ am_gw := List.mem_filter.mpr ⟨List.mem_of_getElem? (i := 1939) (by decide +kernel), rfl⟩
theorem wm_RX7_538 : Cond.methodLink RX7 538 yX7_allOf ∈ am_gw := List.mem_filter.mpr ⟨List.mem_of_getElem? (i := 1952) (by decide +kernel), rfl⟩
theorem wm_RX7_541 : Cond.methodLink RX7 541 yX7_isPlain ∈ am_gw := List.mem_filter.mpr ⟨List.mem_of_getElem? (i := 1964) (by decide +kernel), rfl⟩
theorem wm_RX7_544 : Cond.methodLink RX7 544 yX7_hasValue ∈ am_gw := List.mem_filter.mpr ⟨List.mem_of_getElem? (i := 1982) (by decide +kernel), rfl⟩
theorem wm_RX7_548 : Cond.methodLink RX7 548 yX7_needs ∈ am_gw := List.mem_filter.mpr ⟨List.mem_of_getElem? (i := 1977) (by decide +kernel), rfl⟩
theorem wm_RX7_551 : Cond.methodLink RX7 551 yX7_byteFor ∈ am_gw := List.mem_filter.mpr ⟨List.mem_of_getElem? (i := 1978) (by decide +kernel), rfl⟩
theorem wm_RX7_555 : Cond.methodLink RX7 555 yX7_isStretch ∈ am_gw := List.mem_filter.mpr ⟨List.mem_of_getElem? (i := 2006) (by decide +kernel), rfl⟩
theorem wn_RX1_108 : Cond.methodLinkNest RX1 108 yX6_isField "ByteIntervals" ∈ lw_tbl := List.mem_of_getElem? (i := 612) (by decide +kernel)
theorem wn_RX1_170 : Cond.methodLinkNest RX1 170 yX5_tells "ByteIntervals" ∈ lw_tbl := List.mem_of_getElem? (i := 818) (by decide +kernel)
theorem wn_RX1_60 : Cond.methodLinkNest RX1 60 yX5_clear "ByteIntervals" ∈ lw_tbl := List.mem_of_getElem? (i := 730) (by decide +kernel)
theorem wn_RX1_77 : Cond.methodLinkNest RX1 77 yX5_sort "ByteIntervals" ∈ lw_tbl := List.mem_of_getElem? (i := 829) (by decide +kernel)
theorem wn_RX2_134 : Cond.methodLinkNest RX2 134 yX6_span "ByteIntervals" ∈ lw_tbl := List.mem_of_getElem? (i := 951) (by decide +kernel)
theorem wn_RX2_138 : Cond.methodLinkNest RX2 138 yX6_asNumber "ByteIntervals" ∈ lw_tbl := List.mem_of_getElem? (i := 975) (by decide +kernel)
theorem wn_RX2_183 : Cond.methodLinkNest RX2 183 yX3_isKnown "ByteIntervals" ∈ lw_tbl := List.mem_of_getElem? (i := 991) (by decide +kernel)
theorem wn_RX2_186 : Cond.methodLinkNest RX2 186 yX3_looksOf "ByteIntervals" ∈ lw_tbl := List.mem_of_getElem? (i := 995) (by decide +kernel)
theorem wn_RX2_63 : Cond.methodLinkNest RX2 63 yX3_isSound "ByteIntervals" ∈ lw_tbl := List.mem_of_getElem? (i := 999) (by decide +kernel)
theorem wn_RX2_74 : Cond.methodLinkNest RX2 74 yX3_begin "ByteIntervals" ∈ lw_tbl := List.mem_of_getElem? (i := 927) (by decide +kernel)
theorem wn_RX2_84 : Cond.methodLinkNest RX2 84 yX6_isField "ByteIntervals" ∈ lw_tbl := List.mem_of_getElem? (i := 932) (by decide +kernel)
theorem wn_RX2_88 : Cond.methodLinkNest RX2 88 yX6_hasBit "ByteIntervals" ∈ lw_tbl := List.mem_of_getElem? (i := 933) (by decide +kernel)
theorem wn_RX3_51 : Cond.methodLinkNest RX3 51 yX6_hasBit "ByteIntervals" ∈ lw_tbl := List.mem_of_getElem? (i := 931) (by decide +kernel)
theorem wn_RX3_61 : Cond.methodLinkNest RX3 61 yX6_isField "ByteIntervals" ∈ lw_tbl := List.mem_of_getElem? (i := 1143) (by decide +kernel)
theorem wn_RX3_72 : Cond.methodLinkNest RX3 72 yX6_span "ByteIntervals" ∈ lw_tbl := List.mem_of_getElem? (i := 1175) (by decide +kernel)
theorem wn_RX4_45 : Cond.methodLinkNest RX4 45 yX0_copy "ByteIntervals" ∈ lw_tbl := List.mem_of_getElem? (i := 878) (by decide +kernel)
theorem wn_RX5_58 : Cond.methodLinkNest RX5 58 yX6_hasBit "ByteIntervals" ∈ lw_tbl := List.mem_of_getElem? (i := 822) (by decide +kernel)
theorem wn_RX5_89 : Cond.methodLinkNest RX5 89 yX6_isField "ByteIntervals" ∈ lw_tbl := List.mem_of_getElem? (i := 842) (by decide +kernel)
theorem wn_RX6_100 : Cond.methodLinkNest RX6 100 yX0_resize "ByteIntervals" ∈ lw_tbl := List.mem_of_getElem? (i := 901) (by decide +kernel)
theorem wn_RX6_107 : Cond.methodLinkNest RX6 107 yX2_mended "ByteIntervals" ∈ lw_tbl := List.mem_of_getElem? (i := 914) (by decide +kernel)
theorem wn_RX6_114 : Cond.methodLinkNest RX6 114 yX0_takeMended "ByteIntervals" ∈ lw_tbl := List.mem_of_getElem? (i := 1015) (by decide +kernel)
theorem wn_RX6_132 : Cond.methodLinkNest RX6 132 yX0_draw "ByteIntervals" ∈ lw_tbl := List.mem_of_getElem? (i := 1031) (by decide +kernel)
theorem wn_RX6_135 : Cond.methodLinkNest RX6 135 yX2_rots "ByteIntervals" ∈ lw_tbl := List.mem_of_getElem? (i := 1039) (by decide +kernel)
theorem wn_RX6_139 : Cond.methodLinkNest RX6 139 yX0_rot "ByteIntervals" ∈ lw_tbl := List.mem_of_getElem? (i := 1044) (by decide +kernel)
theorem wn_RX6_172 : Cond.methodLinkNest RX6 172 yX0_drawAnew "ByteIntervals" ∈ lw_tbl := List.mem_of_getElem? (i := 1060) (by decide +kernel)
theorem wn_RX6_179 : Cond.methodLinkNest RX6 179 yX4_takeBack "ByteIntervals" ∈ lw_tbl := List.mem_of_getElem? (i := 1069) (by decide +kernel)
theorem wn_RX6_185 : Cond.methodLinkNest RX6 185 yX0_together "ByteIntervals" ∈ lw_tbl := List.mem_of_getElem? (i := 1081) (by decide +kernel)
theorem wn_RX6_194 : Cond.methodLinkNest RX6 194 yX0_tell "ByteIntervals" ∈ lw_tbl := List.mem_of_getElem? (i := 1089) (by decide +kernel)
theorem wn_RX6_197 : Cond.methodLinkNest RX6 197 yX0_copy "ByteIntervals" ∈ lw_tbl := List.mem_of_getElem? (i := 1096) (by decide +kernel)
theorem wn_RX6_201 : Cond.methodLinkNest RX6 201 yX0_covers "ByteIntervals" ∈ lw_tbl := List.mem_of_getElem? (i := 1101) (by decide +kernel)
theorem wn_RX6_211 : Cond.methodLinkNest RX6 211 yX2_isValid "ByteIntervals" ∈ lw_tbl := List.mem_of_getElem? (i := 1126) (by decide +kernel)
theorem wn_RX6_221 : Cond.methodLinkNest RX6 221 yX2_readFile "ByteIntervals" ∈ lw_tbl := List.mem_of_getElem? (i := 1135) (by decide +kernel)
theorem wn_RX6_225 : Cond.methodLinkNest RX6 225 yX3_tell "ByteIntervals" ∈ lw_tbl := List.mem_of_getElem? (i := 1139) (by decide +kernel)
theorem wn_RX6_231 : Cond.methodLinkNest RX6 231 yX3_how "ByteIntervals" ∈ lw_tbl := List.mem_of_getElem? (i := 1152) (by decide +kernel)
theorem wn_RX6_240 : Cond.methodLinkNest RX6 240 yX2_readInside "ByteIntervals" ∈ lw_tbl := List.mem_of_getElem? (i := 1153) (by decide +kernel)
theorem wn_RX6_253 : Cond.methodLinkNest RX6 253 yX3_isKnown "ByteIntervals" ∈ lw_tbl := List.mem_of_getElem? (i := 1169) (by decide +kernel)
theorem wn_RX6_256 : Cond.methodLinkNest RX6 256 yX3_covered "ByteIntervals" ∈ lw_tbl := List.mem_of_getElem? (i := 1170) (by decide +kernel)
theorem wn_RX6_266 : Cond.methodLinkNest RX6 266 yX5_tells "ByteIntervals" ∈ lw_tbl := List.mem_of_getElem? (i := 1186) (by decide +kernel)
theorem wn_RX6_269 : Cond.methodLinkNest RX6 269 yX3_looksOf "ByteIntervals" ∈ lw_tbl := List.mem_of_getElem? (i := 1187) (by decide +kernel)
theorem wn_RX6_276 : Cond.methodLinkNest RX6 276 yX3_copy "ByteIntervals" ∈ lw_tbl := List.mem_of_getElem? (i := 1192) (by decide +kernel)
theorem wn_RX6_282 : Cond.methodLinkNest RX6 282 yX3_likeFields "ByteIntervals" ∈ lw_tbl := List.mem_of_getElem? (i := 1197) (by decide +kernel)
theorem wn_RX6_292 : Cond.methodLinkNest RX6 292 yX2_isShorter "ByteIntervals" ∈ lw_tbl := List.mem_of_getElem? (i := 1205) (by decide +kernel)
theorem wn_RX6_296 : Cond.methodLinkNest RX6 296 yX5_mostOf "ByteIntervals" ∈ lw_tbl := List.mem_of_getElem? (i := 1217) (by decide +kernel)
theorem wn_RX6_299 : Cond.methodLinkNest RX6 299 yX2_readValues "ByteIntervals" ∈ lw_tbl := List.mem_of_getElem? (i := 1222) (by decide +kernel)
theorem wn_RX6_302 : Cond.methodLinkNest RX6 302 yX3_has "ByteIntervals" ∈ lw_tbl := List.mem_of_getElem? (i := 1226) (by decide +kernel)
theorem wn_RX6_329 : Cond.methodLinkNest RX6 329 yX4_copy "ByteIntervals" ∈ lw_tbl := List.mem_of_getElem? (i := 1267) (by decide +kernel)
theorem wn_RX6_68 : Cond.methodLinkNest RX6 68 yX1_parse "ByteIntervals" ∈ lw_tbl := List.mem_of_getElem? (i := 592) (by decide +kernel)
theorem wn_RX6_85 : Cond.methodLinkNest RX6 85 yX0_canPut "ByteIntervals" ∈ lw_tbl := List.mem_of_getElem? (i := 860) (by decide +kernel)
theorem wn_RX6_89 : Cond.methodLinkNest RX6 89 yX4_keepStep "ByteIntervals" ∈ lw_tbl := List.mem_of_getElem? (i := 864) (by decide +kernel)
theorem wn_RX6_92 : Cond.methodLinkNest RX6 92 yX0_putByte "ByteIntervals" ∈ lw_tbl := List.mem_of_getElem? (i := 885) (by decide +kernel)
theorem wn_RX6_96 : Cond.methodLinkNest RX6 96 yX0_canResize "ByteIntervals" ∈ lw_tbl := List.mem_of_getElem? (i := 897) (by decide +kernel)
theorem ws_yJ9_floorMod_7cf53 : Cond.static yJ9_floorMod_7cf53 ∈ am_gw := List.mem_filter.mpr ⟨List.mem_of_getElem? (i := 873) (by decide +kernel), rfl⟩
theorem ws_yJ9_max_7cf53 : Cond.static yJ9_max_7cf53 ∈ am_gw := List.mem_filter.mpr ⟨List.mem_of_getElem? (i := 600) (by decide +kernel), rfl⟩
theorem ws_yJ9_max_f86c9 : Cond.static yJ9_max_f86c9 ∈ am_gw := List.mem_filter.mpr ⟨List.mem_of_getElem? (i := 970) (by decide +kernel), rfl⟩
theorem ws_yJ9_min_7cf53 : Cond.static yJ9_min_7cf53 ∈ am_gw := List.mem_filter.mpr ⟨List.mem_of_getElem? (i := 597) (by decide +kernel), rfl⟩
theorem ws_yJ9_min_f86c9 : Cond.static yJ9_min_f86c9 ∈ am_gw := List.mem_filter.mpr ⟨List.mem_of_getElem? (i := 967) (by decide +kernel), rfl⟩
theorem ws_yX0_tell : Cond.static yX0_tell ∈ am_gw := List.mem_filter.mpr ⟨List.mem_of_getElem? (i := 1090) (by decide +kernel), rfl⟩
theorem ws_yX1_isDigit : Cond.static yX1_isDigit ∈ am_gw := List.mem_filter.mpr ⟨List.mem_of_getElem? (i := 669) (by decide +kernel), rfl⟩
theorem ws_yX1_isLetter : Cond.static yX1_isLetter ∈ am_gw := List.mem_filter.mpr ⟨List.mem_of_getElem? (i := 607) (by decide +kernel), rfl⟩
theorem ws_yX1_signToken : Cond.static yX1_signToken ∈ am_gw := List.mem_filter.mpr ⟨List.mem_of_getElem? (i := 672) (by decide +kernel), rfl⟩
theorem ws_yX1_wordToken : Cond.static yX1_wordToken ∈ am_gw := List.mem_filter.mpr ⟨List.mem_of_getElem? (i := 610) (by decide +kernel), rfl⟩
theorem ws_yX2_compares : Cond.static yX2_compares ∈ am_gw := List.mem_filter.mpr ⟨List.mem_of_getElem? (i := 973) (by decide +kernel), rfl⟩
theorem ws_yX2_confined : Cond.static yX2_confined ∈ am_gw := List.mem_filter.mpr ⟨List.mem_of_getElem? (i := 962) (by decide +kernel), rfl⟩
theorem ws_yX2_know : Cond.static yX2_know ∈ am_gw := List.mem_filter.mpr ⟨List.mem_of_getElem? (i := 980) (by decide +kernel), rfl⟩
theorem ws_yX2_ofTwo : Cond.static yX2_ofTwo ∈ am_gw := List.mem_filter.mpr ⟨List.mem_of_getElem? (i := 959) (by decide +kernel), rfl⟩
theorem ws_yX4_copyStep : Cond.static yX4_copyStep ∈ am_gw := List.mem_filter.mpr ⟨List.mem_of_getElem? (i := 876) (by decide +kernel), rfl⟩
theorem ws_yX6_asNumber : Cond.static yX6_asNumber ∈ am_gw := List.mem_filter.mpr ⟨List.mem_of_getElem? (i := 976) (by decide +kernel), rfl⟩
theorem ws_yX6_hasBit : Cond.static yX6_hasBit ∈ am_gw := List.mem_filter.mpr ⟨List.mem_of_getElem? (i := 823) (by decide +kernel), rfl⟩
theorem ws_yX6_isField : Cond.static yX6_isField ∈ am_gw := List.mem_filter.mpr ⟨List.mem_of_getElem? (i := 613) (by decide +kernel), rfl⟩
theorem ws_yX6_span : Cond.static yX6_span ∈ am_gw := List.mem_filter.mpr ⟨List.mem_of_getElem? (i := 952) (by decide +kernel), rfl⟩
theorem ws_yX7_bitsFrom : Cond.static yX7_bitsFrom ∈ am_gw := List.mem_filter.mpr ⟨List.mem_of_getElem? (i := 1792) (by decide +kernel), rfl⟩
theorem ws_yX7_clauseAt : Cond.static yX7_clauseAt ∈ am_gw := List.mem_filter.mpr ⟨List.mem_of_getElem? (i := 1696) (by decide +kernel), rfl⟩
theorem ws_yX7_clip : Cond.static yX7_clip ∈ am_gw := List.mem_filter.mpr ⟨List.mem_of_getElem? (i := 1765) (by decide +kernel), rfl⟩
theorem ws_yX7_copy : Cond.static yX7_copy ∈ am_gw := List.mem_filter.mpr ⟨List.mem_of_getElem? (i := 1287) (by decide +kernel), rfl⟩
theorem ws_yX7_has : Cond.static yX7_has ∈ am_gw := List.mem_filter.mpr ⟨List.mem_of_getElem? (i := 1621) (by decide +kernel), rfl⟩
theorem ws_yX7_held : Cond.static yX7_held ∈ am_gw := List.mem_filter.mpr ⟨List.mem_of_getElem? (i := 1842) (by decide +kernel), rfl⟩
theorem ws_yX7_isAsk : Cond.static yX7_isAsk ∈ am_gw := List.mem_filter.mpr ⟨List.mem_of_getElem? (i := 1548) (by decide +kernel), rfl⟩
theorem ws_yX7_isAsked : Cond.static yX7_isAsked ∈ am_gw := List.mem_filter.mpr ⟨List.mem_of_getElem? (i := 1770) (by decide +kernel), rfl⟩
theorem ws_yX7_isField : Cond.static yX7_isField ∈ am_gw := List.mem_filter.mpr ⟨List.mem_of_getElem? (i := 1909) (by decide +kernel), rfl⟩
theorem ws_yX7_isFigure : Cond.static yX7_isFigure ∈ am_gw := List.mem_filter.mpr ⟨List.mem_of_getElem? (i := 1488) (by decide +kernel), rfl⟩
theorem ws_yX7_isIn : Cond.static yX7_isIn ∈ am_gw := List.mem_filter.mpr ⟨List.mem_of_getElem? (i := 1469) (by decide +kernel), rfl⟩
theorem ws_yX7_isLetterByte : Cond.static yX7_isLetterByte ∈ am_gw := List.mem_filter.mpr ⟨List.mem_of_getElem? (i := 1492) (by decide +kernel), rfl⟩
theorem ws_yX7_isSign : Cond.static yX7_isSign ∈ am_gw := List.mem_filter.mpr ⟨List.mem_of_getElem? (i := 1496) (by decide +kernel), rfl⟩
theorem ws_yX7_isWithin : Cond.static yX7_isWithin ∈ am_gw := List.mem_filter.mpr ⟨List.mem_of_getElem? (i := 1776) (by decide +kernel), rfl⟩
theorem ws_yX7_joined : Cond.static yX7_joined ∈ am_gw := List.mem_filter.mpr ⟨List.mem_of_getElem? (i := 1773) (by decide +kernel), rfl⟩
theorem ws_yX7_rank : Cond.static yX7_rank ∈ am_gw := List.mem_filter.mpr ⟨List.mem_of_getElem? (i := 1555) (by decide +kernel), rfl⟩
theorem ws_yX7_sumsOf : Cond.static yX7_sumsOf ∈ am_gw := List.mem_filter.mpr ⟨List.mem_of_getElem? (i := 1707) (by decide +kernel), rfl⟩
theorem ws_yX7_two : Cond.static yX7_two ∈ am_gw := List.mem_filter.mpr ⟨List.mem_of_getElem? (i := 1762) (by decide +kernel), rfl⟩
theorem ws_yX7_w2 : Cond.static yX7_w2 ∈ am_gw := List.mem_filter.mpr ⟨List.mem_of_getElem? (i := 1510) (by decide +kernel), rfl⟩
theorem ws_yX7_w3 : Cond.static yX7_w3 ∈ am_gw := List.mem_filter.mpr ⟨List.mem_of_getElem? (i := 1507) (by decide +kernel), rfl⟩
theorem ws_yX7_w4 : Cond.static yX7_w4 ∈ am_gw := List.mem_filter.mpr ⟨List.mem_of_getElem? (i := 1517) (by decide +kernel), rfl⟩
theorem ws_yX7_w5 : Cond.static yX7_w5 ∈ am_gw := List.mem_filter.mpr ⟨List.mem_of_getElem? (i := 1586) (by decide +kernel), rfl⟩
theorem wz_RJ9 : Cond.initialized RJ9 ∈ am_gw := List.mem_filter.mpr ⟨List.mem_of_getElem? (i := 178) (by decide +kernel), rfl⟩
theorem wz_RX0 : Cond.initialized RX0 ∈ am_gw := List.mem_filter.mpr ⟨List.mem_of_getElem? (i := 172) (by decide +kernel), rfl⟩
theorem wz_RX1 : Cond.initialized RX1 ∈ am_gw := List.mem_filter.mpr ⟨List.mem_of_getElem? (i := 173) (by decide +kernel), rfl⟩
theorem wz_RX2 : Cond.initialized RX2 ∈ am_gw := List.mem_filter.mpr ⟨List.mem_of_getElem? (i := 175) (by decide +kernel), rfl⟩
theorem wz_RX3 : Cond.initialized RX3 ∈ am_gw := List.mem_filter.mpr ⟨List.mem_of_getElem? (i := 176) (by decide +kernel), rfl⟩
theorem wz_RX4 : Cond.initialized RX4 ∈ am_gw := List.mem_filter.mpr ⟨List.mem_of_getElem? (i := 171) (by decide +kernel), rfl⟩
theorem wz_RX5 : Cond.initialized RX5 ∈ am_gw := List.mem_filter.mpr ⟨List.mem_of_getElem? (i := 174) (by decide +kernel), rfl⟩
theorem wz_RX6 : Cond.initialized RX6 ∈ am_gw := List.mem_filter.mpr ⟨List.mem_of_getElem? (i := 170) (by decide +kernel), rfl⟩
theorem wz_RX7 : Cond.initialized RX7 ∈ am_gw := List.mem_filter.mpr ⟨List.mem_of_getElem? (i := 177) (by decide +kernel), rfl⟩
theorem wnat : Cond.native arraycopyName ∈ am_gw := List.mem_filter.mpr ⟨List.mem_of_getElem? (i := 884) (by decide +kernel), rfl⟩
theorem wstat : Cond.static arraycopyName ∈ am_gw := List.mem_filter.mpr ⟨List.mem_of_getElem? (i := 883) (by decide +kernel), rfl⟩
theorem wsys : Cond.initialized "java/lang/System" ∈ am_gw := List.mem_filter.mpr ⟨List.mem_of_getElem? (i := 184) (by decide +kernel), rfl⟩
/-! the methods -/
abbrev M_X6_feed : am_M := (yX6_feed, cX6_feed, 6, (some FieldType.int))
abbrev M_X6_putOnTape : am_M := (yX6_putOnTape, cX6_putOnTape, 3, none)
abbrev M_X6_end : am_M := (yX6_end, cX6_end, 2, (some FieldType.int))
abbrev M_X6_text : am_M := (yX6_text, cX6_text, 2, (some FieldType.int))
abbrev M_X6_fault : am_M := (yX6_fault, cX6_fault, 2, (some FieldType.int))
abbrev M_X6_textAt : am_M := (yX6_textAt, cX6_textAt, 3, (some (FieldType.object "ByteIntervals$Text")))
abbrev M_X6_theText : am_M := (yX6_theText, cX6_theText, 1, (some (FieldType.object "ByteIntervals$Text")))
abbrev M_X6_by : am_M := (yX6_by, cX6_by, 2, (some FieldType.boolean))
abbrev M_X6_set : am_M := (yX6_set, cX6_set, 3, (some FieldType.boolean))
abbrev M_X6_size : am_M := (yX6_size, cX6_size, 2, (some FieldType.boolean))
abbrev M_X6_mend : am_M := (yX6_mend, cX6_mend, 2, (some FieldType.int))
abbrev M_X6_day : am_M := (yX6_day, cX6_day, 2, (some FieldType.int))
abbrev M_X6_passDays : am_M := (yX6_passDays, cX6_passDays, 4, (some FieldType.int))
abbrev M_X6_passDay : am_M := (yX6_passDay, cX6_passDay, 5, (some FieldType.boolean))
abbrev M_X6_played : am_M := (yX6_played, cX6_played, 6, (some FieldType.int))
abbrev M_X6_years : am_M := (yX6_years, cX6_years, 6, (some FieldType.int))
abbrev M_X6_passYear : am_M := (yX6_passYear, cX6_passYear, 5, none)
abbrev M_X6_undo : am_M := (yX6_undo, cX6_undo, 1, (some FieldType.int))
abbrev M_X6_at : am_M := (yX6_at, cX6_at, 2, (some FieldType.int))
abbrev M_X6_is : am_M := (yX6_is, cX6_is, 3, (some FieldType.int))
abbrev M_X6_book : am_M := (yX6_book, cX6_book, 4, (some FieldType.int))
abbrev M_X6_foretold : am_M := (yX6_foretold, cX6_foretold, 4, (some FieldType.int))
abbrev M_X6_number : am_M := (yX6_number, cX6_number, 3, (some FieldType.int))
abbrev M_X6_sum : am_M := (yX6_sum, cX6_sum, 3, (some FieldType.int))
abbrev M_X6_find : am_M := (yX6_find, cX6_find, 5, (some FieldType.int))
abbrev M_X6_run : am_M := (yX6_run, cX6_run, 6, (some FieldType.int))
abbrev M_X6_ledger : am_M := (yX6_ledger, cX6_ledger, 5, (some FieldType.int))
abbrev M_X6_valid : am_M := (yX6_valid, cX6_valid, 3, (some FieldType.boolean))
abbrev M_X6_field : am_M := (yX6_field, cX6_field, 5, (some FieldType.int))
abbrev M_X6_inside : am_M := (yX6_inside, cX6_inside, 7, (some FieldType.int))
abbrev M_X6_order : am_M := (yX6_order, cX6_order, 4, (some FieldType.int))
abbrev M_X6_ring : am_M := (yX6_ring, cX6_ring, 3, (some FieldType.int))
abbrev M_X6_overlap : am_M := (yX6_overlap, cX6_overlap, 9, (some FieldType.int))
abbrev M_X6_loose : am_M := (yX6_loose, cX6_loose, 7, (some FieldType.long))
abbrev M_X6_needs : am_M := (yX6_needs, cX6_needs, 4, (some FieldType.long))
abbrev M_X6_flips : am_M := (yX6_flips, cX6_flips, 5, (some FieldType.int))
abbrev M_X6_sure : am_M := (yX6_sure, cX6_sure, 5, (some FieldType.boolean))
abbrev M_X6_least : am_M := (yX6_least, cX6_least, 4, (some FieldType.int))
abbrev M_X6_make : am_M := (yX6_make, cX6_make, 12, (some FieldType.int))
abbrev M_X6_madeAt : am_M := (yX6_madeAt, cX6_madeAt, 8, (some FieldType.int))
abbrev M_X6_alike : am_M := (yX6_alike, cX6_alike, 6, (some FieldType.int))
abbrev M_X6_must : am_M := (yX6_must, cX6_must, 3, (some FieldType.int))
abbrev M_X6_deep : am_M := (yX6_deep, cX6_deep, 3, (some FieldType.int))
abbrev M_X6_kind : am_M := (yX6_kind, cX6_kind, 4, (some FieldType.int))
abbrev M_X6_said : am_M := (yX6_said, cX6_said, 4, (some FieldType.int))
abbrev M_X6_whose : am_M := (yX6_whose, cX6_whose, 3, (some FieldType.int))
abbrev M_X6_allSaidIsSo : am_M := (yX6_allSaidIsSo, cX6_allSaidIsSo, 4, (some FieldType.boolean))
abbrev M_X6_image : am_M := (yX6_image, cX6_image, 1, (some FieldType.int))
abbrev M_X6_back : am_M := (yX6_back, cX6_back, 1, (some FieldType.int))
abbrev M_X6_about : am_M := (yX6_about, cX6_about, 2, (some FieldType.int))
abbrev M_X6_isField : am_M := (yX6_isField, cX6_isField, 1, (some FieldType.boolean))
abbrev M_X6_hasBit : am_M := (yX6_hasBit, cX6_hasBit, 2, (some FieldType.boolean))
abbrev M_X6_span : am_M := (yX6_span, cX6_span, 2, (some FieldType.long))
abbrev M_X6_asNumber : am_M := (yX6_asNumber, cX6_asNumber, 5, (some FieldType.int))
abbrev M_X7_copy : am_M := (yX7_copy, cX7_copy, 3, none)
abbrev M_X7_isIn : am_M := (yX7_isIn, cX7_isIn, 3, (some FieldType.boolean))
abbrev M_X7_held : am_M := (yX7_held, cX7_held, 4, (some FieldType.int))
abbrev M_X7_has : am_M := (yX7_has, cX7_has, 2, (some FieldType.boolean))
abbrev M_X7_isField : am_M := (yX7_isField, cX7_isField, 1, (some FieldType.boolean))
abbrev M_X7_isPlace : am_M := (yX7_isPlace, cX7_isPlace, 2, (some FieldType.boolean))
abbrev M_X7_isText : am_M := (yX7_isText, cX7_isText, 2, (some FieldType.boolean))
abbrev M_X7_four : am_M := (yX7_four, cX7_four, 3, none)
abbrev M_X7_feed : am_M := (yX7_feed, cX7_feed, 6, (some FieldType.int))
abbrev M_X7_end : am_M := (yX7_end, cX7_end, 2, (some FieldType.int))
abbrev M_X7_byteAt : am_M := (yX7_byteAt, cX7_byteAt, 2, (some FieldType.int))
abbrev M_X7_isLetterByte : am_M := (yX7_isLetterByte, cX7_isLetterByte, 1, (some FieldType.boolean))
abbrev M_X7_isFigure : am_M := (yX7_isFigure, cX7_isFigure, 1, (some FieldType.boolean))
abbrev M_X7_isSign : am_M := (yX7_isSign, cX7_isSign, 1, (some FieldType.boolean))
abbrev M_X7_nextToken : am_M := (yX7_nextToken, cX7_nextToken, 2, none)
abbrev M_X7_w2 : am_M := (yX7_w2, cX7_w2, 2, (some FieldType.long))
abbrev M_X7_w3 : am_M := (yX7_w3, cX7_w3, 3, (some FieldType.long))
abbrev M_X7_w4 : am_M := (yX7_w4, cX7_w4, 4, (some FieldType.long))
abbrev M_X7_w5 : am_M := (yX7_w5, cX7_w5, 5, (some FieldType.long))
abbrev M_X7_isWord : am_M := (yX7_isWord, cX7_isWord, 3, (some FieldType.boolean))
abbrev M_X7_emit : am_M := (yX7_emit, cX7_emit, 3, none)
abbrev M_X7_fieldNamed : am_M := (yX7_fieldNamed, cX7_fieldNamed, 1, (some FieldType.int))
abbrev M_X7_nameOf : am_M := (yX7_nameOf, cX7_nameOf, 1, (some FieldType.int))
abbrev M_X7_isOf : am_M := (yX7_isOf, cX7_isOf, 2, (some FieldType.boolean))
abbrev M_X7_rank : am_M := (yX7_rank, cX7_rank, 1, (some FieldType.int))
abbrev M_X7_settle : am_M := (yX7_settle, cX7_settle, 2, none)
abbrev M_X7_openAt : am_M := (yX7_openAt, cX7_openAt, 2, (some FieldType.int))
abbrev M_X7_openNow : am_M := (yX7_openNow, cX7_openNow, 1, (some FieldType.int))
abbrev M_X7_isCompared : am_M := (yX7_isCompared, cX7_isCompared, 2, (some FieldType.boolean))
abbrev M_X7_isAsk : am_M := (yX7_isAsk, cX7_isAsk, 1, (some FieldType.boolean))
abbrev M_X7_isAskAhead : am_M := (yX7_isAskAhead, cX7_isAskAhead, 1, (some FieldType.boolean))
abbrev M_X7_opened : am_M := (yX7_opened, cX7_opened, 2, (some FieldType.int))
abbrev M_X7_beginOne : am_M := (yX7_beginOne, cX7_beginOne, 2, (some FieldType.int))
abbrev M_X7_compareOf : am_M := (yX7_compareOf, cX7_compareOf, 1, (some FieldType.int))
abbrev M_X7_betweenOf : am_M := (yX7_betweenOf, cX7_betweenOf, 1, (some FieldType.int))
abbrev M_X7_partOf : am_M := (yX7_partOf, cX7_partOf, 2, (some FieldType.int))
abbrev M_X7_behindOne : am_M := (yX7_behindOne, cX7_behindOne, 4, (some FieldType.boolean))
abbrev M_X7_summed : am_M := (yX7_summed, cX7_summed, 1, (some FieldType.int))
abbrev M_X7_all : am_M := (yX7_all, cX7_all, 3, (some FieldType.int))
abbrev M_X7_figure : am_M := (yX7_figure, cX7_figure, 4, (some FieldType.int))
abbrev M_X7_sumClause : am_M := (yX7_sumClause, cX7_sumClause, 4, (some FieldType.int))
abbrev M_X7_furtherSum : am_M := (yX7_furtherSum, cX7_furtherSum, 5, (some FieldType.int))
abbrev M_X7_mustClause : am_M := (yX7_mustClause, cX7_mustClause, 3, (some FieldType.int))
abbrev M_X7_fieldClause : am_M := (yX7_fieldClause, cX7_fieldClause, 5, (some FieldType.int))
abbrev M_X7_setClause : am_M := (yX7_setClause, cX7_setClause, 3, (some FieldType.int))
abbrev M_X7_body : am_M := (yX7_body, cX7_body, 3, (some FieldType.int))
abbrev M_X7_sortOf : am_M := (yX7_sortOf, cX7_sortOf, 1, (some FieldType.int))
abbrev M_X7_clause : am_M := (yX7_clause, cX7_clause, 5, (some FieldType.int))
abbrev M_X7_readText : am_M := (yX7_readText, cX7_readText, 2, (some FieldType.int))
abbrev M_X7_text : am_M := (yX7_text, cX7_text, 1, (some FieldType.int))
abbrev M_X7_fault : am_M := (yX7_fault, cX7_fault, 2, (some FieldType.int))
abbrev M_X7_by : am_M := (yX7_by, cX7_by, 2, (some FieldType.boolean))
abbrev M_X7_clip : am_M := (yX7_clip, cX7_clip, 2, (some FieldType.long))
abbrev M_X7_two : am_M := (yX7_two, cX7_two, 5, (some FieldType.long))
abbrev M_X7_isAsked : am_M := (yX7_isAsked, cX7_isAsked, 5, (some FieldType.boolean))
abbrev M_X7_joined : am_M := (yX7_joined, cX7_joined, 3, (some FieldType.boolean))
abbrev M_X7_isInside : am_M := (yX7_isInside, cX7_isInside, 3, (some FieldType.boolean))
abbrev M_X7_ofOne : am_M := (yX7_ofOne, cX7_ofOne, 5, none)
abbrev M_X7_work : am_M := (yX7_work, cX7_work, 10, none)
abbrev M_X7_clauses : am_M := (yX7_clauses, cX7_clauses, 2, (some FieldType.int))
abbrev M_X7_clauseAt : am_M := (yX7_clauseAt, cX7_clauseAt, 2, (some FieldType.int))
abbrev M_X7_sumOf : am_M := (yX7_sumOf, cX7_sumOf, 5, (some FieldType.long))
abbrev M_X7_rotsNow : am_M := (yX7_rotsNow, cX7_rotsNow, 4, (some FieldType.int))
abbrev M_X7_namesIn : am_M := (yX7_namesIn, cX7_namesIn, 6, (some FieldType.int))
abbrev M_X7_sumsOf : am_M := (yX7_sumsOf, cX7_sumsOf, 1, (some FieldType.int))
abbrev M_X7_namesOf : am_M := (yX7_namesOf, cX7_namesOf, 6, (some FieldType.int))
abbrev M_X7_layOrder : am_M := (yX7_layOrder, cX7_layOrder, 4, none)
abbrev M_X7_beginLevel : am_M := (yX7_beginLevel, cX7_beginLevel, 5, none)
abbrev M_X7_nameLevel : am_M := (yX7_nameLevel, cX7_nameLevel, 2, none)
abbrev M_X7_isAnyBroken : am_M := (yX7_isAnyBroken, cX7_isAnyBroken, 3, (some FieldType.boolean))
abbrev M_X7_isWithin : am_M := (yX7_isWithin, cX7_isWithin, 5, (some FieldType.boolean))
abbrev M_X7_numberFrom : am_M := (yX7_numberFrom, cX7_numberFrom, 5, (some FieldType.int))
abbrev M_X7_bytesFrom : am_M := (yX7_bytesFrom, cX7_bytesFrom, 5, (some FieldType.int))
abbrev M_X7_bitsFrom : am_M := (yX7_bitsFrom, cX7_bitsFrom, 5, (some FieldType.long))
abbrev M_X7_settleField : am_M := (yX7_settleField, cX7_settleField, 6, none)
abbrev M_X7_readNum : am_M := (yX7_readNum, cX7_readNum, 9, none)
abbrev M_X7_readSum : am_M := (yX7_readSum, cX7_readSum, 14, none)
abbrev M_X7_isNestBegun : am_M := (yX7_isNestBegun, cX7_isNestBegun, 8, (some FieldType.boolean))
abbrev M_X7_readMusts : am_M := (yX7_readMusts, cX7_readMusts, 5, none)
abbrev M_X7_endLevel : am_M := (yX7_endLevel, cX7_endLevel, 6, none)
abbrev M_X7_readField : am_M := (yX7_readField, cX7_readField, 4, (some FieldType.boolean))
abbrev M_X7_readBy : am_M := (yX7_readBy, cX7_readBy, 3, none)
abbrev M_X7_read : am_M := (yX7_read, cX7_read, 2, none)
abbrev M_X7_isValidNow : am_M := (yX7_isValidNow, cX7_isValidNow, 2, (some FieldType.boolean))
abbrev M_X7_putAside : am_M := (yX7_putAside, cX7_putAside, 2, none)
abbrev M_X7_bringBack : am_M := (yX7_bringBack, cX7_bringBack, 2, none)
abbrev M_X7_mendRound : am_M := (yX7_mendRound, cX7_mendRound, 4, (some FieldType.boolean))
abbrev M_X7_hasSum : am_M := (yX7_hasSum, cX7_hasSum, 3, (some FieldType.boolean))
abbrev M_X7_mendNow : am_M := (yX7_mendNow, cX7_mendNow, 5, (some FieldType.int))
abbrev M_X7_write : am_M := (yX7_write, cX7_write, 5, none)
abbrev M_X7_drawnBy : am_M := (yX7_drawnBy, cX7_drawnBy, 3, (some FieldType.int))
abbrev M_X7_anew : am_M := (yX7_anew, cX7_anew, 1, none)
abbrev M_X7_canSet : am_M := (yX7_canSet, cX7_canSet, 3, (some FieldType.boolean))
abbrev M_X7_setNow : am_M := (yX7_setNow, cX7_setNow, 3, none)
abbrev M_X7_canSize : am_M := (yX7_canSize, cX7_canSize, 2, (some FieldType.boolean))
abbrev M_X7_cutTo : am_M := (yX7_cutTo, cX7_cutTo, 3, none)
abbrev M_X7_sizeNow : am_M := (yX7_sizeNow, cX7_sizeNow, 2, none)
abbrev M_X7_pass : am_M := (yX7_pass, cX7_pass, 3, none)
abbrev M_X7_keep : am_M := (yX7_keep, cX7_keep, 3, none)
abbrev M_X7_undo : am_M := (yX7_undo, cX7_undo, 3, (some FieldType.int))
abbrev M_X7_set : am_M := (yX7_set, cX7_set, 3, (some FieldType.boolean))
abbrev M_X7_size : am_M := (yX7_size, cX7_size, 2, (some FieldType.boolean))
abbrev M_X7_mend : am_M := (yX7_mend, cX7_mend, 2, (some FieldType.int))
abbrev M_X7_arePassed : am_M := (yX7_arePassed, cX7_arePassed, 3, (some FieldType.boolean))
abbrev M_X7_day : am_M := (yX7_day, cX7_day, 2, (some FieldType.int))
abbrev M_X7_isPlayed : am_M := (yX7_isPlayed, cX7_isPlayed, 3, (some FieldType.boolean))
abbrev M_X7_played : am_M := (yX7_played, cX7_played, 3, (some FieldType.int))
abbrev M_X7_happens : am_M := (yX7_happens, cX7_happens, 3, none)
abbrev M_X7_years : am_M := (yX7_years, cX7_years, 5, (some FieldType.int))
abbrev M_X7_at : am_M := (yX7_at, cX7_at, 2, (some FieldType.int))
abbrev M_X7_is : am_M := (yX7_is, cX7_is, 2, (some FieldType.int))
abbrev M_X7_lineOf : am_M := (yX7_lineOf, cX7_lineOf, 4, (some FieldType.int))
abbrev M_X7_book : am_M := (yX7_book, cX7_book, 3, (some FieldType.int))
abbrev M_X7_ledger : am_M := (yX7_ledger, cX7_ledger, 4, (some FieldType.int))
abbrev M_X7_foretold : am_M := (yX7_foretold, cX7_foretold, 5, (some FieldType.int))
abbrev M_X7_valid : am_M := (yX7_valid, cX7_valid, 2, (some FieldType.boolean))
abbrev M_X7_toldOf : am_M := (yX7_toldOf, cX7_toldOf, 3, (some FieldType.int))
abbrev M_X7_field : am_M := (yX7_field, cX7_field, 4, (some FieldType.int))
abbrev M_X7_sortOfField : am_M := (yX7_sortOfField, cX7_sortOfField, 3, (some FieldType.int))
abbrev M_X7_inside : am_M := (yX7_inside, cX7_inside, 5, (some FieldType.int))
abbrev M_X7_readUpTo : am_M := (yX7_readUpTo, cX7_readUpTo, 4, none)
abbrev M_X7_order : am_M := (yX7_order, cX7_order, 3, (some FieldType.int))
abbrev M_X7_ring : am_M := (yX7_ring, cX7_ring, 2, (some FieldType.int))
abbrev M_X7_isHeld : am_M := (yX7_isHeld, cX7_isHeld, 2, (some FieldType.boolean))
abbrev M_X7_overlap : am_M := (yX7_overlap, cX7_overlap, 5, (some FieldType.int))
abbrev M_X7_loose : am_M := (yX7_loose, cX7_loose, 5, (some FieldType.long))
abbrev M_X7_allOf : am_M := (yX7_allOf, cX7_allOf, 5, (some FieldType.int))
abbrev M_X7_needs : am_M := (yX7_needs, cX7_needs, 6, (some FieldType.long))
abbrev M_X7_flips : am_M := (yX7_flips, cX7_flips, 5, (some FieldType.int))
abbrev M_X7_isPlain : am_M := (yX7_isPlain, cX7_isPlain, 6, (some FieldType.boolean))
abbrev M_X7_sure : am_M := (yX7_sure, cX7_sure, 9, (some FieldType.boolean))
abbrev M_X7_least : am_M := (yX7_least, cX7_least, 5, (some FieldType.int))
abbrev M_X7_hasValue : am_M := (yX7_hasValue, cX7_hasValue, 4, (some FieldType.boolean))
abbrev M_X7_byteFor : am_M := (yX7_byteFor, cX7_byteFor, 8, (some FieldType.int))
abbrev M_X7_make : am_M := (yX7_make, cX7_make, 9, (some FieldType.int))
abbrev M_X7_alike : am_M := (yX7_alike, cX7_alike, 5, (some FieldType.int))
abbrev M_X7_must : am_M := (yX7_must, cX7_must, 2, (some FieldType.int))
abbrev M_X7_deep : am_M := (yX7_deep, cX7_deep, 2, (some FieldType.int))
abbrev M_X7_kind : am_M := (yX7_kind, cX7_kind, 3, (some FieldType.int))
abbrev M_X7_isStretch : am_M := (yX7_isStretch, cX7_isStretch, 3, (some FieldType.boolean))
abbrev M_X7_number : am_M := (yX7_number, cX7_number, 3, (some FieldType.int))
abbrev M_X7_sum : am_M := (yX7_sum, cX7_sum, 3, (some FieldType.int))
abbrev M_X7_find : am_M := (yX7_find, cX7_find, 4, (some FieldType.int))
abbrev M_X7_run : am_M := (yX7_run, cX7_run, 4, (some FieldType.int))
abbrev M_X7_said : am_M := (yX7_said, cX7_said, 3, (some FieldType.int))
abbrev M_X7_whose : am_M := (yX7_whose, cX7_whose, 5, (some FieldType.int))
abbrev M_X7_image : am_M := (yX7_image, cX7_image, 1, (some FieldType.int))
abbrev M_X7_back : am_M := (yX7_back, cX7_back, 1, (some FieldType.int))
abbrev M_X7_about : am_M := (yX7_about, cX7_about, 2, (some FieldType.int))
abbrev M_X0_copy : am_M := (yX0_copy, cX0_copy, 2, none)
abbrev M_X0_draw : am_M := (yX0_draw, cX0_draw, 3, (some FieldType.int))
abbrev M_X0_drawAnew : am_M := (yX0_drawAnew, cX0_drawAnew, 1, none)
abbrev M_X0_covers : am_M := (yX0_covers, cX0_covers, 3, (some FieldType.boolean))
abbrev M_X0_together : am_M := (yX0_together, cX0_together, 5, (some FieldType.int))
abbrev M_X0_canPut : am_M := (yX0_canPut, cX0_canPut, 4, (some FieldType.boolean))
abbrev M_X0_putByte : am_M := (yX0_putByte, cX0_putByte, 3, none)
abbrev M_X0_canResize : am_M := (yX0_canResize, cX0_canResize, 2, (some FieldType.boolean))
abbrev M_X0_resize : am_M := (yX0_resize, cX0_resize, 3, none)
abbrev M_X0_rot : am_M := (yX0_rot, cX0_rot, 3, none)
abbrev M_X0_takeMended : am_M := (yX0_takeMended, cX0_takeMended, 4, none)
abbrev M_X0_write : am_M := (yX0_write, cX0_write, 4, none)
abbrev M_X0_tell : am_M := (yX0_tell, cX0_tell, 2, (some FieldType.int))
abbrev M_X1_parse : am_M := (yX1_parse, cX1_parse, 5, (some FieldType.int))
abbrev M_X1_fail : am_M := (yX1_fail, cX1_fail, 2, (some FieldType.boolean))
abbrev M_X1_isLetter : am_M := (yX1_isLetter, cX1_isLetter, 1, (some FieldType.boolean))
abbrev M_X1_isDigit : am_M := (yX1_isDigit, cX1_isDigit, 1, (some FieldType.boolean))
abbrev M_X1_split : am_M := (yX1_split, cX1_split, 7, none)
abbrev M_X1_put : am_M := (yX1_put, cX1_put, 4, none)
abbrev M_X1_signToken : am_M := (yX1_signToken, cX1_signToken, 1, (some FieldType.int))
abbrev M_X1_wordToken : am_M := (yX1_wordToken, cX1_wordToken, 7, (some FieldType.int))
abbrev M_X1_advance : am_M := (yX1_advance, cX1_advance, 1, (some FieldType.boolean))
abbrev M_X1_take : am_M := (yX1_take, cX1_take, 2, (some FieldType.boolean))
abbrev M_X1_numberHere : am_M := (yX1_numberHere, cX1_numberHere, 1, (some FieldType.int))
abbrev M_X1_emit : am_M := (yX1_emit, cX1_emit, 4, (some FieldType.int))
abbrev M_X1_readKind : am_M := (yX1_readKind, cX1_readKind, 2, (some FieldType.boolean))
abbrev M_X1_readRest : am_M := (yX1_readRest, cX1_readRest, 3, (some FieldType.boolean))
abbrev M_X1_readNumber : am_M := (yX1_readNumber, cX1_readNumber, 6, (some FieldType.boolean))
abbrev M_X1_readField : am_M := (yX1_readField, cX1_readField, 3, (some FieldType.boolean))
abbrev M_X1_readPart : am_M := (yX1_readPart, cX1_readPart, 4, (some FieldType.boolean))
abbrev M_X1_opens : am_M := (yX1_opens, cX1_opens, 1, (some FieldType.boolean))
abbrev M_X1_closes : am_M := (yX1_closes, cX1_closes, 1, (some FieldType.boolean))
abbrev M_X1_readSum : am_M := (yX1_readSum, cX1_readSum, 4, (some FieldType.boolean))
abbrev M_X1_readProduct : am_M := (yX1_readProduct, cX1_readProduct, 4, (some FieldType.boolean))
abbrev M_X1_readOne : am_M := (yX1_readOne, cX1_readOne, 1, (some FieldType.boolean))
abbrev M_X1_readIf : am_M := (yX1_readIf, cX1_readIf, 3, (some FieldType.boolean))
abbrev M_X1_aim : am_M := (yX1_aim, cX1_aim, 2, none)
abbrev M_X1_readName : am_M := (yX1_readName, cX1_readName, 4, (some FieldType.boolean))
abbrev M_X1_readEither : am_M := (yX1_readEither, cX1_readEither, 3, (some FieldType.boolean))
abbrev M_X1_readBoth : am_M := (yX1_readBoth, cX1_readBoth, 3, (some FieldType.boolean))
abbrev M_X1_readAsk : am_M := (yX1_readAsk, cX1_readAsk, 2, (some FieldType.boolean))
abbrev M_X1_comparisonHere : am_M := (yX1_comparisonHere, cX1_comparisonHere, 1, (some FieldType.int))
abbrev M_X2_readingAt : am_M := (yX2_readingAt, cX2_readingAt, 2, (some (FieldType.object "ByteIntervals$Reading")))
abbrev M_X2_readFile : am_M := (yX2_readFile, cX2_readFile, 4, (some (FieldType.object "ByteIntervals$Reading")))
abbrev M_X2_readValues : am_M := (yX2_readValues, cX2_readValues, 5, (some (FieldType.object "ByteIntervals$Reading")))
abbrev M_X2_readInside : am_M := (yX2_readInside, cX2_readInside, 4, (some (FieldType.object "ByteIntervals$Reading")))
abbrev M_X2_isValid : am_M := (yX2_isValid, cX2_isValid, 5, (some FieldType.boolean))
abbrev M_X2_readFormat : am_M := (yX2_readFormat, cX2_readFormat, 9, (some (FieldType.object "ByteIntervals$Reading")))
abbrev M_X2_readField : am_M := (yX2_readField, cX2_readField, 9, none)
abbrev M_X2_know : am_M := (yX2_know, cX2_know, 5, none)
abbrev M_X2_readSummed : am_M := (yX2_readSummed, cX2_readSummed, 12, none)
abbrev M_X2_readNest : am_M := (yX2_readNest, cX2_readNest, 11, none)
abbrev M_X2_askMusts : am_M := (yX2_askMusts, cX2_askMusts, 5, none)
abbrev M_X2_isShorter : am_M := (yX2_isShorter, cX2_isShorter, 7, (some FieldType.boolean))
abbrev M_X2_mended : am_M := (yX2_mended, cX2_mended, 4, (some FieldType.int))
abbrev M_X2_putSums : am_M := (yX2_putSums, cX2_putSums, 5, none)
abbrev M_X2_unlikeBytes : am_M := (yX2_unlikeBytes, cX2_unlikeBytes, 4, (some FieldType.int))
abbrev M_X2_rots : am_M := (yX2_rots, cX2_rots, 4, (some FieldType.int))
abbrev M_X2_byteIn : am_M := (yX2_byteIn, cX2_byteIn, 4, (some FieldType.int))
abbrev M_X2_answer : am_M := (yX2_answer, cX2_answer, 9, (some FieldType.int))
abbrev M_X2_leaf : am_M := (yX2_leaf, cX2_leaf, 4, (some FieldType.int))
abbrev M_X2_ofOne : am_M := (yX2_ofOne, cX2_ofOne, 4, (some FieldType.int))
abbrev M_X2_ofTwo : am_M := (yX2_ofTwo, cX2_ofTwo, 3, (some FieldType.int))
abbrev M_X2_confined : am_M := (yX2_confined, cX2_confined, 2, (some FieldType.int))
abbrev M_X2_compares : am_M := (yX2_compares, cX2_compares, 3, (some FieldType.boolean))
abbrev M_X3_begin : am_M := (yX3_begin, cX3_begin, 7, none)
abbrev M_X3_copy : am_M := (yX3_copy, cX3_copy, 2, none)
abbrev M_X3_how : am_M := (yX3_how, cX3_how, 2, (some FieldType.int))
abbrev M_X3_isSound : am_M := (yX3_isSound, cX3_isSound, 1, (some FieldType.boolean))
abbrev M_X3_isKnown : am_M := (yX3_isKnown, cX3_isKnown, 2, (some FieldType.boolean))
abbrev M_X3_has : am_M := (yX3_has, cX3_has, 3, (some FieldType.boolean))
abbrev M_X3_tell : am_M := (yX3_tell, cX3_tell, 4, (some FieldType.int))
abbrev M_X3_covered : am_M := (yX3_covered, cX3_covered, 2, (some FieldType.long))
abbrev M_X3_looksOf : am_M := (yX3_looksOf, cX3_looksOf, 5, (some FieldType.long))
abbrev M_X3_likeFields : am_M := (yX3_likeFields, cX3_likeFields, 4, (some FieldType.int))
abbrev M_X4_copy : am_M := (yX4_copy, cX4_copy, 3, none)
abbrev M_X4_copyStep : am_M := (yX4_copyStep, cX4_copyStep, 2, none)
abbrev M_X4_stepAt : am_M := (yX4_stepAt, cX4_stepAt, 2, (some (FieldType.object "ByteIntervals$Moment")))
abbrev M_X4_keepStep : am_M := (yX4_keepStep, cX4_keepStep, 1, none)
abbrev M_X4_takeBack : am_M := (yX4_takeBack, cX4_takeBack, 1, (some FieldType.int))
abbrev M_X5_clear : am_M := (yX5_clear, cX5_clear, 2, none)
abbrev M_X5_tells : am_M := (yX5_tells, cX5_tells, 2, (some FieldType.boolean))
abbrev M_X5_sort : am_M := (yX5_sort, cX5_sort, 4, none)
abbrev M_X5_lowestReady : am_M := (yX5_lowestReady, cX5_lowestReady, 4, (some FieldType.int))
abbrev M_X5_gatherNeeded : am_M := (yX5_gatherNeeded, cX5_gatherNeeded, 4, none)
abbrev M_X5_mostOf : am_M := (yX5_mostOf, cX5_mostOf, 2, (some FieldType.int))
abbrev M_J9_floorMod_7cf53 : am_M := (yJ9_floorMod_7cf53, cJ9_floorMod_7cf53, 3, (some FieldType.int))
abbrev M_J9_max_7cf53 : am_M := (yJ9_max_7cf53, cJ9_max_7cf53, 2, (some FieldType.int))
abbrev M_J9_max_f86c9 : am_M := (yJ9_max_f86c9, cJ9_max_f86c9, 4, (some FieldType.long))
abbrev M_J9_min_7cf53 : am_M := (yJ9_min_7cf53, cJ9_min_7cf53, 2, (some FieldType.int))
abbrev M_J9_min_f86c9 : am_M := (yJ9_min_f86c9, cJ9_min_f86c9, 4, (some FieldType.long))
