theorem sT1 : ∀ w ∈ tables_1_1, w ∈ lw_tbl := fun w h => List.mem_append_right _ (by unfold tables_1; simp only [List.mem_append]; simp [h])
theorem mT1 {w : Cond} (i : Nat) (h : tables_1_1[i]? = some w) (g : goodWord w = true) : w ∈ wsA := List.mem_filter.mpr ⟨sT1 w (List.mem_of_getElem? h), g⟩
theorem nT1 {w : Cond} (i : Nat) (h : tables_1_1[i]? = some w) (g : isNestW w = true) : w ∈ nestW := List.mem_filter.mpr ⟨sT1 w (List.mem_of_getElem? h), g⟩
theorem sT2 : ∀ w ∈ tables_1_2, w ∈ lw_tbl := fun w h => List.mem_append_right _ (by unfold tables_1; simp only [List.mem_append]; simp [h])
theorem mT2 {w : Cond} (i : Nat) (h : tables_1_2[i]? = some w) (g : goodWord w = true) : w ∈ wsA := List.mem_filter.mpr ⟨sT2 w (List.mem_of_getElem? h), g⟩
theorem nT2 {w : Cond} (i : Nat) (h : tables_1_2[i]? = some w) (g : isNestW w = true) : w ∈ nestW := List.mem_filter.mpr ⟨sT2 w (List.mem_of_getElem? h), g⟩
theorem sT3 : ∀ w ∈ tables_1_3, w ∈ lw_tbl := fun w h => List.mem_append_right _ (by unfold tables_1; simp only [List.mem_append]; simp [h])
theorem mT3 {w : Cond} (i : Nat) (h : tables_1_3[i]? = some w) (g : goodWord w = true) : w ∈ wsA := List.mem_filter.mpr ⟨sT3 w (List.mem_of_getElem? h), g⟩
theorem nT3 {w : Cond} (i : Nat) (h : tables_1_3[i]? = some w) (g : isNestW w = true) : w ∈ nestW := List.mem_filter.mpr ⟨sT3 w (List.mem_of_getElem? h), g⟩
theorem sT4 : ∀ w ∈ tables_1_4, w ∈ lw_tbl := fun w h => List.mem_append_right _ (by unfold tables_1; simp only [List.mem_append]; simp [h])
theorem mT4 {w : Cond} (i : Nat) (h : tables_1_4[i]? = some w) (g : goodWord w = true) : w ∈ wsA := List.mem_filter.mpr ⟨sT4 w (List.mem_of_getElem? h), g⟩
theorem nT4 {w : Cond} (i : Nat) (h : tables_1_4[i]? = some w) (g : isNestW w = true) : w ∈ nestW := List.mem_filter.mpr ⟨sT4 w (List.mem_of_getElem? h), g⟩
theorem sT5 : ∀ w ∈ tables_1_5, w ∈ lw_tbl := fun w h => List.mem_append_right _ (by unfold tables_1; simp only [List.mem_append]; simp [h])
theorem mT5 {w : Cond} (i : Nat) (h : tables_1_5[i]? = some w) (g : goodWord w = true) : w ∈ wsA := List.mem_filter.mpr ⟨sT5 w (List.mem_of_getElem? h), g⟩
theorem nT5 {w : Cond} (i : Nat) (h : tables_1_5[i]? = some w) (g : isNestW w = true) : w ∈ nestW := List.mem_filter.mpr ⟨sT5 w (List.mem_of_getElem? h), g⟩
theorem sT6 : ∀ w ∈ tables_1_6, w ∈ lw_tbl := fun w h => List.mem_append_right _ (by unfold tables_1; simp only [List.mem_append]; simp [h])
theorem mT6 {w : Cond} (i : Nat) (h : tables_1_6[i]? = some w) (g : goodWord w = true) : w ∈ wsA := List.mem_filter.mpr ⟨sT6 w (List.mem_of_getElem? h), g⟩
theorem nT6 {w : Cond} (i : Nat) (h : tables_1_6[i]? = some w) (g : isNestW w = true) : w ∈ nestW := List.mem_filter.mpr ⟨sT6 w (List.mem_of_getElem? h), g⟩
theorem sT7 : ∀ w ∈ tables_1_7, w ∈ lw_tbl := fun w h => List.mem_append_right _ (by unfold tables_1; simp only [List.mem_append]; simp [h])
theorem mT7 {w : Cond} (i : Nat) (h : tables_1_7[i]? = some w) (g : goodWord w = true) : w ∈ wsA := List.mem_filter.mpr ⟨sT7 w (List.mem_of_getElem? h), g⟩
theorem nT7 {w : Cond} (i : Nat) (h : tables_1_7[i]? = some w) (g : isNestW w = true) : w ∈ nestW := List.mem_filter.mpr ⟨sT7 w (List.mem_of_getElem? h), g⟩
abbrev mX0_init : mth := (yX0_init, cX0_init, 1, none, 1, 20)
abbrev mX0_forget : mth := (yX0_forget, cX0_forget, 1, none, 0, 0)
abbrev mX0_kept : mth := (yX0_kept, cX0_kept, 1, (some .int), 0, 0)
abbrev mX0_begin : mth := (yX0_begin, cX0_begin, 6, (some .int), 0, 0)
abbrev mX0_own : mth := (yX0_own, cX0_own, 4, (some .int), 0, 0)
abbrev mX0_from : mth := (yX0_from, cX0_from, 7, (some .int), 0, 0)
abbrev mX0_runBody : mth := (yX0_runBody, cX0_runBody, 4, (some .int), 0, 0)
abbrev mX1_init : mth := (yX1_init, cX1_init, 2, none, 23, 233)
abbrev mX1_copyFrom : mth := (yX1_copyFrom, cX1_copyFrom, 2, none, 0, 0)
abbrev mX2_init : mth := (yX2_init, cX2_init, 1, none, 3, 120)
abbrev mX2_clear : mth := (yX2_clear, cX2_clear, 1, none, 0, 0)
abbrev mX2_addStep : mth := (yX2_addStep, cX2_addStep, 2, none, 0, 0)
abbrev mX2_addTest : mth := (yX2_addTest, cX2_addTest, 4, none, 0, 0)
abbrev mX2_addWeight : mth := (yX2_addWeight, cX2_addWeight, 2, none, 0, 0)
abbrev mX2_liking : mth := (yX2_liking, cX2_liking, 5, (some .int), 0, 0)
abbrev mX2_holds : mth := (yX2_holds, cX2_holds, 7, (some .boolean), 0, 0)
abbrev mX2_isSo : mth := (yX2_isSo, cX2_isSo, 5, (some .boolean), 0, 0)
abbrev mX3_init : mth := (yX3_init, cX3_init, 2, none, 1, 6)
abbrev mX3_find : mth := (yX3_find, cX3_find, 4, none, 0, 0)
abbrev mX3_placeFrom : mth := (yX3_placeFrom, cX3_placeFrom, 3, none, 0, 0)
abbrev mX3_placeOn : mth := (yX3_placeOn, cX3_placeOn, 3, none, 0, 0)
abbrev mX3_weigh : mth := (yX3_weigh, cX3_weigh, 4, none, 0, 0)
abbrev mX4_init : mth := (yX4_init, cX4_init, 1, none, 0, 0)
abbrev mX4_readInto : mth := (yX4_readInto, cX4_readInto, 5, (some .int), 0, 0)
abbrev mX4_isClause : mth := (yX4_isClause, cX4_isClause, 3, (some .boolean), 0, 0)
abbrev mX4_wordFrom : mth := (yX4_wordFrom, cX4_wordFrom, 1, (some (.object "java/lang/String")), 0, 0)
abbrev mX4_isEither : mth := (yX4_isEither, cX4_isEither, 5, (some .boolean), 0, 0)
abbrev mX4_isFactor : mth := (yX4_isFactor, cX4_isFactor, 5, (some .boolean), 0, 0)
abbrev mX4_isNest : mth := (yX4_isNest, cX4_isNest, 3, (some .boolean), 0, 0)
abbrev mX4_factOf : mth := (yX4_factOf, cX4_factOf, 1, (some .int), 0, 0)
abbrev mX4_compareOf : mth := (yX4_compareOf, cX4_compareOf, 1, (some .int), 0, 0)
abbrev mX4_isNumber : mth := (yX4_isNumber, cX4_isNumber, 3, (some .boolean), 0, 0)
abbrev mX4_isWord : mth := (yX4_isWord, cX4_isWord, 3, (some .boolean), 0, 0)
abbrev mX4_isSign : mth := (yX4_isSign, cX4_isSign, 2, (some .boolean), 0, 0)
abbrev mX4_next : mth := (yX4_next, cX4_next, 1, (some .int), 0, 0)
abbrev mX5_init : mth := (yX5_init, cX5_init, 2, none, 3, 30)
abbrev mX5_empty : mth := (yX5_empty, cX5_empty, 1, (some .int), 0, 0)
abbrev mX5_add : mth := (yX5_add, cX5_add, 4, (some .int), 0, 0)
abbrev mX5_greatestThird : mth := (yX5_greatestThird, cX5_greatestThird, 3, (some .int), 0, 0)
abbrev mX5_copyFrom : mth := (yX5_copyFrom, cX5_copyFrom, 2, none, 0, 0)
abbrev mX6_init : mth := (yX6_init, cX6_init, 3, none, 10, 114)
abbrev mX6_copyFrom : mth := (yX6_copyFrom, cX6_copyFrom, 2, none, 0, 0)
abbrev mX6_takeIn : mth := (yX6_takeIn, cX6_takeIn, 5, (some .int), 0, 0)
abbrev mX6_freeSeat : mth := (yX6_freeSeat, cX6_freeSeat, 2, (some .int), 0, 0)
abbrev mX6_place : mth := (yX6_place, cX6_place, 3, none, 0, 0)
abbrev mX6_moveTo : mth := (yX6_moveTo, cX6_moveTo, 5, none, 0, 0)
abbrev mX6_hold : mth := (yX6_hold, cX6_hold, 2, none, 0, 0)
abbrev mX6_becomeV : mth := (yX6_becomeV, cX6_becomeV, 3, none, 0, 0)
abbrev mX6_reckon : mth := (yX6_reckon, cX6_reckon, 3, none, 0, 0)
abbrev mX6_liking : mth := (yX6_liking, cX6_liking, 3, (some .int), 0, 0)
abbrev mX6_neighbourAt : mth := (yX6_neighbourAt, cX6_neighbourAt, 3, (some .int), 0, 0)
abbrev mX6_neighbours : mth := (yX6_neighbours, cX6_neighbours, 4, (some .int), 0, 0)
abbrev mX6_fondOf : mth := (yX6_fondOf, cX6_fondOf, 5, (some .int), 0, 0)
abbrev mX6_warmth : mth := (yX6_warmth, cX6_warmth, 5, (some .int), 0, 0)
abbrev mX6_fondOfAll : mth := (yX6_fondOfAll, cX6_fondOfAll, 3, (some .int), 0, 0)
abbrev mX6_clashes : mth := (yX6_clashes, cX6_clashes, 5, (some .int), 0, 0)
abbrev mX6_yearsGo : mth := (yX6_yearsGo, cX6_yearsGo, 4, none, 0, 0)
abbrev mX6_pourAt : mth := (yX6_pourAt, cX6_pourAt, 2, none, 0, 0)
abbrev mX6_emptyCups : mth := (yX6_emptyCups, cX6_emptyCups, 3, (some .int), 0, 0)
abbrev mX6_usedOfAll : mth := (yX6_usedOfAll, cX6_usedOfAll, 3, (some .int), 0, 0)
abbrev mX6_round : mth := (yX6_round, cX6_round, 1, (some .int), 0, 0)
abbrev mX6_toward : mth := (yX6_toward, cX6_toward, 2, (some .int), 0, 0)
abbrev mX6_stepsOn : mth := (yX6_stepsOn, cX6_stepsOn, 5, (some .int), 0, 0)
abbrev mX6_stepsBack : mth := (yX6_stepsBack, cX6_stepsBack, 4, (some .int), 0, 0)
abbrev mX6_farthestBack : mth := (yX6_farthestBack, cX6_farthestBack, 4, (some .int), 0, 0)
abbrev mX7_init : mth := (yX7_init, cX7_init, 1, none, 1, 60)
abbrev mX7_become : mth := (yX7_become, cX7_become, 4, none, 0, 0)
abbrev mX7_hasPlace : mth := (yX7_hasPlace, cX7_hasPlace, 2, (some .boolean), 0, 0)
abbrev mX7_hasPlaces : mth := (yX7_hasPlaces, cX7_hasPlaces, 3, (some .boolean), 0, 0)
abbrev mX7_put : mth := (yX7_put, cX7_put, 4, none, 0, 0)
abbrev mX8_init : mth := (yX8_init, cX8_init, 3, none, 107, 4000)
abbrev mX8_guest : mth := (yX8_guest, cX8_guest, 3, (some .int), 0, 0)
abbrev mX8_of : mth := (yX8_of, cX8_of, 4, (some .int), 0, 0)
abbrev mX8_likes : mth := (yX8_likes, cX8_likes, 3, (some .int), 0, 0)
abbrev mX8_sit : mth := (yX8_sit, cX8_sit, 3, (some .int), 0, 0)
abbrev mX8_leave : mth := (yX8_leave, cX8_leave, 4, (some .int), 0, 0)
abbrev mX8_pour : mth := (yX8_pour, cX8_pour, 2, (some .int), 0, 0)
abbrev mX8_row : mth := (yX8_row, cX8_row, 6, (some .int), 0, 0)
abbrev mX8_feed : mth := (yX8_feed, cX8_feed, 2, (some .int), 0, 0)
abbrev mX8_house : mth := (yX8_house, cX8_house, 3, (some .int), 0, 0)
abbrev mX8_told : mth := (yX8_told, cX8_told, 3, (some .int), 0, 0)
abbrev mX8_sitterOr : mth := (yX8_sitterOr, cX8_sitterOr, 3, (some .int), 0, 0)
abbrev mX8_pass : mth := (yX8_pass, cX8_pass, 2, (some .int), 0, 0)
abbrev mX8_on : mth := (yX8_on, cX8_on, 4, (some .int), 0, 0)
abbrev mX8_soon : mth := (yX8_soon, cX8_soon, 3, (some .int), 0, 0)
abbrev mX8_usedMore : mth := (yX8_usedMore, cX8_usedMore, 1, (some .int), 0, 0)
abbrev mX8_best : mth := (yX8_best, cX8_best, 3, (some .int), 0, 0)
abbrev mX8_peace : mth := (yX8_peace, cX8_peace, 3, (some .int), 0, 0)
abbrev mX8_change : mth := (yX8_change, cX8_change, 6, (some .int), 0, 0)
abbrev mX8_seat : mth := (yX8_seat, cX8_seat, 6, (some .int), 0, 0)
abbrev mX8_see : mth := (yX8_see, cX8_see, 4, (some .int), 0, 0)
abbrev mX8_where : mth := (yX8_where, cX8_where, 4, (some .int), 0, 0)
abbrev mX8_can : mth := (yX8_can, cX8_can, 6, (some .int), 0, 0)
abbrev mX8_isAllSeenSo : mth := (yX8_isAllSeenSo, cX8_isAllSeenSo, 3, (some .boolean), 0, 0)
abbrev mX8_isOneSeenOtherwise : mth := (yX8_isOneSeenOtherwise, cX8_isOneSeenOtherwise, 5, (some .boolean), 0, 0)
abbrev mX8_odds : mth := (yX8_odds, cX8_odds, 5, (some .long), 0, 0)
abbrev mX8_mean : mth := (yX8_mean, cX8_mean, 2, (some .long), 0, 0)
abbrev mX8_lowest : mth := (yX8_lowest, cX8_lowest, 5, (some .long), 0, 0)
abbrev mX8_plan : mth := (yX8_plan, cX8_plan, 4, (some .int), 0, 0)
abbrev mX8_ends : mth := (yX8_ends, cX8_ends, 3, (some .int), 0, 0)
abbrev mX8_tryPlanned : mth := (yX8_tryPlanned, cX8_tryPlanned, 3, none, 0, 0)
abbrev mX8_book : mth := (yX8_book, cX8_book, 3, (some .int), 0, 0)
abbrev mX8_looked : mth := (yX8_looked, cX8_looked, 3, (some .int), 0, 0)
abbrev mX8_judge : mth := (yX8_judge, cX8_judge, 5, (some .int), 0, 0)
abbrev mX8_image : mth := (yX8_image, cX8_image, 1, (some .int), 0, 0)
abbrev mX8_undo : mth := (yX8_undo, cX8_undo, 1, (some .int), 0, 0)
abbrev mX8_act : mth := (yX8_act, cX8_act, 4, (some .int), 0, 0)
abbrev mX8_trace : mth := (yX8_trace, cX8_trace, 2, (some .int), 0, 0)
abbrev mX8_taken : mth := (yX8_taken, cX8_taken, 6, (some .int), 0, 0)
abbrev mX8_count : mth := (yX8_count, cX8_count, 2, (some .int), 0, 0)
abbrev mX8_tape : mth := (yX8_tape, cX8_tape, 4, (some .int), 0, 0)
abbrev mX8_item : mth := (yX8_item, cX8_item, 5, (some .int), 0, 0)
abbrev mX8_read : mth := (yX8_read, cX8_read, 3, (some .long), 0, 0)
abbrev mX8_shift : mth := (yX8_shift, cX8_shift, 8, (some .int), 0, 0)
abbrev mX8_isGuest : mth := (yX8_isGuest, cX8_isGuest, 2, (some .boolean), 0, 0)
abbrev mX8_isSeat : mth := (yX8_isSeat, cX8_isSeat, 1, (some .boolean), 0, 0)
abbrev mX8_isTape : mth := (yX8_isTape, cX8_isTape, 1, (some .boolean), 0, 0)
abbrev mX8_isDigit : mth := (yX8_isDigit, cX8_isDigit, 1, (some .boolean), 0, 0)
abbrev mX8_oneIf : mth := (yX8_oneIf, cX8_oneIf, 1, (some .int), 0, 0)
abbrev mX9_init : mth := (yX9_init, cX9_init, 1, none, 44, 2200)
abbrev mX9_in : mth := (yX9_in, cX9_in, 4, (some .boolean), 0, 0)
abbrev mX9_has : mth := (yX9_has, cX9_has, 3, (some .boolean), 0, 0)
abbrev mX9_least : mth := (yX9_least, cX9_least, 3, (some .int), 0, 0)
abbrev mX9_bits : mth := (yX9_bits, cX9_bits, 4, (some .int), 0, 0)
abbrev mX9_isGuest : mth := (yX9_isGuest, cX9_isGuest, 2, (some .boolean), 0, 0)
abbrev mX9_isSeat : mth := (yX9_isSeat, cX9_isSeat, 2, (some .boolean), 0, 0)
abbrev mX9_isYears : mth := (yX9_isYears, cX9_isYears, 2, (some .boolean), 0, 0)
abbrev mX9_whoSits : mth := (yX9_whoSits, cX9_whoSits, 3, (some .int), 0, 0)
abbrev mX9_guest : mth := (yX9_guest, cX9_guest, 5, (some .int), 0, 0)
abbrev mX9_goes : mth := (yX9_goes, cX9_goes, 3, none, 0, 0)
abbrev mX9_leave : mth := (yX9_leave, cX9_leave, 4, (some .int), 0, 0)
abbrev mX9_takesSeat : mth := (yX9_takesSeat, cX9_takesSeat, 4, none, 0, 0)
abbrev mX9_sit : mth := (yX9_sit, cX9_sit, 3, (some .int), 0, 0)
abbrev mX9_pours : mth := (yX9_pours, cX9_pours, 3, none, 0, 0)
abbrev mX9_pour : mth := (yX9_pour, cX9_pour, 2, (some .int), 0, 0)
abbrev mX9_row : mth := (yX9_row, cX9_row, 5, (some .int), 0, 0)
abbrev mX9_feed : mth := (yX9_feed, cX9_feed, 2, (some .int), 0, 0)
abbrev mX9_next : mth := (yX9_next, cX9_next, 1, (some .int), 0, 0)
abbrev mX9_takes : mth := (yX9_takes, cX9_takes, 2, (some .boolean), 0, 0)
abbrev mX9_takesWord : mth := (yX9_takesWord, cX9_takesWord, 4, (some .boolean), 0, 0)
abbrev mX9_isDigit : mth := (yX9_isDigit, cX9_isDigit, 1, (some .boolean), 0, 0)
abbrev mX9_takesNumber : mth := (yX9_takesNumber, cX9_takesNumber, 2, (some .boolean), 0, 0)
abbrev mX9_emits : mth := (yX9_emits, cX9_emits, 2, none, 0, 0)
abbrev mX9_whole : mth := (yX9_whole, cX9_whole, 1, none, 0, 0)
abbrev mX9_settle : mth := (yX9_settle, cX9_settle, 2, none, 0, 0)
abbrev mX9_place : mth := (yX9_place, cX9_place, 2, (some .int), 0, 0)
abbrev mX9_takesTest : mth := (yX9_takesTest, cX9_takesTest, 3, (some .boolean), 0, 0)
abbrev mX9_takesE : mth := (yX9_takesE, cX9_takesE, 4, (some .boolean), 0, 0)
abbrev mX9_takesHead : mth := (yX9_takesHead, cX9_takesHead, 2, (some .boolean), 0, 0)
abbrev mX9_takesClause : mth := (yX9_takesClause, cX9_takesClause, 2, (some .boolean), 0, 0)
abbrev mX9_goesText : mth := (yX9_goesText, cX9_goesText, 3, (some .boolean), 0, 0)
abbrev mX9_house : mth := (yX9_house, cX9_house, 2, (some .int), 0, 0)
abbrev mX9_begin : mth := (yX9_begin, cX9_begin, 1, (some .int), 0, 0)
abbrev mX9_behind : mth := (yX9_behind, cX9_behind, 1, (some .int), 0, 0)
abbrev mX9_lastOf : mth := (yX9_lastOf, cX9_lastOf, 5, (some .int), 0, 0)
abbrev mX9_factOf : mth := (yX9_factOf, cX9_factOf, 4, (some .int), 0, 0)
abbrev mX9_holds : mth := (yX9_holds, cX9_holds, 9, (some .boolean), 0, 0)
abbrev mX9_likesOf : mth := (yX9_likesOf, cX9_likesOf, 5, (some .int), 0, 0)
abbrev mX9_likes : mth := (yX9_likes, cX9_likes, 3, (some .int), 0, 0)
abbrev mX9_layLikes : mth := (yX9_layLikes, cX9_layLikes, 3, none, 0, 0)
abbrev mX9_isBeside : mth := (yX9_isBeside, cX9_isBeside, 3, (some .boolean), 0, 0)
abbrev mX9_isCompany : mth := (yX9_isCompany, cX9_isCompany, 2, (some .boolean), 0, 0)
abbrev mX9_beside : mth := (yX9_beside, cX9_beside, 4, (some .int), 0, 0)
abbrev mX9_fondBy : mth := (yX9_fondBy, cX9_fondBy, 6, (some .int), 0, 0)
abbrev mX9_fond : mth := (yX9_fond, cX9_fond, 2, (some .int), 0, 0)
abbrev mX9_allFondBy : mth := (yX9_allFondBy, cX9_allFondBy, 3, (some .int), 0, 0)
abbrev mX9_allFond : mth := (yX9_allFond, cX9_allFond, 1, (some .int), 0, 0)
abbrev mX9_clashesBy : mth := (yX9_clashesBy, cX9_clashesBy, 4, (some .int), 0, 0)
abbrev mX9_clashes : mth := (yX9_clashes, cX9_clashes, 1, (some .int), 0, 0)
abbrev mX9_of : mth := (yX9_of, cX9_of, 3, (some .int), 0, 0)
abbrev mX9_isDue : mth := (yX9_isDue, cX9_isDue, 3, (some .boolean), 0, 0)
abbrev mX9_isCovered : mth := (yX9_isCovered, cX9_isCovered, 4, (some .boolean), 0, 0)
abbrev mX9_steps : mth := (yX9_steps, cX9_steps, 6, (some .int), 0, 0)
abbrev mX9_round : mth := (yX9_round, cX9_round, 1, (some .int), 0, 0)
abbrev mX9_toward : mth := (yX9_toward, cX9_toward, 1, (some .int), 0, 0)
abbrev mX9_told : mth := (yX9_told, cX9_told, 2, (some .int), 0, 0)
abbrev mX9_goYear : mth := (yX9_goYear, cX9_goYear, 3, none, 0, 0)
abbrev mX9_goYears : mth := (yX9_goYears, cX9_goYears, 3, none, 0, 0)
abbrev mX9_pass : mth := (yX9_pass, cX9_pass, 2, (some .int), 0, 0)
abbrev mX9_save : mth := (yX9_save, cX9_save, 2, none, 0, 0)
abbrev mX9_putBack : mth := (yX9_putBack, cX9_putBack, 2, none, 0, 0)
abbrev mX9_usesMore : mth := (yX9_usesMore, cX9_usesMore, 3, (some .int), 0, 0)
abbrev mX9_on : mth := (yX9_on, cX9_on, 4, (some .int), 0, 0)
abbrev mX9_soon : mth := (yX9_soon, cX9_soon, 3, (some .int), 0, 0)
abbrev mX9_layPlacing : mth := (yX9_layPlacing, cX9_layPlacing, 5, (some .boolean), 0, 0)
abbrev mX9_layBest : mth := (yX9_layBest, cX9_layBest, 8, none, 0, 0)
abbrev mX9_best : mth := (yX9_best, cX9_best, 2, (some .int), 0, 0)
abbrev mX9_peace : mth := (yX9_peace, cX9_peace, 2, (some .int), 0, 0)
abbrev mX9_change : mth := (yX9_change, cX9_change, 6, (some .int), 0, 0)
abbrev mX9_seat : mth := (yX9_seat, cX9_seat, 6, (some .int), 0, 0)
abbrev mX9_see : mth := (yX9_see, cX9_see, 4, (some .int), 0, 0)
abbrev mX9_isSeen : mth := (yX9_isSeen, cX9_isSeen, 3, (some .boolean), 0, 0)
abbrev mX9_where : mth := (yX9_where, cX9_where, 5, (some .int), 0, 0)
abbrev mX9_can : mth := (yX9_can, cX9_can, 7, (some .int), 0, 0)
abbrev mX9_divisor : mth := (yX9_divisor, cX9_divisor, 6, (some .int), 0, 0)
abbrev mX9_lowest : mth := (yX9_lowest, cX9_lowest, 5, (some .long), 0, 0)
abbrev mX9_odds : mth := (yX9_odds, cX9_odds, 6, (some .long), 0, 0)
abbrev mX9_mean : mth := (yX9_mean, cX9_mean, 2, (some .long), 0, 0)
abbrev mX9_plan : mth := (yX9_plan, cX9_plan, 3, (some .int), 0, 0)
abbrev mX9_ends : mth := (yX9_ends, cX9_ends, 3, (some .int), 0, 0)
abbrev mX9_book : mth := (yX9_book, cX9_book, 3, (some .int), 0, 0)
abbrev mX9_looked : mth := (yX9_looked, cX9_looked, 2, (some .int), 0, 0)
abbrev mX9_judge : mth := (yX9_judge, cX9_judge, 4, (some .int), 0, 0)
abbrev mX9_image : mth := (yX9_image, cX9_image, 2, (some .int), 0, 0)
abbrev mX9_undo : mth := (yX9_undo, cX9_undo, 2, (some .int), 0, 0)
abbrev mX9_body : mth := (yX9_body, cX9_body, 2, none, 0, 0)
abbrev mX9_guestSips : mth := (yX9_guestSips, cX9_guestSips, 3, (some .int), 0, 0)
abbrev mX9_sipsAct : mth := (yX9_sipsAct, cX9_sipsAct, 3, (some .int), 0, 0)
abbrev mX9_guestChats : mth := (yX9_guestChats, cX9_guestChats, 3, (some .int), 0, 0)
abbrev mX9_wouldChats : mth := (yX9_wouldChats, cX9_wouldChats, 3, (some .int), 0, 0)
abbrev mX9_chatsAct : mth := (yX9_chatsAct, cX9_chatsAct, 4, (some .int), 0, 0)
abbrev mX9_guestTells : mth := (yX9_guestTells, cX9_guestTells, 3, (some .int), 0, 0)
abbrev mX9_tellsAct : mth := (yX9_tellsAct, cX9_tellsAct, 4, (some .int), 0, 0)
abbrev mX9_act : mth := (yX9_act, cX9_act, 4, (some .int), 0, 0)
abbrev mX9_trace : mth := (yX9_trace, cX9_trace, 2, (some .int), 0, 0)
abbrev mX9_taken : mth := (yX9_taken, cX9_taken, 4, (some .int), 0, 0)
abbrev mX9_count : mth := (yX9_count, cX9_count, 2, (some .int), 0, 0)
abbrev mX9_isTape : mth := (yX9_isTape, cX9_isTape, 2, (some .boolean), 0, 0)
abbrev mX9_tape : mth := (yX9_tape, cX9_tape, 5, (some .int), 0, 0)
abbrev mX9_narrow : mth := (yX9_narrow, cX9_narrow, 4, (some .long), 0, 0)
abbrev mX9_item : mth := (yX9_item, cX9_item, 5, (some .int), 0, 0)
abbrev mX9_read : mth := (yX9_read, cX9_read, 3, (some .long), 0, 0)
abbrev mX9_shift : mth := (yX9_shift, cX9_shift, 7, (some .int), 0, 0)
abbrev mJ6_bitCount_0f7a4 : mth := (yJ6_bitCount_0f7a4, cJ6_bitCount_0f7a4, 1, (some .int), 0, 0)
abbrev mJ9_max_7cf53 : mth := (yJ9_max_7cf53, cJ9_max_7cf53, 2, (some .int), 0, 0)
abbrev mJ9_min_7cf53 : mth := (yJ9_min_7cf53, cJ9_min_7cf53, 2, (some .int), 0, 0)
abbrev mJ0_length_8abf5 : mth := (yJ0_length_8abf5, cJ0_length_8abf5, 1, (some .int), 0, 0)
abbrev mJ0_charAt_5068e : mth := (yJ0_charAt_5068e, cJ0_charAt_5068e, 2, (some .char), 0, 0)
abbrev mJ0_coder_7d493 : mth := (yJ0_coder_7d493, cJ0_coder_7d493, 1, (some .byte), 0, 0)
abbrev mJ0_isLatin1_aae02 : mth := (yJ0_isLatin1_aae02, cJ0_isLatin1_aae02, 1, (some .boolean), 0, 0)
abbrev mJ0_checkIndex_df160 : mth := (yJ0_checkIndex_df160, cJ0_checkIndex_df160, 2, none, 0, 0)
abbrev mJ1_charAt_3b067 : mth := (yJ1_charAt_3b067, cJ1_charAt_3b067, 2, (some .char), 0, 0)
abbrev mJ2_getChar_3b067 : mth := (yJ2_getChar_3b067, cJ2_getChar_3b067, 2, (some .char), 0, 0)
abbrev mJ2_length_9d52b : mth := (yJ2_length_9d52b, cJ2_length_9d52b, 1, (some .int), 0, 0)
abbrev mJ2_charAt_3b067 : mth := (yJ2_charAt_3b067, cJ2_charAt_3b067, 2, (some .char), 0, 0)
abbrev mJ2_checkIndex_2214a : mth := (yJ2_checkIndex_2214a, cJ2_checkIndex_2214a, 2, none, 0, 0)
abbrev mJ3_checkIndex_8e157 : mth := (yJ3_checkIndex_8e157, cJ3_checkIndex_8e157, 3, (some .int), 0, 0)
abbrev mL_law : mth := (yL_law, cL_law, 4, (some .boolean), 600000, 7302250)
theorem fd0_0 : 0 < 10 ∧ 0 < nflds 0 ∧ isRefT (fldT 0 0) = true ∧ (fldN 0 0).2.2.2 = true := by decide +kernel
theorem fd0_1 : 0 < 10 ∧ 1 < nflds 0 ∧ isRefT (fldT 0 1) = false ∧ (fldN 0 1).2.2.2 = false ∧ fldT 0 1 = .int := by decide +kernel
theorem fd0_2 : 0 < 10 ∧ 2 < nflds 0 ∧ isRefT (fldT 0 2) = false ∧ (fldN 0 2).2.2.2 = false ∧ fldT 0 2 = .int := by decide +kernel
theorem fd0_3 : 0 < 10 ∧ 3 < nflds 0 ∧ isRefT (fldT 0 3) = false ∧ (fldN 0 3).2.2.2 = false ∧ fldT 0 3 = .int := by decide +kernel
theorem fd0_4 : 0 < 10 ∧ 4 < nflds 0 ∧ isRefT (fldT 0 4) = false ∧ (fldN 0 4).2.2.2 = false ∧ fldT 0 4 = .int := by decide +kernel
theorem fd1_0 : 1 < 10 ∧ 0 < nflds 1 ∧ isRefT (fldT 1 0) = true ∧ (fldN 1 0).2.2.2 = true := by decide +kernel
theorem fd1_1 : 1 < 10 ∧ 1 < nflds 1 ∧ isRefT (fldT 1 1) = true ∧ (fldN 1 1).2.2.2 = true := by decide +kernel
theorem fd1_2 : 1 < 10 ∧ 2 < nflds 1 ∧ isRefT (fldT 1 2) = true ∧ (fldN 1 2).2.2.2 = true := by decide +kernel
theorem fd1_3 : 1 < 10 ∧ 3 < nflds 1 ∧ isRefT (fldT 1 3) = true ∧ (fldN 1 3).2.2.2 = true := by decide +kernel
theorem fd2_0 : 2 < 10 ∧ 0 < nflds 2 ∧ isRefT (fldT 2 0) = true ∧ (fldN 2 0).2.2.2 = true := by decide +kernel
theorem fd2_1 : 2 < 10 ∧ 1 < nflds 2 ∧ isRefT (fldT 2 1) = false ∧ (fldN 2 1).2.2.2 = false ∧ fldT 2 1 = .int := by decide +kernel
theorem fd2_2 : 2 < 10 ∧ 2 < nflds 2 ∧ isRefT (fldT 2 2) = true ∧ (fldN 2 2).2.2.2 = true := by decide +kernel
theorem fd2_3 : 2 < 10 ∧ 3 < nflds 2 ∧ isRefT (fldT 2 3) = true ∧ (fldN 2 3).2.2.2 = true := by decide +kernel
theorem fd2_4 : 2 < 10 ∧ 4 < nflds 2 ∧ isRefT (fldT 2 4) = false ∧ (fldN 2 4).2.2.2 = false ∧ fldT 2 4 = .int := by decide +kernel
theorem fd2_5 : 2 < 10 ∧ 5 < nflds 2 ∧ isRefT (fldT 2 5) = false ∧ (fldN 2 5).2.2.2 = false ∧ fldT 2 5 = .int := by decide +kernel
theorem fd2_6 : 2 < 10 ∧ 6 < nflds 2 ∧ isRefT (fldT 2 6) = false ∧ (fldN 2 6).2.2.2 = false ∧ fldT 2 6 = .int := by decide +kernel
theorem fd2_7 : 2 < 10 ∧ 7 < nflds 2 ∧ isRefT (fldT 2 7) = false ∧ (fldN 2 7).2.2.2 = false ∧ fldT 2 7 = .boolean := by decide +kernel
theorem fd3_0 : 3 < 10 ∧ 0 < nflds 3 ∧ isRefT (fldT 3 0) = true ∧ (fldN 3 0).2.2.2 = true := by decide +kernel
theorem fd3_1 : 3 < 10 ∧ 1 < nflds 3 ∧ isRefT (fldT 3 1) = true ∧ (fldN 3 1).2.2.2 = true := by decide +kernel
theorem fd3_2 : 3 < 10 ∧ 2 < nflds 3 ∧ isRefT (fldT 3 2) = false ∧ (fldN 3 2).2.2.2 = false ∧ fldT 3 2 = .int := by decide +kernel
theorem fd3_3 : 3 < 10 ∧ 3 < nflds 3 ∧ isRefT (fldT 3 3) = false ∧ (fldN 3 3).2.2.2 = false ∧ fldT 3 3 = .int := by decide +kernel
theorem fd3_4 : 3 < 10 ∧ 4 < nflds 3 ∧ isRefT (fldT 3 4) = false ∧ (fldN 3 4).2.2.2 = false ∧ fldT 3 4 = .boolean := by decide +kernel
theorem fd3_5 : 3 < 10 ∧ 5 < nflds 3 ∧ isRefT (fldT 3 5) = false ∧ (fldN 3 5).2.2.2 = false ∧ fldT 3 5 = .boolean := by decide +kernel
theorem fd4_0 : 4 < 10 ∧ 0 < nflds 4 ∧ isRefT (fldT 4 0) = true ∧ (fldN 4 0).2.2.2 = false := by decide +kernel
theorem fd4_1 : 4 < 10 ∧ 1 < nflds 4 ∧ isRefT (fldT 4 1) = true ∧ (fldN 4 1).2.2.2 = false := by decide +kernel
theorem fd4_2 : 4 < 10 ∧ 2 < nflds 4 ∧ isRefT (fldT 4 2) = false ∧ (fldN 4 2).2.2.2 = false ∧ fldT 4 2 = .int := by decide +kernel
theorem fd4_3 : 4 < 10 ∧ 3 < nflds 4 ∧ isRefT (fldT 4 3) = false ∧ (fldN 4 3).2.2.2 = false ∧ fldT 4 3 = .int := by decide +kernel
theorem fd4_4 : 4 < 10 ∧ 4 < nflds 4 ∧ isRefT (fldT 4 4) = false ∧ (fldN 4 4).2.2.2 = false ∧ fldT 4 4 = .int := by decide +kernel
theorem fd5_0 : 5 < 10 ∧ 0 < nflds 5 ∧ isRefT (fldT 5 0) = true ∧ (fldN 5 0).2.2.2 = true := by decide +kernel
theorem fd5_1 : 5 < 10 ∧ 1 < nflds 5 ∧ isRefT (fldT 5 1) = true ∧ (fldN 5 1).2.2.2 = true := by decide +kernel
theorem fd5_2 : 5 < 10 ∧ 2 < nflds 5 ∧ isRefT (fldT 5 2) = true ∧ (fldN 5 2).2.2.2 = true := by decide +kernel
theorem fd5_3 : 5 < 10 ∧ 3 < nflds 5 ∧ isRefT (fldT 5 3) = false ∧ (fldN 5 3).2.2.2 = true ∧ fldT 5 3 = .int := by decide +kernel
theorem fd5_4 : 5 < 10 ∧ 4 < nflds 5 ∧ isRefT (fldT 5 4) = false ∧ (fldN 5 4).2.2.2 = false ∧ fldT 5 4 = .int := by decide +kernel
theorem fd6_0 : 6 < 10 ∧ 0 < nflds 6 ∧ isRefT (fldT 6 0) = true ∧ (fldN 6 0).2.2.2 = true := by decide +kernel
theorem fd6_1 : 6 < 10 ∧ 1 < nflds 6 ∧ isRefT (fldT 6 1) = true ∧ (fldN 6 1).2.2.2 = true := by decide +kernel
theorem fd6_2 : 6 < 10 ∧ 2 < nflds 6 ∧ isRefT (fldT 6 2) = true ∧ (fldN 6 2).2.2.2 = true := by decide +kernel
theorem fd6_3 : 6 < 10 ∧ 3 < nflds 6 ∧ isRefT (fldT 6 3) = true ∧ (fldN 6 3).2.2.2 = true := by decide +kernel
theorem fd6_4 : 6 < 10 ∧ 4 < nflds 6 ∧ isRefT (fldT 6 4) = true ∧ (fldN 6 4).2.2.2 = true := by decide +kernel
theorem fd6_5 : 6 < 10 ∧ 5 < nflds 6 ∧ isRefT (fldT 6 5) = true ∧ (fldN 6 5).2.2.2 = true := by decide +kernel
theorem fd6_6 : 6 < 10 ∧ 6 < nflds 6 ∧ isRefT (fldT 6 6) = true ∧ (fldN 6 6).2.2.2 = true := by decide +kernel
theorem fd6_7 : 6 < 10 ∧ 7 < nflds 6 ∧ isRefT (fldT 6 7) = true ∧ (fldN 6 7).2.2.2 = true := by decide +kernel
theorem fd6_8 : 6 < 10 ∧ 8 < nflds 6 ∧ isRefT (fldT 6 8) = true ∧ (fldN 6 8).2.2.2 = true := by decide +kernel
theorem fd6_9 : 6 < 10 ∧ 9 < nflds 6 ∧ isRefT (fldT 6 9) = true ∧ (fldN 6 9).2.2.2 = true := by decide +kernel
theorem fd6_10 : 6 < 10 ∧ 10 < nflds 6 ∧ isRefT (fldT 6 10) = false ∧ (fldN 6 10).2.2.2 = false ∧ fldT 6 10 = .int := by decide +kernel
theorem fd6_11 : 6 < 10 ∧ 11 < nflds 6 ∧ isRefT (fldT 6 11) = false ∧ (fldN 6 11).2.2.2 = false ∧ fldT 6 11 = .int := by decide +kernel
theorem fd6_12 : 6 < 10 ∧ 12 < nflds 6 ∧ isRefT (fldT 6 12) = false ∧ (fldN 6 12).2.2.2 = false ∧ fldT 6 12 = .int := by decide +kernel
theorem fd6_13 : 6 < 10 ∧ 13 < nflds 6 ∧ isRefT (fldT 6 13) = true ∧ (fldN 6 13).2.2.2 = false := by decide +kernel
theorem fd7_0 : 7 < 10 ∧ 0 < nflds 7 ∧ isRefT (fldT 7 0) = true ∧ (fldN 7 0).2.2.2 = true := by decide +kernel
theorem fd7_1 : 7 < 10 ∧ 1 < nflds 7 ∧ isRefT (fldT 7 1) = false ∧ (fldN 7 1).2.2.2 = false ∧ fldT 7 1 = .int := by decide +kernel
theorem fd7_2 : 7 < 10 ∧ 2 < nflds 7 ∧ isRefT (fldT 7 2) = false ∧ (fldN 7 2).2.2.2 = false ∧ fldT 7 2 = .int := by decide +kernel
theorem fd8_0 : 8 < 10 ∧ 0 < nflds 8 ∧ isRefT (fldT 8 0) = true ∧ (fldN 8 0).2.2.2 = true := by decide +kernel
theorem fd8_1 : 8 < 10 ∧ 1 < nflds 8 ∧ isRefT (fldT 8 1) = true ∧ (fldN 8 1).2.2.2 = true := by decide +kernel
theorem fd8_2 : 8 < 10 ∧ 2 < nflds 8 ∧ isRefT (fldT 8 2) = false ∧ (fldN 8 2).2.2.2 = false ∧ fldT 8 2 = .boolean := by decide +kernel
theorem fd8_3 : 8 < 10 ∧ 3 < nflds 8 ∧ isRefT (fldT 8 3) = true ∧ (fldN 8 3).2.2.2 = true := by decide +kernel
theorem fd8_4 : 8 < 10 ∧ 4 < nflds 8 ∧ isRefT (fldT 8 4) = true ∧ (fldN 8 4).2.2.2 = true := by decide +kernel
theorem fd8_5 : 8 < 10 ∧ 5 < nflds 8 ∧ isRefT (fldT 8 5) = false ∧ (fldN 8 5).2.2.2 = false ∧ fldT 8 5 = .int := by decide +kernel
theorem fd8_6 : 8 < 10 ∧ 6 < nflds 8 ∧ isRefT (fldT 8 6) = true ∧ (fldN 8 6).2.2.2 = true := by decide +kernel
theorem fd8_7 : 8 < 10 ∧ 7 < nflds 8 ∧ isRefT (fldT 8 7) = false ∧ (fldN 8 7).2.2.2 = false ∧ fldT 8 7 = .int := by decide +kernel
theorem fd8_8 : 8 < 10 ∧ 8 < nflds 8 ∧ isRefT (fldT 8 8) = true ∧ (fldN 8 8).2.2.2 = true := by decide +kernel
theorem fd8_9 : 8 < 10 ∧ 9 < nflds 8 ∧ isRefT (fldT 8 9) = true ∧ (fldN 8 9).2.2.2 = true := by decide +kernel
theorem fd8_10 : 8 < 10 ∧ 10 < nflds 8 ∧ isRefT (fldT 8 10) = true ∧ (fldN 8 10).2.2.2 = true := by decide +kernel
theorem fd8_11 : 8 < 10 ∧ 11 < nflds 8 ∧ isRefT (fldT 8 11) = true ∧ (fldN 8 11).2.2.2 = true := by decide +kernel
theorem fd9_0 : 9 < 10 ∧ 0 < nflds 9 ∧ isRefT (fldT 9 0) = false ∧ (fldN 9 0).2.2.2 = false ∧ fldT 9 0 = .int := by decide +kernel
theorem fd9_1 : 9 < 10 ∧ 1 < nflds 9 ∧ isRefT (fldT 9 1) = false ∧ (fldN 9 1).2.2.2 = false ∧ fldT 9 1 = .int := by decide +kernel
theorem fd9_2 : 9 < 10 ∧ 2 < nflds 9 ∧ isRefT (fldT 9 2) = false ∧ (fldN 9 2).2.2.2 = false ∧ fldT 9 2 = .int := by decide +kernel
theorem fd9_3 : 9 < 10 ∧ 3 < nflds 9 ∧ isRefT (fldT 9 3) = false ∧ (fldN 9 3).2.2.2 = false ∧ fldT 9 3 = .int := by decide +kernel
theorem fd9_4 : 9 < 10 ∧ 4 < nflds 9 ∧ isRefT (fldT 9 4) = false ∧ (fldN 9 4).2.2.2 = false ∧ fldT 9 4 = .int := by decide +kernel
theorem fd9_5 : 9 < 10 ∧ 5 < nflds 9 ∧ isRefT (fldT 9 5) = true ∧ (fldN 9 5).2.2.2 = true := by decide +kernel
theorem fd9_6 : 9 < 10 ∧ 6 < nflds 9 ∧ isRefT (fldT 9 6) = true ∧ (fldN 9 6).2.2.2 = true := by decide +kernel
theorem fd9_7 : 9 < 10 ∧ 7 < nflds 9 ∧ isRefT (fldT 9 7) = true ∧ (fldN 9 7).2.2.2 = true := by decide +kernel
theorem fd9_8 : 9 < 10 ∧ 8 < nflds 9 ∧ isRefT (fldT 9 8) = true ∧ (fldN 9 8).2.2.2 = true := by decide +kernel
theorem fd9_9 : 9 < 10 ∧ 9 < nflds 9 ∧ isRefT (fldT 9 9) = true ∧ (fldN 9 9).2.2.2 = true := by decide +kernel
theorem fd9_10 : 9 < 10 ∧ 10 < nflds 9 ∧ isRefT (fldT 9 10) = false ∧ (fldN 9 10).2.2.2 = false ∧ fldT 9 10 = .int := by decide +kernel
theorem fd9_11 : 9 < 10 ∧ 11 < nflds 9 ∧ isRefT (fldT 9 11) = false ∧ (fldN 9 11).2.2.2 = false ∧ fldT 9 11 = .int := by decide +kernel
theorem fd9_12 : 9 < 10 ∧ 12 < nflds 9 ∧ isRefT (fldT 9 12) = false ∧ (fldN 9 12).2.2.2 = false ∧ fldT 9 12 = .int := by decide +kernel
theorem fd9_13 : 9 < 10 ∧ 13 < nflds 9 ∧ isRefT (fldT 9 13) = false ∧ (fldN 9 13).2.2.2 = false ∧ fldT 9 13 = .int := by decide +kernel
theorem fd9_14 : 9 < 10 ∧ 14 < nflds 9 ∧ isRefT (fldT 9 14) = false ∧ (fldN 9 14).2.2.2 = false ∧ fldT 9 14 = .int := by decide +kernel
theorem fd9_15 : 9 < 10 ∧ 15 < nflds 9 ∧ isRefT (fldT 9 15) = true ∧ (fldN 9 15).2.2.2 = true := by decide +kernel
theorem fd9_16 : 9 < 10 ∧ 16 < nflds 9 ∧ isRefT (fldT 9 16) = true ∧ (fldN 9 16).2.2.2 = true := by decide +kernel
theorem fd9_17 : 9 < 10 ∧ 17 < nflds 9 ∧ isRefT (fldT 9 17) = true ∧ (fldN 9 17).2.2.2 = true := by decide +kernel
theorem fd9_18 : 9 < 10 ∧ 18 < nflds 9 ∧ isRefT (fldT 9 18) = true ∧ (fldN 9 18).2.2.2 = true := by decide +kernel
theorem fd9_19 : 9 < 10 ∧ 19 < nflds 9 ∧ isRefT (fldT 9 19) = true ∧ (fldN 9 19).2.2.2 = true := by decide +kernel
theorem fd9_20 : 9 < 10 ∧ 20 < nflds 9 ∧ isRefT (fldT 9 20) = true ∧ (fldN 9 20).2.2.2 = true := by decide +kernel
theorem fd9_21 : 9 < 10 ∧ 21 < nflds 9 ∧ isRefT (fldT 9 21) = true ∧ (fldN 9 21).2.2.2 = true := by decide +kernel
theorem fd9_22 : 9 < 10 ∧ 22 < nflds 9 ∧ isRefT (fldT 9 22) = true ∧ (fldN 9 22).2.2.2 = true := by decide +kernel
theorem fd9_23 : 9 < 10 ∧ 23 < nflds 9 ∧ isRefT (fldT 9 23) = false ∧ (fldN 9 23).2.2.2 = false ∧ fldT 9 23 = .int := by decide +kernel
theorem fd9_24 : 9 < 10 ∧ 24 < nflds 9 ∧ isRefT (fldT 9 24) = false ∧ (fldN 9 24).2.2.2 = false ∧ fldT 9 24 = .int := by decide +kernel
theorem fd9_25 : 9 < 10 ∧ 25 < nflds 9 ∧ isRefT (fldT 9 25) = false ∧ (fldN 9 25).2.2.2 = false ∧ fldT 9 25 = .int := by decide +kernel
theorem fd9_26 : 9 < 10 ∧ 26 < nflds 9 ∧ isRefT (fldT 9 26) = true ∧ (fldN 9 26).2.2.2 = true := by decide +kernel
theorem fd9_27 : 9 < 10 ∧ 27 < nflds 9 ∧ isRefT (fldT 9 27) = true ∧ (fldN 9 27).2.2.2 = true := by decide +kernel
theorem fd9_28 : 9 < 10 ∧ 28 < nflds 9 ∧ isRefT (fldT 9 28) = true ∧ (fldN 9 28).2.2.2 = true := by decide +kernel
theorem fd9_29 : 9 < 10 ∧ 29 < nflds 9 ∧ isRefT (fldT 9 29) = false ∧ (fldN 9 29).2.2.2 = false ∧ fldT 9 29 = .int := by decide +kernel
theorem fd9_30 : 9 < 10 ∧ 30 < nflds 9 ∧ isRefT (fldT 9 30) = false ∧ (fldN 9 30).2.2.2 = false ∧ fldT 9 30 = .int := by decide +kernel
theorem fd9_31 : 9 < 10 ∧ 31 < nflds 9 ∧ isRefT (fldT 9 31) = false ∧ (fldN 9 31).2.2.2 = false ∧ fldT 9 31 = .int := by decide +kernel
theorem fd9_32 : 9 < 10 ∧ 32 < nflds 9 ∧ isRefT (fldT 9 32) = false ∧ (fldN 9 32).2.2.2 = false ∧ fldT 9 32 = .int := by decide +kernel
theorem fd9_33 : 9 < 10 ∧ 33 < nflds 9 ∧ isRefT (fldT 9 33) = false ∧ (fldN 9 33).2.2.2 = false ∧ fldT 9 33 = .int := by decide +kernel
theorem fd9_34 : 9 < 10 ∧ 34 < nflds 9 ∧ isRefT (fldT 9 34) = true ∧ (fldN 9 34).2.2.2 = true := by decide +kernel
theorem fd9_35 : 9 < 10 ∧ 35 < nflds 9 ∧ isRefT (fldT 9 35) = true ∧ (fldN 9 35).2.2.2 = true := by decide +kernel
theorem fd9_36 : 9 < 10 ∧ 36 < nflds 9 ∧ isRefT (fldT 9 36) = true ∧ (fldN 9 36).2.2.2 = true := by decide +kernel
theorem fd9_37 : 9 < 10 ∧ 37 < nflds 9 ∧ isRefT (fldT 9 37) = false ∧ (fldN 9 37).2.2.2 = false ∧ fldT 9 37 = .int := by decide +kernel
theorem fd9_38 : 9 < 10 ∧ 38 < nflds 9 ∧ isRefT (fldT 9 38) = false ∧ (fldN 9 38).2.2.2 = false ∧ fldT 9 38 = .int := by decide +kernel
theorem fd9_39 : 9 < 10 ∧ 39 < nflds 9 ∧ isRefT (fldT 9 39) = false ∧ (fldN 9 39).2.2.2 = false ∧ fldT 9 39 = .int := by decide +kernel
theorem fd9_40 : 9 < 10 ∧ 40 < nflds 9 ∧ isRefT (fldT 9 40) = true ∧ (fldN 9 40).2.2.2 = true := by decide +kernel
theorem fd9_41 : 9 < 10 ∧ 41 < nflds 9 ∧ isRefT (fldT 9 41) = true ∧ (fldN 9 41).2.2.2 = true := by decide +kernel
theorem fd9_42 : 9 < 10 ∧ 42 < nflds 9 ∧ isRefT (fldT 9 42) = true ∧ (fldN 9 42).2.2.2 = true := by decide +kernel
theorem fd9_43 : 9 < 10 ∧ 43 < nflds 9 ∧ isRefT (fldT 9 43) = true ∧ (fldN 9 43).2.2.2 = true := by decide +kernel
theorem fd9_44 : 9 < 10 ∧ 44 < nflds 9 ∧ isRefT (fldT 9 44) = false ∧ (fldN 9 44).2.2.2 = false ∧ fldT 9 44 = .int := by decide +kernel
theorem fd9_45 : 9 < 10 ∧ 45 < nflds 9 ∧ isRefT (fldT 9 45) = false ∧ (fldN 9 45).2.2.2 = false ∧ fldT 9 45 = .int := by decide +kernel
theorem fd9_46 : 9 < 10 ∧ 46 < nflds 9 ∧ isRefT (fldT 9 46) = true ∧ (fldN 9 46).2.2.2 = true := by decide +kernel
theorem fd9_47 : 9 < 10 ∧ 47 < nflds 9 ∧ isRefT (fldT 9 47) = true ∧ (fldN 9 47).2.2.2 = true := by decide +kernel
theorem fd9_48 : 9 < 10 ∧ 48 < nflds 9 ∧ isRefT (fldT 9 48) = true ∧ (fldN 9 48).2.2.2 = true := by decide +kernel
theorem fd9_49 : 9 < 10 ∧ 49 < nflds 9 ∧ isRefT (fldT 9 49) = true ∧ (fldN 9 49).2.2.2 = true := by decide +kernel
theorem fd9_50 : 9 < 10 ∧ 50 < nflds 9 ∧ isRefT (fldT 9 50) = false ∧ (fldN 9 50).2.2.2 = false ∧ fldT 9 50 = .boolean := by decide +kernel
theorem fd9_51 : 9 < 10 ∧ 51 < nflds 9 ∧ isRefT (fldT 9 51) = false ∧ (fldN 9 51).2.2.2 = false ∧ fldT 9 51 = .int := by decide +kernel
theorem fd9_52 : 9 < 10 ∧ 52 < nflds 9 ∧ isRefT (fldT 9 52) = false ∧ (fldN 9 52).2.2.2 = false ∧ fldT 9 52 = .int := by decide +kernel
theorem fd9_53 : 9 < 10 ∧ 53 < nflds 9 ∧ isRefT (fldT 9 53) = false ∧ (fldN 9 53).2.2.2 = false ∧ fldT 9 53 = .int := by decide +kernel
theorem fd9_54 : 9 < 10 ∧ 54 < nflds 9 ∧ isRefT (fldT 9 54) = false ∧ (fldN 9 54).2.2.2 = false ∧ fldT 9 54 = .int := by decide +kernel
theorem fd9_55 : 9 < 10 ∧ 55 < nflds 9 ∧ isRefT (fldT 9 55) = false ∧ (fldN 9 55).2.2.2 = false ∧ fldT 9 55 = .int := by decide +kernel
theorem fd9_56 : 9 < 10 ∧ 56 < nflds 9 ∧ isRefT (fldT 9 56) = false ∧ (fldN 9 56).2.2.2 = false ∧ fldT 9 56 = .int := by decide +kernel
theorem fd9_57 : 9 < 10 ∧ 57 < nflds 9 ∧ isRefT (fldT 9 57) = false ∧ (fldN 9 57).2.2.2 = false ∧ fldT 9 57 = .int := by decide +kernel
theorem fd9_58 : 9 < 10 ∧ 58 < nflds 9 ∧ isRefT (fldT 9 58) = false ∧ (fldN 9 58).2.2.2 = false ∧ fldT 9 58 = .int := by decide +kernel
theorem fd9_59 : 9 < 10 ∧ 59 < nflds 9 ∧ isRefT (fldT 9 59) = false ∧ (fldN 9 59).2.2.2 = false ∧ fldT 9 59 = .int := by decide +kernel
theorem fd9_60 : 9 < 10 ∧ 60 < nflds 9 ∧ isRefT (fldT 9 60) = true ∧ (fldN 9 60).2.2.2 = true := by decide +kernel
theorem fd9_61 : 9 < 10 ∧ 61 < nflds 9 ∧ isRefT (fldT 9 61) = true ∧ (fldN 9 61).2.2.2 = true := by decide +kernel
theorem fd9_62 : 9 < 10 ∧ 62 < nflds 9 ∧ isRefT (fldT 9 62) = true ∧ (fldN 9 62).2.2.2 = true := by decide +kernel
theorem fd9_63 : 9 < 10 ∧ 63 < nflds 9 ∧ isRefT (fldT 9 63) = true ∧ (fldN 9 63).2.2.2 = true := by decide +kernel
theorem fd9_64 : 9 < 10 ∧ 64 < nflds 9 ∧ isRefT (fldT 9 64) = true ∧ (fldN 9 64).2.2.2 = true := by decide +kernel
theorem fd9_65 : 9 < 10 ∧ 65 < nflds 9 ∧ isRefT (fldT 9 65) = true ∧ (fldN 9 65).2.2.2 = true := by decide +kernel
theorem fd9_66 : 9 < 10 ∧ 66 < nflds 9 ∧ isRefT (fldT 9 66) = true ∧ (fldN 9 66).2.2.2 = true := by decide +kernel
theorem fd9_67 : 9 < 10 ∧ 67 < nflds 9 ∧ isRefT (fldT 9 67) = true ∧ (fldN 9 67).2.2.2 = true := by decide +kernel
theorem fd9_68 : 9 < 10 ∧ 68 < nflds 9 ∧ isRefT (fldT 9 68) = true ∧ (fldN 9 68).2.2.2 = true := by decide +kernel
theorem fd9_69 : 9 < 10 ∧ 69 < nflds 9 ∧ isRefT (fldT 9 69) = true ∧ (fldN 9 69).2.2.2 = true := by decide +kernel
theorem fd9_70 : 9 < 10 ∧ 70 < nflds 9 ∧ isRefT (fldT 9 70) = true ∧ (fldN 9 70).2.2.2 = true := by decide +kernel
theorem fd9_71 : 9 < 10 ∧ 71 < nflds 9 ∧ isRefT (fldT 9 71) = true ∧ (fldN 9 71).2.2.2 = true := by decide +kernel
theorem fd9_72 : 9 < 10 ∧ 72 < nflds 9 ∧ isRefT (fldT 9 72) = false ∧ (fldN 9 72).2.2.2 = false ∧ fldT 9 72 = .int := by decide +kernel
theorem fd9_73 : 9 < 10 ∧ 73 < nflds 9 ∧ isRefT (fldT 9 73) = true ∧ (fldN 9 73).2.2.2 = true := by decide +kernel
theorem fd9_74 : 9 < 10 ∧ 74 < nflds 9 ∧ isRefT (fldT 9 74) = true ∧ (fldN 9 74).2.2.2 = true := by decide +kernel
theorem fd9_75 : 9 < 10 ∧ 75 < nflds 9 ∧ isRefT (fldT 9 75) = true ∧ (fldN 9 75).2.2.2 = true := by decide +kernel
theorem fd9_76 : 9 < 10 ∧ 76 < nflds 9 ∧ isRefT (fldT 9 76) = true ∧ (fldN 9 76).2.2.2 = true := by decide +kernel
theorem fd9_77 : 9 < 10 ∧ 77 < nflds 9 ∧ isRefT (fldT 9 77) = true ∧ (fldN 9 77).2.2.2 = true := by decide +kernel
theorem w_oi : Cond.instanceMethod Lib.objectInit ∈ wsA := mT1 24 rfl rfl
theorem w_oc : Cond.code Lib.objectInit ⟨#[0xb1]⟩ 1 none ∈ wsA := mT1 25 rfl rfl
theorem w_mmaxs : Cond.static Lib.Math.max.name ∈ wsA := mT3 211 rfl rfl
theorem w_mmaxc : Cond.code Lib.Math.max.name Lib.Math.max.code 2 (some .int) ∈ wsA := mT3 212 rfl rfl
theorem w_mmins : Cond.static Lib.Math.min.name ∈ wsA := mT2 201 rfl rfl
theorem w_mminc : Cond.code Lib.Math.min.name Lib.Math.min.code 2 (some .int) ∈ wsA := mT2 202 rfl rfl
theorem w_acn : Cond.native arraycopyName ∈ wsA := mT3 136 rfl rfl
theorem w_acs : Cond.static arraycopyName ∈ wsA := mT3 135 rfl rfl
theorem w_ini_LeavesRoomLaw : Cond.initialized "LeavesRoomLaw" ∈ wsA := mT1 0 rfl rfl
theorem w_ini_LeavesRoom : Cond.initialized "LeavesRoom" ∈ wsA := mT1 1 rfl rfl
theorem w_ini_LeavesRoom_Reader : Cond.initialized "LeavesRoom$Reader" ∈ wsA := mT1 2 rfl rfl
theorem w_ini_LeavesRoom_Acts : Cond.initialized "LeavesRoom$Acts" ∈ wsA := mT1 3 rfl rfl
theorem w_ini_LeavesRoom_House : Cond.initialized "LeavesRoom$House" ∈ wsA := mT1 4 rfl rfl
theorem w_ini_LeavesRoom_Evening : Cond.initialized "LeavesRoom$Evening" ∈ wsA := mT1 5 rfl rfl
theorem w_ini_LeavesRoom_Rows : Cond.initialized "LeavesRoom$Rows" ∈ wsA := mT1 6 rfl rfl
theorem w_ini_LeavesRoom_Table : Cond.initialized "LeavesRoom$Table" ∈ wsA := mT1 7 rfl rfl
theorem w_ini_LeavesRoom_Placings : Cond.initialized "LeavesRoom$Placings" ∈ wsA := mT1 8 rfl rfl
theorem w_ini_LeavesRoom_Tape : Cond.initialized "LeavesRoom$Tape" ∈ wsA := mT1 9 rfl rfl
theorem w_ini_LeavesRoomModel : Cond.initialized "LeavesRoomModel" ∈ wsA := mT1 10 rfl rfl
theorem w_ini_java_lang_Integer : Cond.initialized "java/lang/Integer" ∈ wsA := mT1 11 rfl rfl
theorem w_ini_java_lang_Math : Cond.initialized "java/lang/Math" ∈ wsA := mT1 12 rfl rfl
theorem w_ini_java_lang_String : Cond.initialized "java/lang/String" ∈ wsA := mT1 13 rfl rfl
theorem w_ini_java_lang_StringLatin1 : Cond.initialized "java/lang/StringLatin1" ∈ wsA := mT1 14 rfl rfl
theorem w_ini_jdk_internal_util_Preconditions : Cond.initialized "jdk/internal/util/Preconditions" ∈ wsA := mT1 15 rfl rfl
theorem w_ini_java_lang_StringUTF16 : Cond.initialized "java/lang/StringUTF16" ∈ wsA := mT1 16 rfl rfl
theorem w_ini_java_lang_System : Cond.initialized "java/lang/System" ∈ wsA := mT1 17 rfl rfl
theorem w_ins_8 : Cond.instantiable (clsN 8) (nflds 8) ∈ wsA := mT1 19 rfl rfl
theorem w_ao_2 : Cond.arrayOver (.object (clsN 2)) ∈ nestW := nT1 27 rfl rfl
theorem w_ins_4 : Cond.instantiable (clsN 4) (nflds 4) ∈ wsA := mT1 29 rfl rfl
theorem w_ac_byte : Cond.arrayClass .byte ∈ wsA := mT1 50 rfl rfl
theorem w_ins_0 : Cond.instantiable (clsN 0) (nflds 0) ∈ wsA := mT1 52 rfl rfl
theorem w_ac_int : Cond.arrayClass .int ∈ wsA := mT1 75 rfl rfl
theorem w_ao_7 : Cond.arrayOver (.object (clsN 7)) ∈ nestW := nT1 77 rfl rfl
theorem w_ins_2 : Cond.instantiable (clsN 2) (nflds 2) ∈ wsA := mT1 78 rfl rfl
theorem w_ins_1 : Cond.instantiable (clsN 1) (nflds 1) ∈ wsA := mT1 116 rfl rfl
theorem w_ins_5 : Cond.instantiable (clsN 5) (nflds 5) ∈ wsA := mT1 122 rfl rfl
theorem w_ins_6 : Cond.instantiable (clsN 6) (nflds 6) ∈ wsA := mT1 148 rfl rfl
theorem w_ac_boolean : Cond.arrayClass .boolean ∈ wsA := mT1 211 rfl rfl
theorem w_ins_3 : Cond.instantiable (clsN 3) (nflds 3) ∈ wsA := mT1 232 rfl rfl
theorem w_ins_7 : Cond.instantiable (clsN 7) (nflds 7) ∈ wsA := mT2 19 rfl rfl
theorem w_ac_long : Cond.arrayClass .long ∈ wsA := mT2 36 rfl rfl
theorem w_ins_9 : Cond.instantiable (clsN 9) (nflds 9) ∈ wsA := mT4 124 rfl rfl
theorem nmh_RJ0 : RJ0 ≠ "java/lang/invoke/MethodHandle" ∧ RJ0 ≠ "java/lang/invoke/VarHandle" := by decide +kernel
theorem nmh_RJ1 : RJ1 ≠ "java/lang/invoke/MethodHandle" ∧ RJ1 ≠ "java/lang/invoke/VarHandle" := by decide +kernel
theorem nmh_RJ2 : RJ2 ≠ "java/lang/invoke/MethodHandle" ∧ RJ2 ≠ "java/lang/invoke/VarHandle" := by decide +kernel
theorem nmh_RJ3 : RJ3 ≠ "java/lang/invoke/MethodHandle" ∧ RJ3 ≠ "java/lang/invoke/VarHandle" := by decide +kernel
theorem nmh_RJ6 : RJ6 ≠ "java/lang/invoke/MethodHandle" ∧ RJ6 ≠ "java/lang/invoke/VarHandle" := by decide +kernel
theorem nmh_RJ9 : RJ9 ≠ "java/lang/invoke/MethodHandle" ∧ RJ9 ≠ "java/lang/invoke/VarHandle" := by decide +kernel
theorem nmh_RL : RL ≠ "java/lang/invoke/MethodHandle" ∧ RL ≠ "java/lang/invoke/VarHandle" := by decide +kernel
theorem nmh_RX0 : RX0 ≠ "java/lang/invoke/MethodHandle" ∧ RX0 ≠ "java/lang/invoke/VarHandle" := by decide +kernel
theorem nmh_RX1 : RX1 ≠ "java/lang/invoke/MethodHandle" ∧ RX1 ≠ "java/lang/invoke/VarHandle" := by decide +kernel
theorem nmh_RX2 : RX2 ≠ "java/lang/invoke/MethodHandle" ∧ RX2 ≠ "java/lang/invoke/VarHandle" := by decide +kernel
theorem nmh_RX3 : RX3 ≠ "java/lang/invoke/MethodHandle" ∧ RX3 ≠ "java/lang/invoke/VarHandle" := by decide +kernel
theorem nmh_RX4 : RX4 ≠ "java/lang/invoke/MethodHandle" ∧ RX4 ≠ "java/lang/invoke/VarHandle" := by decide +kernel
theorem nmh_RX5 : RX5 ≠ "java/lang/invoke/MethodHandle" ∧ RX5 ≠ "java/lang/invoke/VarHandle" := by decide +kernel
theorem nmh_RX6 : RX6 ≠ "java/lang/invoke/MethodHandle" ∧ RX6 ≠ "java/lang/invoke/VarHandle" := by decide +kernel
theorem nmh_RX7 : RX7 ≠ "java/lang/invoke/MethodHandle" ∧ RX7 ≠ "java/lang/invoke/VarHandle" := by decide +kernel
theorem nmh_RX8 : RX8 ≠ "java/lang/invoke/MethodHandle" ∧ RX8 ≠ "java/lang/invoke/VarHandle" := by decide +kernel
theorem nmh_RX9 : RX9 ≠ "java/lang/invoke/MethodHandle" ∧ RX9 ≠ "java/lang/invoke/VarHandle" := by decide +kernel
