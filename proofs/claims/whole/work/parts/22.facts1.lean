/-! FACTS of the program: words, tables of its methods, what is checked of each entry -/
def ws0 : List Cond := lw_tbl.filter goodWord
theorem w0m (i : Nat) {w : Cond} (h : lw_tbl[i]? = some w) (hg : goodWord w = true) : w ∈ ws0 := List.mem_filter.mpr ⟨List.mem_of_getElem? h, hg⟩
def nws : List Cond := [.fieldLinkNest "OneNote$Errand" 59 "OneNote$Valley" "doors" "[I" "OneNote", .fieldLinkNest "OneNote$Rumour" 44 "OneNote$Valley" "hearing" "[I" "OneNote", .fieldLinkNest "OneNote$Choir" 23 "OneNote$Valley" "kinds" "[I" "OneNote", .fieldLinkNest "OneNote$Choir" 18 "OneNote$Valley" "births" "[I" "OneNote", .fieldLinkNest "OneNote$Chant" 35 "OneNote$Valley" "births" "[I" "OneNote", .fieldLinkNest "OneNote$Rumour" 27 "OneNote$Valley" "places" "[I" "OneNote", .fieldLinkNest "OneNote$Errand" 62 "OneNote$Valley" "places" "[I" "OneNote", .fieldLinkNest "OneNote$Choir" 32 "OneNote$Valley" "spouses" "[I" "OneNote", .fieldLinkNest "OneNote$Rumour" 22 "OneNote$Valley" "people" "I" "OneNote", .fieldLinkNest "OneNote$Errand" 29 "OneNote$Valley" "people" "I" "OneNote", .fieldLinkNest "OneNote$Chant" 30 "OneNote$Valley" "people" "I" "OneNote", .fieldLinkNest "OneNote" 290 "OneNote$Valley" "people" "I" "OneNote", .fieldLinkNest "OneNote$Fog" 48 "OneNote$Valley" "chordNotes" "[I" "OneNote", .fieldLinkNest "OneNote$Choir" 68 "OneNote$Valley" "chordNotes" "[I" "OneNote", .fieldLinkNest "OneNote" 181 "OneNote$Valley" "chordNotes" "[I" "OneNote", .fieldLinkNest "OneNote$Guess" 42 "OneNote$Valley" "uses" "[I" "OneNote", .fieldLinkNest "OneNote$Fog" 33 "OneNote$Valley" "chords" "I" "OneNote", .fieldLinkNest "OneNote$Guess" 39 "OneNote$Valley" "chords" "I" "OneNote", .fieldLinkNest "OneNote$Choir" 74 "OneNote$Valley" "chords" "I" "OneNote", .fieldLinkNest "OneNote" 293 "OneNote$Valley" "chords" "I" "OneNote", .fieldLinkNest "OneNote$Choir" 46 "OneNote$Valley" "looseness" "I" "OneNote", .fieldLinkNest "OneNote" 296 "OneNote$Valley" "speechLength" "I" "OneNote", .fieldLinkNest "OneNote$Guess" 31 "OneNote$Valley" "holes" "[I" "OneNote", .fieldLinkNest "OneNote" 214 "OneNote$Valley" "holes" "[I" "OneNote", .fieldLinkNest "OneNote$Guess" 25 "OneNote$Valley" "holeCount" "I" "OneNote", .fieldLinkNest "OneNote" 299 "OneNote$Valley" "holeCount" "I" "OneNote", .fieldLinkNest "OneNote" 302 "OneNote$Text" "length" "I" "OneNote", .fieldLinkNest "OneNote" 257 "OneNote$Fraction" "above" "J" "OneNote", .fieldLinkNest "OneNote" 261 "OneNote$Fraction" "below" "J" "OneNote", .fieldLinkNest "OneNote" 168 "OneNote$Errand" "steps" "I" "OneNote", .fieldLinkNest "OneNote" 172 "OneNote$Errand" "room" "I" "OneNote", .fieldLinkNest "OneNote" 175 "OneNote$Errand" "set" "I" "OneNote", .methodLinkNest "OneNote$Valley" 63 ⟨"OneNote", "isRoom", "(I)Z"⟩ "OneNote"]
def YT : List MethodName := [yJ6_bitCount_0f7a4, yJ7_fill_53178, yJ7_fill_d0a16, yJ3_checkIndex_8e157, yJ0_length_8abf5, yJ0_coder_7d493, yJ0_charAt_5068e, yJ0_isLatin1_aae02, yJ0_checkIndex_df160, yJ1_charAt_3b067, yX6_isNote, yX6_raised, yX6_near, yX6_filledByOneMore, yX6_isWholeChord, yX9_addDoor, yX9_join, yX9_addHearing, yX9_addPerson, yX9_addMates, yX9_isPerson, yX9_move, yX9_addChord, yX9_hasChordOf, yX9_changeSlack, yX9_isMember, yX9_isSet, yX9_becomeEmpty, yX9_copyAll, yX9_copyPeople, yX9_isChord, yX9_peopleIn, yX9_hasDoor, yX9_addToSpeech, yX9_endSpeech, yX9_chordsOfSpeech, yX9_addHole, yX9_endHoles, yX9_isHole, yX9_chordsWith, yX9_wed, yX9_freeSpouseOf, yX9_digestOn, yX9_digestOfRooms, yX4_become, yX4_commonDivisor, yX1_notesOf, yX1_isMateIn, yX1_canSay, yX1_gather, yX1_fillsAll, yX1_chordsOf, yX1_smallestSet, yX1_canSayAll, yX1_blockers, yX1_setsSwungBy, yX1_bestCouple, yX2_seek, yX2_measure, yX2_spreadOnce, yX2_nearestRoom, yX2_stepsTo, yX2_isBetter, yX3_confuses, yX3_leastToGo, yX3_findRivals, yX3_isClear, yX7_spread, yX7_nextRoom, yX7_costBy, yX7_sentFrom, yX7_roomOfRow, yX5_countRows, yX5_sumRows, yX5_weighRows, yX0_learn, yX0_findNeighbours, yX0_ordersFrom, yX0_ordersAmong, yX0_orders, yX0_placeInFirst, yX0_leastBeginning, yX8_append, yX8_erase, yX8_tellTo, yX8_readToken, yX8_isLetter, yX8_readWord, yX8_wordOf, yX8_isTokenWord, yX8_isFigure, yX8_readNumber, yX8_readItem, yX8_tellItem, yX10_door, yX10_isRoom, yX10_told, yX10_hears, yX10_one, yX10_mates, yX10_goes, yX10_chord, yX10_slack, yX10_sounds, yX10_type, yX10_clear, yX10_read, yX10_says, yX10_said, yX10_byDoor, yX10_fewest, yX10_speak, yX10_hush, yX10_fetch, yX10_inTime, yX10_taken, yX10_isFog, yX10_drop, yX10_news, yX10_badForRows, yX10_hole, yX10_whole, yX10_meant, yX10_ways, yX10_odds, yX10_block, yX10_swing, yX10_song, yX10_couple, yX10_part, yX10_image, yX10_isImage, yX10_from, yX10_status, yX10_count, yX10_amount, yX10_digest, yX11_door, yX11_tie, yX11_isRoom, yX11_in, yX11_told, yX11_hears, yX11_one, yX11_addOne, yX11_mates, yX11_addMates, yX11_isOne, yX11_goes, yX11_chord, yX11_addChord, yX11_slack, yX11_setSlack, yX11_sounds, yX11_isSet, yX11_has, yX11_soundsOf, yX11_turned, yX11_type, yX11_clear, yX11_read, yX11_isEnd, yX11_takeItem, yX11_takeWord, yX11_wordOf, yX11_numbersOf, yX11_takeNumber, yX11_tellItem, yX11_copy, yX11_says, yX11_isChord, yX11_doesSay, yX11_reachOf, yX11_ones, yX11_said, yX11_setIn, yX11_saidBy, yX11_byDoor, yX11_fewest, yX11_speak, yX11_hush, yX11_fetch, yX11_fetchBy, yX11_measure, yX11_stepsOf, yX11_inTime, yX11_taken, yX11_areTaken, yX11_noteOf, yX11_areNear, yX11_drop, yX11_news, yX11_findCosts, yX11_costOn, yX11_hole, yX11_whole, yX11_meant, yX11_isHole, yX11_meantBy, yX11_ways, yX11_rows, yX11_odds, yX11_share, yX11_block, yX11_swing, yX11_song, yX11_findOrders, yX11_couple, yX11_divorce, yX11_part, yX11_image, yX11_from, yX11_status, yX11_count, yX11_countOf, yX11_digest, yX11_mix, yX11_mixAll, yL_law]
def BT : List ByteArray := [cJ6_bitCount_0f7a4, cJ7_fill_53178, cJ7_fill_d0a16, cJ3_checkIndex_8e157, cJ0_length_8abf5, cJ0_coder_7d493, cJ0_charAt_5068e, cJ0_isLatin1_aae02, cJ0_checkIndex_df160, cJ1_charAt_3b067, cX6_isNote, cX6_raised, cX6_near, cX6_filledByOneMore, cX6_isWholeChord, cX9_addDoor, cX9_join, cX9_addHearing, cX9_addPerson, cX9_addMates, cX9_isPerson, cX9_move, cX9_addChord, cX9_hasChordOf, cX9_changeSlack, cX9_isMember, cX9_isSet, cX9_becomeEmpty, cX9_copyAll, cX9_copyPeople, cX9_isChord, cX9_peopleIn, cX9_hasDoor, cX9_addToSpeech, cX9_endSpeech, cX9_chordsOfSpeech, cX9_addHole, cX9_endHoles, cX9_isHole, cX9_chordsWith, cX9_wed, cX9_freeSpouseOf, cX9_digestOn, cX9_digestOfRooms, cX4_become, cX4_commonDivisor, cX1_notesOf, cX1_isMateIn, cX1_canSay, cX1_gather, cX1_fillsAll, cX1_chordsOf, cX1_smallestSet, cX1_canSayAll, cX1_blockers, cX1_setsSwungBy, cX1_bestCouple, cX2_seek, cX2_measure, cX2_spreadOnce, cX2_nearestRoom, cX2_stepsTo, cX2_isBetter, cX3_confuses, cX3_leastToGo, cX3_findRivals, cX3_isClear, cX7_spread, cX7_nextRoom, cX7_costBy, cX7_sentFrom, cX7_roomOfRow, cX5_countRows, cX5_sumRows, cX5_weighRows, cX0_learn, cX0_findNeighbours, cX0_ordersFrom, cX0_ordersAmong, cX0_orders, cX0_placeInFirst, cX0_leastBeginning, cX8_append, cX8_erase, cX8_tellTo, cX8_readToken, cX8_isLetter, cX8_readWord, cX8_wordOf, cX8_isTokenWord, cX8_isFigure, cX8_readNumber, cX8_readItem, cX8_tellItem, cX10_door, cX10_isRoom, cX10_told, cX10_hears, cX10_one, cX10_mates, cX10_goes, cX10_chord, cX10_slack, cX10_sounds, cX10_type, cX10_clear, cX10_read, cX10_says, cX10_said, cX10_byDoor, cX10_fewest, cX10_speak, cX10_hush, cX10_fetch, cX10_inTime, cX10_taken, cX10_isFog, cX10_drop, cX10_news, cX10_badForRows, cX10_hole, cX10_whole, cX10_meant, cX10_ways, cX10_odds, cX10_block, cX10_swing, cX10_song, cX10_couple, cX10_part, cX10_image, cX10_isImage, cX10_from, cX10_status, cX10_count, cX10_amount, cX10_digest, cX11_door, cX11_tie, cX11_isRoom, cX11_in, cX11_told, cX11_hears, cX11_one, cX11_addOne, cX11_mates, cX11_addMates, cX11_isOne, cX11_goes, cX11_chord, cX11_addChord, cX11_slack, cX11_setSlack, cX11_sounds, cX11_isSet, cX11_has, cX11_soundsOf, cX11_turned, cX11_type, cX11_clear, cX11_read, cX11_isEnd, cX11_takeItem, cX11_takeWord, cX11_wordOf, cX11_numbersOf, cX11_takeNumber, cX11_tellItem, cX11_copy, cX11_says, cX11_isChord, cX11_doesSay, cX11_reachOf, cX11_ones, cX11_said, cX11_setIn, cX11_saidBy, cX11_byDoor, cX11_fewest, cX11_speak, cX11_hush, cX11_fetch, cX11_fetchBy, cX11_measure, cX11_stepsOf, cX11_inTime, cX11_taken, cX11_areTaken, cX11_noteOf, cX11_areNear, cX11_drop, cX11_news, cX11_findCosts, cX11_costOn, cX11_hole, cX11_whole, cX11_meant, cX11_isHole, cX11_meantBy, cX11_ways, cX11_rows, cX11_odds, cX11_share, cX11_block, cX11_swing, cX11_song, cX11_findOrders, cX11_couple, cX11_divorce, cX11_part, cX11_image, cX11_from, cX11_status, cX11_count, cX11_countOf, cX11_digest, cX11_mix, cX11_mixAll, cL_law]
def RT : List (Option FieldType) := [(some .int), none, none, (some .int), (some .int), (some .byte), (some .char), (some .boolean), none, (some .char), (some .boolean), (some .int), (some .int), (some .int), (some .boolean), (some .int), (some .int), (some .int), (some .int), (some .int), (some .boolean), (some .int), (some .int), (some .boolean), (some .int), (some .boolean), (some .boolean), none, none, none, (some .boolean), (some .int), (some .boolean), (some .int), (some .int), (some .int), (some .int), (some .int), (some .boolean), (some .int), none, none, (some .long), (some .long), none, (some .long), (some .int), (some .boolean), (some .boolean), none, (some .boolean), (some .int), (some .int), (some .boolean), (some .int), (some .int), (some .int), (some .boolean), none, (some .int), (some .int), (some .int), (some .boolean), (some .boolean), (some .int), none, (some .boolean), none, (some .int), (some .int), (some .int), (some .int), (some .int), (some .long), (some .long), none, none, (some .int), (some .int), (some .int), (some .int), (some .int), (some .int), (some .int), (some .int), none, (some .boolean), none, (some (.object "java/lang/String")), (some .boolean), (some .boolean), none, (some .boolean), (some .int), (some .int), (some .boolean), (some .int), (some .int), (some .int), (some .int), (some .int), (some .int), (some .int), (some .int), (some .int), (some .int), (some .int), (some .int), (some .int), (some .int), (some .int), (some .int), (some .int), (some .int), (some .int), (some .int), (some .boolean), (some .int), (some .int), (some .int), (some .int), (some .int), (some .int), (some .int), (some .int), (some .int), (some .int), (some .int), (some .int), (some .long), (some .int), (some .boolean), (some .int), (some .int), (some .int), (some .int), (some .long), (some .int), (some .int), (some .boolean), (some .boolean), (some .int), (some .int), (some .int), (some .int), (some .int), (some .int), (some .boolean), (some .int), (some .int), (some .int), (some .int), (some .int), (some .int), (some .boolean), (some .boolean), (some .int), (some .int), (some .int), (some .int), (some .int), (some .boolean), none, (some .int), (some .int), (some .int), (some .int), (some .int), none, (some .int), (some .boolean), (some .boolean), (some .int), (some .int), (some .int), (some .int), (some .int), (some .int), (some .int), (some .int), (some .int), (some .int), none, none, (some .int), (some .int), (some .int), (some .boolean), (some .int), (some .boolean), (some .int), (some .int), none, (some .int), (some .int), (some .int), (some .int), (some .boolean), (some .int), (some .int), (some .long), (some .int), (some .int), (some .int), (some .int), (some .int), none, (some .int), none, (some .long), (some .int), (some .int), (some .int), (some .int), (some .int), (some .long), none, none, (some .boolean)]
def FT : List Nat := [0, 0, 0, 0, 1, 0, 3, 0, 1, 2, 0, 0, 1, 0, 0, 2, 1, 2, 1, 1, 0, 1, 1, 0, 0, 1, 0, 1, 2, 1, 0, 0, 0, 1, 0, 0, 1, 0, 0, 0, 2, 1, 1, 0, 1, 0, 1, 0, 3, 2, 1, 3, 4, 3, 4, 4, 4, 4, 1, 0, 1, 0, 1, 2, 4, 3, 0, 2, 1, 0, 0, 2, 2, 1, 2, 3, 2, 1, 0, 1, 2, 0, 0, 0, 8, 6, 0, 5, 0, 4, 0, 1, 7, 3, 3, 0, 0, 3, 2, 2, 2, 2, 1, 2, 1, 1, 9, 4, 4, 4, 5, 2, 1, 5, 5, 3, 0, 5, 3, 0, 2, 1, 1, 3, 3, 5, 5, 4, 5, 1, 3, 0, 3, 0, 1, 0, 2, 3, 2, 1, 0, 0, 3, 3, 2, 3, 2, 1, 2, 2, 1, 2, 1, 2, 1, 0, 1, 0, 1, 0, 4, 0, 2, 1, 0, 0, 1, 3, 0, 4, 1, 3, 2, 0, 5, 0, 4, 5, 4, 2, 0, 6, 5, 0, 1, 6, 3, 2, 1, 0, 3, 3, 2, 1, 1, 0, 2, 1, 0, 2, 1, 2, 0, 4, 4, 2, 1, 5, 0, 1, 1, 1, 1, 1, 0, 2, 0, 1, 10]
def LT : List Nat := [0, 0, 0, 0, 20, 0, 64, 0, 22, 43, 0, 0, 21, 0, 0, 42, 20, 42, 20, 21, 0, 21, 22, 0, 0, 21, 0, 23, 47, 26, 0, 0, 0, 21, 0, 0, 20, 0, 0, 0, 43, 21, 26, 0, 30, 0, 21, 0, 67, 44, 27, 67, 90, 67, 90, 90, 91, 91, 27, 0, 27, 0, 20, 44, 93, 69, 0, 47, 22, 0, 0, 47, 57, 24, 57, 69, 44, 24, 0, 24, 44, 0, 0, 0, 169, 128, 0, 107, 0, 85, 0, 20, 148, 64, 64, 0, 0, 64, 43, 43, 44, 48, 22, 44, 24, 21, 192, 90, 91, 91, 117, 42, 21, 119, 119, 69, 0, 118, 72, 0, 41, 21, 23, 78, 80, 116, 119, 94, 120, 21, 68, 0, 68, 0, 21, 0, 51, 69, 45, 25, 0, 0, 69, 70, 45, 70, 47, 25, 47, 53, 25, 48, 25, 48, 25, 0, 22, 0, 25, 0, 94, 0, 49, 25, 0, 0, 25, 70, 0, 103, 25, 77, 48, 0, 127, 0, 103, 127, 103, 46, 0, 153, 127, 0, 21, 153, 72, 45, 21, 0, 72, 71, 46, 23, 25, 0, 46, 25, 0, 54, 23, 54, 0, 103, 103, 50, 23, 127, 0, 21, 25, 25, 25, 25, 0, 45, 0, 22, 213]
def NT : List Nat := [1, 2, 2, 3, 0, 0, 1, 0, 2, 2, 1, 2, 2, 3, 1, 2, 3, 2, 3, 2, 1, 2, 4, 1, 1, 2, 1, 0, 1, 1, 1, 1, 2, 1, 0, 0, 1, 0, 1, 1, 2, 1, 1, 1, 2, 2, 3, 2, 3, 2, 1, 2, 3, 3, 3, 4, 3, 3, 1, 4, 3, 4, 3, 3, 2, 2, 1, 2, 2, 1, 1, 3, 1, 4, 3, 3, 2, 2, 2, 0, 1, 2, 2, 0, 1, 0, 1, 0, 1, 1, 1, 0, 0, 1, 2, 1, 1, 2, 3, 2, 2, 4, 1, 2, 2, 0, 0, 2, 1, 2, 2, 1, 0, 1, 1, 3, 1, 1, 3, 0, 1, 0, 1, 0, 2, 2, 3, 3, 1, 1, 1, 1, 1, 1, 1, 1, 0, 2, 4, 1, 3, 1, 2, 3, 4, 2, 3, 2, 2, 4, 5, 1, 2, 2, 1, 2, 3, 2, 2, 0, 0, 0, 0, 0, 1, 1, 0, 1, 2, 2, 1, 3, 4, 1, 1, 1, 2, 2, 2, 1, 0, 1, 1, 0, 3, 1, 3, 3, 2, 3, 1, 3, 1, 3, 1, 0, 1, 1, 1, 0, 3, 2, 2, 2, 3, 3, 2, 1, 2, 1, 1, 1, 1, 1, 1, 0, 1, 2, 1]
/-- the class of the receiver, 200: a static method -/
def GT : List Nat := [200, 200, 200, 200, 98, 98, 98, 98, 200, 200, 200, 200, 200, 200, 200, 8, 200, 8, 8, 8, 8, 8, 8, 8, 8, 8, 8, 8, 8, 8, 8, 8, 8, 8, 8, 8, 8, 8, 8, 8, 8, 8, 8, 8, 4, 200, 200, 200, 1, 1, 1, 1, 1, 1, 1, 1, 1, 2, 2, 2, 2, 2, 2, 200, 3, 3, 3, 6, 6, 6, 6, 6, 5, 5, 5, 0, 0, 0, 0, 0, 0, 0, 7, 7, 7, 7, 200, 7, 200, 7, 200, 7, 7, 7, 9, 200, 9, 9, 9, 9, 9, 9, 9, 9, 9, 9, 9, 9, 9, 9, 9, 9, 9, 9, 9, 9, 200, 9, 9, 9, 9, 9, 9, 9, 9, 9, 9, 9, 9, 9, 9, 200, 9, 9, 9, 9, 9, 10, 10, 200, 200, 10, 10, 10, 10, 10, 10, 10, 10, 10, 10, 10, 10, 10, 10, 200, 10, 200, 10, 10, 10, 10, 10, 10, 200, 200, 10, 10, 10, 10, 10, 10, 10, 200, 10, 10, 10, 10, 10, 10, 10, 10, 10, 10, 10, 10, 10, 10, 10, 200, 10, 10, 10, 10, 10, 10, 10, 10, 10, 10, 10, 10, 10, 10, 10, 10, 10, 10, 10, 10, 10, 10, 10, 10, 10, 10, 10, 10, 200]
def yT (j : Nat) : MethodName := YT.getD j yL_law
def bT (j : Nat) : ByteArray := BT.getD j code
def rT (j : Nat) : Option FieldType := RT.getD j none
def rmT (j : Nat) : Room := { frames := FT.getD j 0, cells := 0, slots := 0, locals := LT.getD j 0 }
def wsT (j : Nat) : List Cond := .code (yT j) (bT j) (mxT j) (rT j) :: ws0
/-- the cells by number: a class, or 1000 and more an array (ints, longs, bytes, booleans, references) and its length -/
def shl : List Nat := [9, 8, 1006, 1006, 1007, 1007, 1007, 1007, 1008, 1008, 1006, 1006, 8, 1006, 1006, 1007, 1007, 1007, 1007, 1008, 1008, 1006, 1006, 5002, 8, 1006, 1006, 1007, 1007, 1007, 1007, 1008, 1008, 1006, 1006, 8, 1006, 1006, 1007, 1007, 1007, 1007, 1008, 1008, 1006, 1006, 7, 3200, 1004, 4, 1, 1007, 1007, 2, 1036, 3, 1008, 6, 1006, 5, 2008, 0, 1896, 1007, 10, 1560, 4002, 1200, 1003, 1040, 1160, 1007, 1036, 1008, 1006, 2008, 2008, 1896]
/-- the fields of a class: what (an int, a long, a reference), to which shape, how many cells on -/
def fdl (c : Nat) : List (Nat × Nat × Nat) := match c with
  | 0 => [(2, 1896, 1), (2, 1007, 2), (0, 0, 0)]
  | 1 => [(2, 1007, 1), (2, 1007, 2)]
  | 2 => [(2, 1036, 1), (0, 0, 0), (0, 0, 0), (0, 0, 0)]
  | 3 => [(2, 1008, 1)]
  | 4 => [(1, 0, 0), (1, 0, 0)]
  | 5 => [(2, 2008, 1)]
  | 6 => [(2, 1006, 1), (0, 0, 0), (0, 0, 0)]
  | 7 => [(2, 3200, 1), (0, 0, 0), (0, 0, 0), (0, 0, 0), (0, 0, 0), (0, 0, 0), (0, 0, 0), (2, 1004, 2)]
  | 8 => [(2, 1006, 1), (2, 1006, 2), (2, 1007, 3), (2, 1007, 4), (2, 1007, 5), (2, 1007, 6), (0, 0, 0), (2, 1008, 7), (2, 1008, 8), (0, 0, 0), (0, 0, 0), (2, 1006, 9), (0, 0, 0), (2, 1006, 10), (0, 0, 0)]
  | 9 => [(2, 8, 1), (2, 8, 12), (2, 5002, 23), (0, 0, 0), (2, 7, 46), (2, 4, 49), (0, 0, 0), (0, 0, 0), (0, 0, 0), (2, 1, 50), (2, 2, 53), (2, 3, 55), (2, 6, 57), (2, 5, 59), (2, 0, 61)]
  | _ => [(2, 1560, 1), (2, 4002, 2), (2, 1200, 3), (0, 0, 0), (1, 0, 0), (1, 0, 0), (2, 1003, 4), (2, 1040, 5), (2, 1160, 6), (0, 0, 0), (0, 0, 0), (0, 0, 0), (2, 1007, 7), (2, 1036, 8), (0, 0, 0), (0, 0, 0), (0, 0, 0), (2, 1008, 9), (2, 1006, 10), (2, 2008, 11), (2, 2008, 12), (2, 1896, 13), (1, 0, 0)]
def jsx (k : Nat) : Nat := [109, 111, 113, 115, 117, 119].getD k 0
def jtx (k : Nat) : String := ["door", "hears", "one", "mates", "chord", "slack"].getD k ""
def jkn (q : je) : Nat := q.2.2.2.1.headD 0
/-- what is checked of an entry by computing: its bytes, its constants, its places -/
def jck2 (mx : Nat) (rt : Option FieldType) (fr lo : Nat) (q : je) : Bool := match q.2.2.1 with
  | .iconst n => decide (Int32.ofInt n = q.2.2.2.2.1)
  | .bipush n => decide ((Int8.ofInt n).toInt32 = q.2.2.2.2.1)
  | .sipush n => decide ((Int16.ofInt n).toInt32 = q.2.2.2.2.1)
  | .lconst n => decide (Int64.ofNat (n : Nat) = q.2.2.2.2.2.1)
  | .istore i => decide (i < mx)
  | .istore_n i => decide ((i : Nat) < mx)
  | .lstore i => decide (i + 1 < mx)
  | .lstore_n i => decide ((i : Nat) + 1 < mx)
  | .iinc i n => decide (i < mx ∧ Int32.ofInt n = q.2.2.2.2.1)
  | .ldc _ => decide (jtg q.2.2.2.1 < 6)
  | .goto o => decide ((q.1 : Int) + o = (jtg q.2.2.2.1 : Int))
  | .ifCond _ o => decide ((q.1 : Int) + o = (jtg q.2.2.2.1 : Int))
  | .if_icmp _ o => decide ((q.1 : Int) + o = (jtg q.2.2.2.1 : Int))
  | .tableswitch d l h o => decide ((q.1 : Int) + d = (jtg q.2.2.2.1 : Int) ∧ h = l + (o.size : Int) - 1 ∧ -2147483648 ≤ l ∧ h < 2147483648 ∧ q.2.2.2.2.2.2 = (o.toList.zipIdx.map (fun x => (Int32.ofInt (l + (x.2 : Int)), ((q.1 : Int) + x.1).toNat))) ∧ o.toList.all (fun x => decide (0 ≤ (q.1 : Int) + x)) = true)
  | .getfield _ => (match q.2.2.2.1 with
    | [_, ci, sl, kd, tg, of] => if ci = 98 then decide ((kd = 3 ∧ tg = 95) ∨ (kd = 4 ∧ q.2.2.2.2.1 = 0)) else decide (ci < 11 ∧ kd < 3 ∧ (fdl ci)[sl]? = some (kd, tg, of))
    | _ => true)
  | .putfield _ => (match q.2.2.2.1 with
    | [_, ci, sl, kd] => decide (ci < 11 ∧ kd < 2 ∧ (fdl ci)[sl]? = some (kd, 0, 0))
    | _ => true)
  | .getstatic _ => (match q.2.2.2.1 with
    | [_, 0] => decide (q.2.2.2.2.1 = 1)
    | _ => true)
  | .invokevirtual _ => (match q.2.2.2.1 with
    | [_, j, n, rk, m2, tg] => decide (j < 218 ∧ m2 = mxT j ∧ FT.getD j 0 + 1 ≤ fr ∧ 8 + (mxT j + 11) + LT.getD j 0 ≤ lo ∧ n = NT.getD j 0 + 1 ∧ tg = GT.getD j 0 ∧ tg ≠ 200)
    | _ => false)
  | .invokestatic _ => (match q.2.2.2.1 with
    | [_, j, n, rk, m2, tg] => decide (j < 218 ∧ m2 = mxT j ∧ FT.getD j 0 + 1 ≤ fr ∧ 8 + (mxT j + 11) + LT.getD j 0 ≤ lo ∧ n = NT.getD j 0 ∧ tg = GT.getD j 0 ∧ tg = 200)
    | [_, _] => decide (1 ≤ fr ∧ 26 ≤ lo)
    | [_, _, _] => decide (1 ≤ fr ∧ 26 ≤ lo)
    | _ => true)
  | .ireturn => (match q.2.2.2.1, rt with
    | [_, 0], some .int => true
    | [_, 1], some .boolean => true
    | [_, 2], some .byte => true
    | [_, 3], some .char => true
    | _, _ => false)
  | .lreturn => decide (rt = some .long)
  | .areturn => decide (rt = some (.object "java/lang/String"))
  | .return_ => decide (rt = none)
  | _ => true
/-- an instruction's length, as the rows have it -/
def jln : Instr → Nat
  | .bipush _ | .iload _ | .lload _ | .aload _ | .istore _ | .lstore _ | .ldc _ => 2
  | .sipush _ | .ldc_w _ | .ldc2_w _ | .iinc _ _ | .goto _ | .ifCond _ _ | .if_icmp _ _ | .getfield _ | .putfield _ | .getstatic _ | .invokevirtual _ | .invokestatic _ => 3
  | _ => 1
def jisT : Instr → Bool
  | .tableswitch _ _ _ _ => true
  | _ => false
def jck (b : ByteArray) (mx : Nat) (rt : Option FieldType) (fr lo : Nat) (q : je) : Bool := decide (decode b q.1 = .ok (q.2.2.1, jkn q)) && ((jisT q.2.2.1 || decide (jkn q = jln q.2.2.1)) && jck2 mx rt fr lo q)
/-- the words of an entry -/
def jwf (own : String) (i ci sl : Nat) : Prop := ∃ (C : String) (T : u_T) (N : Nat), vwCl[ci]? = some (C, T, N) ∧ sl < N ∧ (T sl).1 = C ∧ (Cond.fieldLink own i C (T sl).2.1 (T sl).2.2.1 ∈ ws0 ∨ ∃ h, Cond.fieldLinkNest own i C (T sl).2.1 (T sl).2.2.1 h ∈ nws)
def jwp (own : String) (i ci sl kd : Nat) : Prop := ∃ (C : String) (T : u_T) (N : Nat), vwCl[ci]? = some (C, T, N) ∧ sl < N ∧ (T sl).1 = C ∧ (T sl).2.2.2 = false ∧ parseFieldDescriptor (T sl).2.2.1 = some (if kd = 0 then .int else .long) ∧ Cond.fieldLink own i C (T sl).2.1 (T sl).2.2.1 ∈ ws0
def jwo (own : String) (q : je) : Prop := match q.2.2.1 with
  | .getfield i => (match q.2.2.2.1 with
    | [_, 98, _, 3, _, _] => Cond.fieldLink own i "java/lang/String" "value" "[B" ∈ ws0
    | [_, 98, _, 4, _, _] => Cond.fieldLink own i "java/lang/String" "coder" "B" ∈ ws0
    | [_, ci, sl, _, _, _] => jwf own i ci sl
    | _ => True)
  | .putfield i => (match q.2.2.2.1 with
    | [_, ci, sl, kd] => jwp own i ci sl kd
    | _ => True)
  | .getstatic i => (match q.2.2.2.1 with
    | [_, 0] => Cond.fieldLink own i "java/lang/String" "COMPACT_STRINGS" "Z" ∈ ws0
    | [_, 1] => Cond.fieldLink own i "jdk/internal/util/Preconditions" "SIOOBE_FORMATTER" "Ljava/util/function/BiFunction;" ∈ ws0
    | [_, 2] => Cond.fieldLink own i "OneNote$Text" "NUMBERS_OF" "[I" ∈ ws0
    | _ => True)
  | .invokevirtual i => (match q.2.2.2.1 with
    | [_, j, _, _, _, _] => Cond.methodLink own i (yT j) ∈ ws0 ∨ ∃ h, Cond.methodLinkNest own i (yT j) h ∈ nws
    | _ => True)
  | .invokestatic i => (match q.2.2.2.1 with
    | [_, j, _, _, _, _] => Cond.methodLink own i (yT j) ∈ ws0 ∨ ∃ h, Cond.methodLinkNest own i (yT j) h ∈ nws
    | [_, _] => Cond.methodLink own i arraycopyName ∈ ws0
    | [_, _, _] => Cond.methodLink own i Lib.Math.min.name ∈ ws0
    | _ => True)
  | .ldc i => own = "OneNote$Text" ∧ i = jsx (jtg q.2.2.2.1)
  | .ldc_w i => Cond.constant own i q.2.2.2.2.1 ∈ ws0
  | .ldc2_w i => Cond.constantLong own i q.2.2.2.2.2.1 ∈ ws0
  | _ => True
theorem jwo_app {own : String} {a b : List je} (ha : ∀ q ∈ a, jwo own q) (hb : ∀ q ∈ b, jwo own q) : ∀ q ∈ a ++ b, jwo own q := fun q h => (List.mem_append.mp h).elim (ha q) (hb q)
/-- a method's own words -/
def jmo (j : Nat) : Prop := Cond.code (yT j) (bT j) (mxT j) (rT j) ∈ ws0 ∧ Cond.initialized (yT j).cls ∈ ws0 ∧ (yT j).cls ≠ "java/lang/invoke/MethodHandle" ∧ (yT j).cls ≠ "java/lang/invoke/VarHandle" ∧ plainName (yT j).cls = true ∧ (parseMethodDescriptor (yT j).desc).map (fun d => d.parameters.length) = some (NT.getD j 0) ∧ ((GT.getD j 0 = 200 ∧ Cond.static (yT j) ∈ ws0) ∨ (((GT.getD j 0 = 98 ∧ (yT j).cls = "java/lang/String") ∨ ∃ q : vw_C, vwCl[GT.getD j 0]? = some q ∧ q.1 = (yT j).cls ∧ GT.getD j 0 < 11) ∧ Cond.instanceMethod (yT j) ∈ ws0 ∧ Cond.selects (yT j).cls (yT j) (yT j) ∈ ws0))
def jfa (j : Nat) : Prop := jmo j ∧ ∀ q ∈ pfT j, jck (bT j) (mxT j) (rT j) (FT.getD j 0) (LT.getD j 0) q = true ∧ jwo (yT j).cls q

theorem wmin : Cond.methodLink "OneNote$Rumour" 38 Lib.Math.min.name ∈ ws0 ∧ Cond.static Lib.Math.min.name ∈ ws0 ∧ Cond.initialized "java/lang/Math" ∈ ws0 ∧ Cond.code Lib.Math.min.name Lib.Math.min.code 2 (some .int) ∈ ws0 := ⟨w0m 769 (by decide +kernel) rfl, w0m 770 (by decide +kernel) rfl, w0m 84 (by decide +kernel) rfl, w0m 771 (by decide +kernel) rfl⟩
theorem wcpy : Cond.native arraycopyName ∈ ws0 ∧ Cond.static arraycopyName ∈ ws0 ∧ Cond.initialized "java/lang/System" ∈ ws0 := ⟨w0m 585 (by decide +kernel) rfl, w0m 584 (by decide +kernel) rfl, w0m 82 (by decide +kernel) rfl⟩
