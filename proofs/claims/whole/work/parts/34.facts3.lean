theorem ck_0 : K0.all (jck cJ6_bitCount_0f7a4 1 (some .int) 0 0) = true := by decide +kernel
theorem ck_1 : K1.all (jck cJ7_fill_53178 4 none 0 0) = true := by decide +kernel
theorem ck_2 : K2.all (jck cJ7_fill_d0a16 5 none 0 0) = true := by decide +kernel
theorem ck_3 : K3.all (jck cJ3_checkIndex_8e157 3 (some .int) 0 0) = true := by decide +kernel
theorem ck_4 : K4.all (jck cJ0_length_8abf5 1 (some .int) 1 20) = true := by decide +kernel
theorem ck_5 : K5.all (jck cJ0_coder_7d493 1 (some .byte) 0 0) = true := by decide +kernel
theorem ck_6 : K6.all (jck cJ0_charAt_5068e 2 (some .char) 3 64) = true := by decide +kernel
theorem ck_7 : K7.all (jck cJ0_isLatin1_aae02 1 (some .boolean) 0 0) = true := by decide +kernel
theorem ck_8 : K8.all (jck cJ0_checkIndex_df160 2 none 1 22) = true := by decide +kernel
theorem ck_9 : K9.all (jck cJ1_charAt_3b067 2 (some .char) 2 43) = true := by decide +kernel
theorem ck_10 : K10.all (jck cX6_isNote 1 (some .boolean) 0 0) = true := by decide +kernel
theorem ck_11 : K11.all (jck cX6_raised 2 (some .int) 0 0) = true := by decide +kernel
theorem ck_12 : K12.all (jck cX6_near 4 (some .int) 1 21) = true := by decide +kernel
theorem ck_13 : K13.all (jck cX6_filledByOneMore 8 (some .int) 0 0) = true := by decide +kernel
theorem ck_14 : K14.all (jck cX6_isWholeChord 1 (some .boolean) 0 0) = true := by decide +kernel
theorem ck_15 : K15.all (jck cX9_addDoor 3 (some .int) 2 42) = true := by decide +kernel
theorem ck_16 : K16.all (jck cX9_join 3 (some .int) 1 20) = true := by decide +kernel
theorem ck_17 : K17.all (jck cX9_addHearing 3 (some .int) 2 42) = true := by decide +kernel
theorem ck_18 : K18.all (jck cX9_addPerson 4 (some .int) 1 20) = true := by decide +kernel
theorem ck_19 : K19.all (jck cX9_addMates 3 (some .int) 1 21) = true := by decide +kernel
theorem ck_20 : K20.all (jck cX9_isPerson 2 (some .boolean) 0 0) = true := by decide +kernel
theorem ck_21 : K21.all (jck cX9_move 4 (some .int) 1 21) = true := by decide +kernel
theorem ck_22 : K22.all (jck cX9_addChord 7 (some .int) 1 22) = true := by decide +kernel
theorem ck_23 : K23.all (jck cX9_hasChordOf 3 (some .boolean) 0 0) = true := by decide +kernel
theorem ck_24 : K24.all (jck cX9_changeSlack 3 (some .int) 0 0) = true := by decide +kernel
theorem ck_25 : K25.all (jck cX9_isMember 3 (some .boolean) 1 21) = true := by decide +kernel
theorem ck_26 : K26.all (jck cX9_isSet 2 (some .boolean) 0 0) = true := by decide +kernel
theorem ck_27 : K27.all (jck cX9_becomeEmpty 1 none 1 23) = true := by decide +kernel
theorem ck_28 : K28.all (jck cX9_copyAll 2 none 2 47) = true := by decide +kernel
theorem ck_29 : K29.all (jck cX9_copyPeople 2 none 1 26) = true := by decide +kernel
theorem ck_30 : K30.all (jck cX9_isChord 2 (some .boolean) 0 0) = true := by decide +kernel
theorem ck_31 : K31.all (jck cX9_peopleIn 4 (some .int) 0 0) = true := by decide +kernel
theorem ck_32 : K32.all (jck cX9_hasDoor 3 (some .boolean) 0 0) = true := by decide +kernel
theorem ck_33 : K33.all (jck cX9_addToSpeech 2 (some .int) 1 21) = true := by decide +kernel
theorem ck_34 : K34.all (jck cX9_endSpeech 2 (some .int) 0 0) = true := by decide +kernel
theorem ck_35 : K35.all (jck cX9_chordsOfSpeech 3 (some .int) 0 0) = true := by decide +kernel
theorem ck_36 : K36.all (jck cX9_addHole 2 (some .int) 1 20) = true := by decide +kernel
theorem ck_37 : K37.all (jck cX9_endHoles 2 (some .int) 0 0) = true := by decide +kernel
theorem ck_38 : K38.all (jck cX9_isHole 2 (some .boolean) 0 0) = true := by decide +kernel
theorem ck_39 : K39.all (jck cX9_chordsWith 4 (some .int) 0 0) = true := by decide +kernel
theorem ck_40 : K40.all (jck cX9_wed 3 none 2 43) = true := by decide +kernel
theorem ck_41 : K41.all (jck cX9_freeSpouseOf 3 none 1 21) = true := by decide +kernel
theorem ck_42 : K42.all (jck cX9_digestOn 6 (some .long) 1 26) = true := by decide +kernel
theorem ck_43 : K43.all (jck cX9_digestOfRooms 7 (some .long) 0 0) = true := by decide +kernel
theorem ck_44 : K44.all (jck cX4_become 7 none 1 30) = true := by decide +kernel
theorem ck_45 : K45.all (jck cX4_commonDivisor 11 (some .long) 0 0) = true := by decide +kernel
theorem ck_46 : K46.all (jck cX1_notesOf 4 (some .int) 1 21) = true := by decide +kernel
theorem ck_47 : K47.all (jck cX1_isMateIn 2 (some .boolean) 0 0) = true := by decide +kernel
theorem ck_48 : K48.all (jck cX1_canSay 4 (some .boolean) 3 67) = true := by decide +kernel
theorem ck_49 : K49.all (jck cX1_gather 4 none 2 44) = true := by decide +kernel
theorem ck_50 : K50.all (jck cX1_fillsAll 5 (some .boolean) 1 27) = true := by decide +kernel
theorem ck_51 : K51.all (jck cX1_chordsOf 5 (some .int) 3 67) = true := by decide +kernel
theorem ck_52 : K52.all (jck cX1_smallestSet 8 (some .int) 4 90) = true := by decide +kernel
theorem ck_53 : K53.all (jck cX1_canSayAll 5 (some .boolean) 3 67) = true := by decide +kernel
theorem ck_54 : K54.all (jck cX1_blockers 7 (some .int) 4 90) = true := by decide +kernel
theorem ck_55 : K55.all (jck cX1_setsSwungBy 10 (some .int) 4 90) = true := by decide +kernel
theorem ck_56 : K56.all (jck cX1_bestCouple 10 (some .int) 4 91) = true := by decide +kernel
theorem ck_57 : K57.all (jck cX2_seek 9 (some .boolean) 4 91) = true := by decide +kernel
theorem ck_58 : K58.all (jck cX2_measure 5 none 1 27) = true := by decide +kernel
theorem ck_59 : K59.all (jck cX2_spreadOnce 8 (some .int) 0 0) = true := by decide +kernel
theorem ck_60 : K60.all (jck cX2_nearestRoom 8 (some .int) 1 27) = true := by decide +kernel
theorem ck_61 : K61.all (jck cX2_stepsTo 8 (some .int) 0 0) = true := by decide +kernel
theorem ck_62 : K62.all (jck cX2_isBetter 4 (some .boolean) 1 20) = true := by decide +kernel
theorem ck_63 : K63.all (jck cX3_confuses 6 (some .boolean) 2 44) = true := by decide +kernel
theorem ck_64 : K64.all (jck cX3_leastToGo 6 (some .int) 4 93) = true := by decide +kernel
theorem ck_65 : K65.all (jck cX3_findRivals 5 none 3 69) = true := by decide +kernel
theorem ck_66 : K66.all (jck cX3_isClear 3 (some .boolean) 0 0) = true := by decide +kernel
theorem ck_67 : K67.all (jck cX7_spread 6 none 2 47) = true := by decide +kernel
theorem ck_68 : K68.all (jck cX7_nextRoom 6 (some .int) 1 22) = true := by decide +kernel
theorem ck_69 : K69.all (jck cX7_costBy 3 (some .int) 0 0) = true := by decide +kernel
theorem ck_70 : K70.all (jck cX7_sentFrom 2 (some .int) 0 0) = true := by decide +kernel
theorem ck_71 : K71.all (jck cX7_roomOfRow 6 (some .int) 2 47) = true := by decide +kernel
theorem ck_72 : K72.all (jck cX5_countRows 2 (some .int) 2 57) = true := by decide +kernel
theorem ck_73 : K73.all (jck cX5_sumRows 14 (some .long) 1 24) = true := by decide +kernel
theorem ck_74 : K74.all (jck cX5_weighRows 4 (some .long) 2 57) = true := by decide +kernel
theorem ck_75 : K75.all (jck cX0_learn 6 none 3 69) = true := by decide +kernel
theorem ck_76 : K76.all (jck cX0_findNeighbours 6 none 2 44) = true := by decide +kernel
theorem ck_77 : K77.all (jck cX0_ordersFrom 4 (some .int) 1 24) = true := by decide +kernel
theorem ck_78 : K78.all (jck cX0_ordersAmong 5 (some .int) 0 0) = true := by decide +kernel
theorem ck_79 : K79.all (jck cX0_orders 1 (some .int) 1 24) = true := by decide +kernel
theorem ck_80 : K80.all (jck cX0_placeInFirst 6 (some .int) 2 44) = true := by decide +kernel
theorem ck_81 : K81.all (jck cX0_leastBeginning 4 (some .int) 0 0) = true := by decide +kernel
theorem ck_82 : K82.all (jck cX8_append 5 (some .int) 0 0) = true := by decide +kernel
theorem ck_83 : K83.all (jck cX8_erase 2 (some .int) 0 0) = true := by decide +kernel
theorem ck_84 : K84.all (jck cX8_tellTo 4 (some .int) 8 169) = true := by decide +kernel
theorem ck_85 : K85.all (jck cX8_readToken 1 none 6 128) = true := by decide +kernel
theorem ck_86 : K86.all (jck cX8_isLetter 1 (some .boolean) 0 0) = true := by decide +kernel
theorem ck_87 : K87.all (jck cX8_readWord 2 none 5 107) = true := by decide +kernel
theorem ck_88 : K88.all (jck cX8_wordOf 1 (some (.object "java/lang/String")) 0 0) = true := by decide +kernel
theorem ck_89 : K89.all (jck cX8_isTokenWord 3 (some .boolean) 4 85) = true := by decide +kernel
theorem ck_90 : K90.all (jck cX8_isFigure 1 (some .boolean) 0 0) = true := by decide +kernel
theorem ck_91 : K91.all (jck cX8_readNumber 1 none 1 20) = true := by decide +kernel
theorem ck_92 : K92.all (jck cX8_readItem 2 (some .boolean) 7 148) = true := by decide +kernel
theorem ck_93 : K93.all (jck cX8_tellItem 2 (some .int) 3 64) = true := by decide +kernel
theorem ck_94 : K94.all (jck cX10_door 3 (some .int) 3 64) = true := by decide +kernel
theorem ck_95 : K95.all (jck cX10_isRoom 1 (some .boolean) 0 0) = true := by decide +kernel
theorem ck_96 : K96.all (jck cX10_told 2 (some .int) 0 0) = true := by decide +kernel
theorem ck_97 : K97.all (jck cX10_hears 3 (some .int) 3 64) = true := by decide +kernel
theorem ck_98 : K98.all (jck cX10_one 4 (some .int) 2 43) = true := by decide +kernel
theorem ck_99 : K99.all (jck cX10_mates 3 (some .int) 2 43) = true := by decide +kernel
theorem ck_100 : K100.all (jck cX10_goes 3 (some .int) 2 44) = true := by decide +kernel
theorem ck_101 : K101.all (jck cX10_chord 5 (some .int) 2 48) = true := by decide +kernel
theorem ck_102 : K102.all (jck cX10_slack 2 (some .int) 1 22) = true := by decide +kernel
theorem ck_103 : K103.all (jck cX10_sounds 3 (some .int) 2 44) = true := by decide +kernel
theorem ck_104 : K104.all (jck cX10_type 4 (some .int) 1 24) = true := by decide +kernel
theorem ck_105 : K105.all (jck cX10_clear 1 (some .int) 1 21) = true := by decide +kernel
theorem ck_106 : K106.all (jck cX10_read 2 (some .int) 9 192) = true := by decide +kernel
theorem ck_107 : K107.all (jck cX10_says 3 (some .int) 4 90) = true := by decide +kernel
theorem ck_108 : K108.all (jck cX10_said 2 (some .int) 4 91) = true := by decide +kernel
theorem ck_109 : K109.all (jck cX10_byDoor 3 (some .int) 4 91) = true := by decide +kernel
theorem ck_110 : K110.all (jck cX10_fewest 3 (some .int) 5 117) = true := by decide +kernel
theorem ck_111 : K111.all (jck cX10_speak 2 (some .int) 2 42) = true := by decide +kernel
theorem ck_112 : K112.all (jck cX10_hush 1 (some .int) 1 21) = true := by decide +kernel
theorem ck_113 : K113.all (jck cX10_fetch 2 (some .int) 5 119) = true := by decide +kernel
theorem ck_114 : K114.all (jck cX10_inTime 2 (some .int) 5 119) = true := by decide +kernel
theorem ck_115 : K115.all (jck cX10_taken 4 (some .int) 3 69) = true := by decide +kernel
theorem ck_116 : K116.all (jck cX10_isFog 1 (some .boolean) 0 0) = true := by decide +kernel
theorem ck_117 : K117.all (jck cX10_drop 2 (some .int) 5 118) = true := by decide +kernel
theorem ck_118 : K118.all (jck cX10_news 4 (some .int) 3 72) = true := by decide +kernel
theorem ck_119 : K119.all (jck cX10_badForRows 1 (some .int) 0 0) = true := by decide +kernel
theorem ck_120 : K120.all (jck cX10_hole 2 (some .int) 2 41) = true := by decide +kernel
theorem ck_121 : K121.all (jck cX10_whole 1 (some .int) 1 21) = true := by decide +kernel
theorem ck_122 : K122.all (jck cX10_meant 2 (some .int) 1 23) = true := by decide +kernel
theorem ck_123 : K123.all (jck cX10_ways 1 (some .int) 3 78) = true := by decide +kernel
theorem ck_124 : K124.all (jck cX10_odds 5 (some .int) 3 80) = true := by decide +kernel
theorem ck_125 : K125.all (jck cX10_block 3 (some .int) 5 116) = true := by decide +kernel
theorem ck_126 : K126.all (jck cX10_swing 5 (some .int) 5 119) = true := by decide +kernel
theorem ck_127 : K127.all (jck cX10_song 4 (some .int) 4 94) = true := by decide +kernel
theorem ck_128 : K128.all (jck cX10_couple 2 (some .int) 5 120) = true := by decide +kernel
theorem ck_129 : K129.all (jck cX10_part 2 (some .long) 1 21) = true := by decide +kernel
theorem ck_130 : K130.all (jck cX10_image 2 (some .int) 3 68) = true := by decide +kernel
theorem ck_131 : K131.all (jck cX10_isImage 1 (some .boolean) 0 0) = true := by decide +kernel
theorem ck_132 : K132.all (jck cX10_from 2 (some .int) 3 68) = true := by decide +kernel
theorem ck_133 : K133.all (jck cX10_status 2 (some .int) 0 0) = true := by decide +kernel
theorem ck_134 : K134.all (jck cX10_count 2 (some .int) 1 21) = true := by decide +kernel
theorem ck_135 : K135.all (jck cX10_amount 2 (some .int) 0 0) = true := by decide +kernel
theorem ck_136 : K136.all (jck cX10_digest 4 (some .long) 2 51) = true := by decide +kernel
theorem ck_137 : K137.all (jck cX11_door 3 (some .int) 3 69) = true := by decide +kernel
theorem ck_138 : K138.all (jck cX11_tie 5 (some .int) 2 45) = true := by decide +kernel
theorem ck_139 : K139.all (jck cX11_isRoom 1 (some .boolean) 1 25) = true := by decide +kernel
theorem ck_140 : K140.all (jck cX11_in 6 (some .boolean) 0 0) = true := by decide +kernel
theorem ck_141 : K141.all (jck cX11_told 2 (some .int) 0 0) = true := by decide +kernel
theorem ck_142 : K142.all (jck cX11_hears 3 (some .int) 3 69) = true := by decide +kernel
theorem ck_143 : K143.all (jck cX11_one 4 (some .int) 3 70) = true := by decide +kernel
theorem ck_144 : K144.all (jck cX11_addOne 6 (some .int) 2 45) = true := by decide +kernel
theorem ck_145 : K145.all (jck cX11_mates 3 (some .int) 3 70) = true := by decide +kernel
theorem ck_146 : K146.all (jck cX11_addMates 4 (some .int) 2 47) = true := by decide +kernel
theorem ck_147 : K147.all (jck cX11_isOne 3 (some .boolean) 1 25) = true := by decide +kernel
theorem ck_148 : K148.all (jck cX11_goes 4 (some .int) 2 47) = true := by decide +kernel
theorem ck_149 : K149.all (jck cX11_chord 5 (some .int) 2 53) = true := by decide +kernel
theorem ck_150 : K150.all (jck cX11_addChord 9 (some .int) 1 25) = true := by decide +kernel
theorem ck_151 : K151.all (jck cX11_slack 2 (some .int) 2 48) = true := by decide +kernel
theorem ck_152 : K152.all (jck cX11_setSlack 4 (some .int) 1 25) = true := by decide +kernel
theorem ck_153 : K153.all (jck cX11_sounds 3 (some .int) 2 48) = true := by decide +kernel
theorem ck_154 : K154.all (jck cX11_isSet 2 (some .boolean) 1 25) = true := by decide +kernel
theorem ck_155 : K155.all (jck cX11_has 2 (some .boolean) 0 0) = true := by decide +kernel
theorem ck_156 : K156.all (jck cX11_soundsOf 7 (some .int) 1 22) = true := by decide +kernel
theorem ck_157 : K157.all (jck cX11_turned 3 (some .int) 0 0) = true := by decide +kernel
theorem ck_158 : K158.all (jck cX11_type 5 (some .int) 1 25) = true := by decide +kernel
theorem ck_159 : K159.all (jck cX11_clear 2 (some .int) 0 0) = true := by decide +kernel
theorem ck_160 : K160.all (jck cX11_read 2 (some .int) 4 94) = true := by decide +kernel
theorem ck_161 : K161.all (jck cX11_isEnd 1 (some .boolean) 0 0) = true := by decide +kernel
theorem ck_162 : K162.all (jck cX11_takeItem 3 none 2 49) = true := by decide +kernel
theorem ck_163 : K163.all (jck cX11_takeWord 5 (some .int) 1 25) = true := by decide +kernel
theorem ck_164 : K164.all (jck cX11_wordOf 2 (some .int) 0 0) = true := by decide +kernel
theorem ck_165 : K165.all (jck cX11_numbersOf 1 (some .int) 0 0) = true := by decide +kernel
theorem ck_166 : K166.all (jck cX11_takeNumber 3 (some .int) 1 25) = true := by decide +kernel
theorem ck_167 : K167.all (jck cX11_tellItem 5 (some .int) 3 70) = true := by decide +kernel
theorem ck_168 : K168.all (jck cX11_copy 4 none 0 0) = true := by decide +kernel
theorem ck_169 : K169.all (jck cX11_says 3 (some .int) 4 103) = true := by decide +kernel
theorem ck_170 : K170.all (jck cX11_isChord 2 (some .boolean) 1 25) = true := by decide +kernel
theorem ck_171 : K171.all (jck cX11_doesSay 7 (some .boolean) 3 77) = true := by decide +kernel
theorem ck_172 : K172.all (jck cX11_reachOf 10 (some .int) 2 48) = true := by decide +kernel
theorem ck_173 : K173.all (jck cX11_ones 3 (some .int) 0 0) = true := by decide +kernel
theorem ck_174 : K174.all (jck cX11_said 2 (some .int) 5 127) = true := by decide +kernel
theorem ck_175 : K175.all (jck cX11_setIn 4 (some .int) 0 0) = true := by decide +kernel
theorem ck_176 : K176.all (jck cX11_saidBy 5 (some .int) 4 103) = true := by decide +kernel
theorem ck_177 : K177.all (jck cX11_byDoor 3 (some .int) 5 127) = true := by decide +kernel
theorem ck_178 : K178.all (jck cX11_fewest 5 (some .int) 4 103) = true := by decide +kernel
theorem ck_179 : K179.all (jck cX11_speak 3 (some .int) 2 46) = true := by decide +kernel
theorem ck_180 : K180.all (jck cX11_hush 2 (some .int) 0 0) = true := by decide +kernel
theorem ck_181 : K181.all (jck cX11_fetch 2 (some .int) 6 153) = true := by decide +kernel
theorem ck_182 : K182.all (jck cX11_fetchBy 7 none 5 127) = true := by decide +kernel
theorem ck_183 : K183.all (jck cX11_measure 4 none 0 0) = true := by decide +kernel
theorem ck_184 : K184.all (jck cX11_stepsOf 7 (some .int) 1 21) = true := by decide +kernel
theorem ck_185 : K185.all (jck cX11_inTime 2 (some .int) 6 153) = true := by decide +kernel
theorem ck_186 : K186.all (jck cX11_taken 4 (some .int) 3 72) = true := by decide +kernel
theorem ck_187 : K187.all (jck cX11_areTaken 8 (some .boolean) 2 45) = true := by decide +kernel
theorem ck_188 : K188.all (jck cX11_noteOf 5 (some .int) 1 21) = true := by decide +kernel
theorem ck_189 : K189.all (jck cX11_areNear 4 (some .boolean) 0 0) = true := by decide +kernel
theorem ck_190 : K190.all (jck cX11_drop 7 (some .int) 3 72) = true := by decide +kernel
theorem ck_191 : K191.all (jck cX11_news 7 (some .int) 3 71) = true := by decide +kernel
theorem ck_192 : K192.all (jck cX11_findCosts 6 none 2 46) = true := by decide +kernel
theorem ck_193 : K193.all (jck cX11_costOn 4 (some .int) 1 23) = true := by decide +kernel
theorem ck_194 : K194.all (jck cX11_hole 3 (some .int) 1 25) = true := by decide +kernel
theorem ck_195 : K195.all (jck cX11_whole 2 (some .int) 0 0) = true := by decide +kernel
theorem ck_196 : K196.all (jck cX11_meant 2 (some .int) 2 46) = true := by decide +kernel
theorem ck_197 : K197.all (jck cX11_isHole 2 (some .boolean) 1 25) = true := by decide +kernel
theorem ck_198 : K198.all (jck cX11_meantBy 4 (some .int) 0 0) = true := by decide +kernel
theorem ck_199 : K199.all (jck cX11_ways 1 (some .int) 2 54) = true := by decide +kernel
theorem ck_200 : K200.all (jck cX11_rows 12 (some .long) 1 23) = true := by decide +kernel
theorem ck_201 : K201.all (jck cX11_odds 5 (some .int) 2 54) = true := by decide +kernel
theorem ck_202 : K202.all (jck cX11_share 11 (some .int) 0 0) = true := by decide +kernel
theorem ck_203 : K203.all (jck cX11_block 5 (some .int) 4 103) = true := by decide +kernel
theorem ck_204 : K204.all (jck cX11_swing 7 (some .int) 4 103) = true := by decide +kernel
theorem ck_205 : K205.all (jck cX11_song 9 (some .int) 2 50) = true := by decide +kernel
theorem ck_206 : K206.all (jck cX11_findOrders 8 none 1 23) = true := by decide +kernel
theorem ck_207 : K207.all (jck cX11_couple 7 (some .int) 5 127) = true := by decide +kernel
theorem ck_208 : K208.all (jck cX11_divorce 4 none 0 0) = true := by decide +kernel
theorem ck_209 : K209.all (jck cX11_part 2 (some .long) 1 21) = true := by decide +kernel
theorem ck_210 : K210.all (jck cX11_image 2 (some .int) 1 25) = true := by decide +kernel
theorem ck_211 : K211.all (jck cX11_from 2 (some .int) 1 25) = true := by decide +kernel
theorem ck_212 : K212.all (jck cX11_status 2 (some .int) 1 25) = true := by decide +kernel
theorem ck_213 : K213.all (jck cX11_count 2 (some .int) 1 25) = true := by decide +kernel
theorem ck_214 : K214.all (jck cX11_countOf 2 (some .int) 0 0) = true := by decide +kernel
theorem ck_215 : K215.all (jck cX11_digest 3 (some .long) 2 45) = true := by decide +kernel
theorem ck_216 : K216.all (jck cX11_mix 3 none 0 0) = true := by decide +kernel
theorem ck_217 : K217.all (jck cX11_mixAll 4 none 1 22) = true := by decide +kernel
theorem ck_218_0 : K218_0.all (jck code 4 (some .boolean) 10 213) = true := by decide +kernel
theorem ck_218_1 : K218_1.all (jck code 4 (some .boolean) 10 213) = true := by decide +kernel
theorem ck_218_2 : K218_2.all (jck code 4 (some .boolean) 10 213) = true := by decide +kernel
theorem ck_218_3 : K218_3.all (jck code 4 (some .boolean) 10 213) = true := by decide +kernel
theorem ck_218_4 : K218_4.all (jck code 4 (some .boolean) 10 213) = true := by decide +kernel
theorem ck_218_5 : K218_5.all (jck code 4 (some .boolean) 10 213) = true := by decide +kernel
theorem ck_218_6 : K218_6.all (jck code 4 (some .boolean) 10 213) = true := by decide +kernel
theorem ck_218_7 : K218_7.all (jck code 4 (some .boolean) 10 213) = true := by decide +kernel
theorem ck_218_8 : K218_8.all (jck code 4 (some .boolean) 10 213) = true := by decide +kernel
theorem ck_218_9 : K218_9.all (jck code 4 (some .boolean) 10 213) = true := by decide +kernel
theorem ck_218_10 : K218_10.all (jck code 4 (some .boolean) 10 213) = true := by decide +kernel
theorem ck_218_11 : K218_11.all (jck code 4 (some .boolean) 10 213) = true := by decide +kernel
theorem ck_218_12 : K218_12.all (jck code 4 (some .boolean) 10 213) = true := by decide +kernel
theorem ck_218_13 : K218_13.all (jck code 4 (some .boolean) 10 213) = true := by decide +kernel
theorem ck_218_14 : K218_14.all (jck code 4 (some .boolean) 10 213) = true := by decide +kernel
theorem ck_218 : K218.all (jck code 4 (some .boolean) 10 213) = true := by simp only [K218, List.all_append, ck_218_0, ck_218_1, ck_218_2, ck_218_3, ck_218_4, ck_218_5, ck_218_6, ck_218_7, ck_218_8, ck_218_9, ck_218_10, ck_218_11, ck_218_12, ck_218_13, ck_218_14, Bool.and_self]
