theorem km_X7_1 : Cond.methodLink RX7 1 objectInit ∈ lw_t := lw_in (List.mem_of_getElem? (i := 108) (by decide +kernel)) rfl
theorem km_X7_9 : Cond.methodLink RX7 9 yX5_init ∈ lw_t := lw_in (List.mem_of_getElem? (i := 113) (by decide +kernel)) rfl
theorem km_X5_1 : Cond.methodLink RX5 1 objectInit ∈ lw_t := lw_in (List.mem_of_getElem? (i := 116) (by decide +kernel)) rfl
theorem km_X5_21 : Cond.methodLink RX5 21 yJ7_fill_53178 ∈ lw_t := lw_in (List.mem_of_getElem? (i := 119) (by decide +kernel)) rfl
theorem kf_X5_9 : Cond.fieldLink RX5 9 "LuggageBelt$Rows" "lanes" "[I" ∈ lw_t := lw_in (List.mem_of_getElem? (i := 122) (by decide +kernel)) rfl
theorem kf_X5_13 : Cond.fieldLink RX5 13 "LuggageBelt$Rows" "sizes" "[I" ∈ lw_t := lw_in (List.mem_of_getElem? (i := 123) (by decide +kernel)) rfl
theorem kf_X5_18 : Cond.fieldLink RX5 18 "LuggageBelt$Rows" "items" "[[I" ∈ lw_t := lw_in (List.mem_of_getElem? (i := 124) (by decide +kernel)) rfl
theorem km_X6_3 : Cond.methodLink RX6 3 objectInit ∈ lw_t := lw_in (List.mem_of_getElem? (i := 138) (by decide +kernel)) rfl
theorem kf_X6_11 : Cond.fieldLink RX6 11 "LuggageBelt$Tape" "bytes" "[I" ∈ lw_t := lw_in (List.mem_of_getElem? (i := 139) (by decide +kernel)) rfl
theorem kf_X6_15 : Cond.fieldLink RX6 15 "LuggageBelt$Tape" "length" "I" ∈ lw_t := lw_in (List.mem_of_getElem? (i := 140) (by decide +kernel)) rfl
theorem kf_X6_36 : Cond.fieldLink RX6 36 "LuggageBelt$Tape" "token" "I" ∈ lw_t := lw_in (List.mem_of_getElem? (i := 141) (by decide +kernel)) rfl
theorem kf_X6_23 : Cond.fieldLink RX6 23 "LuggageBelt$Tape" "tokenStart" "I" ∈ lw_t := lw_in (List.mem_of_getElem? (i := 142) (by decide +kernel)) rfl
theorem kf_X6_26 : Cond.fieldLink RX6 26 "LuggageBelt$Tape" "tokenEnd" "I" ∈ lw_t := lw_in (List.mem_of_getElem? (i := 143) (by decide +kernel)) rfl
theorem kf_X6_50 : Cond.fieldLink RX6 50 "LuggageBelt$Tape" "value" "I" ∈ lw_t := lw_in (List.mem_of_getElem? (i := 144) (by decide +kernel)) rfl
theorem km_X3_3 : Cond.methodLink RX3 3 objectInit ∈ lw_t := lw_in (List.mem_of_getElem? (i := 163) (by decide +kernel)) rfl
theorem kf_X3_33 : Cond.fieldLink RX3 33 "LuggageBelt$Hall" "places" "I" ∈ lw_t := lw_in (List.mem_of_getElem? (i := 164) (by decide +kernel)) rfl
theorem kf_X2_48 : Cond.fieldLink RX2 48 "LuggageBelt$Hall" "places" "I" ∈ lw_t := lw_in (List.mem_of_getElem? (i := 165) (by decide +kernel)) rfl
theorem kf_X6_69 : Cond.fieldLink RX6 69 "LuggageBelt$Hall" "places" "I" ∈ lw_t := lw_in (List.mem_of_getElem? (i := 166) (by decide +kernel)) rfl
theorem kf_X7_206 : Cond.fieldLink RX7 206 "LuggageBelt$Hall" "places" "I" ∈ lw_t := lw_in (List.mem_of_getElem? (i := 167) (by decide +kernel)) rfl
theorem kf_X3_37 : Cond.fieldLink RX3 37 "LuggageBelt$Hall" "travellers" "I" ∈ lw_t := lw_in (List.mem_of_getElem? (i := 168) (by decide +kernel)) rfl
theorem kf_X2_40 : Cond.fieldLink RX2 40 "LuggageBelt$Hall" "travellers" "I" ∈ lw_t := lw_in (List.mem_of_getElem? (i := 169) (by decide +kernel)) rfl
theorem kf_X4_82 : Cond.fieldLink RX4 82 "LuggageBelt$Hall" "travellers" "I" ∈ lw_t := lw_in (List.mem_of_getElem? (i := 170) (by decide +kernel)) rfl
theorem kf_X6_66 : Cond.fieldLink RX6 66 "LuggageBelt$Hall" "travellers" "I" ∈ lw_t := lw_in (List.mem_of_getElem? (i := 171) (by decide +kernel)) rfl
theorem kf_X7_138 : Cond.fieldLink RX7 138 "LuggageBelt$Hall" "travellers" "I" ∈ lw_t := lw_in (List.mem_of_getElem? (i := 172) (by decide +kernel)) rfl
theorem kf_X3_40 : Cond.fieldLink RX3 40 "LuggageBelt$Hall" "tick" "I" ∈ lw_t := lw_in (List.mem_of_getElem? (i := 173) (by decide +kernel)) rfl
theorem kf_X7_152 : Cond.fieldLink RX7 152 "LuggageBelt$Hall" "tick" "I" ∈ lw_t := lw_in (List.mem_of_getElem? (i := 174) (by decide +kernel)) rfl
theorem kf_X3_43 : Cond.fieldLink RX3 43 "LuggageBelt$Hall" "asleep" "I" ∈ lw_t := lw_in (List.mem_of_getElem? (i := 175) (by decide +kernel)) rfl
theorem kf_X2_105 : Cond.fieldLink RX2 105 "LuggageBelt$Hall" "asleep" "I" ∈ lw_t := lw_in (List.mem_of_getElem? (i := 176) (by decide +kernel)) rfl
theorem kf_X3_46 : Cond.fieldLink RX3 46 "LuggageBelt$Hall" "shift" "I" ∈ lw_t := lw_in (List.mem_of_getElem? (i := 177) (by decide +kernel)) rfl
theorem kf_X3_49 : Cond.fieldLink RX3 49 "LuggageBelt$Hall" "inCart" "I" ∈ lw_t := lw_in (List.mem_of_getElem? (i := 178) (by decide +kernel)) rfl
theorem kf_X3_9 : Cond.fieldLink RX3 9 "LuggageBelt$Hall" "kinds" "[I" ∈ lw_t := lw_in (List.mem_of_getElem? (i := 179) (by decide +kernel)) rfl
theorem kf_X1_41 : Cond.fieldLink RX1 41 "LuggageBelt$Hall" "kinds" "[I" ∈ lw_t := lw_in (List.mem_of_getElem? (i := 180) (by decide +kernel)) rfl
theorem kf_X2_91 : Cond.fieldLink RX2 91 "LuggageBelt$Hall" "kinds" "[I" ∈ lw_t := lw_in (List.mem_of_getElem? (i := 181) (by decide +kernel)) rfl
theorem kf_X7_295 : Cond.fieldLink RX7 295 "LuggageBelt$Hall" "kinds" "[I" ∈ lw_t := lw_in (List.mem_of_getElem? (i := 182) (by decide +kernel)) rfl
theorem kf_X3_15 : Cond.fieldLink RX3 15 "LuggageBelt$Hall" "stands" "[I" ∈ lw_t := lw_in (List.mem_of_getElem? (i := 183) (by decide +kernel)) rfl
theorem kf_X2_55 : Cond.fieldLink RX2 55 "LuggageBelt$Hall" "stands" "[I" ∈ lw_t := lw_in (List.mem_of_getElem? (i := 184) (by decide +kernel)) rfl
theorem kf_X1_53 : Cond.fieldLink RX1 53 "LuggageBelt$Hall" "stands" "[I" ∈ lw_t := lw_in (List.mem_of_getElem? (i := 185) (by decide +kernel)) rfl
theorem kf_X7_170 : Cond.fieldLink RX7 170 "LuggageBelt$Hall" "stands" "[I" ∈ lw_t := lw_in (List.mem_of_getElem? (i := 186) (by decide +kernel)) rfl
theorem kf_X3_18 : Cond.fieldLink RX3 18 "LuggageBelt$Hall" "saw" "[I" ∈ lw_t := lw_in (List.mem_of_getElem? (i := 187) (by decide +kernel)) rfl
theorem kf_X1_56 : Cond.fieldLink RX1 56 "LuggageBelt$Hall" "saw" "[I" ∈ lw_t := lw_in (List.mem_of_getElem? (i := 188) (by decide +kernel)) rfl
theorem kf_X2_76 : Cond.fieldLink RX2 76 "LuggageBelt$Hall" "saw" "[I" ∈ lw_t := lw_in (List.mem_of_getElem? (i := 189) (by decide +kernel)) rfl
theorem kf_X7_194 : Cond.fieldLink RX7 194 "LuggageBelt$Hall" "saw" "[I" ∈ lw_t := lw_in (List.mem_of_getElem? (i := 190) (by decide +kernel)) rfl
theorem kf_X3_21 : Cond.fieldLink RX3 21 "LuggageBelt$Hall" "took" "[I" ∈ lw_t := lw_in (List.mem_of_getElem? (i := 191) (by decide +kernel)) rfl
theorem kf_X7_179 : Cond.fieldLink RX7 179 "LuggageBelt$Hall" "took" "[I" ∈ lw_t := lw_in (List.mem_of_getElem? (i := 192) (by decide +kernel)) rfl
theorem kf_X3_24 : Cond.fieldLink RX3 24 "LuggageBelt$Hall" "paints" "[I" ∈ lw_t := lw_in (List.mem_of_getElem? (i := 193) (by decide +kernel)) rfl
theorem kf_X2_70 : Cond.fieldLink RX2 70 "LuggageBelt$Hall" "paints" "[I" ∈ lw_t := lw_in (List.mem_of_getElem? (i := 194) (by decide +kernel)) rfl
theorem kf_X7_176 : Cond.fieldLink RX7 176 "LuggageBelt$Hall" "paints" "[I" ∈ lw_t := lw_in (List.mem_of_getElem? (i := 195) (by decide +kernel)) rfl
theorem kf_X3_27 : Cond.fieldLink RX3 27 "LuggageBelt$Hall" "spots" "[I" ∈ lw_t := lw_in (List.mem_of_getElem? (i := 196) (by decide +kernel)) rfl
theorem kf_X3_30 : Cond.fieldLink RX3 30 "LuggageBelt$Hall" "slats" "[I" ∈ lw_t := lw_in (List.mem_of_getElem? (i := 197) (by decide +kernel)) rfl
theorem km_X0_1 : Cond.methodLink RX0 1 objectInit ∈ lw_t := lw_in (List.mem_of_getElem? (i := 230) (by decide +kernel)) rfl
theorem kf_X0_11 : Cond.fieldLink RX0 11 "LuggageBelt$Acts" "ring" "[I" ∈ lw_t := lw_in (List.mem_of_getElem? (i := 231) (by decide +kernel)) rfl
theorem kf_X0_19 : Cond.fieldLink RX0 19 "LuggageBelt$Acts" "next" "I" ∈ lw_t := lw_in (List.mem_of_getElem? (i := 232) (by decide +kernel)) rfl
theorem kf_X0_15 : Cond.fieldLink RX0 15 "LuggageBelt$Acts" "kept" "I" ∈ lw_t := lw_in (List.mem_of_getElem? (i := 233) (by decide +kernel)) rfl
theorem km_X7_42 : Cond.methodLink RX7 42 yX2_init ∈ lw_t := lw_in (List.mem_of_getElem? (i := 243) (by decide +kernel)) rfl
theorem km_X2_3 : Cond.methodLink RX2 3 objectInit ∈ lw_t := lw_in (List.mem_of_getElem? (i := 246) (by decide +kernel)) rfl
theorem kf_X2_15 : Cond.fieldLink RX2 15 "LuggageBelt$Foresight" "now" "LLuggageBelt$Hall;" ∈ lw_t := lw_in (List.mem_of_getElem? (i := 247) (by decide +kernel)) rfl
theorem kf_X2_19 : Cond.fieldLink RX2 19 "LuggageBelt$Foresight" "trial" "LLuggageBelt$Hall;" ∈ lw_t := lw_in (List.mem_of_getElem? (i := 248) (by decide +kernel)) rfl
theorem kf_X2_11 : Cond.fieldLink RX2 11 "LuggageBelt$Foresight" "outcomes" "[I" ∈ lw_t := lw_in (List.mem_of_getElem? (i := 249) (by decide +kernel)) rfl
theorem km_X7_51 : Cond.methodLink RX7 51 yX4_init ∈ lw_t := lw_in (List.mem_of_getElem? (i := 259) (by decide +kernel)) rfl
theorem km_X4_3 : Cond.methodLink RX4 3 objectInit ∈ lw_t := lw_in (List.mem_of_getElem? (i := 262) (by decide +kernel)) rfl
theorem kf_X4_29 : Cond.fieldLink RX4 29 "LuggageBelt$OrderSearch" "trial" "LLuggageBelt$Hall;" ∈ lw_t := lw_in (List.mem_of_getElem? (i := 263) (by decide +kernel)) rfl
theorem kf_X4_11 : Cond.fieldLink RX4 11 "LuggageBelt$OrderSearch" "levels" "[I" ∈ lw_t := lw_in (List.mem_of_getElem? (i := 264) (by decide +kernel)) rfl
theorem kf_X4_17 : Cond.fieldLink RX4 17 "LuggageBelt$OrderSearch" "hallNow" "[I" ∈ lw_t := lw_in (List.mem_of_getElem? (i := 265) (by decide +kernel)) rfl
theorem kf_X4_20 : Cond.fieldLink RX4 20 "LuggageBelt$OrderSearch" "hallSearched" "[I" ∈ lw_t := lw_in (List.mem_of_getElem? (i := 266) (by decide +kernel)) rfl
theorem kf_X4_23 : Cond.fieldLink RX4 23 "LuggageBelt$OrderSearch" "falls" "[I" ∈ lw_t := lw_in (List.mem_of_getElem? (i := 267) (by decide +kernel)) rfl
theorem kf_X4_26 : Cond.fieldLink RX4 26 "LuggageBelt$OrderSearch" "bestFalls" "[I" ∈ lw_t := lw_in (List.mem_of_getElem? (i := 268) (by decide +kernel)) rfl
theorem kf_X4_120 : Cond.fieldLink RX4 120 "LuggageBelt$OrderSearch" "bestFallCount" "I" ∈ lw_t := lw_in (List.mem_of_getElem? (i := 269) (by decide +kernel)) rfl
theorem kf_X4_41 : Cond.fieldLink RX4 41 "LuggageBelt$OrderSearch" "ticksInAll" "I" ∈ lw_t := lw_in (List.mem_of_getElem? (i := 270) (by decide +kernel)) rfl
theorem kf_X4_33 : Cond.fieldLink RX4 33 "LuggageBelt$OrderSearch" "most" "I" ∈ lw_t := lw_in (List.mem_of_getElem? (i := 271) (by decide +kernel)) rfl
theorem kf_X4_108 : Cond.fieldLink RX4 108 "LuggageBelt$OrderSearch" "least" "I" ∈ lw_t := lw_in (List.mem_of_getElem? (i := 272) (by decide +kernel)) rfl
theorem km_X7_60 : Cond.methodLink RX7 60 yX1_init ∈ lw_t := lw_in (List.mem_of_getElem? (i := 296) (by decide +kernel)) rfl
theorem km_X1_3 : Cond.methodLink RX1 3 objectInit ∈ lw_t := lw_in (List.mem_of_getElem? (i := 299) (by decide +kernel)) rfl
theorem kf_X1_15 : Cond.fieldLink RX1 15 "LuggageBelt$Asks" "now" "LLuggageBelt$Hall;" ∈ lw_t := lw_in (List.mem_of_getElem? (i := 300) (by decide +kernel)) rfl
theorem kf_X1_11 : Cond.fieldLink RX1 11 "LuggageBelt$Asks" "trace" "[I" ∈ lw_t := lw_in (List.mem_of_getElem? (i := 301) (by decide +kernel)) rfl
theorem kf_X1_26 : Cond.fieldLink RX1 26 "LuggageBelt$Asks" "traceLength" "I" ∈ lw_t := lw_in (List.mem_of_getElem? (i := 302) (by decide +kernel)) rfl
theorem kf_X7_10 : Cond.fieldLink RX7 10 "LuggageBelt" "rows" "LLuggageBelt$Rows;" ∈ lw_t := lw_in (List.mem_of_getElem? (i := 310) (by decide +kernel)) rfl
theorem kf_X7_19 : Cond.fieldLink RX7 19 "LuggageBelt" "tape" "LLuggageBelt$Tape;" ∈ lw_t := lw_in (List.mem_of_getElem? (i := 311) (by decide +kernel)) rfl
theorem kf_X7_26 : Cond.fieldLink RX7 26 "LuggageBelt" "now" "LLuggageBelt$Hall;" ∈ lw_t := lw_in (List.mem_of_getElem? (i := 312) (by decide +kernel)) rfl
theorem kf_X7_30 : Cond.fieldLink RX7 30 "LuggageBelt" "trial" "LLuggageBelt$Hall;" ∈ lw_t := lw_in (List.mem_of_getElem? (i := 313) (by decide +kernel)) rfl
theorem kf_X7_36 : Cond.fieldLink RX7 36 "LuggageBelt" "acts" "LLuggageBelt$Acts;" ∈ lw_t := lw_in (List.mem_of_getElem? (i := 314) (by decide +kernel)) rfl
theorem kf_X7_45 : Cond.fieldLink RX7 45 "LuggageBelt" "foresight" "LLuggageBelt$Foresight;" ∈ lw_t := lw_in (List.mem_of_getElem? (i := 315) (by decide +kernel)) rfl
theorem kf_X7_54 : Cond.fieldLink RX7 54 "LuggageBelt" "orders" "LLuggageBelt$OrderSearch;" ∈ lw_t := lw_in (List.mem_of_getElem? (i := 316) (by decide +kernel)) rfl
theorem kf_X7_61 : Cond.fieldLink RX7 61 "LuggageBelt" "asks" "LLuggageBelt$Asks;" ∈ lw_t := lw_in (List.mem_of_getElem? (i := 317) (by decide +kernel)) rfl
theorem kf_X7_65 : Cond.fieldLink RX7 65 "LuggageBelt" "images" "[I" ∈ lw_t := lw_in (List.mem_of_getElem? (i := 318) (by decide +kernel)) rfl
theorem kf_X7_289 : Cond.fieldLink RX7 289 "LuggageBelt" "imagesKept" "I" ∈ lw_t := lw_in (List.mem_of_getElem? (i := 319) (by decide +kernel)) rfl
theorem kf_X7_126 : Cond.fieldLink RX7 126 "LuggageBelt" "latestFault" "I" ∈ lw_t := lw_in (List.mem_of_getElem? (i := 320) (by decide +kernel)) rfl
theorem kf_X7_106 : Cond.fieldLink RX7 106 "LuggageBelt" "latestFinding" "I" ∈ lw_t := lw_in (List.mem_of_getElem? (i := 321) (by decide +kernel)) rfl
theorem km_X7_69 : Cond.methodLink RX7 69 yX5_isNumber ∈ lw_t := lw_in (List.mem_of_getElem? (i := 351) (by decide +kernel)) rfl
theorem kc_X7_73 : Cond.constant RX7 73 (-1000001) ∈ lw_t := lw_in (List.mem_of_getElem? (i := 355) (by decide +kernel)) rfl
theorem km_X7_74 : Cond.methodLink RX7 74 yX7_found ∈ lw_t := lw_in (List.mem_of_getElem? (i := 356) (by decide +kernel)) rfl
theorem kc_X7_110 : Cond.constant RX7 110 (-1000010) ∈ lw_t := lw_in (List.mem_of_getElem? (i := 360) (by decide +kernel)) rfl
theorem km_X7_78 : Cond.methodLink RX7 78 yX5_lay ∈ lw_t := lw_in (List.mem_of_getElem? (i := 361) (by decide +kernel)) rfl
theorem km_X5_27 : Cond.methodLink RX5 27 yX5_isNumber ∈ lw_t := lw_in (List.mem_of_getElem? (i := 365) (by decide +kernel)) rfl
theorem km_X7_82 : Cond.methodLink RX7 82 yX7_fine ∈ lw_t := lw_in (List.mem_of_getElem? (i := 366) (by decide +kernel)) rfl
theorem km_X7_85 : Cond.methodLink RX7 85 yX5_isMissing ∈ lw_t := lw_in (List.mem_of_getElem? (i := 374) (by decide +kernel)) rfl
theorem km_X7_88 : Cond.methodLink RX7 88 yX5_reaches ∈ lw_t := lw_in (List.mem_of_getElem? (i := 378) (by decide +kernel)) rfl
theorem km_X5_31 : Cond.methodLink RX5 31 yX5_isMissing ∈ lw_t := lw_in (List.mem_of_getElem? (i := 382) (by decide +kernel)) rfl
theorem km_X7_92 : Cond.methodLink RX7 92 yX5_put ∈ lw_t := lw_in (List.mem_of_getElem? (i := 383) (by decide +kernel)) rfl
theorem km_X5_34 : Cond.methodLink RX5 34 yX5_reaches ∈ lw_t := lw_in (List.mem_of_getElem? (i := 387) (by decide +kernel)) rfl
theorem km_X5_38 : Cond.methodLink RX5 38 yX5_cutTo ∈ lw_t := lw_in (List.mem_of_getElem? (i := 388) (by decide +kernel)) rfl
theorem km_X7_96 : Cond.methodLink RX7 96 yX5_laneOf ∈ lw_t := lw_in (List.mem_of_getElem? (i := 395) (by decide +kernel)) rfl
theorem km_X7_99 : Cond.methodLink RX7 99 yX5_carry ∈ lw_t := lw_in (List.mem_of_getElem? (i := 399) (by decide +kernel)) rfl
theorem km_X5_42 : Cond.methodLink RX5 42 arraycopyName ∈ lw_t := lw_in (List.mem_of_getElem? (i := 403) (by decide +kernel)) rfl
theorem km_X7_103 : Cond.methodLink RX7 103 yX5_remove ∈ lw_t := lw_in (List.mem_of_getElem? (i := 410) (by decide +kernel)) rfl
theorem km_X7_111 : Cond.methodLink RX7 111 yX6_isFull ∈ lw_t := lw_in (List.mem_of_getElem? (i := 418) (by decide +kernel)) rfl
theorem kc_X7_115 : Cond.constant RX7 115 (-1000003) ∈ lw_t := lw_in (List.mem_of_getElem? (i := 422) (by decide +kernel)) rfl
theorem km_X7_116 : Cond.methodLink RX7 116 yX6_add ∈ lw_t := lw_in (List.mem_of_getElem? (i := 423) (by decide +kernel)) rfl
theorem km_X6_19 : Cond.methodLink RX6 19 yX6_isFull ∈ lw_t := lw_in (List.mem_of_getElem? (i := 427) (by decide +kernel)) rfl
theorem km_X7_119 : Cond.methodLink RX7 119 yX6_readInto ∈ lw_t := lw_in (List.mem_of_getElem? (i := 432) (by decide +kernel)) rfl
theorem km_X6_29 : Cond.methodLink RX6 29 yX6_nextToken ∈ lw_t := lw_in (List.mem_of_getElem? (i := 436) (by decide +kernel)) rfl
theorem km_X6_76 : Cond.methodLink RX6 76 yX6_byteAt ∈ lw_t := lw_in (List.mem_of_getElem? (i := 440) (by decide +kernel)) rfl
theorem km_X6_79 : Cond.methodLink RX6 79 yX6_isFigure ∈ lw_t := lw_in (List.mem_of_getElem? (i := 444) (by decide +kernel)) rfl
theorem km_X6_83 : Cond.methodLink RX6 83 yX6_readFigures ∈ lw_t := lw_in (List.mem_of_getElem? (i := 447) (by decide +kernel)) rfl
theorem km_X6_32 : Cond.methodLink RX6 32 yX6_readLaw ∈ lw_t := lw_in (List.mem_of_getElem? (i := 451) (by decide +kernel)) rfl
theorem km_X6_42 : Cond.methodLink RX6 42 yX6_readSign ∈ lw_t := lw_in (List.mem_of_getElem? (i := 455) (by decide +kernel)) rfl
theorem km_X6_46 : Cond.methodLink RX6 46 yX6_readNumber ∈ lw_t := lw_in (List.mem_of_getElem? (i := 459) (by decide +kernel)) rfl
theorem km_X6_53 : Cond.methodLink RX6 53 yX3_begin ∈ lw_t := lw_in (List.mem_of_getElem? (i := 463) (by decide +kernel)) rfl
theorem kc_X3_52 : Cond.constant RX3 52 (-1000000) ∈ lw_t := lw_in (List.mem_of_getElem? (i := 467) (by decide +kernel)) rfl
theorem km_X3_53 : Cond.methodLink RX3 53 yJ7_fill_53178 ∈ lw_t := lw_in (List.mem_of_getElem? (i := 468) (by decide +kernel)) rfl
theorem km_X6_39 : Cond.methodLink RX6 39 yX6_readTraveller ∈ lw_t := lw_in (List.mem_of_getElem? (i := 469) (by decide +kernel)) rfl
theorem km_X6_61 : Cond.methodLink RX6 61 yJ0_indexOf_0f7a4 ∈ lw_t := lw_in (List.mem_of_getElem? (i := 474) (by decide +kernel)) rfl
theorem km_J0_633 : Cond.methodLink RJ0 633 yJ0_indexOf_7cf53 ∈ lw_t := lw_in (List.mem_of_getElem? (i := 478) (by decide +kernel)) rfl
theorem km_J0_492 : Cond.methodLink RJ0 492 yJ0_isLatin1_aae02 ∈ lw_t := lw_in (List.mem_of_getElem? (i := 482) (by decide +kernel)) rfl
theorem kf_J0_38 : Cond.fieldLink RJ0 38 "java/lang/String" "COMPACT_STRINGS" "Z" ∈ lw_t := lw_in (List.mem_of_getElem? (i := 486) (by decide +kernel)) rfl
theorem km_J0_505 : Cond.methodLink RJ0 505 yJ0_length_8abf5 ∈ lw_t := lw_in (List.mem_of_getElem? (i := 488) (by decide +kernel)) rfl
theorem km_J0_335 : Cond.methodLink RJ0 335 yJ0_coder_7d493 ∈ lw_t := lw_in (List.mem_of_getElem? (i := 492) (by decide +kernel)) rfl
theorem km_J0_637 : Cond.methodLink RJ0 637 yJ1_indexOf_4cfef ∈ lw_t := lw_in (List.mem_of_getElem? (i := 496) (by decide +kernel)) rfl
theorem km_J1_88 : Cond.methodLink RJ1 88 yJ1_canEncode_9a6ad ∈ lw_t := lw_in (List.mem_of_getElem? (i := 499) (by decide +kernel)) rfl
theorem km_J1_92 : Cond.methodLink RJ1 92 Lib.Math.max.name ∈ lw_t := lw_in (List.mem_of_getElem? (i := 502) (by decide +kernel)) rfl
theorem km_J1_38 : Cond.methodLink RJ1 38 Lib.Math.min.name ∈ lw_t := lw_in (List.mem_of_getElem? (i := 505) (by decide +kernel)) rfl
theorem km_J1_95 : Cond.methodLink RJ1 95 yJ1_indexOfChar_4cfef ∈ lw_t := lw_in (List.mem_of_getElem? (i := 508) (by decide +kernel)) rfl
theorem km_J0_640 : Cond.methodLink RJ0 640 yJ2_indexOf_4cfef ∈ lw_t := lw_in (List.mem_of_getElem? (i := 511) (by decide +kernel)) rfl
theorem km_J2_224 : Cond.methodLink RJ2 224 Lib.Math.max.name ∈ lw_t := lw_in (List.mem_of_getElem? (i := 514) (by decide +kernel)) rfl
theorem km_J2_183 : Cond.methodLink RJ2 183 Lib.Math.min.name ∈ lw_t := lw_in (List.mem_of_getElem? (i := 515) (by decide +kernel)) rfl
theorem kc_J2_227 : Cond.constant RJ2 227 (65536) ∈ lw_t := lw_in (List.mem_of_getElem? (i := 516) (by decide +kernel)) rfl
theorem km_J2_228 : Cond.methodLink RJ2 228 yJ2_indexOfChar_4cfef ∈ lw_t := lw_in (List.mem_of_getElem? (i := 517) (by decide +kernel)) rfl
theorem km_J2_96 : Cond.methodLink RJ2 96 yJ2_checkBoundsBeginEnd_d044e ∈ lw_t := lw_in (List.mem_of_getElem? (i := 520) (by decide +kernel)) rfl
theorem km_J2_48 : Cond.methodLink RJ2 48 yJ2_length_9d52b ∈ lw_t := lw_in (List.mem_of_getElem? (i := 523) (by decide +kernel)) rfl
theorem km_J2_241 : Cond.methodLink RJ2 241 yJ0_checkBoundsBeginEnd_23922 ∈ lw_t := lw_in (List.mem_of_getElem? (i := 526) (by decide +kernel)) rfl
theorem kf_J0_1053 : Cond.fieldLink RJ0 1053 "jdk/internal/util/Preconditions" "SIOOBE_FORMATTER" "Ljava/util/function/BiFunction;" ∈ lw_t := lw_in (List.mem_of_getElem? (i := 529) (by decide +kernel)) rfl
theorem km_J0_1062 : Cond.methodLink RJ0 1062 yJ3_checkFromToIndex_8c36e ∈ lw_t := lw_in (List.mem_of_getElem? (i := 531) (by decide +kernel)) rfl
theorem km_J2_244 : Cond.methodLink RJ2 244 yJ2_indexOfCharUnsafe_4cfef ∈ lw_t := lw_in (List.mem_of_getElem? (i := 534) (by decide +kernel)) rfl
theorem km_J2_71 : Cond.methodLink RJ2 71 yJ2_getChar_3b067 ∈ lw_t := lw_in (List.mem_of_getElem? (i := 537) (by decide +kernel)) rfl
theorem kf_J2_44 : Cond.fieldLink RJ2 44 "java/lang/StringUTF16" "$assertionsDisabled" "Z" ∈ lw_t := lw_in (List.mem_of_getElem? (i := 540) (by decide +kernel)) rfl
theorem kf_J2_59 : Cond.fieldLink RJ2 59 "java/lang/StringUTF16" "HI_BYTE_SHIFT" "I" ∈ lw_t := lw_in (List.mem_of_getElem? (i := 542) (by decide +kernel)) rfl
theorem kf_J2_63 : Cond.fieldLink RJ2 63 "java/lang/StringUTF16" "LO_BYTE_SHIFT" "I" ∈ lw_t := lw_in (List.mem_of_getElem? (i := 544) (by decide +kernel)) rfl
theorem km_J2_232 : Cond.methodLink RJ2 232 yJ2_indexOfSupplementary_4cfef ∈ lw_t := lw_in (List.mem_of_getElem? (i := 546) (by decide +kernel)) rfl
theorem km_J2_164 : Cond.methodLink RJ2 164 yJ11_isValidCodePoint_9a6ad ∈ lw_t := lw_in (List.mem_of_getElem? (i := 549) (by decide +kernel)) rfl
theorem km_J2_157 : Cond.methodLink RJ2 157 yJ11_highSurrogate_5068e ∈ lw_t := lw_in (List.mem_of_getElem? (i := 552) (by decide +kernel)) rfl
theorem kc_J11_110 : Cond.constant RJ11 110 (55232) ∈ lw_t := lw_in (List.mem_of_getElem? (i := 555) (by decide +kernel)) rfl
theorem km_J2_161 : Cond.methodLink RJ2 161 yJ11_lowSurrogate_5068e ∈ lw_t := lw_in (List.mem_of_getElem? (i := 556) (by decide +kernel)) rfl
theorem kc_J11_76 : Cond.constant RJ11 76 (56320) ∈ lw_t := lw_in (List.mem_of_getElem? (i := 559) (by decide +kernel)) rfl
theorem km_X6_72 : Cond.methodLink RX6 72 yX3_join ∈ lw_t := lw_in (List.mem_of_getElem? (i := 560) (by decide +kernel)) rfl
theorem km_X7_123 : Cond.methodLink RX7 123 yX6_clear ∈ lw_t := lw_in (List.mem_of_getElem? (i := 564) (by decide +kernel)) rfl
theorem kc_X7_129 : Cond.constant RX7 129 (-1000100) ∈ lw_t := lw_in (List.mem_of_getElem? (i := 568) (by decide +kernel)) rfl
theorem km_X7_130 : Cond.methodLink RX7 130 yX6_faultPlace ∈ lw_t := lw_in (List.mem_of_getElem? (i := 569) (by decide +kernel)) rfl
theorem km_X7_134 : Cond.methodLink RX7 134 yX3_become ∈ lw_t := lw_in (List.mem_of_getElem? (i := 573) (by decide +kernel)) rfl
theorem km_X3_59 : Cond.methodLink RX3 59 arraycopyName ∈ lw_t := lw_in (List.mem_of_getElem? (i := 577) (by decide +kernel)) rfl
theorem km_X7_137 : Cond.methodLink RX7 137 yX0_clear ∈ lw_t := lw_in (List.mem_of_getElem? (i := 578) (by decide +kernel)) rfl
theorem km_X7_141 : Cond.methodLink RX7 141 yX0_undoIn ∈ lw_t := lw_in (List.mem_of_getElem? (i := 591) (by decide +kernel)) rfl
theorem km_X0_32 : Cond.methodLink RX0 32 yX3_loadFrom ∈ lw_t := lw_in (List.mem_of_getElem? (i := 595) (by decide +kernel)) rfl
theorem km_X3_65 : Cond.methodLink RX3 65 yX3_followSpots ∈ lw_t := lw_in (List.mem_of_getElem? (i := 599) (by decide +kernel)) rfl
theorem km_X3_68 : Cond.methodLink RX3 68 yX3_isOnBelt ∈ lw_t := lw_in (List.mem_of_getElem? (i := 603) (by decide +kernel)) rfl
theorem km_X3_72 : Cond.methodLink RX3 72 yX3_isInCart ∈ lw_t := lw_in (List.mem_of_getElem? (i := 607) (by decide +kernel)) rfl
theorem km_X7_145 : Cond.methodLink RX7 145 yX0_kept ∈ lw_t := lw_in (List.mem_of_getElem? (i := 611) (by decide +kernel)) rfl
theorem kc_X7_148 : Cond.constant RX7 148 (-1000002) ∈ lw_t := lw_in (List.mem_of_getElem? (i := 615) (by decide +kernel)) rfl
theorem km_X7_149 : Cond.methodLink RX7 149 yX7_noHall ∈ lw_t := lw_in (List.mem_of_getElem? (i := 620) (by decide +kernel)) rfl
theorem km_X7_155 : Cond.methodLink RX7 155 yX0_keep ∈ lw_t := lw_in (List.mem_of_getElem? (i := 624) (by decide +kernel)) rfl
theorem km_X0_22 : Cond.methodLink RX0 22 yX3_saveTo ∈ lw_t := lw_in (List.mem_of_getElem? (i := 628) (by decide +kernel)) rfl
theorem km_X0_26 : Cond.methodLink RX0 26 Lib.Math.min.name ∈ lw_t := lw_in (List.mem_of_getElem? (i := 632) (by decide +kernel)) rfl
theorem km_X7_158 : Cond.methodLink RX7 158 yX3_tickOnce ∈ lw_t := lw_in (List.mem_of_getElem? (i := 633) (by decide +kernel)) rfl
theorem km_X3_98 : Cond.methodLink RX3 98 yX3_turnBy ∈ lw_t := lw_in (List.mem_of_getElem? (i := 637) (by decide +kernel)) rfl
theorem km_X3_112 : Cond.methodLink RX3 112 yJ9_floorMod_7cf53 ∈ lw_t := lw_in (List.mem_of_getElem? (i := 641) (by decide +kernel)) rfl
theorem km_X3_102 : Cond.methodLink RX3 102 yX3_isFallDue ∈ lw_t := lw_in (List.mem_of_getElem? (i := 644) (by decide +kernel)) rfl
theorem km_X3_118 : Cond.methodLink RX3 118 yX3_bagAt ∈ lw_t := lw_in (List.mem_of_getElem? (i := 648) (by decide +kernel)) rfl
theorem km_X3_106 : Cond.methodLink RX3 106 yX3_dropFirst ∈ lw_t := lw_in (List.mem_of_getElem? (i := 652) (by decide +kernel)) rfl
theorem km_X3_122 : Cond.methodLink RX3 122 yX3_fallDown ∈ lw_t := lw_in (List.mem_of_getElem? (i := 656) (by decide +kernel)) rfl
theorem km_X3_109 : Cond.methodLink RX3 109 yX3_letTake ∈ lw_t := lw_in (List.mem_of_getElem? (i := 660) (by decide +kernel)) rfl
theorem km_X3_125 : Cond.methodLink RX3 125 yX3_letLook ∈ lw_t := lw_in (List.mem_of_getElem? (i := 664) (by decide +kernel)) rfl
theorem km_X3_129 : Cond.methodLink RX3 129 yX3_wants ∈ lw_t := lw_in (List.mem_of_getElem? (i := 668) (by decide +kernel)) rfl
theorem km_X3_135 : Cond.methodLink RX3 135 yX3_isAlone ∈ lw_t := lw_in (List.mem_of_getElem? (i := 672) (by decide +kernel)) rfl
theorem km_X3_132 : Cond.methodLink RX3 132 yX3_take ∈ lw_t := lw_in (List.mem_of_getElem? (i := 676) (by decide +kernel)) rfl
theorem km_X7_161 : Cond.methodLink RX7 161 yX3_setOf ∈ lw_t := lw_in (List.mem_of_getElem? (i := 680) (by decide +kernel)) rfl
theorem km_X3_84 : Cond.methodLink RX3 84 yX3_isIn ∈ lw_t := lw_in (List.mem_of_getElem? (i := 684) (by decide +kernel)) rfl
theorem km_X3_81 : Cond.methodLink RX3 81 yX3_isTaken ∈ lw_t := lw_in (List.mem_of_getElem? (i := 688) (by decide +kernel)) rfl
theorem km_X3_75 : Cond.methodLink RX3 75 yX3_waits ∈ lw_t := lw_in (List.mem_of_getElem? (i := 692) (by decide +kernel)) rfl
theorem km_X3_88 : Cond.methodLink RX3 88 yX3_isWrong ∈ lw_t := lw_in (List.mem_of_getElem? (i := 696) (by decide +kernel)) rfl
theorem km_X3_78 : Cond.methodLink RX3 78 yX3_hasOwn ∈ lw_t := lw_in (List.mem_of_getElem? (i := 700) (by decide +kernel)) rfl
theorem km_X3_91 : Cond.methodLink RX3 91 yX3_isRobbed ∈ lw_t := lw_in (List.mem_of_getElem? (i := 704) (by decide +kernel)) rfl
theorem km_X7_164 : Cond.methodLink RX7 164 yX3_has ∈ lw_t := lw_in (List.mem_of_getElem? (i := 712) (by decide +kernel)) rfl
theorem km_X7_167 : Cond.methodLink RX7 167 yX3_hasPlace ∈ lw_t := lw_in (List.mem_of_getElem? (i := 716) (by decide +kernel)) rfl
theorem km_X7_173 : Cond.methodLink RX7 173 yX3_waits ∈ lw_t := lw_in (List.mem_of_getElem? (i := 720) (by decide +kernel)) rfl
theorem km_X7_182 : Cond.methodLink RX7 182 yX3_comeBack ∈ lw_t := lw_in (List.mem_of_getElem? (i := 729) (by decide +kernel)) rfl
theorem km_X3_138 : Cond.methodLink RX3 138 yX3_has ∈ lw_t := lw_in (List.mem_of_getElem? (i := 733) (by decide +kernel)) rfl
theorem km_X7_186 : Cond.methodLink RX7 186 yX3_turnBy ∈ lw_t := lw_in (List.mem_of_getElem? (i := 738) (by decide +kernel)) rfl
theorem km_X7_189 : Cond.methodLink RX7 189 yJ6_bitCount_0f7a4 ∈ lw_t := lw_in (List.mem_of_getElem? (i := 739) (by decide +kernel)) rfl
theorem kc_J6_265 : Cond.constant RJ6 265 (1431655765) ∈ lw_t := lw_in (List.mem_of_getElem? (i := 742) (by decide +kernel)) rfl
theorem kc_J6_266 : Cond.constant RJ6 266 (858993459) ∈ lw_t := lw_in (List.mem_of_getElem? (i := 743) (by decide +kernel)) rfl
theorem kc_J6_267 : Cond.constant RJ6 267 (252645135) ∈ lw_t := lw_in (List.mem_of_getElem? (i := 744) (by decide +kernel)) rfl
theorem km_X7_197 : Cond.methodLink RX7 197 yX3_isWrong ∈ lw_t := lw_in (List.mem_of_getElem? (i := 749) (by decide +kernel)) rfl
theorem km_X7_200 : Cond.methodLink RX7 200 yX3_isRobbed ∈ lw_t := lw_in (List.mem_of_getElem? (i := 750) (by decide +kernel)) rfl
theorem km_X7_203 : Cond.methodLink RX7 203 yX3_whereIs ∈ lw_t := lw_in (List.mem_of_getElem? (i := 755) (by decide +kernel)) rfl
theorem km_X7_209 : Cond.methodLink RX7 209 yX3_bagAt ∈ lw_t := lw_in (List.mem_of_getElem? (i := 767) (by decide +kernel)) rfl
theorem km_X7_212 : Cond.methodLink RX7 212 yX2_behind ∈ lw_t := lw_in (List.mem_of_getElem? (i := 772) (by decide +kernel)) rfl
theorem km_X2_22 : Cond.methodLink RX2 22 yX3_become ∈ lw_t := lw_in (List.mem_of_getElem? (i := 776) (by decide +kernel)) rfl
theorem km_X2_28 : Cond.methodLink RX2 28 yX2_goOn ∈ lw_t := lw_in (List.mem_of_getElem? (i := 777) (by decide +kernel)) rfl
theorem km_X2_32 : Cond.methodLink RX2 32 yX3_tickOnce ∈ lw_t := lw_in (List.mem_of_getElem? (i := 781) (by decide +kernel)) rfl
theorem km_X7_216 : Cond.methodLink RX7 216 yX7_isChoice ∈ lw_t := lw_in (List.mem_of_getElem? (i := 786) (by decide +kernel)) rfl
theorem km_X7_220 : Cond.methodLink RX7 220 yX2_whenGone ∈ lw_t := lw_in (List.mem_of_getElem? (i := 797) (by decide +kernel)) rfl
theorem km_X2_35 : Cond.methodLink RX2 35 yX3_waits ∈ lw_t := lw_in (List.mem_of_getElem? (i := 801) (by decide +kernel)) rfl
theorem kc_X2_39 : Cond.constant RX2 39 (-1000000) ∈ lw_t := lw_in (List.mem_of_getElem? (i := 802) (by decide +kernel)) rfl
theorem km_X7_223 : Cond.methodLink RX7 223 yX2_whenEmpty ∈ lw_t := lw_in (List.mem_of_getElem? (i := 807) (by decide +kernel)) rfl
theorem km_X2_44 : Cond.methodLink RX2 44 yX3_setOf ∈ lw_t := lw_in (List.mem_of_getElem? (i := 811) (by decide +kernel)) rfl
theorem km_X7_226 : Cond.methodLink RX7 226 yX2_bestStand ∈ lw_t := lw_in (List.mem_of_getElem? (i := 816) (by decide +kernel)) rfl
theorem km_X2_51 : Cond.methodLink RX2 51 yX2_whenGoneWithOwn ∈ lw_t := lw_in (List.mem_of_getElem? (i := 820) (by decide +kernel)) rfl
theorem km_X2_58 : Cond.methodLink RX2 58 yX3_isWrong ∈ lw_t := lw_in (List.mem_of_getElem? (i := 824) (by decide +kernel)) rfl
theorem kc_X7_229 : Cond.constant RX7 229 (-1000000) ∈ lw_t := lw_in (List.mem_of_getElem? (i := 829) (by decide +kernel)) rfl
theorem km_X7_230 : Cond.methodLink RX7 230 yX4_search ∈ lw_t := lw_in (List.mem_of_getElem? (i := 830) (by decide +kernel)) rfl
theorem km_X4_37 : Cond.methodLink RX4 37 yX3_saveTo ∈ lw_t := lw_in (List.mem_of_getElem? (i := 834) (by decide +kernel)) rfl
theorem km_X4_44 : Cond.methodLink RX4 44 yX4_isSearched ∈ lw_t := lw_in (List.mem_of_getElem? (i := 835) (by decide +kernel)) rfl
theorem km_X4_48 : Cond.methodLink RX4 48 arraycopyName ∈ lw_t := lw_in (List.mem_of_getElem? (i := 839) (by decide +kernel)) rfl
theorem km_X4_54 : Cond.methodLink RX4 54 yX3_become ∈ lw_t := lw_in (List.mem_of_getElem? (i := 840) (by decide +kernel)) rfl
theorem km_X4_58 : Cond.methodLink RX4 58 yX4_tryFrom ∈ lw_t := lw_in (List.mem_of_getElem? (i := 841) (by decide +kernel)) rfl
theorem km_X4_62 : Cond.methodLink RX4 62 yX3_turnBy ∈ lw_t := lw_in (List.mem_of_getElem? (i := 845) (by decide +kernel)) rfl
theorem km_X4_66 : Cond.methodLink RX4 66 yX3_isFallDue ∈ lw_t := lw_in (List.mem_of_getElem? (i := 846) (by decide +kernel)) rfl
theorem km_X4_69 : Cond.methodLink RX4 69 yX4_tryEachFall ∈ lw_t := lw_in (List.mem_of_getElem? (i := 847) (by decide +kernel)) rfl
theorem km_X4_78 : Cond.methodLink RX4 78 yX3_setOf ∈ lw_t := lw_in (List.mem_of_getElem? (i := 851) (by decide +kernel)) rfl
theorem km_X4_85 : Cond.methodLink RX4 85 yX3_loadFrom ∈ lw_t := lw_in (List.mem_of_getElem? (i := 852) (by decide +kernel)) rfl
theorem km_X4_88 : Cond.methodLink RX4 88 yX3_fallDown ∈ lw_t := lw_in (List.mem_of_getElem? (i := 853) (by decide +kernel)) rfl
theorem km_X4_72 : Cond.methodLink RX4 72 yX3_letTake ∈ lw_t := lw_in (List.mem_of_getElem? (i := 854) (by decide +kernel)) rfl
theorem km_X4_91 : Cond.methodLink RX4 91 yX4_mayBeBetter ∈ lw_t := lw_in (List.mem_of_getElem? (i := 855) (by decide +kernel)) rfl
theorem km_X4_94 : Cond.methodLink RX4 94 yX3_hasOwn ∈ lw_t := lw_in (List.mem_of_getElem? (i := 859) (by decide +kernel)) rfl
theorem km_X4_98 : Cond.methodLink RX4 98 yX3_waits ∈ lw_t := lw_in (List.mem_of_getElem? (i := 860) (by decide +kernel)) rfl
theorem km_X4_101 : Cond.methodLink RX4 101 yX3_isTaken ∈ lw_t := lw_in (List.mem_of_getElem? (i := 861) (by decide +kernel)) rfl
theorem km_X4_104 : Cond.methodLink RX4 104 yX3_seenTogether ∈ lw_t := lw_in (List.mem_of_getElem? (i := 862) (by decide +kernel)) rfl
theorem km_X4_75 : Cond.methodLink RX4 75 yX4_weigh ∈ lw_t := lw_in (List.mem_of_getElem? (i := 866) (by decide +kernel)) rfl
theorem km_X4_111 : Cond.methodLink RX4 111 yX4_ownCount ∈ lw_t := lw_in (List.mem_of_getElem? (i := 870) (by decide +kernel)) rfl
theorem km_X4_114 : Cond.methodLink RX4 114 Lib.Math.min.name ∈ lw_t := lw_in (List.mem_of_getElem? (i := 874) (by decide +kernel)) rfl
theorem km_X7_234 : Cond.methodLink RX7 234 yX4_mostOwn ∈ lw_t := lw_in (List.mem_of_getElem? (i := 875) (by decide +kernel)) rfl
theorem km_X7_237 : Cond.methodLink RX7 237 yX4_bagInOrder ∈ lw_t := lw_in (List.mem_of_getElem? (i := 879) (by decide +kernel)) rfl
theorem kc_X4_123 : Cond.constant RX4 123 (-1000000) ∈ lw_t := lw_in (List.mem_of_getElem? (i := 883) (by decide +kernel)) rfl
theorem km_X4_124 : Cond.methodLink RX4 124 yX4_lowest ∈ lw_t := lw_in (List.mem_of_getElem? (i := 884) (by decide +kernel)) rfl
theorem km_X7_241 : Cond.methodLink RX7 241 yX2_fewestMarks ∈ lw_t := lw_in (List.mem_of_getElem? (i := 891) (by decide +kernel)) rfl
theorem km_X2_61 : Cond.methodLink RX2 61 yJ6_bitCount_0f7a4 ∈ lw_t := lw_in (List.mem_of_getElem? (i := 895) (by decide +kernel)) rfl
theorem km_X2_66 : Cond.methodLink RX2 66 yX2_markEach ∈ lw_t := lw_in (List.mem_of_getElem? (i := 896) (by decide +kernel)) rfl
theorem km_X7_244 : Cond.methodLink RX7 244 yX2_setsThatSaw ∈ lw_t := lw_in (List.mem_of_getElem? (i := 904) (by decide +kernel)) rfl
theorem km_X2_73 : Cond.methodLink RX2 73 yX2_seenBy ∈ lw_t := lw_in (List.mem_of_getElem? (i := 908) (by decide +kernel)) rfl
theorem km_X7_248 : Cond.methodLink RX7 248 yX3_shareOf ∈ lw_t := lw_in (List.mem_of_getElem? (i := 916) (by decide +kernel)) rfl
theorem km_X3_94 : Cond.methodLink RX3 94 yX3_seenTogether ∈ lw_t := lw_in (List.mem_of_getElem? (i := 920) (by decide +kernel)) rfl
theorem km_X7_251 : Cond.methodLink RX7 251 yX2_outcomeOfTurns ∈ lw_t := lw_in (List.mem_of_getElem? (i := 925) (by decide +kernel)) rfl
theorem km_X2_79 : Cond.methodLink RX2 79 yX3_turnBy ∈ lw_t := lw_in (List.mem_of_getElem? (i := 929) (by decide +kernel)) rfl
theorem km_X2_82 : Cond.methodLink RX2 82 Lib.Math.max.name ∈ lw_t := lw_in (List.mem_of_getElem? (i := 930) (by decide +kernel)) rfl
theorem km_X2_88 : Cond.methodLink RX2 88 Lib.Math.min.name ∈ lw_t := lw_in (List.mem_of_getElem? (i := 931) (by decide +kernel)) rfl
theorem km_X7_254 : Cond.methodLink RX7 254 yX7_isTold ∈ lw_t := lw_in (List.mem_of_getElem? (i := 936) (by decide +kernel)) rfl
theorem km_X7_257 : Cond.methodLink RX7 257 yX7_findingOfItems ∈ lw_t := lw_in (List.mem_of_getElem? (i := 940) (by decide +kernel)) rfl
theorem km_X7_260 : Cond.methodLink RX7 260 yX5_itemsOf ∈ lw_t := lw_in (List.mem_of_getElem? (i := 944) (by decide +kernel)) rfl
theorem km_X7_264 : Cond.methodLink RX7 264 yX2_kindsThatFit ∈ lw_t := lw_in (List.mem_of_getElem? (i := 948) (by decide +kernel)) rfl
theorem km_X2_94 : Cond.methodLink RX2 94 yX2_goesAsTold ∈ lw_t := lw_in (List.mem_of_getElem? (i := 952) (by decide +kernel)) rfl
theorem km_X2_98 : Cond.methodLink RX2 98 yX3_whereIs ∈ lw_t := lw_in (List.mem_of_getElem? (i := 956) (by decide +kernel)) rfl
theorem km_X7_268 : Cond.methodLink RX7 268 yX2_standsThatFit ∈ lw_t := lw_in (List.mem_of_getElem? (i := 957) (by decide +kernel)) rfl
theorem km_X7_271 : Cond.methodLink RX7 271 yX2_coloursThatFit ∈ lw_t := lw_in (List.mem_of_getElem? (i := 965) (by decide +kernel)) rfl
theorem kd_X7_275 : Cond.constantLong RX7 275 (-1000001) ∈ lw_t := lw_in (List.mem_of_getElem? (i := 973) (by decide +kernel)) rfl
theorem km_X7_277 : Cond.methodLink RX7 277 yX2_likelyOnBelt ∈ lw_t := lw_in (List.mem_of_getElem? (i := 974) (by decide +kernel)) rfl
theorem km_X2_101 : Cond.methodLink RX2 101 yX2_power ∈ lw_t := lw_in (List.mem_of_getElem? (i := 978) (by decide +kernel)) rfl
theorem km_X2_108 : Cond.methodLink RX2 108 yX3_isOnBelt ∈ lw_t := lw_in (List.mem_of_getElem? (i := 981) (by decide +kernel)) rfl
theorem km_X2_111 : Cond.methodLink RX2 111 yX2_commonDivisor ∈ lw_t := lw_in (List.mem_of_getElem? (i := 982) (by decide +kernel)) rfl
theorem kd_X2_115 : Cond.constantLong RX2 115 (-1000000) ∈ lw_t := lw_in (List.mem_of_getElem? (i := 985) (by decide +kernel)) rfl
theorem kc_X7_281 : Cond.constant RX7 281 (999999) ∈ lw_t := lw_in (List.mem_of_getElem? (i := 990) (by decide +kernel)) rfl
theorem km_X7_282 : Cond.methodLink RX7 282 yX2_goneInDays ∈ lw_t := lw_in (List.mem_of_getElem? (i := 991) (by decide +kernel)) rfl
theorem kd_X2_117 : Cond.constantLong RX2 117 (16807) ∈ lw_t := lw_in (List.mem_of_getElem? (i := 995) (by decide +kernel)) rfl
theorem kd_X2_119 : Cond.constantLong RX2 119 (2147483647) ∈ lw_t := lw_in (List.mem_of_getElem? (i := 996) (by decide +kernel)) rfl
theorem km_X2_121 : Cond.methodLink RX2 121 yX2_drawOne ∈ lw_t := lw_in (List.mem_of_getElem? (i := 997) (by decide +kernel)) rfl
theorem km_X2_125 : Cond.methodLink RX2 125 yX3_has ∈ lw_t := lw_in (List.mem_of_getElem? (i := 1001) (by decide +kernel)) rfl
theorem km_X2_128 : Cond.methodLink RX2 128 yX3_comeBack ∈ lw_t := lw_in (List.mem_of_getElem? (i := 1002) (by decide +kernel)) rfl
theorem kd_X2_131 : Cond.constantLong RX2 131 (3) ∈ lw_t := lw_in (List.mem_of_getElem? (i := 1003) (by decide +kernel)) rfl
theorem km_X7_285 : Cond.methodLink RX7 285 yX3_saveTo ∈ lw_t := lw_in (List.mem_of_getElem? (i := 1008) (by decide +kernel)) rfl
theorem km_X7_292 : Cond.methodLink RX7 292 yX3_loadFrom ∈ lw_t := lw_in (List.mem_of_getElem? (i := 1013) (by decide +kernel)) rfl
theorem km_X7_298 : Cond.methodLink RX7 298 yX1_isOfKind ∈ lw_t := lw_in (List.mem_of_getElem? (i := 1022) (by decide +kernel)) rfl
theorem km_X1_19 : Cond.methodLink RX1 19 yX1_kindAbove ∈ lw_t := lw_in (List.mem_of_getElem? (i := 1025) (by decide +kernel)) rfl
theorem kf_X1_23 : Cond.fieldLink RX1 23 "LuggageBelt$Asks" "KIND_ABOVE" "[I" ∈ lw_t := lw_in (List.mem_of_getElem? (i := 1028) (by decide +kernel)) rfl
theorem km_X7_301 : Cond.methodLink RX7 301 yX1_begin ∈ lw_t := lw_in (List.mem_of_getElem? (i := 1034) (by decide +kernel)) rfl
theorem km_X1_31 : Cond.methodLink RX1 31 yX1_asked ∈ lw_t := lw_in (List.mem_of_getElem? (i := 1038) (by decide +kernel)) rfl
theorem kf_X1_35 : Cond.fieldLink RX1 35 "LuggageBelt$Asks" "SIZE_BODIES" "[I" ∈ lw_t := lw_in (List.mem_of_getElem? (i := 1042) (by decide +kernel)) rfl
theorem kf_X1_38 : Cond.fieldLink RX1 38 "LuggageBelt$Asks" "MARK_BODIES" "[I" ∈ lw_t := lw_in (List.mem_of_getElem? (i := 1044) (by decide +kernel)) rfl
theorem kc_X1_30 : Cond.constant RX1 30 (-1000000) ∈ lw_t := lw_in (List.mem_of_getElem? (i := 1046) (by decide +kernel)) rfl
theorem km_X1_46 : Cond.methodLink RX1 46 yX1_given ∈ lw_t := lw_in (List.mem_of_getElem? (i := 1047) (by decide +kernel)) rfl
theorem km_X1_49 : Cond.methodLink RX1 49 yX1_leave ∈ lw_t := lw_in (List.mem_of_getElem? (i := 1051) (by decide +kernel)) rfl
theorem km_X7_304 : Cond.methodLink RX7 304 yX1_bodyInTrace ∈ lw_t := lw_in (List.mem_of_getElem? (i := 1059) (by decide +kernel)) rfl
theorem km_X7_307 : Cond.methodLink RX7 307 yX5_howMany ∈ lw_t := lw_in (List.mem_of_getElem? (i := 1067) (by decide +kernel)) rfl
theorem km_X7_310 : Cond.methodLink RX7 310 yX3_seenTogether ∈ lw_t := lw_in (List.mem_of_getElem? (i := 1071) (by decide +kernel)) rfl
theorem km_X7_313 : Cond.methodLink RX7 313 yX6_size ∈ lw_t := lw_in (List.mem_of_getElem? (i := 1072) (by decide +kernel)) rfl
theorem km_X8_1 : Cond.methodLink RX8 1 objectInit ∈ lw_t := lw_in (List.mem_of_getElem? (i := 1085) (by decide +kernel)) rfl
theorem kf_X8_7 : Cond.fieldLink RX8 7 "LuggageBeltModel" "row" "[I" ∈ lw_t := lw_in (List.mem_of_getElem? (i := 1086) (by decide +kernel)) rfl
theorem kf_X8_135 : Cond.fieldLink RX8 135 "LuggageBeltModel" "undos" "I" ∈ lw_t := lw_in (List.mem_of_getElem? (i := 1087) (by decide +kernel)) rfl
theorem kf_X8_13 : Cond.fieldLink RX8 13 "LuggageBeltModel" "isKept" "[Z" ∈ lw_t := lw_in (List.mem_of_getElem? (i := 1088) (by decide +kernel)) rfl
theorem kf_X8_17 : Cond.fieldLink RX8 17 "LuggageBeltModel" "lanes" "[I" ∈ lw_t := lw_in (List.mem_of_getElem? (i := 1089) (by decide +kernel)) rfl
theorem kf_X8_20 : Cond.fieldLink RX8 20 "LuggageBeltModel" "sizes" "[I" ∈ lw_t := lw_in (List.mem_of_getElem? (i := 1090) (by decide +kernel)) rfl
theorem kf_X8_23 : Cond.fieldLink RX8 23 "LuggageBeltModel" "items" "[I" ∈ lw_t := lw_in (List.mem_of_getElem? (i := 1091) (by decide +kernel)) rfl
theorem kf_X8_26 : Cond.fieldLink RX8 26 "LuggageBeltModel" "tape" "[I" ∈ lw_t := lw_in (List.mem_of_getElem? (i := 1092) (by decide +kernel)) rfl
theorem kf_X8_76 : Cond.fieldLink RX8 76 "LuggageBeltModel" "length" "I" ∈ lw_t := lw_in (List.mem_of_getElem? (i := 1093) (by decide +kernel)) rfl
theorem kf_X8_127 : Cond.fieldLink RX8 127 "LuggageBeltModel" "fault" "I" ∈ lw_t := lw_in (List.mem_of_getElem? (i := 1094) (by decide +kernel)) rfl
theorem kf_X8_41 : Cond.fieldLink RX8 41 "LuggageBeltModel" "status" "I" ∈ lw_t := lw_in (List.mem_of_getElem? (i := 1095) (by decide +kernel)) rfl
theorem kf_X8_29 : Cond.fieldLink RX8 29 "LuggageBeltModel" "trace" "[I" ∈ lw_t := lw_in (List.mem_of_getElem? (i := 1096) (by decide +kernel)) rfl
theorem kf_X8_272 : Cond.fieldLink RX8 272 "LuggageBeltModel" "traced" "I" ∈ lw_t := lw_in (List.mem_of_getElem? (i := 1097) (by decide +kernel)) rfl
theorem kf_X8_80 : Cond.fieldLink RX8 80 "LuggageBeltModel" "at" "I" ∈ lw_t := lw_in (List.mem_of_getElem? (i := 1098) (by decide +kernel)) rfl
theorem kf_X8_87 : Cond.fieldLink RX8 87 "LuggageBeltModel" "wrong" "I" ∈ lw_t := lw_in (List.mem_of_getElem? (i := 1099) (by decide +kernel)) rfl
theorem kf_X8_99 : Cond.fieldLink RX8 99 "LuggageBeltModel" "number" "I" ∈ lw_t := lw_in (List.mem_of_getElem? (i := 1100) (by decide +kernel)) rfl
theorem kf_X8_32 : Cond.fieldLink RX8 32 "LuggageBeltModel" "ranks" "[I" ∈ lw_t := lw_in (List.mem_of_getElem? (i := 1101) (by decide +kernel)) rfl
theorem kf_X8_147 : Cond.fieldLink RX8 147 "LuggageBeltModel" "asleep" "I" ∈ lw_t := lw_in (List.mem_of_getElem? (i := 1102) (by decide +kernel)) rfl
theorem kf_X8_156 : Cond.fieldLink RX8 156 "LuggageBeltModel" "went" "I" ∈ lw_t := lw_in (List.mem_of_getElem? (i := 1103) (by decide +kernel)) rfl
theorem kf_X8_159 : Cond.fieldLink RX8 159 "LuggageBeltModel" "wentWrong" "I" ∈ lw_t := lw_in (List.mem_of_getElem? (i := 1104) (by decide +kernel)) rfl
theorem kf_X8_35 : Cond.fieldLink RX8 35 "LuggageBeltModel" "bestRanks" "[I" ∈ lw_t := lw_in (List.mem_of_getElem? (i := 1105) (by decide +kernel)) rfl
theorem kf_X8_38 : Cond.fieldLink RX8 38 "LuggageBeltModel" "comes" "[I" ∈ lw_t := lw_in (List.mem_of_getElem? (i := 1106) (by decide +kernel)) rfl
theorem km_X8_52 : Cond.methodLink RX8 52 yX8_isRow ∈ lw_t := lw_in (List.mem_of_getElem? (i := 1155) (by decide +kernel)) rfl
theorem kd_X8_46 : Cond.constantLong RX8 46 (7) ∈ lw_t := lw_in (List.mem_of_getElem? (i := 1158) (by decide +kernel)) rfl
theorem km_X8_48 : Cond.methodLink RX8 48 yX8_in ∈ lw_t := lw_in (List.mem_of_getElem? (i := 1159) (by decide +kernel)) rfl
theorem kd_X8_56 : Cond.constantLong RX8 56 (2) ∈ lw_t := lw_in (List.mem_of_getElem? (i := 1162) (by decide +kernel)) rfl
theorem kc_X8_58 : Cond.constant RX8 58 (-1000001) ∈ lw_t := lw_in (List.mem_of_getElem? (i := 1163) (by decide +kernel)) rfl
theorem km_X8_59 : Cond.methodLink RX8 59 yX8_find ∈ lw_t := lw_in (List.mem_of_getElem? (i := 1164) (by decide +kernel)) rfl
theorem kc_X8_45 : Cond.constant RX8 45 (-1000010) ∈ lw_t := lw_in (List.mem_of_getElem? (i := 1168) (by decide +kernel)) rfl
theorem km_X8_63 : Cond.methodLink RX8 63 yX8_well ∈ lw_t := lw_in (List.mem_of_getElem? (i := 1169) (by decide +kernel)) rfl
theorem km_X8_66 : Cond.methodLink RX8 66 yX8_narrow ∈ lw_t := lw_in (List.mem_of_getElem? (i := 1177) (by decide +kernel)) rfl
theorem km_X8_70 : Cond.methodLink RX8 70 yX8_isSpan ∈ lw_t := lw_in (List.mem_of_getElem? (i := 1184) (by decide +kernel)) rfl
theorem kd_X8_74 : Cond.constantLong RX8 74 (255) ∈ lw_t := lw_in (List.mem_of_getElem? (i := 1196) (by decide +kernel)) rfl
theorem kc_X8_79 : Cond.constant RX8 79 (-1000003) ∈ lw_t := lw_in (List.mem_of_getElem? (i := 1197) (by decide +kernel)) rfl
theorem km_X8_124 : Cond.methodLink RX8 124 yX8_reads ∈ lw_t := lw_in (List.mem_of_getElem? (i := 1202) (by decide +kernel)) rfl
theorem kd_X8_112 : Cond.constantLong RX8 112 (15) ∈ lw_t := lw_in (List.mem_of_getElem? (i := 1206) (by decide +kernel)) rfl
theorem kd_X8_114 : Cond.constantLong RX8 114 (20) ∈ lw_t := lw_in (List.mem_of_getElem? (i := 1207) (by decide +kernel)) rfl
theorem kc_X8_116 : Cond.constant RX8 116 (-1000000) ∈ lw_t := lw_in (List.mem_of_getElem? (i := 1208) (by decide +kernel)) rfl
theorem km_X8_117 : Cond.methodLink RX8 117 yX8_readsLaw ∈ lw_t := lw_in (List.mem_of_getElem? (i := 1209) (by decide +kernel)) rfl
theorem km_X8_102 : Cond.methodLink RX8 102 yX8_sign ∈ lw_t := lw_in (List.mem_of_getElem? (i := 1213) (by decide +kernel)) rfl
theorem km_X8_90 : Cond.methodLink RX8 90 yX8_isLetter ∈ lw_t := lw_in (List.mem_of_getElem? (i := 1217) (by decide +kernel)) rfl
theorem km_X8_93 : Cond.methodLink RX8 93 yX8_refuse ∈ lw_t := lw_in (List.mem_of_getElem? (i := 1221) (by decide +kernel)) rfl
theorem km_X8_105 : Cond.methodLink RX8 105 yX8_readsNumber ∈ lw_t := lw_in (List.mem_of_getElem? (i := 1225) (by decide +kernel)) rfl
theorem km_X8_96 : Cond.methodLink RX8 96 yX8_isFigure ∈ lw_t := lw_in (List.mem_of_getElem? (i := 1229) (by decide +kernel)) rfl
theorem kd_X8_83 : Cond.constantLong RX8 83 (48) ∈ lw_t := lw_in (List.mem_of_getElem? (i := 1233) (by decide +kernel)) rfl
theorem kd_X8_85 : Cond.constantLong RX8 85 (57) ∈ lw_t := lw_in (List.mem_of_getElem? (i := 1234) (by decide +kernel)) rfl
theorem km_X8_109 : Cond.methodLink RX8 109 yX8_kindOfLetter ∈ lw_t := lw_in (List.mem_of_getElem? (i := 1235) (by decide +kernel)) rfl
theorem km_X8_121 : Cond.methodLink RX8 121 yX8_readsTraveller ∈ lw_t := lw_in (List.mem_of_getElem? (i := 1238) (by decide +kernel)) rfl
theorem kc_X8_130 : Cond.constant RX8 130 (-1000100) ∈ lw_t := lw_in (List.mem_of_getElem? (i := 1242) (by decide +kernel)) rfl
theorem km_X8_131 : Cond.methodLink RX8 131 yX8_copyHall ∈ lw_t := lw_in (List.mem_of_getElem? (i := 1243) (by decide +kernel)) rfl
theorem kc_X8_178 : Cond.constant RX8 178 (-1000002) ∈ lw_t := lw_in (List.mem_of_getElem? (i := 1255) (by decide +kernel)) rfl
theorem km_X8_179 : Cond.methodLink RX8 179 yX8_isHall ∈ lw_t := lw_in (List.mem_of_getElem? (i := 1260) (by decide +kernel)) rfl
theorem kd_X8_182 : Cond.constantLong RX8 182 (24) ∈ lw_t := lw_in (List.mem_of_getElem? (i := 1264) (by decide +kernel)) rfl
theorem km_X8_184 : Cond.methodLink RX8 184 yX8_keepPast ∈ lw_t := lw_in (List.mem_of_getElem? (i := 1265) (by decide +kernel)) rfl
theorem km_X8_187 : Cond.methodLink RX8 187 yX8_ticksOf ∈ lw_t := lw_in (List.mem_of_getElem? (i := 1269) (by decide +kernel)) rfl
theorem km_X8_162 : Cond.methodLink RX8 162 yX8_turns ∈ lw_t := lw_in (List.mem_of_getElem? (i := 1273) (by decide +kernel)) rfl
theorem km_X8_165 : Cond.methodLink RX8 165 yX8_falls ∈ lw_t := lw_in (List.mem_of_getElem? (i := 1277) (by decide +kernel)) rfl
theorem km_X8_138 : Cond.methodLink RX8 138 yX8_bagIn ∈ lw_t := lw_in (List.mem_of_getElem? (i := 1281) (by decide +kernel)) rfl
theorem km_X8_141 : Cond.methodLink RX8 141 yX8_waits ∈ lw_t := lw_in (List.mem_of_getElem? (i := 1285) (by decide +kernel)) rfl
theorem km_X8_169 : Cond.methodLink RX8 169 yX8_looks ∈ lw_t := lw_in (List.mem_of_getElem? (i := 1289) (by decide +kernel)) rfl
theorem km_X8_150 : Cond.methodLink RX8 150 yX8_has ∈ lw_t := lw_in (List.mem_of_getElem? (i := 1293) (by decide +kernel)) rfl
theorem km_X8_153 : Cond.methodLink RX8 153 yX8_takes ∈ lw_t := lw_in (List.mem_of_getElem? (i := 1296) (by decide +kernel)) rfl
theorem km_X8_144 : Cond.methodLink RX8 144 yX8_isSeen ∈ lw_t := lw_in (List.mem_of_getElem? (i := 1300) (by decide +kernel)) rfl
theorem km_X8_190 : Cond.methodLink RX8 190 yX8_goneOnes ∈ lw_t := lw_in (List.mem_of_getElem? (i := 1304) (by decide +kernel)) rfl
theorem km_X8_193 : Cond.methodLink RX8 193 yX8_isOne ∈ lw_t := lw_in (List.mem_of_getElem? (i := 1312) (by decide +kernel)) rfl
theorem km_X8_196 : Cond.methodLink RX8 196 yX8_isPlace ∈ lw_t := lw_in (List.mem_of_getElem? (i := 1316) (by decide +kernel)) rfl
theorem kd_X8_199 : Cond.constantLong RX8 199 (3) ∈ lw_t := lw_in (List.mem_of_getElem? (i := 1324) (by decide +kernel)) rfl
theorem km_X8_201 : Cond.methodLink RX8 201 yX8_comesBack ∈ lw_t := lw_in (List.mem_of_getElem? (i := 1329) (by decide +kernel)) rfl
theorem km_X8_204 : Cond.methodLink RX8 204 yX8_onBelt ∈ lw_t := lw_in (List.mem_of_getElem? (i := 1337) (by decide +kernel)) rfl
theorem km_X8_207 : Cond.methodLink RX8 207 yX8_bits ∈ lw_t := lw_in (List.mem_of_getElem? (i := 1341) (by decide +kernel)) rfl
theorem km_X8_172 : Cond.methodLink RX8 172 yX8_isWrong ∈ lw_t := lw_in (List.mem_of_getElem? (i := 1348) (by decide +kernel)) rfl
theorem km_X8_175 : Cond.methodLink RX8 175 yX8_isRobbed ∈ lw_t := lw_in (List.mem_of_getElem? (i := 1352) (by decide +kernel)) rfl
theorem km_X8_210 : Cond.methodLink RX8 210 yX8_takenOnes ∈ lw_t := lw_in (List.mem_of_getElem? (i := 1364) (by decide +kernel)) rfl
theorem km_X8_214 : Cond.methodLink RX8 214 yX8_wrongOnes ∈ lw_t := lw_in (List.mem_of_getElem? (i := 1368) (by decide +kernel)) rfl
theorem km_X8_217 : Cond.methodLink RX8 217 yX8_robbedOnes ∈ lw_t := lw_in (List.mem_of_getElem? (i := 1372) (by decide +kernel)) rfl
theorem kd_X8_220 : Cond.constantLong RX8 220 (60) ∈ lw_t := lw_in (List.mem_of_getElem? (i := 1384) (by decide +kernel)) rfl
theorem km_X8_222 : Cond.methodLink RX8 222 yX8_layTried ∈ lw_t := lw_in (List.mem_of_getElem? (i := 1385) (by decide +kernel)) rfl
theorem km_X8_225 : Cond.methodLink RX8 225 yX8_goneFrom ∈ lw_t := lw_in (List.mem_of_getElem? (i := 1409) (by decide +kernel)) rfl
theorem kd_X8_232 : Cond.constantLong RX8 232 (40) ∈ lw_t := lw_in (List.mem_of_getElem? (i := 1417) (by decide +kernel)) rfl
theorem km_X8_234 : Cond.methodLink RX8 234 yX8_allSaw ∈ lw_t := lw_in (List.mem_of_getElem? (i := 1418) (by decide +kernel)) rfl
theorem km_X8_237 : Cond.methodLink RX8 237 yX8_nextRanks ∈ lw_t := lw_in (List.mem_of_getElem? (i := 1422) (by decide +kernel)) rfl
theorem km_X8_229 : Cond.methodLink RX8 229 yX8_swapRanks ∈ lw_t := lw_in (List.mem_of_getElem? (i := 1426) (by decide +kernel)) rfl
theorem kd_X8_240 : Cond.constantLong RX8 240 (99) ∈ lw_t := lw_in (List.mem_of_getElem? (i := 1438) (by decide +kernel)) rfl
theorem km_X8_242 : Cond.methodLink RX8 242 yX8_sawOf ∈ lw_t := lw_in (List.mem_of_getElem? (i := 1439) (by decide +kernel)) rfl
theorem kd_X8_245 : Cond.constantLong RX8 245 (999) ∈ lw_t := lw_in (List.mem_of_getElem? (i := 1447) (by decide +kernel)) rfl
theorem kd_X8_247 : Cond.constantLong RX8 247 (4) ∈ lw_t := lw_in (List.mem_of_getElem? (i := 1452) (by decide +kernel)) rfl
theorem kd_X8_249 : Cond.constantLong RX8 249 (12) ∈ lw_t := lw_in (List.mem_of_getElem? (i := 1457) (by decide +kernel)) rfl
theorem km_X8_251 : Cond.methodLink RX8 251 yX8_refusal ∈ lw_t := lw_in (List.mem_of_getElem? (i := 1458) (by decide +kernel)) rfl
theorem km_X8_254 : Cond.methodLink RX8 254 yX8_isSo ∈ lw_t := lw_in (List.mem_of_getElem? (i := 1462) (by decide +kernel)) rfl
theorem kd_X8_257 : Cond.constantLong RX8 257 (10) ∈ lw_t := lw_in (List.mem_of_getElem? (i := 1474) (by decide +kernel)) rfl
theorem kd_X8_259 : Cond.constantLong RX8 259 (-1000001) ∈ lw_t := lw_in (List.mem_of_getElem? (i := 1475) (by decide +kernel)) rfl
theorem kd_X8_261 : Cond.constantLong RX8 261 (999999) ∈ lw_t := lw_in (List.mem_of_getElem? (i := 1480) (by decide +kernel)) rfl
theorem kd_X8_263 : Cond.constantLong RX8 263 (16807) ∈ lw_t := lw_in (List.mem_of_getElem? (i := 1481) (by decide +kernel)) rfl
theorem kd_X8_265 : Cond.constantLong RX8 265 (2147483647) ∈ lw_t := lw_in (List.mem_of_getElem? (i := 1482) (by decide +kernel)) rfl
theorem kd_X8_267 : Cond.constantLong RX8 267 (5) ∈ lw_t := lw_in (List.mem_of_getElem? (i := 1499) (by decide +kernel)) rfl
theorem km_X8_269 : Cond.methodLink RX8 269 yX8_isOf ∈ lw_t := lw_in (List.mem_of_getElem? (i := 1500) (by decide +kernel)) rfl
theorem km_X8_296 : Cond.methodLink RX8 296 yX8_sizeOf ∈ lw_t := lw_in (List.mem_of_getElem? (i := 1508) (by decide +kernel)) rfl
theorem km_X8_275 : Cond.methodLink RX8 275 yX8_begin ∈ lw_t := lw_in (List.mem_of_getElem? (i := 1512) (by decide +kernel)) rfl
theorem km_X8_284 : Cond.methodLink RX8 284 yX8_calmSize ∈ lw_t := lw_in (List.mem_of_getElem? (i := 1516) (by decide +kernel)) rfl
theorem km_X8_278 : Cond.methodLink RX8 278 yX8_lentSize ∈ lw_t := lw_in (List.mem_of_getElem? (i := 1520) (by decide +kernel)) rfl
theorem km_X8_281 : Cond.methodLink RX8 281 yX8_calmerMark ∈ lw_t := lw_in (List.mem_of_getElem? (i := 1524) (by decide +kernel)) rfl
theorem km_X8_293 : Cond.methodLink RX8 293 yX8_calmMark ∈ lw_t := lw_in (List.mem_of_getElem? (i := 1528) (by decide +kernel)) rfl
theorem km_X8_290 : Cond.methodLink RX8 290 yX8_lentMark ∈ lw_t := lw_in (List.mem_of_getElem? (i := 1532) (by decide +kernel)) rfl
theorem km_X8_287 : Cond.methodLink RX8 287 yX8_slowSize ∈ lw_t := lw_in (List.mem_of_getElem? (i := 1536) (by decide +kernel)) rfl
theorem km_X8_299 : Cond.methodLink RX8 299 yX8_slowMark ∈ lw_t := lw_in (List.mem_of_getElem? (i := 1540) (by decide +kernel)) rfl
theorem kf_J0_15 : Cond.fieldLink RJ0 15 "java/lang/String" "coder" "B" ∈ lw_t := lw_in (List.mem_of_getElem? (i := 1556) (by decide +kernel)) rfl
theorem kf_J0_9 : Cond.fieldLink RJ0 9 "java/lang/String" "value" "[B" ∈ lw_t := lw_in (List.mem_of_getElem? (i := 1557) (by decide +kernel)) rfl
