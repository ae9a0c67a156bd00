section NWW
theorem nw_m1 {w : Cond} (h : w ∈ tables_1_1) (hg : goodWord w = true) : w ∈ nw_T := nw_T_of (List.mem_append_right _ (List.mem_append_left _ h)) hg
theorem nw_m2 {w : Cond} (h : w ∈ tables_1_2) (hg : goodWord w = true) : w ∈ nw_T := nw_T_of (List.mem_append_right _ (List.mem_append_right _ (List.mem_append_left _ h))) hg
theorem nw_m3 {w : Cond} (h : w ∈ tables_1_3) (hg : goodWord w = true) : w ∈ nw_T := nw_T_of (List.mem_append_right _ (List.mem_append_right _ (List.mem_append_right _ (List.mem_append_left _ h)))) hg
theorem nw_m4 {w : Cond} (h : w ∈ tables_1_4) (hg : goodWord w = true) : w ∈ nw_T := nw_T_of (List.mem_append_right _ (List.mem_append_right _ (List.mem_append_right _ (List.mem_append_right _ (List.mem_append_left _ h))))) hg
theorem nw_m5 {w : Cond} (h : w ∈ tables_1_5) (hg : goodWord w = true) : w ∈ nw_T := nw_T_of (List.mem_append_right _ (List.mem_append_right _ (List.mem_append_right _ (List.mem_append_right _ (List.mem_append_right _ h))))) hg
theorem nw_ms {q : MethodName × Nat} (h : q ∈ lw_privs) : Cond.selects q.1.cls q.1 q.1 ∈ nw_T := nw_T_of (List.mem_append_left _ (List.mem_map.mpr ⟨q, h, rfl⟩)) rfl
theorem nw_lt4 {x : Int32} (h : vp_in x 4) : x.toNatClampNeg < 4 := Nat.not_le.mp fun q => h (Or.inr q)
theorem in_T0 : ∀ w ∈ u_ws RX0 TX0 3, w ∈ nw_T := fun w h => nw_T_of ((by decide +kernel : ∀ w ∈ u_ws RX0 TX0 3, w ∈ lw_tbl) w h) ((by decide +kernel : ∀ w ∈ u_ws RX0 TX0 3, goodWord w = true) w h)
theorem in_T1 : ∀ w ∈ u_ws RX1 TX1 4, w ∈ nw_T := fun w h => nw_T_of ((by decide +kernel : ∀ w ∈ u_ws RX1 TX1 4, w ∈ lw_tbl) w h) ((by decide +kernel : ∀ w ∈ u_ws RX1 TX1 4, goodWord w = true) w h)
theorem in_T2 : ∀ w ∈ u_ws RX2 TX2 7, w ∈ nw_T := fun w h => nw_T_of ((by decide +kernel : ∀ w ∈ u_ws RX2 TX2 7, w ∈ lw_tbl) w h) ((by decide +kernel : ∀ w ∈ u_ws RX2 TX2 7, goodWord w = true) w h)
theorem in_T3 : ∀ w ∈ u_ws RX3 TX3 7, w ∈ nw_T := fun w h => nw_T_of ((by decide +kernel : ∀ w ∈ u_ws RX3 TX3 7, w ∈ lw_tbl) w h) ((by decide +kernel : ∀ w ∈ u_ws RX3 TX3 7, goodWord w = true) w h)
theorem in_T4 : ∀ w ∈ u_ws RX4 TX4 13, w ∈ nw_T := fun w h => nw_T_of ((by decide +kernel : ∀ w ∈ u_ws RX4 TX4 13, w ∈ lw_tbl) w h) ((by decide +kernel : ∀ w ∈ u_ws RX4 TX4 13, goodWord w = true) w h)
theorem in_T5 : ∀ w ∈ u_ws RX5 TX5 38, w ∈ nw_T := fun w h => nw_T_of ((by decide +kernel : ∀ w ∈ u_ws RX5 TX5 38, w ∈ lw_tbl) w h) ((by decide +kernel : ∀ w ∈ u_ws RX5 TX5 38, goodWord w = true) w h)
theorem nw_w0 : Cond.fieldLink RX4 31 "NumberedWaves" "finds" "LNumberedWaves$Text;" ∈ nw_T := nw_m1 (List.mem_of_getElem? (i := 141) rfl) rfl
theorem nw_w1 : Cond.fieldLink RX4 21 "NumberedWaves" "swells" "LNumberedWaves$Text;" ∈ nw_T := nw_m1 (List.mem_of_getElem? (i := 140) rfl) rfl
theorem nw_w2 : Cond.fieldLink RX2 9 "NumberedWaves$Text" "bytes" "[I" ∈ nw_T := nw_m1 (List.mem_of_getElem? (i := 28) rfl) rfl
theorem nw_w3 : Cond.fieldLink RX2 15 "NumberedWaves$Text" "partOfPlace" "[I" ∈ nw_T := nw_m1 (List.mem_of_getElem? (i := 29) rfl) rfl
theorem nw_w4 : Cond.fieldLink RX2 21 "NumberedWaves$Text" "parts" "[I" ∈ nw_T := nw_m1 (List.mem_of_getElem? (i := 31) rfl) rfl
theorem nw_w5 : Cond.fieldLink RX2 18 "NumberedWaves$Text" "leastOfPart" "[I" ∈ nw_T := nw_m1 (List.mem_of_getElem? (i := 30) rfl) rfl
theorem nw_w6 : Cond.methodLink RX2 37 yJ7_fill_53178 ∈ nw_T := nw_m1 (List.mem_of_getElem? (i := 200) rfl) rfl
theorem nw_w7 : Cond.static yJ7_fill_53178 ∈ nw_T := nw_m1 (List.mem_of_getElem? (i := 201) rfl) rfl
theorem nw_w8 : Cond.initialized RJ7 ∈ nw_T := nw_m1 (List.mem_of_getElem? (i := 7) rfl) rfl
theorem nw_w9 : Cond.code yJ7_fill_53178 cJ7_fill_53178 4 none ∈ nw_T := nw_m1 (List.mem_of_getElem? (i := 202) rfl) rfl
theorem nw_w10 : Cond.fieldLink RX2 28 "NumberedWaves$Text" "flaw" "I" ∈ nw_T := nw_m1 (List.mem_of_getElem? (i := 34) rfl) rfl
theorem nw_w11 : Cond.fieldLink RX2 24 "NumberedWaves$Text" "length" "I" ∈ nw_T := nw_m1 (List.mem_of_getElem? (i := 32) rfl) rfl
theorem nw_w12 : Cond.fieldLink RX2 31 "NumberedWaves$Text" "entries" "I" ∈ nw_T := nw_m1 (List.mem_of_getElem? (i := 36) rfl) rfl
theorem nw_w13 : Cond.methodLink RX2 43 yX2_goesOn ∈ nw_T := nw_m1 (List.mem_of_getElem? (i := 203) rfl) rfl
theorem nw_w14 : Cond.instanceMethod yX2_goesOn ∈ nw_T := nw_m1 (List.mem_of_getElem? (i := 205) rfl) rfl
theorem nw_w15 : Cond.selects RX2 yX2_goesOn yX2_goesOn ∈ nw_T := nw_ms (List.mem_of_getElem? (i := 2) rfl)
theorem nw_w16 : Cond.initialized RX2 ∈ nw_T := nw_m1 (List.mem_of_getElem? (i := 2) rfl) rfl
theorem nw_w17 : Cond.code yX2_goesOn cX2_goesOn 7 (some .boolean) ∈ nw_T := nw_m1 (List.mem_of_getElem? (i := 206) rfl) rfl
theorem nw_w18 : Cond.methodLink RX2 34 yX2_parse ∈ nw_T := nw_m1 (List.mem_of_getElem? (i := 196) rfl) rfl
theorem nw_w19 : Cond.instanceMethod yX2_parse ∈ nw_T := nw_m1 (List.mem_of_getElem? (i := 198) rfl) rfl
theorem nw_w20 : Cond.selects RX2 yX2_parse yX2_parse ∈ nw_T := nw_ms (List.mem_of_getElem? (i := 1) rfl)
theorem nw_w21 : Cond.code yX2_parse cX2_parse 2 none ∈ nw_T := nw_m1 (List.mem_of_getElem? (i := 199) rfl) rfl
theorem nw_w22 : Cond.methodLink RX4 84 yX4_isBelow ∈ nw_T := nw_m1 (List.mem_of_getElem? (i := 185) rfl) rfl
theorem nw_w23 : Cond.static yX4_isBelow ∈ nw_T := nw_m1 (List.mem_of_getElem? (i := 186) rfl) rfl
theorem nw_w24 : Cond.initialized RX4 ∈ nw_T := nw_m1 (List.mem_of_getElem? (i := 1) rfl) rfl
theorem nw_w25 : Cond.code yX4_isBelow cX4_isBelow 2 (some .boolean) ∈ nw_T := nw_m1 (List.mem_of_getElem? (i := 187) rfl) rfl
theorem nw_w26 : Cond.methodLink RX4 88 yX4_textOf ∈ nw_T := nw_m1 (List.mem_of_getElem? (i := 188) rfl) rfl
theorem nw_w27 : Cond.instanceMethod yX4_textOf ∈ nw_T := nw_m1 (List.mem_of_getElem? (i := 190) rfl) rfl
theorem nw_w28 : Cond.selects RX4 yX4_textOf yX4_textOf ∈ nw_T := nw_ms (List.mem_of_getElem? (i := 0) rfl)
theorem nw_w29 : Cond.code yX4_textOf cX4_textOf 2 (some (.object "NumberedWaves$Text")) ∈ nw_T := nw_m1 (List.mem_of_getElem? (i := 191) rfl) rfl
theorem nw_w30 : Cond.methodLink RX4 92 yX2_append ∈ nw_T := nw_m1 (List.mem_of_getElem? (i := 192) rfl) rfl
theorem nw_w31 : Cond.instanceMethod yX2_append ∈ nw_T := nw_m1 (List.mem_of_getElem? (i := 193) rfl) rfl
theorem nw_w32 : Cond.selects RX2 yX2_append yX2_append ∈ nw_T := nw_m1 (List.mem_of_getElem? (i := 194) rfl) rfl
theorem nw_w33 : Cond.code yX2_append cX2_append 2 (some .boolean) ∈ nw_T := nw_m1 (List.mem_of_getElem? (i := 195) rfl) rfl
theorem nw_w34 : Cond.fieldLink RX4 80 "NumberedWaves" "keptIsFresh" "Z" ∈ nw_T := nw_m1 (List.mem_of_getElem? (i := 152) rfl) rfl
theorem nw_w35 : Cond.methodLink RX4 99 yX2_cutTo ∈ nw_T := nw_m1 (List.mem_of_getElem? (i := 211) rfl) rfl
theorem nw_w36 : Cond.instanceMethod yX2_cutTo ∈ nw_T := nw_m1 (List.mem_of_getElem? (i := 212) rfl) rfl
theorem nw_w37 : Cond.selects RX2 yX2_cutTo yX2_cutTo ∈ nw_T := nw_m1 (List.mem_of_getElem? (i := 213) rfl) rfl
theorem nw_w38 : Cond.code yX2_cutTo cX2_cutTo 2 none ∈ nw_T := nw_m1 (List.mem_of_getElem? (i := 214) rfl) rfl
theorem nw_w39 : Cond.methodLink RX4 181 yX2_part ∈ nw_T := nw_m1 (List.mem_of_getElem? (i := 230) rfl) rfl
theorem nw_w40 : Cond.instanceMethod yX2_part ∈ nw_T := nw_m1 (List.mem_of_getElem? (i := 231) rfl) rfl
theorem nw_w41 : Cond.selects RX2 yX2_part yX2_part ∈ nw_T := nw_m1 (List.mem_of_getElem? (i := 232) rfl) rfl
theorem nw_w42 : Cond.code yX2_part cX2_part 3 (some .int) ∈ nw_T := nw_m1 (List.mem_of_getElem? (i := 233) rfl) rfl
theorem nw_w43 : Cond.methodLink RX4 105 yX4_partOf ∈ nw_T := nw_m1 (List.mem_of_getElem? (i := 227) rfl) rfl
theorem nw_w44 : Cond.static yX4_partOf ∈ nw_T := nw_m1 (List.mem_of_getElem? (i := 228) rfl) rfl
theorem nw_w45 : Cond.code yX4_partOf cX4_partOf 3 (some .int) ∈ nw_T := nw_m1 (List.mem_of_getElem? (i := 229) rfl) rfl
theorem nw_w46 : Cond.methodLink RX4 109 yX4_isFrom ∈ nw_T := nw_m2 (List.mem_of_getElem? (i := 2) rfl) rfl
theorem nw_w47 : Cond.static yX4_isFrom ∈ nw_T := nw_m2 (List.mem_of_getElem? (i := 3) rfl) rfl
theorem nw_w48 : Cond.code yX4_isFrom cX4_isFrom 3 (some .boolean) ∈ nw_T := nw_m2 (List.mem_of_getElem? (i := 4) rfl) rfl
theorem nw_w49 : Cond.fieldLink RX4 73 "NumberedWaves" "deep" "I" ∈ nw_T := nw_m1 (List.mem_of_getElem? (i := 150) rfl) rfl
theorem nw_w50 : Cond.fieldLink RX0 18 "NumberedWaves$Pairs" "size" "I" ∈ nw_T := nw_m1 (List.mem_of_getElem? (i := 71) rfl) rfl
theorem nw_w51 : Cond.fieldLink RX0 9 "NumberedWaves$Pairs" "first" "[I" ∈ nw_T := nw_m1 (List.mem_of_getElem? (i := 65) rfl) rfl
theorem nw_w52 : Cond.fieldLink RX0 15 "NumberedWaves$Pairs" "second" "[I" ∈ nw_T := nw_m1 (List.mem_of_getElem? (i := 68) rfl) rfl
theorem nw_w53 : Cond.methodLink RX4 138 yX0_append ∈ nw_T := nw_m2 (List.mem_of_getElem? (i := 13) rfl) rfl
theorem nw_w54 : Cond.instanceMethod yX0_append ∈ nw_T := nw_m2 (List.mem_of_getElem? (i := 14) rfl) rfl
theorem nw_w55 : Cond.selects RX0 yX0_append yX0_append ∈ nw_T := nw_m2 (List.mem_of_getElem? (i := 15) rfl) rfl
theorem nw_w56 : Cond.initialized RX0 ∈ nw_T := nw_m1 (List.mem_of_getElem? (i := 3) rfl) rfl
theorem nw_w57 : Cond.code yX0_append cX0_append 3 (some .boolean) ∈ nw_T := nw_m2 (List.mem_of_getElem? (i := 16) rfl) rfl
theorem nw_w58 : Cond.fieldLink RX4 39 "NumberedWaves" "slips" "LNumberedWaves$Pairs;" ∈ nw_T := nw_m1 (List.mem_of_getElem? (i := 142) rfl) rfl
theorem nw_w59 : Cond.methodLink RX4 113 yX4_tell ∈ nw_T := nw_m2 (List.mem_of_getElem? (i := 9) rfl) rfl
theorem nw_w60 : Cond.instanceMethod yX4_tell ∈ nw_T := nw_m2 (List.mem_of_getElem? (i := 11) rfl) rfl
theorem nw_w61 : Cond.selects RX4 yX4_tell yX4_tell ∈ nw_T := nw_ms (List.mem_of_getElem? (i := 3) rfl)
theorem nw_w62 : Cond.code yX4_tell cX4_tell 4 (some .int) ∈ nw_T := nw_m2 (List.mem_of_getElem? (i := 12) rfl) rfl
theorem nw_w63 : Cond.methodLink RX4 117 yX4_isTime ∈ nw_T := nw_m2 (List.mem_of_getElem? (i := 21) rfl) rfl
theorem nw_w64 : Cond.static yX4_isTime ∈ nw_T := nw_m2 (List.mem_of_getElem? (i := 22) rfl) rfl
theorem nw_w65 : Cond.code yX4_isTime cX4_isTime 1 (some .boolean) ∈ nw_T := nw_m2 (List.mem_of_getElem? (i := 23) rfl) rfl
theorem nw_w66 : Cond.fieldLink RX4 43 "NumberedWaves" "wakes" "LNumberedWaves$Pairs;" ∈ nw_T := nw_m1 (List.mem_of_getElem? (i := 143) rfl) rfl
theorem nw_w67 : Cond.methodLink RX4 156 yX4_isNumber ∈ nw_T := nw_m2 (List.mem_of_getElem? (i := 31) rfl) rfl
theorem nw_w68 : Cond.static yX4_isNumber ∈ nw_T := nw_m2 (List.mem_of_getElem? (i := 32) rfl) rfl
theorem nw_w69 : Cond.code yX4_isNumber cX4_isNumber 1 (some .boolean) ∈ nw_T := nw_m2 (List.mem_of_getElem? (i := 33) rfl) rfl
theorem nw_w70 : Cond.methodLink RX4 120 yX4_mayBeTicket ∈ nw_T := nw_m2 (List.mem_of_getElem? (i := 28) rfl) rfl
theorem nw_w71 : Cond.static yX4_mayBeTicket ∈ nw_T := nw_m2 (List.mem_of_getElem? (i := 29) rfl) rfl
theorem nw_w72 : Cond.code yX4_mayBeTicket cX4_mayBeTicket 2 (some .boolean) ∈ nw_T := nw_m2 (List.mem_of_getElem? (i := 30) rfl) rfl
theorem nw_w73 : Cond.fieldLink RX4 46 "NumberedWaves" "tickets" "LNumberedWaves$Pairs;" ∈ nw_T := nw_m1 (List.mem_of_getElem? (i := 144) rfl) rfl
theorem nw_w74 : Cond.methodLink RX4 123 yX0_dropLast ∈ nw_T := nw_m2 (List.mem_of_getElem? (i := 38) rfl) rfl
theorem nw_w75 : Cond.instanceMethod yX0_dropLast ∈ nw_T := nw_m2 (List.mem_of_getElem? (i := 39) rfl) rfl
theorem nw_w76 : Cond.selects RX0 yX0_dropLast yX0_dropLast ∈ nw_T := nw_m2 (List.mem_of_getElem? (i := 40) rfl) rfl
theorem nw_w77 : Cond.code yX0_dropLast cX0_dropLast 1 (some .boolean) ∈ nw_T := nw_m2 (List.mem_of_getElem? (i := 41) rfl) rfl
theorem nw_w78 : Cond.fieldLink RX4 77 "NumberedWaves" "latest" "I" ∈ nw_T := nw_m1 (List.mem_of_getElem? (i := 151) rfl) rfl
theorem nw_w79 : Cond.fieldLink RX4 61 "NumberedWaves" "sheets" "[LNumberedWaves$Sheet;" ∈ nw_T := nw_m1 (List.mem_of_getElem? (i := 147) rfl) rfl
theorem nw_w80 : Cond.methodLink RX4 252 yX4_finding ∈ nw_T := nw_m2 (List.mem_of_getElem? (i := 50) rfl) rfl
theorem nw_w81 : Cond.instanceMethod yX4_finding ∈ nw_T := nw_m2 (List.mem_of_getElem? (i := 52) rfl) rfl
theorem nw_w82 : Cond.selects RX4 yX4_finding yX4_finding ∈ nw_T := nw_ms (List.mem_of_getElem? (i := 5) rfl)
theorem nw_w83 : Cond.code yX4_finding cX4_finding 2 (some .int) ∈ nw_T := nw_m2 (List.mem_of_getElem? (i := 53) rfl) rfl
theorem nw_w84 : Cond.methodLink RX4 130 yX4_sheetRefusal ∈ nw_T := nw_m2 (List.mem_of_getElem? (i := 46) rfl) rfl
theorem nw_w85 : Cond.instanceMethod yX4_sheetRefusal ∈ nw_T := nw_m2 (List.mem_of_getElem? (i := 48) rfl) rfl
theorem nw_w86 : Cond.selects RX4 yX4_sheetRefusal yX4_sheetRefusal ∈ nw_T := nw_ms (List.mem_of_getElem? (i := 4) rfl)
theorem nw_w87 : Cond.code yX4_sheetRefusal cX4_sheetRefusal 2 (some .int) ∈ nw_T := nw_m2 (List.mem_of_getElem? (i := 49) rfl) rfl
theorem nw_w88 : Cond.fieldLink RX3 9 "NumberedWaves$Waves" "heights" "[I" ∈ nw_T := nw_m1 (List.mem_of_getElem? (i := 87) rfl) rfl
theorem nw_w89 : Cond.methodLink RX3 47 yJ7_fill_53178 ∈ nw_T := nw_m2 (List.mem_of_getElem? (i := 70) rfl) rfl
theorem nw_w90 : Cond.fieldLink RX3 15 "NumberedWaves$Waves" "crests" "[I" ∈ nw_T := nw_m1 (List.mem_of_getElem? (i := 89) rfl) rfl
theorem nw_w91 : Cond.methodLink RX3 66 yX2_part ∈ nw_T := nw_m2 (List.mem_of_getElem? (i := 71) rfl) rfl
theorem nw_w92 : Cond.code yX4_isCrest cX4_isCrest 3 (some .boolean) ∈ nw_T := nw_m2 (List.mem_of_getElem? (i := 74) rfl) rfl
theorem nw_w93 : Cond.static yX4_isCrest ∈ nw_T := nw_m2 (List.mem_of_getElem? (i := 73) rfl) rfl
theorem nw_w94 : Cond.fieldLink RX3 25 "NumberedWaves$Waves" "numbers" "[I" ∈ nw_T := nw_m1 (List.mem_of_getElem? (i := 94) rfl) rfl
theorem nw_w95 : Cond.methodLink RX3 39 yX3_reckonHeights ∈ nw_T := nw_m2 (List.mem_of_getElem? (i := 66) rfl) rfl
theorem nw_w96 : Cond.instanceMethod yX3_reckonHeights ∈ nw_T := nw_m2 (List.mem_of_getElem? (i := 68) rfl) rfl
theorem nw_w97 : Cond.selects RX3 yX3_reckonHeights yX3_reckonHeights ∈ nw_T := nw_ms (List.mem_of_getElem? (i := 7) rfl)
theorem nw_w98 : Cond.initialized RX3 ∈ nw_T := nw_m1 (List.mem_of_getElem? (i := 4) rfl) rfl
theorem nw_w99 : Cond.code yX3_reckonHeights cX3_reckonHeights 4 none ∈ nw_T := nw_m2 (List.mem_of_getElem? (i := 69) rfl) rfl
theorem nw_w100 : Cond.methodLink RX3 43 yX3_reckonNumbers ∈ nw_T := nw_m2 (List.mem_of_getElem? (i := 75) rfl) rfl
theorem nw_w101 : Cond.instanceMethod yX3_reckonNumbers ∈ nw_T := nw_m2 (List.mem_of_getElem? (i := 77) rfl) rfl
theorem nw_w102 : Cond.selects RX3 yX3_reckonNumbers yX3_reckonNumbers ∈ nw_T := nw_ms (List.mem_of_getElem? (i := 8) rfl)
theorem nw_w103 : Cond.code yX3_reckonNumbers cX3_reckonNumbers 4 none ∈ nw_T := nw_m2 (List.mem_of_getElem? (i := 78) rfl) rfl
theorem nw_w104 : Cond.fieldLink RX3 28 "NumberedWaves$Waves" "times" "[I" ∈ nw_T := nw_m1 (List.mem_of_getElem? (i := 96) rfl) rfl
theorem nw_w105 : Cond.fieldLink RX3 31 "NumberedWaves$Waves" "calls" "I" ∈ nw_T := nw_m1 (List.mem_of_getElem? (i := 98) rfl) rfl
theorem nw_w106 : Cond.fieldLink RX3 22 "NumberedWaves$Waves" "turns" "[I" ∈ nw_T := nw_m1 (List.mem_of_getElem? (i := 92) rfl) rfl
theorem nw_w107 : Cond.code yX4_breaksAt cX4_breaksAt 2 (some .boolean) ∈ nw_T := nw_m2 (List.mem_of_getElem? (i := 81) rfl) rfl
theorem nw_w108 : Cond.static yX4_breaksAt ∈ nw_T := nw_m2 (List.mem_of_getElem? (i := 80) rfl) rfl
theorem nw_w109 : Cond.fieldLink RX3 18 "NumberedWaves$Waves" "voided" "[Z" ∈ nw_T := nw_m1 (List.mem_of_getElem? (i := 90) rfl) rfl
theorem nw_w110 : Cond.fieldLink RX4 55 "NumberedWaves" "kept" "LNumberedWaves$Waves;" ∈ nw_T := nw_m1 (List.mem_of_getElem? (i := 146) rfl) rfl
theorem nw_w111 : Cond.methodLink RX4 373 yX3_reckon ∈ nw_T := nw_m2 (List.mem_of_getElem? (i := 62) rfl) rfl
theorem nw_w112 : Cond.instanceMethod yX3_reckon ∈ nw_T := nw_m2 (List.mem_of_getElem? (i := 63) rfl) rfl
theorem nw_w113 : Cond.selects RX3 yX3_reckon yX3_reckon ∈ nw_T := nw_m2 (List.mem_of_getElem? (i := 64) rfl) rfl
theorem nw_w114 : Cond.code yX3_reckon cX3_reckon 6 none ∈ nw_T := nw_m2 (List.mem_of_getElem? (i := 65) rfl) rfl
theorem nw_w115 : Cond.methodLink RX4 140 yX4_waves ∈ nw_T := nw_m2 (List.mem_of_getElem? (i := 58) rfl) rfl
theorem nw_w116 : Cond.instanceMethod yX4_waves ∈ nw_T := nw_m2 (List.mem_of_getElem? (i := 60) rfl) rfl
theorem nw_w117 : Cond.selects RX4 yX4_waves yX4_waves ∈ nw_T := nw_ms (List.mem_of_getElem? (i := 6) rfl)
theorem nw_w118 : Cond.code yX4_waves cX4_waves 1 (some (.object "NumberedWaves$Waves")) ∈ nw_T := nw_m2 (List.mem_of_getElem? (i := 61) rfl) rfl
theorem nw_w119 : Cond.methodLink RX4 153 yX3_isDouble ∈ nw_T := nw_m2 (List.mem_of_getElem? (i := 91) rfl) rfl
theorem nw_w120 : Cond.instanceMethod yX3_isDouble ∈ nw_T := nw_m2 (List.mem_of_getElem? (i := 92) rfl) rfl
theorem nw_w121 : Cond.selects RX3 yX3_isDouble yX3_isDouble ∈ nw_T := nw_m2 (List.mem_of_getElem? (i := 93) rfl) rfl
theorem nw_w122 : Cond.code yX3_isDouble cX3_isDouble 2 (some .boolean) ∈ nw_T := nw_m2 (List.mem_of_getElem? (i := 94) rfl) rfl
theorem nw_w123 : Cond.methodLink RX4 150 yX3_numberAt ∈ nw_T := nw_m2 (List.mem_of_getElem? (i := 87) rfl) rfl
theorem nw_w124 : Cond.instanceMethod yX3_numberAt ∈ nw_T := nw_m2 (List.mem_of_getElem? (i := 88) rfl) rfl
theorem nw_w125 : Cond.selects RX3 yX3_numberAt yX3_numberAt ∈ nw_T := nw_m2 (List.mem_of_getElem? (i := 89) rfl) rfl
theorem nw_w126 : Cond.code yX3_numberAt cX3_numberAt 2 (some .int) ∈ nw_T := nw_m2 (List.mem_of_getElem? (i := 90) rfl) rfl
theorem nw_w127 : Cond.methodLink RX4 147 yX4_breaksAt ∈ nw_T := nw_m2 (List.mem_of_getElem? (i := 86) rfl) rfl
theorem nw_w128 : Cond.methodLink RX4 165 yX4_valueOf ∈ nw_T := nw_m2 (List.mem_of_getElem? (i := 107) rfl) rfl
theorem nw_w129 : Cond.instanceMethod yX4_valueOf ∈ nw_T := nw_m2 (List.mem_of_getElem? (i := 109) rfl) rfl
theorem nw_w130 : Cond.selects RX4 yX4_valueOf yX4_valueOf ∈ nw_T := nw_ms (List.mem_of_getElem? (i := 9) rfl)
theorem nw_w131 : Cond.code yX4_valueOf cX4_valueOf 5 (some .int) ∈ nw_T := nw_m2 (List.mem_of_getElem? (i := 110) rfl) rfl
theorem nw_w132 : Cond.methodLink RX4 175 yX0_firstWithSecond ∈ nw_T := nw_m2 (List.mem_of_getElem? (i := 119) rfl) rfl
theorem nw_w133 : Cond.instanceMethod yX0_firstWithSecond ∈ nw_T := nw_m2 (List.mem_of_getElem? (i := 120) rfl) rfl
theorem nw_w134 : Cond.selects RX0 yX0_firstWithSecond yX0_firstWithSecond ∈ nw_T := nw_m2 (List.mem_of_getElem? (i := 121) rfl) rfl
theorem nw_w135 : Cond.code yX0_firstWithSecond cX0_firstWithSecond 3 (some .int) ∈ nw_T := nw_m2 (List.mem_of_getElem? (i := 122) rfl) rfl
theorem nw_w136 : Cond.methodLink RX4 210 yX4_worthOf ∈ nw_T := nw_m2 (List.mem_of_getElem? (i := 123) rfl) rfl
theorem nw_w137 : Cond.instanceMethod yX4_worthOf ∈ nw_T := nw_m2 (List.mem_of_getElem? (i := 125) rfl) rfl
theorem nw_w138 : Cond.selects RX4 yX4_worthOf yX4_worthOf ∈ nw_T := nw_ms (List.mem_of_getElem? (i := 11) rfl)
theorem nw_w139 : Cond.code yX4_worthOf cX4_worthOf 6 (some .int) ∈ nw_T := nw_m2 (List.mem_of_getElem? (i := 126) rfl) rfl
theorem nw_w140 : Cond.methodLink RX4 168 yX4_claimsBy ∈ nw_T := nw_m2 (List.mem_of_getElem? (i := 115) rfl) rfl
theorem nw_w141 : Cond.instanceMethod yX4_claimsBy ∈ nw_T := nw_m2 (List.mem_of_getElem? (i := 117) rfl) rfl
theorem nw_w142 : Cond.selects RX4 yX4_claimsBy yX4_claimsBy ∈ nw_T := nw_ms (List.mem_of_getElem? (i := 10) rfl)
theorem nw_w143 : Cond.code yX4_claimsBy cX4_claimsBy 6 (some .int) ∈ nw_T := nw_m2 (List.mem_of_getElem? (i := 118) rfl) rfl
theorem nw_w144 : Cond.methodLink RX4 185 yJ9_max_7cf53 ∈ nw_T := nw_m2 (List.mem_of_getElem? (i := 135) rfl) rfl
theorem nw_w145 : Cond.static yJ9_max_7cf53 ∈ nw_T := nw_m2 (List.mem_of_getElem? (i := 136) rfl) rfl
theorem nw_w146 : Cond.initialized RJ9 ∈ nw_T := nw_m1 (List.mem_of_getElem? (i := 8) rfl) rfl
theorem nw_w147 : Cond.code yJ9_max_7cf53 cJ9_max_7cf53 2 (some .int) ∈ nw_T := nw_m2 (List.mem_of_getElem? (i := 137) rfl) rfl
theorem nw_w148 : Cond.methodLink RX4 190 yX4_firstCrest ∈ nw_T := nw_m2 (List.mem_of_getElem? (i := 138) rfl) rfl
theorem nw_w149 : Cond.instanceMethod yX4_firstCrest ∈ nw_T := nw_m2 (List.mem_of_getElem? (i := 140) rfl) rfl
theorem nw_w150 : Cond.selects RX4 yX4_firstCrest yX4_firstCrest ∈ nw_T := nw_ms (List.mem_of_getElem? (i := 12) rfl)
theorem nw_w151 : Cond.code yX4_firstCrest cX4_firstCrest 5 (some .int) ∈ nw_T := nw_m2 (List.mem_of_getElem? (i := 141) rfl) rfl
theorem nw_w152 : Cond.methodLink RX4 193 yX4_isCrest ∈ nw_T := nw_m2 (List.mem_of_getElem? (i := 142) rfl) rfl
theorem nw_w153 : Cond.methodLink RX4 196 yX4_leastCommonMultiple ∈ nw_T := nw_m2 (List.mem_of_getElem? (i := 143) rfl) rfl
theorem nw_w154 : Cond.static yX4_leastCommonMultiple ∈ nw_T := nw_m2 (List.mem_of_getElem? (i := 144) rfl) rfl
theorem nw_w155 : Cond.code yX4_leastCommonMultiple cX4_leastCommonMultiple 6 (some .int) ∈ nw_T := nw_m2 (List.mem_of_getElem? (i := 145) rfl) rfl
theorem nw_w156 : Cond.methodLink RX4 199 yX3_last ∈ nw_T := nw_m2 (List.mem_of_getElem? (i := 150) rfl) rfl
theorem nw_w157 : Cond.instanceMethod yX3_last ∈ nw_T := nw_m2 (List.mem_of_getElem? (i := 151) rfl) rfl
theorem nw_w158 : Cond.selects RX3 yX3_last yX3_last ∈ nw_T := nw_m2 (List.mem_of_getElem? (i := 152) rfl) rfl
theorem nw_w159 : Cond.code yX3_last cX3_last 1 (some .int) ∈ nw_T := nw_m2 (List.mem_of_getElem? (i := 153) rfl) rfl
theorem nw_w160 : Cond.methodLink RX4 203 yX4_sumOfRun ∈ nw_T := nw_m2 (List.mem_of_getElem? (i := 154) rfl) rfl
theorem nw_w161 : Cond.instanceMethod yX4_sumOfRun ∈ nw_T := nw_m2 (List.mem_of_getElem? (i := 156) rfl) rfl
theorem nw_w162 : Cond.selects RX4 yX4_sumOfRun yX4_sumOfRun ∈ nw_T := nw_ms (List.mem_of_getElem? (i := 13) rfl)
theorem nw_w163 : Cond.code yX4_sumOfRun cX4_sumOfRun 6 (some .int) ∈ nw_T := nw_m2 (List.mem_of_getElem? (i := 157) rfl) rfl
theorem nw_w164 : Cond.methodLink RX4 207 yX3_breakingBy ∈ nw_T := nw_m2 (List.mem_of_getElem? (i := 162) rfl) rfl
theorem nw_w165 : Cond.instanceMethod yX3_breakingBy ∈ nw_T := nw_m2 (List.mem_of_getElem? (i := 163) rfl) rfl
theorem nw_w166 : Cond.selects RX3 yX3_breakingBy yX3_breakingBy ∈ nw_T := nw_m2 (List.mem_of_getElem? (i := 164) rfl) rfl
theorem nw_w167 : Cond.code yX3_breakingBy cX3_breakingBy 4 (some .int) ∈ nw_T := nw_m2 (List.mem_of_getElem? (i := 165) rfl) rfl
theorem nw_w168 : Cond.fieldLink RX4 49 "NumberedWaves" "sayings" "LNumberedWaves$Pairs;" ∈ nw_T := nw_m1 (List.mem_of_getElem? (i := 145) rfl) rfl
theorem nw_w169 : Cond.methodLink RX4 213 yX4_fitsSlip ∈ nw_T := nw_m2 (List.mem_of_getElem? (i := 182) rfl) rfl
theorem nw_w170 : Cond.instanceMethod yX4_fitsSlip ∈ nw_T := nw_m2 (List.mem_of_getElem? (i := 184) rfl) rfl
theorem nw_w171 : Cond.selects RX4 yX4_fitsSlip yX4_fitsSlip ∈ nw_T := nw_ms (List.mem_of_getElem? (i := 14) rfl)
theorem nw_w172 : Cond.code yX4_fitsSlip cX4_fitsSlip 7 (some .boolean) ∈ nw_T := nw_m2 (List.mem_of_getElem? (i := 185) rfl) rfl
theorem nw_w173 : Cond.methodLink RX4 217 yX4_fitsWake ∈ nw_T := nw_m2 (List.mem_of_getElem? (i := 190) rfl) rfl
theorem nw_w174 : Cond.instanceMethod yX4_fitsWake ∈ nw_T := nw_m2 (List.mem_of_getElem? (i := 192) rfl) rfl
theorem nw_w175 : Cond.selects RX4 yX4_fitsWake yX4_fitsWake ∈ nw_T := nw_ms (List.mem_of_getElem? (i := 15) rfl)
theorem nw_w176 : Cond.code yX4_fitsWake cX4_fitsWake 7 (some .boolean) ∈ nw_T := nw_m2 (List.mem_of_getElem? (i := 193) rfl) rfl
theorem nw_w177 : Cond.fieldLink RX4 66 "NumberedWaves" "dueNumbers" "[I" ∈ nw_T := nw_m1 (List.mem_of_getElem? (i := 148) rfl) rfl
theorem nw_w178 : Cond.methodLink RX4 383 yJ7_fill_53178 ∈ nw_T := nw_m2 (List.mem_of_getElem? (i := 202) rfl) rfl
theorem nw_w179 : Cond.methodLink RX4 221 yX4_markDueNumbers ∈ nw_T := nw_m2 (List.mem_of_getElem? (i := 198) rfl) rfl
theorem nw_w180 : Cond.instanceMethod yX4_markDueNumbers ∈ nw_T := nw_m2 (List.mem_of_getElem? (i := 200) rfl) rfl
theorem nw_w181 : Cond.selects RX4 yX4_markDueNumbers yX4_markDueNumbers ∈ nw_T := nw_ms (List.mem_of_getElem? (i := 16) rfl)
theorem nw_w182 : Cond.code yX4_markDueNumbers cX4_markDueNumbers 5 (some .int) ∈ nw_T := nw_m2 (List.mem_of_getElem? (i := 201) rfl) rfl
theorem nw_w183 : Cond.methodLink RX4 224 yX4_fitsPeriod ∈ nw_T := nw_m2 (List.mem_of_getElem? (i := 203) rfl) rfl
theorem nw_w184 : Cond.instanceMethod yX4_fitsPeriod ∈ nw_T := nw_m2 (List.mem_of_getElem? (i := 205) rfl) rfl
theorem nw_w185 : Cond.selects RX4 yX4_fitsPeriod yX4_fitsPeriod ∈ nw_T := nw_ms (List.mem_of_getElem? (i := 17) rfl)
theorem nw_w186 : Cond.code yX4_fitsPeriod cX4_fitsPeriod 12 (some .boolean) ∈ nw_T := nw_m2 (List.mem_of_getElem? (i := 206) rfl) rfl
theorem nw_w187 : Cond.fieldLink RX4 69 "NumberedWaves" "ways" "[J" ∈ nw_T := nw_m1 (List.mem_of_getElem? (i := 149) rfl) rfl
theorem nw_w188 : Cond.constantLong RX4 228 (-9223372036854775806) ∈ nw_T := nw_m2 (List.mem_of_getElem? (i := 211) rfl) rfl
theorem nw_w189 : Cond.methodLink RX4 230 yJ7_fill_d0a16 ∈ nw_T := nw_m2 (List.mem_of_getElem? (i := 212) rfl) rfl
theorem nw_w190 : Cond.static yJ7_fill_d0a16 ∈ nw_T := nw_m2 (List.mem_of_getElem? (i := 213) rfl) rfl
theorem nw_w191 : Cond.code yJ7_fill_d0a16 cJ7_fill_d0a16 5 none ∈ nw_T := nw_m2 (List.mem_of_getElem? (i := 214) rfl) rfl
theorem nw_w192 : Cond.methodLink RX4 239 yJ9_min_7cf53 ∈ nw_T := nw_m2 (List.mem_of_getElem? (i := 215) rfl) rfl
theorem nw_w193 : Cond.static yJ9_min_7cf53 ∈ nw_T := nw_m2 (List.mem_of_getElem? (i := 216) rfl) rfl
theorem nw_w194 : Cond.code yJ9_min_7cf53 cJ9_min_7cf53 2 (some .int) ∈ nw_T := nw_m2 (List.mem_of_getElem? (i := 217) rfl) rfl
theorem nw_w195 : Cond.methodLink RX4 247 yX4_sharedTwos ∈ nw_T := nw_m2 (List.mem_of_getElem? (i := 223) rfl) rfl
theorem nw_w196 : Cond.static yX4_sharedTwos ∈ nw_T := nw_m2 (List.mem_of_getElem? (i := 224) rfl) rfl
theorem nw_w197 : Cond.code yX4_sharedTwos cX4_sharedTwos 5 (some .int) ∈ nw_T := nw_m2 (List.mem_of_getElem? (i := 225) rfl) rfl
theorem nw_w198 : Cond.methodLink RX4 242 yX4_stepWays ∈ nw_T := nw_m2 (List.mem_of_getElem? (i := 218) rfl) rfl
theorem nw_w199 : Cond.instanceMethod yX4_stepWays ∈ nw_T := nw_m2 (List.mem_of_getElem? (i := 220) rfl) rfl
theorem nw_w200 : Cond.selects RX4 yX4_stepWays yX4_stepWays ∈ nw_T := nw_ms (List.mem_of_getElem? (i := 18) rfl)
theorem nw_w201 : Cond.code yX4_stepWays cX4_stepWays 7 none ∈ nw_T := nw_m2 (List.mem_of_getElem? (i := 221) rfl) rfl
theorem nw_w202 : Cond.constantLong RX4 245 (16) ∈ nw_T := nw_m2 (List.mem_of_getElem? (i := 222) rfl) rfl
theorem nw_w203 : Cond.constant RX4 251 (1103515245) ∈ nw_T := nw_m2 (List.mem_of_getElem? (i := 230) rfl) rfl
theorem nw_w204 : Cond.fieldLink RX1 9 "NumberedWaves$Sheet" "items" "[I" ∈ nw_T := nw_m1 (List.mem_of_getElem? (i := 123) rfl) rfl
theorem nw_w205 : Cond.methodLink RX1 26 yJ7_fill_53178 ∈ nw_T := nw_m2 (List.mem_of_getElem? (i := 239) rfl) rfl
theorem nw_w206 : Cond.fieldLink RX1 15 "NumberedWaves$Sheet" "form" "I" ∈ nw_T := nw_m1 (List.mem_of_getElem? (i := 125) rfl) rfl
theorem nw_w207 : Cond.fieldLink RX1 19 "NumberedWaves$Sheet" "size" "I" ∈ nw_T := nw_m1 (List.mem_of_getElem? (i := 127) rfl) rfl
theorem nw_w208 : Cond.fieldLink RX1 22 "NumberedWaves$Sheet" "lost" "Z" ∈ nw_T := nw_m1 (List.mem_of_getElem? (i := 129) rfl) rfl
theorem nw_w209 : Cond.methodLink RX4 255 yX1_renew ∈ nw_T := nw_m2 (List.mem_of_getElem? (i := 235) rfl) rfl
theorem nw_w210 : Cond.instanceMethod yX1_renew ∈ nw_T := nw_m2 (List.mem_of_getElem? (i := 236) rfl) rfl
theorem nw_w211 : Cond.selects RX1 yX1_renew yX1_renew ∈ nw_T := nw_m2 (List.mem_of_getElem? (i := 237) rfl) rfl
theorem nw_w212 : Cond.initialized RX1 ∈ nw_T := nw_m1 (List.mem_of_getElem? (i := 5) rfl) rfl
theorem nw_w213 : Cond.code yX1_renew cX1_renew 3 none ∈ nw_T := nw_m2 (List.mem_of_getElem? (i := 238) rfl) rfl
theorem nw_w214 : Cond.methodLink RX4 262 yX4_itemRefusal ∈ nw_T := nw_m3 (List.mem_of_getElem? (i := 8) rfl) rfl
theorem nw_w215 : Cond.instanceMethod yX4_itemRefusal ∈ nw_T := nw_m3 (List.mem_of_getElem? (i := 10) rfl) rfl
theorem nw_w216 : Cond.selects RX4 yX4_itemRefusal yX4_itemRefusal ∈ nw_T := nw_ms (List.mem_of_getElem? (i := 19) rfl)
theorem nw_w217 : Cond.code yX4_itemRefusal cX4_itemRefusal 5 (some .int) ∈ nw_T := nw_m3 (List.mem_of_getElem? (i := 11) rfl) rfl
theorem nw_w218 : Cond.methodLink RX4 266 yX1_store ∈ nw_T := nw_m3 (List.mem_of_getElem? (i := 12) rfl) rfl
theorem nw_w219 : Cond.instanceMethod yX1_store ∈ nw_T := nw_m3 (List.mem_of_getElem? (i := 13) rfl) rfl
theorem nw_w220 : Cond.selects RX1 yX1_store yX1_store ∈ nw_T := nw_m3 (List.mem_of_getElem? (i := 14) rfl) rfl
theorem nw_w221 : Cond.code yX1_store cX1_store 3 none ∈ nw_T := nw_m3 (List.mem_of_getElem? (i := 15) rfl) rfl
theorem nw_w222 : Cond.constant RX4 269 (-2147483648) ∈ nw_T := nw_m3 (List.mem_of_getElem? (i := 20) rfl) rfl
theorem nw_w223 : Cond.methodLink RX4 273 yX1_hasRange ∈ nw_T := nw_m3 (List.mem_of_getElem? (i := 25) rfl) rfl
theorem nw_w224 : Cond.instanceMethod yX1_hasRange ∈ nw_T := nw_m3 (List.mem_of_getElem? (i := 26) rfl) rfl
theorem nw_w225 : Cond.selects RX1 yX1_hasRange yX1_hasRange ∈ nw_T := nw_m3 (List.mem_of_getElem? (i := 27) rfl) rfl
theorem nw_w226 : Cond.code yX1_hasRange cX1_hasRange 3 (some .boolean) ∈ nw_T := nw_m3 (List.mem_of_getElem? (i := 28) rfl) rfl
theorem nw_w227 : Cond.methodLink RX4 276 arraycopyName ∈ nw_T := nw_m3 (List.mem_of_getElem? (i := 29) rfl) rfl
theorem nw_w228 : Cond.native arraycopyName ∈ nw_T := nw_m3 (List.mem_of_getElem? (i := 31) rfl) rfl
theorem nw_w229 : Cond.static arraycopyName ∈ nw_T := nw_m3 (List.mem_of_getElem? (i := 30) rfl) rfl
theorem nw_w230 : Cond.initialized RJ10 ∈ nw_T := nw_m1 (List.mem_of_getElem? (i := 9) rfl) rfl
theorem nw_w231 : Cond.constantLong RX4 284 (31) ∈ nw_T := nw_m3 (List.mem_of_getElem? (i := 45) rfl) rfl
theorem nw_w232 : Cond.methodLink RX4 314 yX4_agree ∈ nw_T := nw_m3 (List.mem_of_getElem? (i := 53) rfl) rfl
theorem nw_w233 : Cond.instanceMethod yX4_agree ∈ nw_T := nw_m2 (List.mem_of_getElem? (i := 132) rfl) rfl
theorem nw_w234 : Cond.selects RX4 yX4_agree yX4_agree ∈ nw_T := nw_m2 (List.mem_of_getElem? (i := 133) rfl) rfl
theorem nw_w235 : Cond.code yX4_agree cX4_agree 9 (some .int) ∈ nw_T := nw_m2 (List.mem_of_getElem? (i := 134) rfl) rfl
theorem nw_w236 : Cond.methodLink RX4 318 yX4_often ∈ nw_T := nw_m3 (List.mem_of_getElem? (i := 54) rfl) rfl
theorem nw_w237 : Cond.instanceMethod yX4_often ∈ nw_T := nw_m2 (List.mem_of_getElem? (i := 195) rfl) rfl
theorem nw_w238 : Cond.selects RX4 yX4_often yX4_often ∈ nw_T := nw_m2 (List.mem_of_getElem? (i := 196) rfl) rfl
theorem nw_w239 : Cond.code yX4_often cX4_often 7 (some .int) ∈ nw_T := nw_m2 (List.mem_of_getElem? (i := 197) rfl) rfl
theorem nw_w240 : Cond.methodLink RX4 311 yX4_swell ∈ nw_T := nw_m3 (List.mem_of_getElem? (i := 52) rfl) rfl
theorem nw_w241 : Cond.instanceMethod yX4_swell ∈ nw_T := nw_m1 (List.mem_of_getElem? (i := 224) rfl) rfl
theorem nw_w242 : Cond.selects RX4 yX4_swell yX4_swell ∈ nw_T := nw_m1 (List.mem_of_getElem? (i := 225) rfl) rfl
theorem nw_w243 : Cond.code yX4_swell cX4_swell 3 (some .int) ∈ nw_T := nw_m1 (List.mem_of_getElem? (i := 226) rfl) rfl
theorem nw_w244 : Cond.methodLink RX4 321 yX4_find ∈ nw_T := nw_m3 (List.mem_of_getElem? (i := 59) rfl) rfl
theorem nw_w245 : Cond.instanceMethod yX4_find ∈ nw_T := nw_m1 (List.mem_of_getElem? (i := 235) rfl) rfl
theorem nw_w246 : Cond.selects RX4 yX4_find yX4_find ∈ nw_T := nw_m1 (List.mem_of_getElem? (i := 236) rfl) rfl
theorem nw_w247 : Cond.code yX4_find cX4_find 3 (some .int) ∈ nw_T := nw_m1 (List.mem_of_getElem? (i := 237) rfl) rfl
theorem nw_w248 : Cond.fieldLink RX4 324 RX4 (nw_sn 4) "[I" ∈ nw_T := nw_m3 (List.mem_of_getElem? (i := 64) rfl) rfl
theorem nw_w249 : Cond.methodLink RX4 327 yX4_high ∈ nw_T := nw_m3 (List.mem_of_getElem? (i := 66) rfl) rfl
theorem nw_w250 : Cond.instanceMethod yX4_high ∈ nw_T := nw_m2 (List.mem_of_getElem? (i := 55) rfl) rfl
theorem nw_w251 : Cond.selects RX4 yX4_high yX4_high ∈ nw_T := nw_m2 (List.mem_of_getElem? (i := 56) rfl) rfl
theorem nw_w252 : Cond.code yX4_high cX4_high 2 (some .int) ∈ nw_T := nw_m2 (List.mem_of_getElem? (i := 57) rfl) rfl
theorem nw_w253 : Cond.methodLink RX4 333 yX4_called ∈ nw_T := nw_m3 (List.mem_of_getElem? (i := 68) rfl) rfl
theorem nw_w254 : Cond.instanceMethod yX4_called ∈ nw_T := nw_m2 (List.mem_of_getElem? (i := 100) rfl) rfl
theorem nw_w255 : Cond.selects RX4 yX4_called yX4_called ∈ nw_T := nw_m2 (List.mem_of_getElem? (i := 101) rfl) rfl
theorem nw_w256 : Cond.code yX4_called cX4_called 6 (some .int) ∈ nw_T := nw_m2 (List.mem_of_getElem? (i := 102) rfl) rfl
theorem nw_w257 : Cond.methodLink RX4 330 yX4_wave ∈ nw_T := nw_m3 (List.mem_of_getElem? (i := 67) rfl) rfl
theorem nw_w258 : Cond.instanceMethod yX4_wave ∈ nw_T := nw_m2 (List.mem_of_getElem? (i := 83) rfl) rfl
theorem nw_w259 : Cond.selects RX4 yX4_wave yX4_wave ∈ nw_T := nw_m2 (List.mem_of_getElem? (i := 84) rfl) rfl
theorem nw_w260 : Cond.code yX4_wave cX4_wave 3 (some .int) ∈ nw_T := nw_m2 (List.mem_of_getElem? (i := 85) rfl) rfl
theorem nw_w261 : Cond.fieldLink RX4 336 RX4 (nw_sn 5) "[I" ∈ nw_T := nw_m3 (List.mem_of_getElem? (i := 73) rfl) rfl
theorem nw_w262 : Cond.methodLink RX4 339 yX4_when ∈ nw_T := nw_m3 (List.mem_of_getElem? (i := 75) rfl) rfl
theorem nw_w263 : Cond.instanceMethod yX4_when ∈ nw_T := nw_m2 (List.mem_of_getElem? (i := 96) rfl) rfl
theorem nw_w264 : Cond.selects RX4 yX4_when yX4_when ∈ nw_T := nw_m2 (List.mem_of_getElem? (i := 97) rfl) rfl
theorem nw_w265 : Cond.code yX4_when cX4_when 2 (some .int) ∈ nw_T := nw_m2 (List.mem_of_getElem? (i := 98) rfl) rfl
theorem nw_w266 : Cond.methodLink RX4 342 yX4_brings ∈ nw_T := nw_m3 (List.mem_of_getElem? (i := 76) rfl) rfl
theorem nw_w267 : Cond.instanceMethod yX4_brings ∈ nw_T := nw_m2 (List.mem_of_getElem? (i := 104) rfl) rfl
theorem nw_w268 : Cond.selects RX4 yX4_brings yX4_brings ∈ nw_T := nw_m2 (List.mem_of_getElem? (i := 105) rfl) rfl
theorem nw_w269 : Cond.code yX4_brings cX4_brings 2 (some .int) ∈ nw_T := nw_m2 (List.mem_of_getElem? (i := 106) rfl) rfl
theorem nw_w270 : Cond.methodLink RX4 351 yX4_good ∈ nw_T := nw_m3 (List.mem_of_getElem? (i := 83) rfl) rfl
theorem nw_w271 : Cond.instanceMethod yX4_good ∈ nw_T := nw_m2 (List.mem_of_getElem? (i := 128) rfl) rfl
theorem nw_w272 : Cond.selects RX4 yX4_good yX4_good ∈ nw_T := nw_m2 (List.mem_of_getElem? (i := 129) rfl) rfl
theorem nw_w273 : Cond.code yX4_good cX4_good 4 (some .int) ∈ nw_T := nw_m2 (List.mem_of_getElem? (i := 130) rfl) rfl
theorem nw_w274 : Cond.methodLink RX4 345 yX4_claims ∈ nw_T := nw_m3 (List.mem_of_getElem? (i := 81) rfl) rfl
theorem nw_w275 : Cond.instanceMethod yX4_claims ∈ nw_T := nw_m2 (List.mem_of_getElem? (i := 112) rfl) rfl
theorem nw_w276 : Cond.selects RX4 yX4_claims yX4_claims ∈ nw_T := nw_m2 (List.mem_of_getElem? (i := 113) rfl) rfl
theorem nw_w277 : Cond.code yX4_claims cX4_claims 2 (some .int) ∈ nw_T := nw_m2 (List.mem_of_getElem? (i := 114) rfl) rfl
theorem nw_w278 : Cond.methodLink RX4 348 yX4_earn ∈ nw_T := nw_m3 (List.mem_of_getElem? (i := 82) rfl) rfl
theorem nw_w279 : Cond.instanceMethod yX4_earn ∈ nw_T := nw_m2 (List.mem_of_getElem? (i := 167) rfl) rfl
theorem nw_w280 : Cond.selects RX4 yX4_earn yX4_earn ∈ nw_T := nw_m2 (List.mem_of_getElem? (i := 168) rfl) rfl
theorem nw_w281 : Cond.code yX4_earn cX4_earn 8 (some .int) ∈ nw_T := nw_m2 (List.mem_of_getElem? (i := 169) rfl) rfl
theorem nw_w282 : Cond.methodLink RX4 354 yX4_run ∈ nw_T := nw_m3 (List.mem_of_getElem? (i := 88) rfl) rfl
theorem nw_w283 : Cond.instanceMethod yX4_run ∈ nw_T := nw_m2 (List.mem_of_getElem? (i := 147) rfl) rfl
theorem nw_w284 : Cond.selects RX4 yX4_run yX4_run ∈ nw_T := nw_m2 (List.mem_of_getElem? (i := 148) rfl) rfl
theorem nw_w285 : Cond.code yX4_run cX4_run 8 (some .int) ∈ nw_T := nw_m2 (List.mem_of_getElem? (i := 149) rfl) rfl
theorem nw_w286 : Cond.methodLink RX4 357 yX4_bar ∈ nw_T := nw_m3 (List.mem_of_getElem? (i := 89) rfl) rfl
theorem nw_w287 : Cond.instanceMethod yX4_bar ∈ nw_T := nw_m2 (List.mem_of_getElem? (i := 159) rfl) rfl
theorem nw_w288 : Cond.selects RX4 yX4_bar yX4_bar ∈ nw_T := nw_m2 (List.mem_of_getElem? (i := 160) rfl) rfl
theorem nw_w289 : Cond.code yX4_bar cX4_bar 4 (some .int) ∈ nw_T := nw_m2 (List.mem_of_getElem? (i := 161) rfl) rfl
theorem nw_w290 : Cond.methodLink RX4 360 yX4_skipped ∈ nw_T := nw_m3 (List.mem_of_getElem? (i := 90) rfl) rfl
theorem nw_w291 : Cond.instanceMethod yX4_skipped ∈ nw_T := nw_m2 (List.mem_of_getElem? (i := 179) rfl) rfl
theorem nw_w292 : Cond.selects RX4 yX4_skipped yX4_skipped ∈ nw_T := nw_m2 (List.mem_of_getElem? (i := 180) rfl) rfl
theorem nw_w293 : Cond.code yX4_skipped cX4_skipped 5 (some .int) ∈ nw_T := nw_m2 (List.mem_of_getElem? (i := 181) rfl) rfl
theorem nw_w294 : Cond.methodLink RX4 363 yX4_voids ∈ nw_T := nw_m3 (List.mem_of_getElem? (i := 91) rfl) rfl
theorem nw_w295 : Cond.instanceMethod yX4_voids ∈ nw_T := nw_m2 (List.mem_of_getElem? (i := 187) rfl) rfl
theorem nw_w296 : Cond.selects RX4 yX4_voids yX4_voids ∈ nw_T := nw_m2 (List.mem_of_getElem? (i := 188) rfl) rfl
theorem nw_w297 : Cond.code yX4_voids cX4_voids 5 (some .int) ∈ nw_T := nw_m2 (List.mem_of_getElem? (i := 189) rfl) rfl
theorem nw_w298 : Cond.methodLink RX4 366 yX4_hoarse ∈ nw_T := nw_m3 (List.mem_of_getElem? (i := 92) rfl) rfl
theorem nw_w299 : Cond.instanceMethod yX4_hoarse ∈ nw_T := nw_m2 (List.mem_of_getElem? (i := 208) rfl) rfl
theorem nw_w300 : Cond.selects RX4 yX4_hoarse yX4_hoarse ∈ nw_T := nw_m2 (List.mem_of_getElem? (i := 209) rfl) rfl
theorem nw_w301 : Cond.code yX4_hoarse cX4_hoarse 10 (some .long) ∈ nw_T := nw_m2 (List.mem_of_getElem? (i := 210) rfl) rfl
theorem nw_w302 : Cond.methodLink RX4 370 yX4_storm ∈ nw_T := nw_m3 (List.mem_of_getElem? (i := 93) rfl) rfl
theorem nw_w303 : Cond.instanceMethod yX4_storm ∈ nw_T := nw_m2 (List.mem_of_getElem? (i := 227) rfl) rfl
theorem nw_w304 : Cond.selects RX4 yX4_storm yX4_storm ∈ nw_T := nw_m2 (List.mem_of_getElem? (i := 228) rfl) rfl
theorem nw_w305 : Cond.code yX4_storm cX4_storm 10 (some .int) ∈ nw_T := nw_m2 (List.mem_of_getElem? (i := 229) rfl) rfl
theorem nw_w306 : Cond.constantLong RX4 282 (17) ∈ nw_T := nw_m3 (List.mem_of_getElem? (i := 44) rfl) rfl
theorem nw_w307 : Cond.methodLink RX4 289 yX4_fault ∈ nw_T := nw_m3 (List.mem_of_getElem? (i := 47) rfl) rfl
theorem nw_w308 : Cond.instanceMethod yX4_fault ∈ nw_T := nw_m1 (List.mem_of_getElem? (i := 220) rfl) rfl
theorem nw_w309 : Cond.selects RX4 yX4_fault yX4_fault ∈ nw_T := nw_m1 (List.mem_of_getElem? (i := 221) rfl) rfl
theorem nw_w310 : Cond.code yX4_fault cX4_fault 2 (some .int) ∈ nw_T := nw_m1 (List.mem_of_getElem? (i := 222) rfl) rfl
theorem nw_w311 : Cond.methodLink RX4 292 yX4_digestSwells ∈ nw_T := nw_m3 (List.mem_of_getElem? (i := 48) rfl) rfl
theorem nw_w312 : Cond.instanceMethod yX4_digestSwells ∈ nw_T := nw_m3 (List.mem_of_getElem? (i := 50) rfl) rfl
theorem nw_w313 : Cond.selects RX4 yX4_digestSwells yX4_digestSwells ∈ nw_T := nw_ms (List.mem_of_getElem? (i := 20) rfl)
theorem nw_w314 : Cond.code yX4_digestSwells cX4_digestSwells 7 (some .long) ∈ nw_T := nw_m3 (List.mem_of_getElem? (i := 51) rfl) rfl
theorem nw_w315 : Cond.methodLink RX4 296 yX4_digestFinds ∈ nw_T := nw_m3 (List.mem_of_getElem? (i := 55) rfl) rfl
theorem nw_w316 : Cond.instanceMethod yX4_digestFinds ∈ nw_T := nw_m3 (List.mem_of_getElem? (i := 57) rfl) rfl
theorem nw_w317 : Cond.selects RX4 yX4_digestFinds yX4_digestFinds ∈ nw_T := nw_ms (List.mem_of_getElem? (i := 21) rfl)
theorem nw_w318 : Cond.code yX4_digestFinds cX4_digestFinds 7 (some .long) ∈ nw_T := nw_m3 (List.mem_of_getElem? (i := 58) rfl) rfl
theorem nw_w319 : Cond.methodLink RX4 299 yX4_digestTimes ∈ nw_T := nw_m3 (List.mem_of_getElem? (i := 60) rfl) rfl
theorem nw_w320 : Cond.instanceMethod yX4_digestTimes ∈ nw_T := nw_m3 (List.mem_of_getElem? (i := 62) rfl) rfl
theorem nw_w321 : Cond.selects RX4 yX4_digestTimes yX4_digestTimes ∈ nw_T := nw_ms (List.mem_of_getElem? (i := 22) rfl)
theorem nw_w322 : Cond.code yX4_digestTimes cX4_digestTimes 10 (some .long) ∈ nw_T := nw_m3 (List.mem_of_getElem? (i := 63) rfl) rfl
theorem nw_w323 : Cond.methodLink RX4 302 yX4_digestNumbers ∈ nw_T := nw_m3 (List.mem_of_getElem? (i := 69) rfl) rfl
theorem nw_w324 : Cond.instanceMethod yX4_digestNumbers ∈ nw_T := nw_m3 (List.mem_of_getElem? (i := 71) rfl) rfl
theorem nw_w325 : Cond.selects RX4 yX4_digestNumbers yX4_digestNumbers ∈ nw_T := nw_ms (List.mem_of_getElem? (i := 23) rfl)
theorem nw_w326 : Cond.code yX4_digestNumbers cX4_digestNumbers 9 (some .long) ∈ nw_T := nw_m3 (List.mem_of_getElem? (i := 72) rfl) rfl
theorem nw_w327 : Cond.methodLink RX4 305 yX4_digestTickets ∈ nw_T := nw_m3 (List.mem_of_getElem? (i := 77) rfl) rfl
theorem nw_w328 : Cond.instanceMethod yX4_digestTickets ∈ nw_T := nw_m3 (List.mem_of_getElem? (i := 79) rfl) rfl
theorem nw_w329 : Cond.selects RX4 yX4_digestTickets yX4_digestTickets ∈ nw_T := nw_ms (List.mem_of_getElem? (i := 24) rfl)
theorem nw_w330 : Cond.code yX4_digestTickets cX4_digestTickets 6 (some .long) ∈ nw_T := nw_m3 (List.mem_of_getElem? (i := 80) rfl) rfl
theorem nw_w331 : Cond.methodLink RX4 308 yX4_digestPlans ∈ nw_T := nw_m3 (List.mem_of_getElem? (i := 84) rfl) rfl
theorem nw_w332 : Cond.instanceMethod yX4_digestPlans ∈ nw_T := nw_m3 (List.mem_of_getElem? (i := 86) rfl) rfl
theorem nw_w333 : Cond.selects RX4 yX4_digestPlans yX4_digestPlans ∈ nw_T := nw_ms (List.mem_of_getElem? (i := 25) rfl)
theorem nw_w334 : Cond.code yX4_digestPlans cX4_digestPlans 5 (some .long) ∈ nw_T := nw_m3 (List.mem_of_getElem? (i := 87) rfl) rfl
theorem nw_w335 : Cond.methodLink RX4 286 yX4_count ∈ nw_T := nw_m3 (List.mem_of_getElem? (i := 46) rfl) rfl
theorem nw_w336 : Cond.instanceMethod yX4_count ∈ nw_T := nw_m3 (List.mem_of_getElem? (i := 37) rfl) rfl
theorem nw_w337 : Cond.selects RX4 yX4_count yX4_count ∈ nw_T := nw_m3 (List.mem_of_getElem? (i := 38) rfl) rfl
theorem nw_w338 : Cond.code yX4_count cX4_count 2 (some .int) ∈ nw_T := nw_m3 (List.mem_of_getElem? (i := 39) rfl) rfl
theorem nw_w339 : Cond.constantLong RX5 87 (-9223372036854775808) ∈ nw_T := nw_m5 (List.mem_of_getElem? (i := 30) rfl) rfl
theorem nw_w340 : Cond.methodLink RX5 89 yX5_in ∈ nw_T := nw_m3 (List.mem_of_getElem? (i := 222) rfl) rfl
theorem nw_w341 : Cond.static yX5_in ∈ nw_T := nw_m3 (List.mem_of_getElem? (i := 223) rfl) rfl
theorem nw_w342 : Cond.initialized RX5 ∈ nw_T := nw_m1 (List.mem_of_getElem? (i := 6) rfl) rfl
theorem nw_w343 : Cond.code yX5_in cX5_in 3 (some .boolean) ∈ nw_T := nw_m3 (List.mem_of_getElem? (i := 224) rfl) rfl
theorem nw_w344 : Cond.methodLink RX5 93 yX5_isText ∈ nw_T := nw_m3 (List.mem_of_getElem? (i := 219) rfl) rfl
theorem nw_w345 : Cond.static yX5_isText ∈ nw_T := nw_m3 (List.mem_of_getElem? (i := 220) rfl) rfl
theorem nw_w346 : Cond.code yX5_isText cX5_isText 1 (some .boolean) ∈ nw_T := nw_m3 (List.mem_of_getElem? (i := 221) rfl) rfl
theorem nw_w347 : Cond.fieldLink RX5 7 "NumberedWavesModel" "typed" "[I" ∈ nw_T := nw_m3 (List.mem_of_getElem? (i := 100) rfl) rfl
theorem nw_w348 : Cond.fieldLink RX5 13 "NumberedWavesModel" "texts" "[I" ∈ nw_T := nw_m3 (List.mem_of_getElem? (i := 101) rfl) rfl
theorem nw_w349 : Cond.methodLink RX5 97 yX5_figureAt ∈ nw_T := nw_m4 (List.mem_of_getElem? (i := 9) rfl) rfl
theorem nw_w350 : Cond.instanceMethod yX5_figureAt ∈ nw_T := nw_m4 (List.mem_of_getElem? (i := 11) rfl) rfl
theorem nw_w351 : Cond.selects RX5 yX5_figureAt yX5_figureAt ∈ nw_T := nw_ms (List.mem_of_getElem? (i := 29) rfl)
theorem nw_w352 : Cond.code yX5_figureAt cX5_figureAt 4 (some .int) ∈ nw_T := nw_m4 (List.mem_of_getElem? (i := 12) rfl) rfl
theorem nw_w353 : Cond.fieldLink RX5 25 "NumberedWavesModel" "moduli" "[I" ∈ nw_T := nw_m3 (List.mem_of_getElem? (i := 107) rfl) rfl
theorem nw_w354 : Cond.methodLink RX5 101 yX5_twoAt ∈ nw_T := nw_m4 (List.mem_of_getElem? (i := 13) rfl) rfl
theorem nw_w355 : Cond.instanceMethod yX5_twoAt ∈ nw_T := nw_m4 (List.mem_of_getElem? (i := 15) rfl) rfl
theorem nw_w356 : Cond.selects RX5 yX5_twoAt yX5_twoAt ∈ nw_T := nw_ms (List.mem_of_getElem? (i := 30) rfl)
theorem nw_w357 : Cond.code yX5_twoAt cX5_twoAt 3 (some .int) ∈ nw_T := nw_m4 (List.mem_of_getElem? (i := 16) rfl) rfl
theorem nw_w358 : Cond.fieldLink RX5 28 "NumberedWavesModel" "rests" "[I" ∈ nw_T := nw_m3 (List.mem_of_getElem? (i := 108) rfl) rfl
theorem nw_w359 : Cond.fieldLink RX5 31 "NumberedWavesModel" "values" "[I" ∈ nw_T := nw_m3 (List.mem_of_getElem? (i := 109) rfl) rfl
theorem nw_w360 : Cond.fieldLink RX5 16 "NumberedWavesModel" "heights" "[I" ∈ nw_T := nw_m3 (List.mem_of_getElem? (i := 103) rfl) rfl
theorem nw_w361 : Cond.fieldLink RX5 19 "NumberedWavesModel" "periods" "[I" ∈ nw_T := nw_m3 (List.mem_of_getElem? (i := 104) rfl) rfl
theorem nw_w362 : Cond.fieldLink RX5 22 "NumberedWavesModel" "froms" "[I" ∈ nw_T := nw_m3 (List.mem_of_getElem? (i := 105) rfl) rfl
theorem nw_w363 : Cond.fieldLink RX5 104 "NumberedWavesModel" "swells" "I" ∈ nw_T := nw_m3 (List.mem_of_getElem? (i := 102) rfl) rfl
theorem nw_w364 : Cond.fieldLink RX5 108 "NumberedWavesModel" "finds" "I" ∈ nw_T := nw_m3 (List.mem_of_getElem? (i := 106) rfl) rfl
theorem nw_w365 : Cond.methodLink RX5 111 yX5_readsOne ∈ nw_T := nw_m4 (List.mem_of_getElem? (i := 5) rfl) rfl
theorem nw_w366 : Cond.instanceMethod yX5_readsOne ∈ nw_T := nw_m4 (List.mem_of_getElem? (i := 7) rfl) rfl
theorem nw_w367 : Cond.selects RX5 yX5_readsOne yX5_readsOne ∈ nw_T := nw_ms (List.mem_of_getElem? (i := 28) rfl)
theorem nw_w368 : Cond.code yX5_readsOne cX5_readsOne 5 (some .int) ∈ nw_T := nw_m4 (List.mem_of_getElem? (i := 8) rfl) rfl
theorem nw_w369 : Cond.methodLink RX5 115 yX5_readsText ∈ nw_T := nw_m4 (List.mem_of_getElem? (i := 1) rfl) rfl
theorem nw_w370 : Cond.instanceMethod yX5_readsText ∈ nw_T := nw_m4 (List.mem_of_getElem? (i := 3) rfl) rfl
theorem nw_w371 : Cond.selects RX5 yX5_readsText yX5_readsText ∈ nw_T := nw_ms (List.mem_of_getElem? (i := 27) rfl)
theorem nw_w372 : Cond.code yX5_readsText cX5_readsText 6 (some .int) ∈ nw_T := nw_m4 (List.mem_of_getElem? (i := 4) rfl) rfl
theorem nw_w373 : Cond.methodLink RX5 119 yX5_faultOf ∈ nw_T := nw_m3 (List.mem_of_getElem? (i := 237) rfl) rfl
theorem nw_w374 : Cond.instanceMethod yX5_faultOf ∈ nw_T := nw_m3 (List.mem_of_getElem? (i := 239) rfl) rfl
theorem nw_w375 : Cond.selects RX5 yX5_faultOf yX5_faultOf ∈ nw_T := nw_ms (List.mem_of_getElem? (i := 26) rfl)
theorem nw_w376 : Cond.code yX5_faultOf cX5_faultOf 4 (some .int) ∈ nw_T := nw_m4 (List.mem_of_getElem? (i := 0) rfl) rfl
theorem nw_w377 : Cond.methodLink RX5 122 yX5_reads ∈ nw_T := nw_m4 (List.mem_of_getElem? (i := 25) rfl) rfl
theorem nw_w378 : Cond.instanceMethod yX5_reads ∈ nw_T := nw_m4 (List.mem_of_getElem? (i := 27) rfl) rfl
theorem nw_w379 : Cond.selects RX5 yX5_reads yX5_reads ∈ nw_T := nw_ms (List.mem_of_getElem? (i := 32) rfl)
theorem nw_w380 : Cond.code yX5_reads cX5_reads 2 none ∈ nw_T := nw_m4 (List.mem_of_getElem? (i := 28) rfl) rfl
theorem nw_w381 : Cond.methodLink RX5 125 yX5_isSwell ∈ nw_T := nw_m4 (List.mem_of_getElem? (i := 21) rfl) rfl
theorem nw_w382 : Cond.instanceMethod yX5_isSwell ∈ nw_T := nw_m4 (List.mem_of_getElem? (i := 23) rfl) rfl
theorem nw_w383 : Cond.selects RX5 yX5_isSwell yX5_isSwell ∈ nw_T := nw_ms (List.mem_of_getElem? (i := 31) rfl)
theorem nw_w384 : Cond.code yX5_isSwell cX5_isSwell 2 (some .boolean) ∈ nw_T := nw_m4 (List.mem_of_getElem? (i := 24) rfl) rfl
theorem nw_w385 : Cond.methodLink RX5 128 yX5_swellOf ∈ nw_T := nw_m4 (List.mem_of_getElem? (i := 29) rfl) rfl
theorem nw_w386 : Cond.instanceMethod yX5_swellOf ∈ nw_T := nw_m4 (List.mem_of_getElem? (i := 31) rfl) rfl
theorem nw_w387 : Cond.selects RX5 yX5_swellOf yX5_swellOf ∈ nw_T := nw_ms (List.mem_of_getElem? (i := 33) rfl)
theorem nw_w388 : Cond.code yX5_swellOf cX5_swellOf 3 (some .int) ∈ nw_T := nw_m4 (List.mem_of_getElem? (i := 32) rfl) rfl
theorem nw_w389 : Cond.methodLink RX5 131 yX5_isFind ∈ nw_T := nw_m4 (List.mem_of_getElem? (i := 37) rfl) rfl
theorem nw_w390 : Cond.instanceMethod yX5_isFind ∈ nw_T := nw_m4 (List.mem_of_getElem? (i := 39) rfl) rfl
theorem nw_w391 : Cond.selects RX5 yX5_isFind yX5_isFind ∈ nw_T := nw_ms (List.mem_of_getElem? (i := 34) rfl)
theorem nw_w392 : Cond.code yX5_isFind cX5_isFind 2 (some .boolean) ∈ nw_T := nw_m4 (List.mem_of_getElem? (i := 40) rfl) rfl
theorem nw_w393 : Cond.methodLink RX5 134 yX5_findOf ∈ nw_T := nw_m4 (List.mem_of_getElem? (i := 41) rfl) rfl
theorem nw_w394 : Cond.instanceMethod yX5_findOf ∈ nw_T := nw_m4 (List.mem_of_getElem? (i := 43) rfl) rfl
theorem nw_w395 : Cond.selects RX5 yX5_findOf yX5_findOf ∈ nw_T := nw_ms (List.mem_of_getElem? (i := 35) rfl)
theorem nw_w396 : Cond.code yX5_findOf cX5_findOf 3 (some .int) ∈ nw_T := nw_m4 (List.mem_of_getElem? (i := 44) rfl) rfl
theorem nw_w397 : Cond.fieldLink RX5 137 "NumberedWavesModel" "depthNow" "I" ∈ nw_T := nw_m3 (List.mem_of_getElem? (i := 110) rfl) rfl
theorem nw_w398 : Cond.fieldLink RX5 140 "NumberedWavesModel" "slips" "I" ∈ nw_T := nw_m3 (List.mem_of_getElem? (i := 111) rfl) rfl
theorem nw_w399 : Cond.fieldLink RX5 34 "NumberedWavesModel" "slipOf" "[I" ∈ nw_T := nw_m3 (List.mem_of_getElem? (i := 112) rfl) rfl
theorem nw_w400 : Cond.fieldLink RX5 37 "NumberedWavesModel" "slipMany" "[I" ∈ nw_T := nw_m3 (List.mem_of_getElem? (i := 113) rfl) rfl
theorem nw_w401 : Cond.methodLink RX5 143 yX5_isTime ∈ nw_T := nw_m4 (List.mem_of_getElem? (i := 57) rfl) rfl
theorem nw_w402 : Cond.static yX5_isTime ∈ nw_T := nw_m4 (List.mem_of_getElem? (i := 58) rfl) rfl
theorem nw_w403 : Cond.code yX5_isTime cX5_isTime 1 (some .boolean) ∈ nw_T := nw_m4 (List.mem_of_getElem? (i := 59) rfl) rfl
theorem nw_w404 : Cond.fieldLink RX5 146 "NumberedWavesModel" "wakes" "I" ∈ nw_T := nw_m3 (List.mem_of_getElem? (i := 114) rfl) rfl
theorem nw_w405 : Cond.fieldLink RX5 40 "NumberedWavesModel" "wakeAt" "[I" ∈ nw_T := nw_m3 (List.mem_of_getElem? (i := 115) rfl) rfl
theorem nw_w406 : Cond.methodLink RX5 149 yX5_isNumber ∈ nw_T := nw_m4 (List.mem_of_getElem? (i := 64) rfl) rfl
theorem nw_w407 : Cond.static yX5_isNumber ∈ nw_T := nw_m4 (List.mem_of_getElem? (i := 65) rfl) rfl
theorem nw_w408 : Cond.code yX5_isNumber cX5_isNumber 1 (some .boolean) ∈ nw_T := nw_m4 (List.mem_of_getElem? (i := 66) rfl) rfl
theorem nw_w409 : Cond.fieldLink RX5 152 "NumberedWavesModel" "tickets" "I" ∈ nw_T := nw_m3 (List.mem_of_getElem? (i := 116) rfl) rfl
theorem nw_w410 : Cond.fieldLink RX5 43 "NumberedWavesModel" "holders" "[I" ∈ nw_T := nw_m3 (List.mem_of_getElem? (i := 117) rfl) rfl
theorem nw_w411 : Cond.fieldLink RX5 46 "NumberedWavesModel" "numbers" "[I" ∈ nw_T := nw_m3 (List.mem_of_getElem? (i := 118) rfl) rfl
theorem nw_w412 : Cond.fieldLink RX5 286 "NumberedWavesModel" "finding" "I" ∈ nw_T := nw_m3 (List.mem_of_getElem? (i := 137) rfl) rfl
theorem nw_w413 : Cond.methodLink RX5 155 yX5_isSheet ∈ nw_T := nw_m4 (List.mem_of_getElem? (i := 75) rfl) rfl
theorem nw_w414 : Cond.static yX5_isSheet ∈ nw_T := nw_m4 (List.mem_of_getElem? (i := 76) rfl) rfl
theorem nw_w415 : Cond.code yX5_isSheet cX5_isSheet 1 (some .boolean) ∈ nw_T := nw_m4 (List.mem_of_getElem? (i := 77) rfl) rfl
theorem nw_w416 : Cond.fieldLink RX5 72 "NumberedWavesModel" "isThere" "[Z" ∈ nw_T := nw_m3 (List.mem_of_getElem? (i := 132) rfl) rfl
theorem nw_w417 : Cond.fieldLink RX5 78 "NumberedWavesModel" "sizes" "[I" ∈ nw_T := nw_m3 (List.mem_of_getElem? (i := 134) rfl) rfl
theorem nw_w418 : Cond.fieldLink RX5 81 "NumberedWavesModel" "items" "[I" ∈ nw_T := nw_m3 (List.mem_of_getElem? (i := 135) rfl) rfl
theorem nw_w419 : Cond.methodLink RX5 161 yX5_ticket ∈ nw_T := nw_m4 (List.mem_of_getElem? (i := 82) rfl) rfl
theorem nw_w420 : Cond.instanceMethod yX5_ticket ∈ nw_T := nw_m4 (List.mem_of_getElem? (i := 61) rfl) rfl
theorem nw_w421 : Cond.selects RX5 yX5_ticket yX5_ticket ∈ nw_T := nw_m4 (List.mem_of_getElem? (i := 62) rfl) rfl
theorem nw_w422 : Cond.code yX5_ticket cX5_ticket 3 (some .int) ∈ nw_T := nw_m4 (List.mem_of_getElem? (i := 63) rfl) rfl
theorem nw_w423 : Cond.methodLink RX5 158 yX5_meets ∈ nw_T := nw_m4 (List.mem_of_getElem? (i := 78) rfl) rfl
theorem nw_w424 : Cond.instanceMethod yX5_meets ∈ nw_T := nw_m4 (List.mem_of_getElem? (i := 80) rfl) rfl
theorem nw_w425 : Cond.selects RX5 yX5_meets yX5_meets ∈ nw_T := nw_ms (List.mem_of_getElem? (i := 36) rfl)
theorem nw_w426 : Cond.code yX5_meets cX5_meets 2 (some .int) ∈ nw_T := nw_m4 (List.mem_of_getElem? (i := 81) rfl) rfl
theorem nw_w427 : Cond.fieldLink RX5 164 "NumberedWavesModel" "slipsNow" "I" ∈ nw_T := nw_m3 (List.mem_of_getElem? (i := 122) rfl) rfl
theorem nw_w428 : Cond.fieldLink RX5 167 "NumberedWavesModel" "wakesNow" "I" ∈ nw_T := nw_m3 (List.mem_of_getElem? (i := 123) rfl) rfl
theorem nw_w429 : Cond.fieldLink RX5 170 "NumberedWavesModel" "ticketsNow" "I" ∈ nw_T := nw_m3 (List.mem_of_getElem? (i := 124) rfl) rfl
theorem nw_w430 : Cond.fieldLink RX5 49 "NumberedWavesModel" "highs" "[I" ∈ nw_T := nw_m3 (List.mem_of_getElem? (i := 119) rfl) rfl
theorem nw_w431 : Cond.fieldLink RX5 173 "NumberedWavesModel" "calledMany" "I" ∈ nw_T := nw_m3 (List.mem_of_getElem? (i := 125) rfl) rfl
theorem nw_w432 : Cond.fieldLink RX5 176 "NumberedWavesModel" "lastNumber" "I" ∈ nw_T := nw_m3 (List.mem_of_getElem? (i := 126) rfl) rfl
theorem nw_w433 : Cond.fieldLink RX5 52 "NumberedWavesModel" "crests" "[I" ∈ nw_T := nw_m3 (List.mem_of_getElem? (i := 120) rfl) rfl
theorem nw_w434 : Cond.fieldLink RX5 55 "NumberedWavesModel" "numberAt" "[I" ∈ nw_T := nw_m3 (List.mem_of_getElem? (i := 121) rfl) rfl
theorem nw_w435 : Cond.methodLink RX5 183 yX5_breaks ∈ nw_T := nw_m4 (List.mem_of_getElem? (i := 107) rfl) rfl
theorem nw_w436 : Cond.instanceMethod yX5_breaks ∈ nw_T := nw_m4 (List.mem_of_getElem? (i := 109) rfl) rfl
theorem nw_w437 : Cond.selects RX5 yX5_breaks yX5_breaks ∈ nw_T := nw_ms (List.mem_of_getElem? (i := 42) rfl)
theorem nw_w438 : Cond.code yX5_breaks cX5_breaks 2 (some .boolean) ∈ nw_T := nw_m4 (List.mem_of_getElem? (i := 110) rfl) rfl
theorem nw_w439 : Cond.methodLink RX5 186 yX5_isWake ∈ nw_T := nw_m4 (List.mem_of_getElem? (i := 111) rfl) rfl
theorem nw_w440 : Cond.instanceMethod yX5_isWake ∈ nw_T := nw_m4 (List.mem_of_getElem? (i := 113) rfl) rfl
theorem nw_w441 : Cond.selects RX5 yX5_isWake yX5_isWake ∈ nw_T := nw_ms (List.mem_of_getElem? (i := 43) rfl)
theorem nw_w442 : Cond.code yX5_isWake cX5_isWake 4 (some .boolean) ∈ nw_T := nw_m4 (List.mem_of_getElem? (i := 114) rfl) rfl
theorem nw_w443 : Cond.methodLink RX5 189 yX5_skips ∈ nw_T := nw_m4 (List.mem_of_getElem? (i := 115) rfl) rfl
theorem nw_w444 : Cond.instanceMethod yX5_skips ∈ nw_T := nw_m4 (List.mem_of_getElem? (i := 117) rfl) rfl
theorem nw_w445 : Cond.selects RX5 yX5_skips yX5_skips ∈ nw_T := nw_ms (List.mem_of_getElem? (i := 44) rfl)
theorem nw_w446 : Cond.code yX5_skips cX5_skips 4 (some .int) ∈ nw_T := nw_m4 (List.mem_of_getElem? (i := 118) rfl) rfl
theorem nw_w447 : Cond.methodLink RX5 179 yX5_isCrest ∈ nw_T := nw_m4 (List.mem_of_getElem? (i := 103) rfl) rfl
theorem nw_w448 : Cond.instanceMethod yX5_isCrest ∈ nw_T := nw_m4 (List.mem_of_getElem? (i := 105) rfl) rfl
theorem nw_w449 : Cond.selects RX5 yX5_isCrest yX5_isCrest ∈ nw_T := nw_ms (List.mem_of_getElem? (i := 41) rfl)
theorem nw_w450 : Cond.code yX5_isCrest cX5_isCrest 3 (some .boolean) ∈ nw_T := nw_m4 (List.mem_of_getElem? (i := 106) rfl) rfl
theorem nw_w451 : Cond.methodLink RX5 192 yX5_asTold ∈ nw_T := nw_m4 (List.mem_of_getElem? (i := 95) rfl) rfl
theorem nw_w452 : Cond.instanceMethod yX5_asTold ∈ nw_T := nw_m4 (List.mem_of_getElem? (i := 97) rfl) rfl
theorem nw_w453 : Cond.selects RX5 yX5_asTold yX5_asTold ∈ nw_T := nw_ms (List.mem_of_getElem? (i := 39) rfl)
theorem nw_w454 : Cond.code yX5_asTold cX5_asTold 1 none ∈ nw_T := nw_m4 (List.mem_of_getElem? (i := 98) rfl) rfl
theorem nw_w455 : Cond.methodLink RX5 195 yX5_lays ∈ nw_T := nw_m4 (List.mem_of_getElem? (i := 99) rfl) rfl
theorem nw_w456 : Cond.instanceMethod yX5_lays ∈ nw_T := nw_m4 (List.mem_of_getElem? (i := 101) rfl) rfl
theorem nw_w457 : Cond.selects RX5 yX5_lays yX5_lays ∈ nw_T := nw_ms (List.mem_of_getElem? (i := 40) rfl)
theorem nw_w458 : Cond.code yX5_lays cX5_lays 3 none ∈ nw_T := nw_m4 (List.mem_of_getElem? (i := 102) rfl) rfl
theorem nw_w459 : Cond.methodLink RX5 198 yX5_laysTold ∈ nw_T := nw_m4 (List.mem_of_getElem? (i := 91) rfl) rfl
theorem nw_w460 : Cond.instanceMethod yX5_laysTold ∈ nw_T := nw_m4 (List.mem_of_getElem? (i := 93) rfl) rfl
theorem nw_w461 : Cond.selects RX5 yX5_laysTold yX5_laysTold ∈ nw_T := nw_ms (List.mem_of_getElem? (i := 38) rfl)
theorem nw_w462 : Cond.code yX5_laysTold cX5_laysTold 1 none ∈ nw_T := nw_m4 (List.mem_of_getElem? (i := 94) rfl) rfl
theorem nw_w463 : Cond.methodLink RX5 201 yX5_highOf ∈ nw_T := nw_m4 (List.mem_of_getElem? (i := 87) rfl) rfl
theorem nw_w464 : Cond.instanceMethod yX5_highOf ∈ nw_T := nw_m4 (List.mem_of_getElem? (i := 89) rfl) rfl
theorem nw_w465 : Cond.selects RX5 yX5_highOf yX5_highOf ∈ nw_T := nw_ms (List.mem_of_getElem? (i := 37) rfl)
theorem nw_w466 : Cond.code yX5_highOf cX5_highOf 2 (some .int) ∈ nw_T := nw_m4 (List.mem_of_getElem? (i := 90) rfl) rfl
theorem nw_w467 : Cond.methodLink RX5 204 yX5_waveOf ∈ nw_T := nw_m4 (List.mem_of_getElem? (i := 123) rfl) rfl
theorem nw_w468 : Cond.instanceMethod yX5_waveOf ∈ nw_T := nw_m4 (List.mem_of_getElem? (i := 125) rfl) rfl
theorem nw_w469 : Cond.selects RX5 yX5_waveOf yX5_waveOf ∈ nw_T := nw_ms (List.mem_of_getElem? (i := 45) rfl)
theorem nw_w470 : Cond.code yX5_waveOf cX5_waveOf 3 (some .int) ∈ nw_T := nw_m4 (List.mem_of_getElem? (i := 126) rfl) rfl
theorem nw_w471 : Cond.methodLink RX5 207 yX5_timeOf ∈ nw_T := nw_m4 (List.mem_of_getElem? (i := 135) rfl) rfl
theorem nw_w472 : Cond.instanceMethod yX5_timeOf ∈ nw_T := nw_m4 (List.mem_of_getElem? (i := 137) rfl) rfl
theorem nw_w473 : Cond.selects RX5 yX5_timeOf yX5_timeOf ∈ nw_T := nw_ms (List.mem_of_getElem? (i := 47) rfl)
theorem nw_w474 : Cond.code yX5_timeOf cX5_timeOf 3 (some .int) ∈ nw_T := nw_m4 (List.mem_of_getElem? (i := 138) rfl) rfl
theorem nw_w475 : Cond.methodLink RX5 210 yX5_whenOf ∈ nw_T := nw_m4 (List.mem_of_getElem? (i := 131) rfl) rfl
theorem nw_w476 : Cond.instanceMethod yX5_whenOf ∈ nw_T := nw_m4 (List.mem_of_getElem? (i := 133) rfl) rfl
theorem nw_w477 : Cond.selects RX5 yX5_whenOf yX5_whenOf ∈ nw_T := nw_ms (List.mem_of_getElem? (i := 46) rfl)
theorem nw_w478 : Cond.code yX5_whenOf cX5_whenOf 2 (some .int) ∈ nw_T := nw_m4 (List.mem_of_getElem? (i := 134) rfl) rfl
theorem nw_w479 : Cond.methodLink RX5 213 yX5_calledOf ∈ nw_T := nw_m4 (List.mem_of_getElem? (i := 143) rfl) rfl
theorem nw_w480 : Cond.instanceMethod yX5_calledOf ∈ nw_T := nw_m4 (List.mem_of_getElem? (i := 145) rfl) rfl
theorem nw_w481 : Cond.selects RX5 yX5_calledOf yX5_calledOf ∈ nw_T := nw_ms (List.mem_of_getElem? (i := 48) rfl)
theorem nw_w482 : Cond.code yX5_calledOf cX5_calledOf 5 (some .int) ∈ nw_T := nw_m4 (List.mem_of_getElem? (i := 146) rfl) rfl
theorem nw_w483 : Cond.methodLink RX5 216 yX5_bringsNow ∈ nw_T := nw_m4 (List.mem_of_getElem? (i := 155) rfl) rfl
theorem nw_w484 : Cond.instanceMethod yX5_bringsNow ∈ nw_T := nw_m4 (List.mem_of_getElem? (i := 157) rfl) rfl
theorem nw_w485 : Cond.selects RX5 yX5_bringsNow yX5_bringsNow ∈ nw_T := nw_ms (List.mem_of_getElem? (i := 50) rfl)
theorem nw_w486 : Cond.code yX5_bringsNow cX5_bringsNow 4 (some .int) ∈ nw_T := nw_m4 (List.mem_of_getElem? (i := 158) rfl) rfl
theorem nw_w487 : Cond.methodLink RX5 219 yX5_bringsOf ∈ nw_T := nw_m4 (List.mem_of_getElem? (i := 151) rfl) rfl
theorem nw_w488 : Cond.instanceMethod yX5_bringsOf ∈ nw_T := nw_m4 (List.mem_of_getElem? (i := 153) rfl) rfl
theorem nw_w489 : Cond.selects RX5 yX5_bringsOf yX5_bringsOf ∈ nw_T := nw_ms (List.mem_of_getElem? (i := 49) rfl)
theorem nw_w490 : Cond.code yX5_bringsOf cX5_bringsOf 2 (some .int) ∈ nw_T := nw_m4 (List.mem_of_getElem? (i := 154) rfl) rfl
theorem nw_w491 : Cond.methodLink RX5 222 yX5_holderOf ∈ nw_T := nw_m4 (List.mem_of_getElem? (i := 171) rfl) rfl
theorem nw_w492 : Cond.instanceMethod yX5_holderOf ∈ nw_T := nw_m4 (List.mem_of_getElem? (i := 173) rfl) rfl
theorem nw_w493 : Cond.selects RX5 yX5_holderOf yX5_holderOf ∈ nw_T := nw_ms (List.mem_of_getElem? (i := 53) rfl)
theorem nw_w494 : Cond.code yX5_holderOf cX5_holderOf 3 (some .int) ∈ nw_T := nw_m4 (List.mem_of_getElem? (i := 174) rfl) rfl
theorem nw_w495 : Cond.methodLink RX5 225 yX5_claimsNow ∈ nw_T := nw_m4 (List.mem_of_getElem? (i := 167) rfl) rfl
theorem nw_w496 : Cond.instanceMethod yX5_claimsNow ∈ nw_T := nw_m4 (List.mem_of_getElem? (i := 169) rfl) rfl
theorem nw_w497 : Cond.selects RX5 yX5_claimsNow yX5_claimsNow ∈ nw_T := nw_ms (List.mem_of_getElem? (i := 52) rfl)
theorem nw_w498 : Cond.code yX5_claimsNow cX5_claimsNow 6 (some .int) ∈ nw_T := nw_m4 (List.mem_of_getElem? (i := 170) rfl) rfl
theorem nw_w499 : Cond.methodLink RX5 228 yX5_claimsOf ∈ nw_T := nw_m4 (List.mem_of_getElem? (i := 163) rfl) rfl
theorem nw_w500 : Cond.instanceMethod yX5_claimsOf ∈ nw_T := nw_m4 (List.mem_of_getElem? (i := 165) rfl) rfl
theorem nw_w501 : Cond.selects RX5 yX5_claimsOf yX5_claimsOf ∈ nw_T := nw_ms (List.mem_of_getElem? (i := 51) rfl)
theorem nw_w502 : Cond.code yX5_claimsOf cX5_claimsOf 2 (some .int) ∈ nw_T := nw_m4 (List.mem_of_getElem? (i := 166) rfl) rfl
theorem nw_w503 : Cond.methodLink RX5 231 yX5_goodOf ∈ nw_T := nw_m4 (List.mem_of_getElem? (i := 179) rfl) rfl
theorem nw_w504 : Cond.instanceMethod yX5_goodOf ∈ nw_T := nw_m4 (List.mem_of_getElem? (i := 181) rfl) rfl
theorem nw_w505 : Cond.selects RX5 yX5_goodOf yX5_goodOf ∈ nw_T := nw_ms (List.mem_of_getElem? (i := 54) rfl)
theorem nw_w506 : Cond.code yX5_goodOf cX5_goodOf 4 (some .int) ∈ nw_T := nw_m4 (List.mem_of_getElem? (i := 182) rfl) rfl
theorem nw_w507 : Cond.methodLink RX5 234 yX5_lowestBy ∈ nw_T := nw_m4 (List.mem_of_getElem? (i := 191) rfl) rfl
theorem nw_w508 : Cond.static yX5_lowestBy ∈ nw_T := nw_m4 (List.mem_of_getElem? (i := 192) rfl) rfl
theorem nw_w509 : Cond.code yX5_lowestBy cX5_lowestBy 5 (some .int) ∈ nw_T := nw_m4 (List.mem_of_getElem? (i := 193) rfl) rfl
theorem nw_w510 : Cond.methodLink RX5 237 yX5_agreeOf ∈ nw_T := nw_m4 (List.mem_of_getElem? (i := 187) rfl) rfl
theorem nw_w511 : Cond.instanceMethod yX5_agreeOf ∈ nw_T := nw_m4 (List.mem_of_getElem? (i := 189) rfl) rfl
theorem nw_w512 : Cond.selects RX5 yX5_agreeOf yX5_agreeOf ∈ nw_T := nw_ms (List.mem_of_getElem? (i := 55) rfl)
theorem nw_w513 : Cond.code yX5_agreeOf cX5_agreeOf 8 (some .int) ∈ nw_T := nw_m4 (List.mem_of_getElem? (i := 190) rfl) rfl
theorem nw_w514 : Cond.fieldLink RX5 58 "NumberedWavesModel" "isCalled" "[Z" ∈ nw_T := nw_m3 (List.mem_of_getElem? (i := 127) rfl) rfl
theorem nw_w515 : Cond.methodLink RX5 241 yX5_runOf ∈ nw_T := nw_m4 (List.mem_of_getElem? (i := 198) rfl) rfl
theorem nw_w516 : Cond.instanceMethod yX5_runOf ∈ nw_T := nw_m4 (List.mem_of_getElem? (i := 200) rfl) rfl
theorem nw_w517 : Cond.selects RX5 yX5_runOf yX5_runOf ∈ nw_T := nw_ms (List.mem_of_getElem? (i := 56) rfl)
theorem nw_w518 : Cond.code yX5_runOf cX5_runOf 8 (some .int) ∈ nw_T := nw_m4 (List.mem_of_getElem? (i := 201) rfl) rfl
theorem nw_w519 : Cond.methodLink RX5 244 yX5_barOf ∈ nw_T := nw_m4 (List.mem_of_getElem? (i := 206) rfl) rfl
theorem nw_w520 : Cond.instanceMethod yX5_barOf ∈ nw_T := nw_m4 (List.mem_of_getElem? (i := 208) rfl) rfl
theorem nw_w521 : Cond.selects RX5 yX5_barOf yX5_barOf ∈ nw_T := nw_ms (List.mem_of_getElem? (i := 57) rfl)
theorem nw_w522 : Cond.code yX5_barOf cX5_barOf 5 (some .int) ∈ nw_T := nw_m4 (List.mem_of_getElem? (i := 209) rfl) rfl
theorem nw_w523 : Cond.methodLink RX5 247 yX5_earnOf ∈ nw_T := nw_m4 (List.mem_of_getElem? (i := 214) rfl) rfl
theorem nw_w524 : Cond.instanceMethod yX5_earnOf ∈ nw_T := nw_m4 (List.mem_of_getElem? (i := 216) rfl) rfl
theorem nw_w525 : Cond.selects RX5 yX5_earnOf yX5_earnOf ∈ nw_T := nw_ms (List.mem_of_getElem? (i := 58) rfl)
theorem nw_w526 : Cond.code yX5_earnOf cX5_earnOf 7 (some .int) ∈ nw_T := nw_m4 (List.mem_of_getElem? (i := 217) rfl) rfl
theorem nw_w527 : Cond.fieldLink RX5 250 "NumberedWavesModel" "heards" "I" ∈ nw_T := nw_m3 (List.mem_of_getElem? (i := 128) rfl) rfl
theorem nw_w528 : Cond.fieldLink RX5 62 "NumberedWavesModel" "heardAt" "[I" ∈ nw_T := nw_m3 (List.mem_of_getElem? (i := 129) rfl) rfl
theorem nw_w529 : Cond.fieldLink RX5 65 "NumberedWavesModel" "heardNumber" "[I" ∈ nw_T := nw_m3 (List.mem_of_getElem? (i := 130) rfl) rfl
theorem nw_w530 : Cond.methodLink RX5 253 yX5_isHeard ∈ nw_T := nw_m4 (List.mem_of_getElem? (i := 234) rfl) rfl
theorem nw_w531 : Cond.instanceMethod yX5_isHeard ∈ nw_T := nw_m4 (List.mem_of_getElem? (i := 236) rfl) rfl
theorem nw_w532 : Cond.selects RX5 yX5_isHeard yX5_isHeard ∈ nw_T := nw_ms (List.mem_of_getElem? (i := 60) rfl)
theorem nw_w533 : Cond.code yX5_isHeard cX5_isHeard 3 (some .boolean) ∈ nw_T := nw_m4 (List.mem_of_getElem? (i := 237) rfl) rfl
theorem nw_w534 : Cond.methodLink RX5 257 yX5_skippedOf ∈ nw_T := nw_m4 (List.mem_of_getElem? (i := 230) rfl) rfl
theorem nw_w535 : Cond.instanceMethod yX5_skippedOf ∈ nw_T := nw_m4 (List.mem_of_getElem? (i := 232) rfl) rfl
theorem nw_w536 : Cond.selects RX5 yX5_skippedOf yX5_skippedOf ∈ nw_T := nw_ms (List.mem_of_getElem? (i := 59) rfl)
theorem nw_w537 : Cond.code yX5_skippedOf cX5_skippedOf 4 (some .int) ∈ nw_T := nw_m4 (List.mem_of_getElem? (i := 233) rfl) rfl
theorem nw_w538 : Cond.methodLink RX5 260 yX5_voidsOf ∈ nw_T := nw_m5 (List.mem_of_getElem? (i := 2) rfl) rfl
theorem nw_w539 : Cond.instanceMethod yX5_voidsOf ∈ nw_T := nw_m5 (List.mem_of_getElem? (i := 4) rfl) rfl
theorem nw_w540 : Cond.selects RX5 yX5_voidsOf yX5_voidsOf ∈ nw_T := nw_ms (List.mem_of_getElem? (i := 61) rfl)
theorem nw_w541 : Cond.code yX5_voidsOf cX5_voidsOf 6 (some .int) ∈ nw_T := nw_m5 (List.mem_of_getElem? (i := 5) rfl) rfl
theorem nw_w542 : Cond.methodLink RX5 263 yX5_oftenOf ∈ nw_T := nw_m5 (List.mem_of_getElem? (i := 10) rfl) rfl
theorem nw_w543 : Cond.instanceMethod yX5_oftenOf ∈ nw_T := nw_m5 (List.mem_of_getElem? (i := 12) rfl) rfl
theorem nw_w544 : Cond.selects RX5 yX5_oftenOf yX5_oftenOf ∈ nw_T := nw_ms (List.mem_of_getElem? (i := 62) rfl)
theorem nw_w545 : Cond.code yX5_oftenOf cX5_oftenOf 8 (some .int) ∈ nw_T := nw_m5 (List.mem_of_getElem? (i := 13) rfl) rfl
theorem nw_w546 : Cond.constantLong RX5 266 (281474976710656) ∈ nw_T := nw_m5 (List.mem_of_getElem? (i := 22) rfl) rfl
theorem nw_w547 : Cond.methodLink RX5 270 yX5_lowest ∈ nw_T := nw_m5 (List.mem_of_getElem? (i := 24) rfl) rfl
theorem nw_w548 : Cond.static yX5_lowest ∈ nw_T := nw_m5 (List.mem_of_getElem? (i := 25) rfl) rfl
theorem nw_w549 : Cond.code yX5_lowest cX5_lowest 11 (some .long) ∈ nw_T := nw_m5 (List.mem_of_getElem? (i := 26) rfl) rfl
theorem nw_w550 : Cond.constantLong RX5 268 (16) ∈ nw_T := nw_m5 (List.mem_of_getElem? (i := 23) rfl) rfl
theorem nw_w551 : Cond.fieldLink RX5 68 "NumberedWavesModel" "ways" "[J" ∈ nw_T := nw_m3 (List.mem_of_getElem? (i := 131) rfl) rfl
theorem nw_w552 : Cond.methodLink RX5 278 yX5_no ∈ nw_T := nw_m5 (List.mem_of_getElem? (i := 27) rfl) rfl
theorem nw_w553 : Cond.static yX5_no ∈ nw_T := nw_m5 (List.mem_of_getElem? (i := 28) rfl) rfl
theorem nw_w554 : Cond.code yX5_no cX5_no 1 (some .long) ∈ nw_T := nw_m5 (List.mem_of_getElem? (i := 29) rfl) rfl
theorem nw_w555 : Cond.methodLink RX5 274 yX5_hoarseOf ∈ nw_T := nw_m5 (List.mem_of_getElem? (i := 18) rfl) rfl
theorem nw_w556 : Cond.instanceMethod yX5_hoarseOf ∈ nw_T := nw_m5 (List.mem_of_getElem? (i := 20) rfl) rfl
theorem nw_w557 : Cond.selects RX5 yX5_hoarseOf yX5_hoarseOf ∈ nw_T := nw_ms (List.mem_of_getElem? (i := 63) rfl)
theorem nw_w558 : Cond.code yX5_hoarseOf cX5_hoarseOf 10 (some .long) ∈ nw_T := nw_m5 (List.mem_of_getElem? (i := 21) rfl) rfl
theorem nw_w559 : Cond.constant RX5 282 (1103515245) ∈ nw_T := nw_m5 (List.mem_of_getElem? (i := 39) rfl) rfl
theorem nw_w560 : Cond.methodLink RX5 283 yX5_stormOf ∈ nw_T := nw_m5 (List.mem_of_getElem? (i := 35) rfl) rfl
theorem nw_w561 : Cond.instanceMethod yX5_stormOf ∈ nw_T := nw_m5 (List.mem_of_getElem? (i := 37) rfl) rfl
theorem nw_w562 : Cond.selects RX5 yX5_stormOf yX5_stormOf ∈ nw_T := nw_ms (List.mem_of_getElem? (i := 64) rfl)
theorem nw_w563 : Cond.code yX5_stormOf cX5_stormOf 9 (some .int) ∈ nw_T := nw_m5 (List.mem_of_getElem? (i := 38) rfl) rfl
theorem nw_w564 : Cond.fieldLink RX5 75 "NumberedWavesModel" "forms" "[I" ∈ nw_T := nw_m3 (List.mem_of_getElem? (i := 133) rfl) rfl
theorem nw_w565 : Cond.methodLink RX5 289 yX5_lacks ∈ nw_T := nw_m5 (List.mem_of_getElem? (i := 52) rfl) rfl
theorem nw_w566 : Cond.instanceMethod yX5_lacks ∈ nw_T := nw_m5 (List.mem_of_getElem? (i := 54) rfl) rfl
theorem nw_w567 : Cond.selects RX5 yX5_lacks yX5_lacks ∈ nw_T := nw_ms (List.mem_of_getElem? (i := 65) rfl)
theorem nw_w568 : Cond.code yX5_lacks cX5_lacks 4 (some .int) ∈ nw_T := nw_m5 (List.mem_of_getElem? (i := 55) rfl) rfl
theorem nw_w569 : Cond.methodLink RX5 292 yX5_keep ∈ nw_T := nw_m5 (List.mem_of_getElem? (i := 56) rfl) rfl
theorem nw_w570 : Cond.instanceMethod yX5_keep ∈ nw_T := nw_m5 (List.mem_of_getElem? (i := 58) rfl) rfl
theorem nw_w571 : Cond.selects RX5 yX5_keep yX5_keep ∈ nw_T := nw_ms (List.mem_of_getElem? (i := 66) rfl)
theorem nw_w572 : Cond.code yX5_keep cX5_keep 4 none ∈ nw_T := nw_m5 (List.mem_of_getElem? (i := 59) rfl) rfl
theorem nw_w573 : Cond.constant RX5 296 (-2147483648) ∈ nw_T := nw_m5 (List.mem_of_getElem? (i := 64) rfl) rfl
theorem nw_w574 : Cond.fieldLink RX5 84 "NumberedWavesModel" "moved" "[I" ∈ nw_T := nw_m3 (List.mem_of_getElem? (i := 136) rfl) rfl
theorem nw_w575 : Cond.methodLink RX5 297 yX5_sumOf ∈ nw_T := nw_m5 (List.mem_of_getElem? (i := 77) rfl) rfl
theorem nw_w576 : Cond.instanceMethod yX5_sumOf ∈ nw_T := nw_m5 (List.mem_of_getElem? (i := 79) rfl) rfl
theorem nw_w577 : Cond.selects RX5 yX5_sumOf yX5_sumOf ∈ nw_T := nw_ms (List.mem_of_getElem? (i := 67) rfl)
theorem nw_w578 : Cond.code yX5_sumOf cX5_sumOf 4 (some .int) ∈ nw_T := nw_m5 (List.mem_of_getElem? (i := 80) rfl) rfl
theorem nw_w579 : Cond.constantLong RX5 300 (31) ∈ nw_T := nw_m5 (List.mem_of_getElem? (i := 86) rfl) rfl
theorem nw_w580 : Cond.methodLink RX5 302 yX5_agree ∈ nw_T := nw_m5 (List.mem_of_getElem? (i := 92) rfl) rfl
theorem nw_w581 : Cond.instanceMethod yX5_agree ∈ nw_T := nw_m4 (List.mem_of_getElem? (i := 184) rfl) rfl
theorem nw_w582 : Cond.selects RX5 yX5_agree yX5_agree ∈ nw_T := nw_m4 (List.mem_of_getElem? (i := 185) rfl) rfl
theorem nw_w583 : Cond.code yX5_agree cX5_agree 5 (some .int) ∈ nw_T := nw_m4 (List.mem_of_getElem? (i := 186) rfl) rfl
theorem nw_w584 : Cond.constantLong RX5 305 (17) ∈ nw_T := nw_m5 (List.mem_of_getElem? (i := 85) rfl) rfl
theorem nw_w585 : Cond.methodLink RX5 314 yX5_timeDigest ∈ nw_T := nw_m5 (List.mem_of_getElem? (i := 93) rfl) rfl
theorem nw_w586 : Cond.instanceMethod yX5_timeDigest ∈ nw_T := nw_m5 (List.mem_of_getElem? (i := 95) rfl) rfl
theorem nw_w587 : Cond.selects RX5 yX5_timeDigest yX5_timeDigest ∈ nw_T := nw_ms (List.mem_of_getElem? (i := 69) rfl)
theorem nw_w588 : Cond.code yX5_timeDigest cX5_timeDigest 7 (some .long) ∈ nw_T := nw_m5 (List.mem_of_getElem? (i := 96) rfl) rfl
theorem nw_w589 : Cond.methodLink RX5 317 yX5_numberDigest ∈ nw_T := nw_m5 (List.mem_of_getElem? (i := 97) rfl) rfl
theorem nw_w590 : Cond.instanceMethod yX5_numberDigest ∈ nw_T := nw_m5 (List.mem_of_getElem? (i := 99) rfl) rfl
theorem nw_w591 : Cond.selects RX5 yX5_numberDigest yX5_numberDigest ∈ nw_T := nw_ms (List.mem_of_getElem? (i := 70) rfl)
theorem nw_w592 : Cond.code yX5_numberDigest cX5_numberDigest 6 (some .long) ∈ nw_T := nw_m5 (List.mem_of_getElem? (i := 100) rfl) rfl
theorem nw_w593 : Cond.methodLink RX5 310 yX5_swellDigest ∈ nw_T := nw_m5 (List.mem_of_getElem? (i := 88) rfl) rfl
theorem nw_w594 : Cond.instanceMethod yX5_swellDigest ∈ nw_T := nw_m5 (List.mem_of_getElem? (i := 90) rfl) rfl
theorem nw_w595 : Cond.selects RX5 yX5_swellDigest yX5_swellDigest ∈ nw_T := nw_ms (List.mem_of_getElem? (i := 68) rfl)
theorem nw_w596 : Cond.code yX5_swellDigest cX5_swellDigest 7 (some .long) ∈ nw_T := nw_m5 (List.mem_of_getElem? (i := 91) rfl) rfl
theorem nw_w597 : Cond.methodLink RX5 307 yX5_count ∈ nw_T := nw_m5 (List.mem_of_getElem? (i := 87) rfl) rfl
theorem nw_w598 : Cond.instanceMethod yX5_count ∈ nw_T := nw_m5 (List.mem_of_getElem? (i := 74) rfl) rfl
theorem nw_w599 : Cond.selects RX5 yX5_count yX5_count ∈ nw_T := nw_m5 (List.mem_of_getElem? (i := 75) rfl) rfl
theorem nw_w600 : Cond.code yX5_count cX5_count 2 (some .int) ∈ nw_T := nw_m5 (List.mem_of_getElem? (i := 76) rfl) rfl
end NWW
