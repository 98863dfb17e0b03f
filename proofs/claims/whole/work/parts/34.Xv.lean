theorem w0_0 : Cond.selects "NineBridges$Reader" ⟨"NineBridges$Reader", "takesSign", "(I)Z"⟩ ⟨"NineBridges$Reader", "takesSign", "(I)Z"⟩ ∈ gW := tb_0 (List.mem_of_getElem? (i := 0) rfl) rfl
theorem w0_1 : Cond.selects "NineBridges$Reader" ⟨"NineBridges$Reader", "takesPivot", "(I)Z"⟩ ⟨"NineBridges$Reader", "takesPivot", "(I)Z"⟩ ∈ gW := tb_0 (List.mem_of_getElem? (i := 1) rfl) rfl
theorem w0_2 : Cond.selects "NineBridges$Reader" ⟨"NineBridges$Reader", "takesMark", "(IC)Z"⟩ ⟨"NineBridges$Reader", "takesMark", "(IC)Z"⟩ ∈ gW := tb_0 (List.mem_of_getElem? (i := 2) rfl) rfl
theorem w0_3 : Cond.selects "NineBridges$Reader" ⟨"NineBridges$Reader", "takesEnd", "(I)Z"⟩ ⟨"NineBridges$Reader", "takesEnd", "(I)Z"⟩ ∈ gW := tb_0 (List.mem_of_getElem? (i := 3) rfl) rfl
theorem w0_4 : Cond.selects "NineBridges$Reader" ⟨"NineBridges$Reader", "takesDigit", "(I)Z"⟩ ⟨"NineBridges$Reader", "takesDigit", "(I)Z"⟩ ∈ gW := tb_0 (List.mem_of_getElem? (i := 4) rfl) rfl
theorem w0_8 : Cond.selects "NineBridges" ⟨"NineBridges", "isBridge", "(I)Z"⟩ ⟨"NineBridges", "isBridge", "(I)Z"⟩ ∈ gW := tb_0 (List.mem_of_getElem? (i := 8) rfl) rfl
theorem w0_9 : Cond.selects "NineBridges" ⟨"NineBridges", "told", "(LNineBridges$Bridge;I)I"⟩ ⟨"NineBridges", "told", "(LNineBridges$Bridge;I)I"⟩ ∈ gW := tb_0 (List.mem_of_getElem? (i := 9) rfl) rfl
theorem w0_10 : Cond.selects "NineBridges" ⟨"NineBridges", "openTable", "(IIII)V"⟩ ⟨"NineBridges", "openTable", "(IIII)V"⟩ ∈ gW := tb_0 (List.mem_of_getElem? (i := 10) rfl) rfl
theorem w0_11 : Cond.selects "NineBridges$Timetable" ⟨"NineBridges$Timetable", "everReached", "(I)I"⟩ ⟨"NineBridges$Timetable", "everReached", "(I)I"⟩ ∈ gW := tb_0 (List.mem_of_getElem? (i := 11) rfl) rfl
theorem w0_12 : Cond.selects "NineBridges" ⟨"NineBridges", "minutesApart", "(III)I"⟩ ⟨"NineBridges", "minutesApart", "(III)I"⟩ ∈ gW := tb_0 (List.mem_of_getElem? (i := 12) rfl) rfl
theorem w0_13 : Cond.selects "NineBridges" ⟨"NineBridges", "isJoined", "(II)Z"⟩ ⟨"NineBridges", "isJoined", "(II)Z"⟩ ∈ gW := tb_0 (List.mem_of_getElem? (i := 13) rfl) rfl
theorem w0_14 : Cond.selects "NineBridges$Timetable" ⟨"NineBridges$Timetable", "waitFrom", "(II)I"⟩ ⟨"NineBridges$Timetable", "waitFrom", "(II)I"⟩ ∈ gW := tb_0 (List.mem_of_getElem? (i := 14) rfl) rfl
theorem w0_15 : Cond.selects "NineBridges$Crowd" ⟨"NineBridges$Crowd", "sendWhilePathsAreFound", "(LNineBridges$Timetable;II)I"⟩ ⟨"NineBridges$Crowd", "sendWhilePathsAreFound", "(LNineBridges$Timetable;II)I"⟩ ∈ gW := tb_0 (List.mem_of_getElem? (i := 15) rfl) rfl
theorem w0_16 : Cond.selects "NineBridges$Crowd" ⟨"NineBridges$Crowd", "findPath", "(LNineBridges$Timetable;II)I"⟩ ⟨"NineBridges$Crowd", "findPath", "(LNineBridges$Timetable;II)I"⟩ ∈ gW := tb_0 (List.mem_of_getElem? (i := 16) rfl) rfl
theorem w0_17 : Cond.selects "NineBridges$Crowd" ⟨"NineBridges$Crowd", "nextKnot", "(LNineBridges$Timetable;II)I"⟩ ⟨"NineBridges$Crowd", "nextKnot", "(LNineBridges$Timetable;II)I"⟩ ∈ gW := tb_0 (List.mem_of_getElem? (i := 17) rfl) rfl
theorem w0_18 : Cond.selects "NineBridges$Crowd" ⟨"NineBridges$Crowd", "acrossFrom", "(LNineBridges$Timetable;III)I"⟩ ⟨"NineBridges$Crowd", "acrossFrom", "(LNineBridges$Timetable;III)I"⟩ ∈ gW := tb_0 (List.mem_of_getElem? (i := 18) rfl) rfl
theorem w0_19 : Cond.selects "NineBridges$Crowd" ⟨"NineBridges$Crowd", "takenBackFrom", "(LNineBridges$Timetable;III)I"⟩ ⟨"NineBridges$Crowd", "takenBackFrom", "(LNineBridges$Timetable;III)I"⟩ ∈ gW := tb_0 (List.mem_of_getElem? (i := 19) rfl) rfl
theorem w0_20 : Cond.selects "NineBridges$Crowd" ⟨"NineBridges$Crowd", "send", "(LNineBridges$Timetable;II)V"⟩ ⟨"NineBridges$Crowd", "send", "(LNineBridges$Timetable;II)V"⟩ ∈ gW := tb_0 (List.mem_of_getElem? (i := 20) rfl) rfl
theorem w0_21 : Cond.selects "NineBridges" ⟨"NineBridges", "allNotesHold", "()Z"⟩ ⟨"NineBridges", "allNotesHold", "()Z"⟩ ∈ gW := tb_0 (List.mem_of_getElem? (i := 21) rfl) rfl
theorem w0_22 : Cond.selects "NineBridges" ⟨"NineBridges", "waysTogether", "()I"⟩ ⟨"NineBridges", "waysTogether", "()I"⟩ ∈ gW := tb_0 (List.mem_of_getElem? (i := 22) rfl) rfl
theorem w0_23 : Cond.selects "java/util/ArrayList" ⟨"java/util/ArrayList", "fastRemove", "([Ljava/lang/Object;I)V"⟩ ⟨"java/util/ArrayList", "fastRemove", "([Ljava/lang/Object;I)V"⟩ ∈ gW := tb_0 (List.mem_of_getElem? (i := 23) rfl) rfl
theorem w0_24 : Cond.selects "NineBridges" ⟨"NineBridges", "turningBridges", "()I"⟩ ⟨"NineBridges", "turningBridges", "()I"⟩ ∈ gW := tb_0 (List.mem_of_getElem? (i := 24) rfl) rfl
theorem w0_25 : Cond.selects "NineBridges" ⟨"NineBridges", "withBridge", "(JLNineBridges$Bridge;)J"⟩ ⟨"NineBridges", "withBridge", "(JLNineBridges$Bridge;)J"⟩ ∈ gW := tb_0 (List.mem_of_getElem? (i := 25) rfl) rfl
theorem w1_1 : Cond.initialized "NineBridges" ∈ gW := tb_1 (List.mem_of_getElem? (i := 1) rfl) rfl
theorem w1_2 : Cond.initialized "NineBridges$Page" ∈ gW := tb_1 (List.mem_of_getElem? (i := 2) rfl) rfl
theorem w1_3 : Cond.initialized "NineBridges$Reader" ∈ gW := tb_1 (List.mem_of_getElem? (i := 3) rfl) rfl
theorem w1_6 : Cond.initialized "java/util/ArrayList" ∈ gW := tb_1 (List.mem_of_getElem? (i := 6) rfl) rfl
theorem w1_7 : Cond.initialized "NineBridges$Notes" ∈ gW := tb_1 (List.mem_of_getElem? (i := 7) rfl) rfl
theorem w1_8 : Cond.initialized "NineBridges$Image" ∈ gW := tb_1 (List.mem_of_getElem? (i := 8) rfl) rfl
theorem w1_9 : Cond.initialized "NineBridges$Timetable" ∈ gW := tb_1 (List.mem_of_getElem? (i := 9) rfl) rfl
theorem w1_10 : Cond.initialized "NineBridges$Crowd" ∈ gW := tb_1 (List.mem_of_getElem? (i := 10) rfl) rfl
theorem w1_12 : Cond.initialized "NineBridges$Bridge" ∈ gW := tb_1 (List.mem_of_getElem? (i := 12) rfl) rfl
theorem w1_13 : Cond.initialized "NineBridges$Frosty" ∈ gW := tb_1 (List.mem_of_getElem? (i := 13) rfl) rfl
theorem w1_14 : Cond.initialized "java/lang/Math" ∈ gW := tb_1 (List.mem_of_getElem? (i := 14) rfl) rfl
theorem w1_15 : Cond.initialized "java/util/Arrays" ∈ gW := tb_1 (List.mem_of_getElem? (i := 15) rfl) rfl
theorem w1_16 : Cond.initialized "java/lang/System" ∈ gW := tb_1 (List.mem_of_getElem? (i := 16) rfl) rfl
theorem w1_17 : Cond.initialized "NineBridges$Swinging" ∈ gW := tb_1 (List.mem_of_getElem? (i := 17) rfl) rfl
theorem w1_18 : Cond.initialized "NineBridges$Fixed" ∈ gW := tb_1 (List.mem_of_getElem? (i := 18) rfl) rfl
theorem w1_20 : Cond.initialized "java/util/Objects" ∈ gW := tb_1 (List.mem_of_getElem? (i := 20) rfl) rfl
theorem w1_21 : Cond.initialized "jdk/internal/util/Preconditions" ∈ gW := tb_1 (List.mem_of_getElem? (i := 21) rfl) rfl
theorem w1_36 : Cond.fieldLink "NineBridges$Page" 9 "NineBridges$Page" "codes" "[I" ∈ gW := tb_1 (List.mem_of_getElem? (i := 36) rfl) rfl
theorem w1_37 : Cond.fieldLink "NineBridges$Page" 15 "NineBridges$Page" "size" "I" ∈ gW := tb_1 (List.mem_of_getElem? (i := 37) rfl) rfl
theorem w1_50 : Cond.fieldLink "NineBridges$Reader" 9 "NineBridges$Reader" "ends" "[I" ∈ gW := tb_1 (List.mem_of_getElem? (i := 50) rfl) rfl
theorem w1_52 : Cond.fieldLink "NineBridges$Reader" 15 "NineBridges$Reader" "stage" "I" ∈ gW := tb_1 (List.mem_of_getElem? (i := 52) rfl) rfl
theorem w1_53 : Cond.fieldLink "NineBridges$Reader" 19 "NineBridges$Reader" "kind" "I" ∈ gW := tb_1 (List.mem_of_getElem? (i := 53) rfl) rfl
theorem w1_55 : Cond.fieldLink "NineBridges$Reader" 48 "NineBridges$Reader" "pivot" "I" ∈ gW := tb_1 (List.mem_of_getElem? (i := 55) rfl) rfl
theorem w1_57 : Cond.fieldLink "NineBridges$Reader" 22 "NineBridges$Reader" "endCount" "I" ∈ gW := tb_1 (List.mem_of_getElem? (i := 57) rfl) rfl
theorem w1_59 : Cond.fieldLink "NineBridges$Reader" 51 "NineBridges$Reader" "stand" "I" ∈ gW := tb_1 (List.mem_of_getElem? (i := 59) rfl) rfl
theorem w1_61 : Cond.fieldLink "NineBridges$Reader" 54 "NineBridges$Reader" "turn" "I" ∈ gW := tb_1 (List.mem_of_getElem? (i := 61) rfl) rfl
theorem w1_63 : Cond.fieldLink "NineBridges$Reader" 57 "NineBridges$Reader" "shift" "I" ∈ gW := tb_1 (List.mem_of_getElem? (i := 63) rfl) rfl
theorem w1_65 : Cond.fieldLink "NineBridges$Reader" 25 "NineBridges$Reader" "bears" "I" ∈ gW := tb_1 (List.mem_of_getElem? (i := 65) rfl) rfl
theorem w1_99 : Cond.fieldLink "java/util/ArrayList" 9 "java/util/ArrayList" "elementData" "[Ljava/lang/Object;" ∈ gW := tb_1 (List.mem_of_getElem? (i := 99) rfl) rfl
theorem w1_100 : Cond.fieldLink "java/util/ArrayList" 48 "java/util/ArrayList" "size" "I" ∈ gW := tb_1 (List.mem_of_getElem? (i := 100) rfl) rfl
theorem w1_102 : Cond.fieldLink "java/util/ArrayList" 63 "java/util/ArrayList" "modCount" "I" ∈ gW := tb_1 (List.mem_of_getElem? (i := 102) rfl) rfl
theorem w1_103 : Cond.sameField "java/util/ArrayList" "java/util/AbstractList" "modCount" "I" ∈ gW := tb_1 (List.mem_of_getElem? (i := 103) rfl) rfl
theorem w1_117 : Cond.fieldLink "NineBridges$Notes" 11 "NineBridges$Notes" "parts" "[I" ∈ gW := tb_1 (List.mem_of_getElem? (i := 117) rfl) rfl
theorem w1_118 : Cond.fieldLink "NineBridges$Notes" 15 "NineBridges$Notes" "size" "I" ∈ gW := tb_1 (List.mem_of_getElem? (i := 118) rfl) rfl
theorem w1_132 : Cond.fieldLink "NineBridges$Image" 9 "NineBridges$Image" "shifts" "[I" ∈ gW := tb_1 (List.mem_of_getElem? (i := 132) rfl) rfl
theorem w1_133 : Cond.fieldLink "NineBridges$Image" 18 "NineBridges$Image" "notes" "LNineBridges$Notes;" ∈ gW := tb_1 (List.mem_of_getElem? (i := 133) rfl) rfl
theorem w1_134 : Cond.fieldLink "NineBridges$Image" 22 "NineBridges$Image" "bridgeCount" "I" ∈ gW := tb_1 (List.mem_of_getElem? (i := 134) rfl) rfl
theorem w1_135 : Cond.fieldLink "NineBridges$Image" 26 "NineBridges$Image" "frosty" "Z" ∈ gW := tb_1 (List.mem_of_getElem? (i := 135) rfl) rfl
theorem w1_153 : Cond.fieldLink "NineBridges$Timetable" 11 "NineBridges$Timetable" "landings" "[[I" ∈ gW := tb_1 (List.mem_of_getElem? (i := 153) rfl) rfl
theorem w1_154 : Cond.fieldLink "NineBridges$Timetable" 16 "NineBridges$Timetable" "pivots" "[I" ∈ gW := tb_1 (List.mem_of_getElem? (i := 154) rfl) rfl
theorem w1_155 : Cond.fieldLink "NineBridges$Timetable" 20 "NineBridges$Timetable" "touched" "[I" ∈ gW := tb_1 (List.mem_of_getElem? (i := 155) rfl) rfl
theorem w1_156 : Cond.fieldLink "NineBridges$Timetable" 23 "NineBridges$Timetable" "firsts" "[[I" ∈ gW := tb_1 (List.mem_of_getElem? (i := 156) rfl) rfl
theorem w1_157 : Cond.fieldLink "NineBridges$Timetable" 26 "NineBridges$Timetable" "latest" "[I" ∈ gW := tb_1 (List.mem_of_getElem? (i := 157) rfl) rfl
theorem w1_158 : Cond.fieldLink "NineBridges$Timetable" 29 "NineBridges$Timetable" "start" "I" ∈ gW := tb_1 (List.mem_of_getElem? (i := 158) rfl) rfl
theorem w1_159 : Cond.fieldLink "NineBridges$Timetable" 33 "NineBridges$Timetable" "span" "I" ∈ gW := tb_1 (List.mem_of_getElem? (i := 159) rfl) rfl
theorem w1_160 : Cond.fieldLink "NineBridges$Timetable" 36 "NineBridges$Timetable" "pace" "I" ∈ gW := tb_1 (List.mem_of_getElem? (i := 160) rfl) rfl
theorem w1_161 : Cond.fieldLink "NineBridges$Timetable" 39 "NineBridges$Timetable" "rows" "I" ∈ gW := tb_1 (List.mem_of_getElem? (i := 161) rfl) rfl
theorem w1_187 : Cond.fieldLink "NineBridges$Crowd" 11 "NineBridges$Crowd" "going" "[I" ∈ gW := tb_1 (List.mem_of_getElem? (i := 187) rfl) rfl
theorem w1_188 : Cond.fieldLink "NineBridges$Crowd" 15 "NineBridges$Crowd" "waiting" "[I" ∈ gW := tb_1 (List.mem_of_getElem? (i := 188) rfl) rfl
theorem w1_189 : Cond.fieldLink "NineBridges$Crowd" 18 "NineBridges$Crowd" "tries" "[I" ∈ gW := tb_1 (List.mem_of_getElem? (i := 189) rfl) rfl
theorem w1_190 : Cond.fieldLink "NineBridges$Crowd" 21 "NineBridges$Crowd" "onPath" "[I" ∈ gW := tb_1 (List.mem_of_getElem? (i := 190) rfl) rfl
theorem w1_191 : Cond.fieldLink "NineBridges$Crowd" 24 "NineBridges$Crowd" "path" "[I" ∈ gW := tb_1 (List.mem_of_getElem? (i := 191) rfl) rfl
theorem w1_203 : Cond.fieldLink "NineBridges" 10 "NineBridges" "page" "LNineBridges$Page;" ∈ gW := tb_1 (List.mem_of_getElem? (i := 203) rfl) rfl
theorem w1_204 : Cond.fieldLink "NineBridges" 19 "NineBridges" "reader" "LNineBridges$Reader;" ∈ gW := tb_1 (List.mem_of_getElem? (i := 204) rfl) rfl
theorem w1_205 : Cond.fieldLink "NineBridges" 26 "NineBridges" "bridges" "Ljava/util/ArrayList;" ∈ gW := tb_1 (List.mem_of_getElem? (i := 205) rfl) rfl
theorem w1_206 : Cond.fieldLink "NineBridges" 33 "NineBridges" "notes" "LNineBridges$Notes;" ∈ gW := tb_1 (List.mem_of_getElem? (i := 206) rfl) rfl
theorem w1_207 : Cond.fieldLink "NineBridges" 40 "NineBridges" "kept" "LNineBridges$Image;" ∈ gW := tb_1 (List.mem_of_getElem? (i := 207) rfl) rfl
theorem w1_208 : Cond.fieldLink "NineBridges" 47 "NineBridges" "table" "LNineBridges$Timetable;" ∈ gW := tb_1 (List.mem_of_getElem? (i := 208) rfl) rfl
theorem w1_209 : Cond.fieldLink "NineBridges" 54 "NineBridges" "carriers" "LNineBridges$Crowd;" ∈ gW := tb_1 (List.mem_of_getElem? (i := 209) rfl) rfl
theorem w1_210 : Cond.fieldLink "NineBridges" 58 "NineBridges" "arrivals" "[I" ∈ gW := tb_1 (List.mem_of_getElem? (i := 210) rfl) rfl
theorem w1_211 : Cond.fieldLink "NineBridges" 62 "NineBridges" "otherArrivals" "[I" ∈ gW := tb_1 (List.mem_of_getElem? (i := 211) rfl) rfl
theorem w1_212 : Cond.fieldLink "NineBridges" 65 "NineBridges" "frosty" "Z" ∈ gW := tb_1 (List.mem_of_getElem? (i := 212) rfl) rfl
theorem w1_238 : Cond.methodLink "NineBridges" 69 ⟨"NineBridges", "lettersIn", "(J)I"⟩ ∈ gW := tb_1 (List.mem_of_getElem? (i := 238) rfl) rfl
theorem w1_239 : Cond.static ⟨"NineBridges", "lettersIn", "(J)I"⟩ ∈ gW := tb_1 (List.mem_of_getElem? (i := 239) rfl) rfl
theorem w2_0 : Cond.code ⟨"NineBridges", "lettersIn", "(J)I"⟩ prog_1_method_31_code 6 (some .int) ∈ gW := tb_2 (List.mem_of_getElem? (i := 0) rfl) rfl
theorem w2_1 : Cond.methodLink "NineBridges" 77 ⟨"NineBridges", "byteOf", "(JI)I"⟩ ∈ gW := tb_2 (List.mem_of_getElem? (i := 1) rfl) rfl
theorem w2_2 : Cond.static ⟨"NineBridges", "byteOf", "(JI)I"⟩ ∈ gW := tb_2 (List.mem_of_getElem? (i := 2) rfl) rfl
theorem w2_3 : Cond.code ⟨"NineBridges", "byteOf", "(JI)I"⟩ prog_1_method_30_code 3 (some .int) ∈ gW := tb_2 (List.mem_of_getElem? (i := 3) rfl) rfl
theorem w2_4 : Cond.methodLink "NineBridges" 73 ⟨"NineBridges$Page", "hasRoom", "(I)Z"⟩ ∈ gW := tb_2 (List.mem_of_getElem? (i := 4) rfl) rfl
theorem w2_5 : Cond.instanceMethod ⟨"NineBridges$Page", "hasRoom", "(I)Z"⟩ ∈ gW := tb_2 (List.mem_of_getElem? (i := 5) rfl) rfl
theorem w2_6 : Cond.selects "NineBridges$Page" ⟨"NineBridges$Page", "hasRoom", "(I)Z"⟩ ⟨"NineBridges$Page", "hasRoom", "(I)Z"⟩ ∈ gW := tb_2 (List.mem_of_getElem? (i := 6) rfl) rfl
theorem w2_7 : Cond.code ⟨"NineBridges$Page", "hasRoom", "(I)Z"⟩ prog_8_method_3_code 2 (some .boolean) ∈ gW := tb_2 (List.mem_of_getElem? (i := 7) rfl) rfl
theorem w2_8 : Cond.methodLink "NineBridges" 81 ⟨"NineBridges$Page", "append", "(I)V"⟩ ∈ gW := tb_2 (List.mem_of_getElem? (i := 8) rfl) rfl
theorem w2_9 : Cond.instanceMethod ⟨"NineBridges$Page", "append", "(I)V"⟩ ∈ gW := tb_2 (List.mem_of_getElem? (i := 9) rfl) rfl
theorem w2_10 : Cond.selects "NineBridges$Page" ⟨"NineBridges$Page", "append", "(I)V"⟩ ⟨"NineBridges$Page", "append", "(I)V"⟩ ∈ gW := tb_2 (List.mem_of_getElem? (i := 10) rfl) rfl
theorem w2_11 : Cond.code ⟨"NineBridges$Page", "append", "(I)V"⟩ prog_8_method_4_code 2 none ∈ gW := tb_2 (List.mem_of_getElem? (i := 11) rfl) rfl
theorem w2_12 : Cond.methodLink "NineBridges" 85 ⟨"NineBridges$Page", "size", "()I"⟩ ∈ gW := tb_2 (List.mem_of_getElem? (i := 12) rfl) rfl
theorem w2_13 : Cond.instanceMethod ⟨"NineBridges$Page", "size", "()I"⟩ ∈ gW := tb_2 (List.mem_of_getElem? (i := 13) rfl) rfl
theorem w2_14 : Cond.selects "NineBridges$Page" ⟨"NineBridges$Page", "size", "()I"⟩ ⟨"NineBridges$Page", "size", "()I"⟩ ∈ gW := tb_2 (List.mem_of_getElem? (i := 14) rfl) rfl
theorem w2_15 : Cond.code ⟨"NineBridges$Page", "size", "()I"⟩ prog_8_method_2_code 1 (some .int) ∈ gW := tb_2 (List.mem_of_getElem? (i := 15) rfl) rfl
theorem w2_20 : Cond.methodLink "NineBridges" 89 ⟨"NineBridges$Page", "empty", "()I"⟩ ∈ gW := tb_2 (List.mem_of_getElem? (i := 20) rfl) rfl
theorem w2_21 : Cond.instanceMethod ⟨"NineBridges$Page", "empty", "()I"⟩ ∈ gW := tb_2 (List.mem_of_getElem? (i := 21) rfl) rfl
theorem w2_22 : Cond.selects "NineBridges$Page" ⟨"NineBridges$Page", "empty", "()I"⟩ ⟨"NineBridges$Page", "empty", "()I"⟩ ∈ gW := tb_2 (List.mem_of_getElem? (i := 22) rfl) rfl
theorem w2_23 : Cond.code ⟨"NineBridges$Page", "empty", "()I"⟩ prog_8_method_5_code 2 (some .int) ∈ gW := tb_2 (List.mem_of_getElem? (i := 23) rfl) rfl
theorem w2_28 : Cond.methodLink "NineBridges" 92 ⟨"NineBridges$Page", "readBy", "(LNineBridges$Reader;)I"⟩ ∈ gW := tb_2 (List.mem_of_getElem? (i := 28) rfl) rfl
theorem w2_29 : Cond.instanceMethod ⟨"NineBridges$Page", "readBy", "(LNineBridges$Reader;)I"⟩ ∈ gW := tb_2 (List.mem_of_getElem? (i := 29) rfl) rfl
theorem w2_30 : Cond.selects "NineBridges$Page" ⟨"NineBridges$Page", "readBy", "(LNineBridges$Reader;)I"⟩ ⟨"NineBridges$Page", "readBy", "(LNineBridges$Reader;)I"⟩ ∈ gW := tb_2 (List.mem_of_getElem? (i := 30) rfl) rfl
theorem w2_31 : Cond.code ⟨"NineBridges$Page", "readBy", "(LNineBridges$Reader;)I"⟩ prog_8_method_7_code 3 (some .int) ∈ gW := tb_2 (List.mem_of_getElem? (i := 31) rfl) rfl
theorem w2_32 : Cond.methodLink "NineBridges$Page" 19 ⟨"NineBridges$Reader", "begin", "()V"⟩ ∈ gW := tb_2 (List.mem_of_getElem? (i := 32) rfl) rfl
theorem w2_33 : Cond.instanceMethod ⟨"NineBridges$Reader", "begin", "()V"⟩ ∈ gW := tb_2 (List.mem_of_getElem? (i := 33) rfl) rfl
theorem w2_34 : Cond.selects "NineBridges$Reader" ⟨"NineBridges$Reader", "begin", "()V"⟩ ⟨"NineBridges$Reader", "begin", "()V"⟩ ∈ gW := tb_2 (List.mem_of_getElem? (i := 34) rfl) rfl
theorem w2_35 : Cond.code ⟨"NineBridges$Reader", "begin", "()V"⟩ prog_9_method_2_code 1 none ∈ gW := tb_2 (List.mem_of_getElem? (i := 35) rfl) rfl
theorem w2_36 : Cond.methodLink "NineBridges$Page" 24 ⟨"NineBridges$Reader", "takes", "(I)Z"⟩ ∈ gW := tb_2 (List.mem_of_getElem? (i := 36) rfl) rfl
theorem w2_37 : Cond.instanceMethod ⟨"NineBridges$Reader", "takes", "(I)Z"⟩ ∈ gW := tb_2 (List.mem_of_getElem? (i := 37) rfl) rfl
theorem w2_38 : Cond.selects "NineBridges$Reader" ⟨"NineBridges$Reader", "takes", "(I)Z"⟩ ⟨"NineBridges$Reader", "takes", "(I)Z"⟩ ∈ gW := tb_2 (List.mem_of_getElem? (i := 38) rfl) rfl
theorem w2_39 : Cond.code ⟨"NineBridges$Reader", "takes", "(I)Z"⟩ prog_9_method_4_code 2 (some .boolean) ∈ gW := tb_2 (List.mem_of_getElem? (i := 39) rfl) rfl
theorem w2_40 : Cond.methodLink "NineBridges$Reader" 28 ⟨"NineBridges$Reader", "takesSign", "(I)Z"⟩ ∈ gW := tb_2 (List.mem_of_getElem? (i := 40) rfl) rfl
theorem w2_42 : Cond.instanceMethod ⟨"NineBridges$Reader", "takesSign", "(I)Z"⟩ ∈ gW := tb_2 (List.mem_of_getElem? (i := 42) rfl) rfl
theorem w2_43 : Cond.code ⟨"NineBridges$Reader", "takesSign", "(I)Z"⟩ prog_9_method_5_code 2 (some .boolean) ∈ gW := tb_2 (List.mem_of_getElem? (i := 43) rfl) rfl
theorem w2_44 : Cond.methodLink "NineBridges$Reader" 32 ⟨"NineBridges$Reader", "takesPivot", "(I)Z"⟩ ∈ gW := tb_2 (List.mem_of_getElem? (i := 44) rfl) rfl
theorem w2_46 : Cond.instanceMethod ⟨"NineBridges$Reader", "takesPivot", "(I)Z"⟩ ∈ gW := tb_2 (List.mem_of_getElem? (i := 46) rfl) rfl
theorem w2_47 : Cond.code ⟨"NineBridges$Reader", "takesPivot", "(I)Z"⟩ prog_9_method_6_code 2 (some .boolean) ∈ gW := tb_2 (List.mem_of_getElem? (i := 47) rfl) rfl
theorem w2_48 : Cond.methodLinkNest "NineBridges$Reader" 45 ⟨"NineBridges", "isIslet", "(I)Z"⟩ "NineBridges" ∈ nW := tn_2 (List.mem_of_getElem? (i := 48) rfl) rfl
theorem w2_49 : Cond.static ⟨"NineBridges", "isIslet", "(I)Z"⟩ ∈ gW := tb_2 (List.mem_of_getElem? (i := 49) rfl) rfl
theorem w2_50 : Cond.code ⟨"NineBridges", "isIslet", "(I)Z"⟩ prog_1_method_33_code 1 (some .boolean) ∈ gW := tb_2 (List.mem_of_getElem? (i := 50) rfl) rfl
theorem w2_51 : Cond.methodLink "NineBridges$Reader" 35 ⟨"NineBridges$Reader", "takesMark", "(IC)Z"⟩ ∈ gW := tb_2 (List.mem_of_getElem? (i := 51) rfl) rfl
theorem w2_53 : Cond.instanceMethod ⟨"NineBridges$Reader", "takesMark", "(IC)Z"⟩ ∈ gW := tb_2 (List.mem_of_getElem? (i := 53) rfl) rfl
theorem w2_54 : Cond.code ⟨"NineBridges$Reader", "takesMark", "(IC)Z"⟩ prog_9_method_7_code 3 (some .boolean) ∈ gW := tb_2 (List.mem_of_getElem? (i := 54) rfl) rfl
theorem w2_55 : Cond.methodLink "NineBridges$Reader" 39 ⟨"NineBridges$Reader", "takesEnd", "(I)Z"⟩ ∈ gW := tb_2 (List.mem_of_getElem? (i := 55) rfl) rfl
theorem w2_57 : Cond.instanceMethod ⟨"NineBridges$Reader", "takesEnd", "(I)Z"⟩ ∈ gW := tb_2 (List.mem_of_getElem? (i := 57) rfl) rfl
theorem w2_58 : Cond.code ⟨"NineBridges$Reader", "takesEnd", "(I)Z"⟩ prog_9_method_8_code 4 (some .boolean) ∈ gW := tb_2 (List.mem_of_getElem? (i := 58) rfl) rfl
theorem w2_59 : Cond.methodLink "NineBridges$Reader" 42 ⟨"NineBridges$Reader", "takesDigit", "(I)Z"⟩ ∈ gW := tb_2 (List.mem_of_getElem? (i := 59) rfl) rfl
theorem w2_61 : Cond.instanceMethod ⟨"NineBridges$Reader", "takesDigit", "(I)Z"⟩ ∈ gW := tb_2 (List.mem_of_getElem? (i := 61) rfl) rfl
theorem w2_62 : Cond.code ⟨"NineBridges$Reader", "takesDigit", "(I)Z"⟩ prog_9_method_9_code 4 (some .boolean) ∈ gW := tb_2 (List.mem_of_getElem? (i := 62) rfl) rfl
theorem w2_71 : Cond.methodLink "NineBridges" 100 ⟨"java/util/ArrayList", "size", "()I"⟩ ∈ gW := tb_2 (List.mem_of_getElem? (i := 71) rfl) rfl
theorem w2_72 : Cond.instanceMethod ⟨"java/util/ArrayList", "size", "()I"⟩ ∈ gW := tb_2 (List.mem_of_getElem? (i := 72) rfl) rfl
theorem w2_73 : Cond.selects "java/util/ArrayList" ⟨"java/util/ArrayList", "size", "()I"⟩ ⟨"java/util/ArrayList", "size", "()I"⟩ ∈ gW := tb_2 (List.mem_of_getElem? (i := 73) rfl) rfl
theorem w2_74 : Cond.code ⟨"java/util/ArrayList", "size", "()I"⟩ prog_21_method_8_code 1 (some .int) ∈ gW := tb_2 (List.mem_of_getElem? (i := 74) rfl) rfl
theorem w2_88 : Cond.methodLink "NineBridges$Bridge" 41 ⟨"java/lang/Math", "max", "(II)I"⟩ ∈ gW := tb_2 (List.mem_of_getElem? (i := 88) rfl) rfl
theorem w2_89 : Cond.static ⟨"java/lang/Math", "max", "(II)I"⟩ ∈ gW := tb_2 (List.mem_of_getElem? (i := 89) rfl) rfl
theorem w2_90 : Cond.code ⟨"java/lang/Math", "max", "(II)I"⟩ prog_17_method_65_code 2 (some .int) ∈ gW := tb_2 (List.mem_of_getElem? (i := 90) rfl) rfl
theorem w2_102 : Cond.static ⟨"java/lang/Math", "min", "(II)I"⟩ ∈ gW := tb_2 (List.mem_of_getElem? (i := 102) rfl) rfl
theorem w2_103 : Cond.code ⟨"java/lang/Math", "min", "(II)I"⟩ prog_17_method_69_code 2 (some .int) ∈ gW := tb_2 (List.mem_of_getElem? (i := 103) rfl) rfl
theorem w2_105 : Cond.static ⟨"java/lang/System", "arraycopy", "(Ljava/lang/Object;ILjava/lang/Object;II)V"⟩ ∈ gW := tb_2 (List.mem_of_getElem? (i := 105) rfl) rfl
theorem w2_106 : Cond.native ⟨"java/lang/System", "arraycopy", "(Ljava/lang/Object;ILjava/lang/Object;II)V"⟩ ∈ gW := tb_2 (List.mem_of_getElem? (i := 106) rfl) rfl
theorem w2_108 : Cond.fieldLink "NineBridges$Timetable" 64 "NineBridges$Bridge" "pivot" "I" ∈ gW := tb_2 (List.mem_of_getElem? (i := 108) rfl) rfl
theorem w2_109 : Cond.fieldLink "NineBridges" 197 "NineBridges$Bridge" "pivot" "I" ∈ gW := tb_2 (List.mem_of_getElem? (i := 109) rfl) rfl
theorem w2_110 : Cond.fieldLink "NineBridges$Bridge" 21 "NineBridges$Bridge" "stand" "I" ∈ gW := tb_2 (List.mem_of_getElem? (i := 110) rfl) rfl
theorem w2_111 : Cond.fieldLink "NineBridges" 281 "NineBridges$Bridge" "stand" "I" ∈ gW := tb_2 (List.mem_of_getElem? (i := 111) rfl) rfl
theorem w2_112 : Cond.fieldLink "NineBridges$Bridge" 25 "NineBridges$Bridge" "turn" "I" ∈ gW := tb_2 (List.mem_of_getElem? (i := 112) rfl) rfl
theorem w2_113 : Cond.fieldLink "NineBridges$Frosty" 7 "NineBridges$Frosty" "turn" "I" ∈ gW := tb_2 (List.mem_of_getElem? (i := 113) rfl) rfl
theorem w2_114 : Cond.sameField "NineBridges$Frosty" "NineBridges$Bridge" "turn" "I" ∈ gW := tb_2 (List.mem_of_getElem? (i := 114) rfl) rfl
theorem w2_115 : Cond.fieldLink "NineBridges" 284 "NineBridges$Bridge" "turn" "I" ∈ gW := tb_2 (List.mem_of_getElem? (i := 115) rfl) rfl
theorem w2_117 : Cond.fieldLink "NineBridges" 287 "NineBridges$Bridge" "bears" "I" ∈ gW := tb_2 (List.mem_of_getElem? (i := 117) rfl) rfl
theorem w2_118 : Cond.fieldLink "NineBridges$Bridge" 53 "NineBridges$Bridge" "ends" "[I" ∈ gW := tb_2 (List.mem_of_getElem? (i := 118) rfl) rfl
theorem w2_120 : Cond.fieldLink "NineBridges$Image" 48 "NineBridges$Bridge" "shift" "I" ∈ gW := tb_2 (List.mem_of_getElem? (i := 120) rfl) rfl
theorem w2_121 : Cond.fieldLink "NineBridges" 126 "NineBridges$Bridge" "shift" "I" ∈ gW := tb_2 (List.mem_of_getElem? (i := 121) rfl) rfl
theorem w2_227 : Cond.methodLink "NineBridges" 109 ⟨"NineBridges", "isBridge", "(I)Z"⟩ ∈ gW := tb_2 (List.mem_of_getElem? (i := 227) rfl) rfl
theorem w2_229 : Cond.instanceMethod ⟨"NineBridges", "isBridge", "(I)Z"⟩ ∈ gW := tb_2 (List.mem_of_getElem? (i := 229) rfl) rfl
theorem w2_230 : Cond.code ⟨"NineBridges", "isBridge", "(I)Z"⟩ prog_1_method_32_code 2 (some .boolean) ∈ gW := tb_2 (List.mem_of_getElem? (i := 230) rfl) rfl
theorem w2_231 : Cond.methodLink "NineBridges" 112 ⟨"java/util/ArrayList", "get", "(I)Ljava/lang/Object;"⟩ ∈ gW := tb_2 (List.mem_of_getElem? (i := 231) rfl) rfl
theorem w2_232 : Cond.instanceMethod ⟨"java/util/ArrayList", "get", "(I)Ljava/lang/Object;"⟩ ∈ gW := tb_2 (List.mem_of_getElem? (i := 232) rfl) rfl
theorem w2_233 : Cond.selects "java/util/ArrayList" ⟨"java/util/ArrayList", "get", "(I)Ljava/lang/Object;"⟩ ⟨"java/util/ArrayList", "get", "(I)Ljava/lang/Object;"⟩ ∈ gW := tb_2 (List.mem_of_getElem? (i := 233) rfl) rfl
theorem w2_234 : Cond.code ⟨"java/util/ArrayList", "get", "(I)Ljava/lang/Object;"⟩ prog_21_method_20_code 2 (some (.object "java/lang/Object")) ∈ gW := tb_2 (List.mem_of_getElem? (i := 234) rfl) rfl
theorem w2_235 : Cond.methodLink "java/util/ArrayList" 118 ⟨"java/util/Objects", "checkIndex", "(II)I"⟩ ∈ gW := tb_2 (List.mem_of_getElem? (i := 235) rfl) rfl
theorem w2_236 : Cond.static ⟨"java/util/Objects", "checkIndex", "(II)I"⟩ ∈ gW := tb_2 (List.mem_of_getElem? (i := 236) rfl) rfl
theorem w2_237 : Cond.code ⟨"java/util/Objects", "checkIndex", "(II)I"⟩ prog_25_method_17_code 2 (some .int) ∈ gW := tb_2 (List.mem_of_getElem? (i := 237) rfl) rfl
theorem w2_238 : Cond.methodLink "java/util/Objects" 105 ⟨"jdk/internal/util/Preconditions", "checkIndex", "(IILjava/util/function/BiFunction;)I"⟩ ∈ gW := tb_2 (List.mem_of_getElem? (i := 238) rfl) rfl
theorem w2_239 : Cond.static ⟨"jdk/internal/util/Preconditions", "checkIndex", "(IILjava/util/function/BiFunction;)I"⟩ ∈ gW := tb_2 (List.mem_of_getElem? (i := 239) rfl) rfl
theorem w3_0 : Cond.code ⟨"jdk/internal/util/Preconditions", "checkIndex", "(IILjava/util/function/BiFunction;)I"⟩ prog_29_method_11_code 3 (some .int) ∈ gW := tb_3 (List.mem_of_getElem? (i := 0) rfl) rfl
theorem w3_1 : Cond.methodLink "java/util/ArrayList" 123 ⟨"java/util/ArrayList", "elementData", "(I)Ljava/lang/Object;"⟩ ∈ gW := tb_3 (List.mem_of_getElem? (i := 1) rfl) rfl
theorem w3_2 : Cond.instanceMethod ⟨"java/util/ArrayList", "elementData", "(I)Ljava/lang/Object;"⟩ ∈ gW := tb_3 (List.mem_of_getElem? (i := 2) rfl) rfl
theorem w3_3 : Cond.selects "java/util/ArrayList" ⟨"java/util/ArrayList", "elementData", "(I)Ljava/lang/Object;"⟩ ⟨"java/util/ArrayList", "elementData", "(I)Ljava/lang/Object;"⟩ ∈ gW := tb_3 (List.mem_of_getElem? (i := 3) rfl) rfl
theorem w3_4 : Cond.code ⟨"java/util/ArrayList", "elementData", "(I)Ljava/lang/Object;"⟩ prog_21_method_18_code 2 (some (.object "java/lang/Object")) ∈ gW := tb_3 (List.mem_of_getElem? (i := 4) rfl) rfl
theorem w3_5 : Cond.classLink "NineBridges" 116 "NineBridges$Bridge" ∈ gW := tb_3 (List.mem_of_getElem? (i := 5) rfl) rfl
theorem w3_6 : Cond.methodLink "NineBridges" 118 ⟨"NineBridges", "isOfKind", "(LNineBridges$Bridge;I)Z"⟩ ∈ gW := tb_3 (List.mem_of_getElem? (i := 6) rfl) rfl
theorem w3_7 : Cond.static ⟨"NineBridges", "isOfKind", "(LNineBridges$Bridge;I)Z"⟩ ∈ gW := tb_3 (List.mem_of_getElem? (i := 7) rfl) rfl
theorem w3_8 : Cond.code ⟨"NineBridges", "isOfKind", "(LNineBridges$Bridge;I)Z"⟩ prog_1_method_37_code 2 (some .boolean) ∈ gW := tb_3 (List.mem_of_getElem? (i := 8) rfl) rfl
theorem w3_9 : Cond.classLink "NineBridges" 274 "NineBridges$Frosty" ∈ gW := tb_3 (List.mem_of_getElem? (i := 9) rfl) rfl
theorem w3_10 : Cond.classLink "NineBridges" 276 "NineBridges$Swinging" ∈ gW := tb_3 (List.mem_of_getElem? (i := 10) rfl) rfl
theorem w3_11 : Cond.classLink "NineBridges" 184 "NineBridges$Fixed" ∈ gW := tb_3 (List.mem_of_getElem? (i := 11) rfl) rfl
theorem w3_16 : Cond.methodLink "NineBridges" 122 ⟨"NineBridges", "told", "(LNineBridges$Bridge;I)I"⟩ ∈ gW := tb_3 (List.mem_of_getElem? (i := 16) rfl) rfl
theorem w3_18 : Cond.instanceMethod ⟨"NineBridges", "told", "(LNineBridges$Bridge;I)I"⟩ ∈ gW := tb_3 (List.mem_of_getElem? (i := 18) rfl) rfl
theorem w3_19 : Cond.code ⟨"NineBridges", "told", "(LNineBridges$Bridge;I)I"⟩ prog_1_method_38_code 3 (some .int) ∈ gW := tb_3 (List.mem_of_getElem? (i := 19) rfl) rfl
theorem w3_20 : Cond.methodLink "NineBridges" 278 ⟨"NineBridges$Bridge", "kind", "()I"⟩ ∈ gW := tb_3 (List.mem_of_getElem? (i := 20) rfl) rfl
theorem w3_21 : Cond.instanceMethod ⟨"NineBridges$Bridge", "kind", "()I"⟩ ∈ gW := tb_3 (List.mem_of_getElem? (i := 21) rfl) rfl
theorem w3_22 : Cond.selects "NineBridges$Bridge" ⟨"NineBridges$Bridge", "kind", "()I"⟩ ⟨"NineBridges$Bridge", "kind", "()I"⟩ ∈ gW := tb_3 (List.mem_of_getElem? (i := 22) rfl) rfl
theorem w3_23 : Cond.sameMethod "NineBridges$Bridge" "NineBridges$Bridge" "kind" "()I" ∈ gW := tb_3 (List.mem_of_getElem? (i := 23) rfl) rfl
theorem w3_24 : Cond.selects "NineBridges$Fixed" ⟨"NineBridges$Bridge", "kind", "()I"⟩ ⟨"NineBridges$Fixed", "kind", "()I"⟩ ∈ gW := tb_3 (List.mem_of_getElem? (i := 24) rfl) rfl
theorem w3_25 : Cond.instanceMethod ⟨"NineBridges$Fixed", "kind", "()I"⟩ ∈ gW := tb_3 (List.mem_of_getElem? (i := 25) rfl) rfl
theorem w3_26 : Cond.code ⟨"NineBridges$Fixed", "kind", "()I"⟩ prog_4_method_2_code 1 (some .int) ∈ gW := tb_3 (List.mem_of_getElem? (i := 26) rfl) rfl
theorem w3_27 : Cond.selects "NineBridges$Frosty" ⟨"NineBridges$Bridge", "kind", "()I"⟩ ⟨"NineBridges$Frosty", "kind", "()I"⟩ ∈ gW := tb_3 (List.mem_of_getElem? (i := 27) rfl) rfl
theorem w3_28 : Cond.instanceMethod ⟨"NineBridges$Frosty", "kind", "()I"⟩ ∈ gW := tb_3 (List.mem_of_getElem? (i := 28) rfl) rfl
theorem w3_29 : Cond.code ⟨"NineBridges$Frosty", "kind", "()I"⟩ prog_5_method_2_code 1 (some .int) ∈ gW := tb_3 (List.mem_of_getElem? (i := 29) rfl) rfl
theorem w3_30 : Cond.selects "NineBridges$Swinging" ⟨"NineBridges$Bridge", "kind", "()I"⟩ ⟨"NineBridges$Swinging", "kind", "()I"⟩ ∈ gW := tb_3 (List.mem_of_getElem? (i := 30) rfl) rfl
theorem w3_31 : Cond.instanceMethod ⟨"NineBridges$Swinging", "kind", "()I"⟩ ∈ gW := tb_3 (List.mem_of_getElem? (i := 31) rfl) rfl
theorem w3_32 : Cond.code ⟨"NineBridges$Swinging", "kind", "()I"⟩ prog_10_method_2_code 1 (some .int) ∈ gW := tb_3 (List.mem_of_getElem? (i := 32) rfl) rfl
theorem w3_33 : Cond.code ⟨"NineBridges$Bridge", "kind", "()I"⟩ prog_2_method_2_code 1 (some .int) ∈ gW := tb_3 (List.mem_of_getElem? (i := 33) rfl) rfl
theorem w3_34 : Cond.methodLink "NineBridges" 194 ⟨"NineBridges$Bridge", "endCount", "()I"⟩ ∈ gW := tb_3 (List.mem_of_getElem? (i := 34) rfl) rfl
theorem w3_35 : Cond.instanceMethod ⟨"NineBridges$Bridge", "endCount", "()I"⟩ ∈ gW := tb_3 (List.mem_of_getElem? (i := 35) rfl) rfl
theorem w3_36 : Cond.selects "NineBridges$Bridge" ⟨"NineBridges$Bridge", "endCount", "()I"⟩ ⟨"NineBridges$Bridge", "endCount", "()I"⟩ ∈ gW := tb_3 (List.mem_of_getElem? (i := 36) rfl) rfl
theorem w3_37 : Cond.sameMethod "NineBridges$Bridge" "NineBridges$Bridge" "endCount" "()I" ∈ gW := tb_3 (List.mem_of_getElem? (i := 37) rfl) rfl
theorem w3_38 : Cond.selects "NineBridges$Fixed" ⟨"NineBridges$Bridge", "endCount", "()I"⟩ ⟨"NineBridges$Bridge", "endCount", "()I"⟩ ∈ gW := tb_3 (List.mem_of_getElem? (i := 38) rfl) rfl
theorem w3_39 : Cond.selects "NineBridges$Frosty" ⟨"NineBridges$Bridge", "endCount", "()I"⟩ ⟨"NineBridges$Bridge", "endCount", "()I"⟩ ∈ gW := tb_3 (List.mem_of_getElem? (i := 39) rfl) rfl
theorem w3_40 : Cond.selects "NineBridges$Swinging" ⟨"NineBridges$Bridge", "endCount", "()I"⟩ ⟨"NineBridges$Bridge", "endCount", "()I"⟩ ∈ gW := tb_3 (List.mem_of_getElem? (i := 40) rfl) rfl
theorem w3_41 : Cond.code ⟨"NineBridges$Bridge", "endCount", "()I"⟩ prog_2_method_3_code 1 (some .int) ∈ gW := tb_3 (List.mem_of_getElem? (i := 41) rfl) rfl
theorem w3_42 : Cond.methodLink "NineBridges" 160 ⟨"NineBridges$Bridge", "roundMinutes", "(Z)I"⟩ ∈ gW := tb_3 (List.mem_of_getElem? (i := 42) rfl) rfl
theorem w3_43 : Cond.instanceMethod ⟨"NineBridges$Bridge", "roundMinutes", "(Z)I"⟩ ∈ gW := tb_3 (List.mem_of_getElem? (i := 43) rfl) rfl
theorem w3_44 : Cond.selects "NineBridges$Bridge" ⟨"NineBridges$Bridge", "roundMinutes", "(Z)I"⟩ ⟨"NineBridges$Bridge", "roundMinutes", "(Z)I"⟩ ∈ gW := tb_3 (List.mem_of_getElem? (i := 44) rfl) rfl
theorem w3_45 : Cond.sameMethod "NineBridges$Bridge" "NineBridges$Bridge" "roundMinutes" "(Z)I" ∈ gW := tb_3 (List.mem_of_getElem? (i := 45) rfl) rfl
theorem w3_46 : Cond.selects "NineBridges$Fixed" ⟨"NineBridges$Bridge", "roundMinutes", "(Z)I"⟩ ⟨"NineBridges$Fixed", "roundMinutes", "(Z)I"⟩ ∈ gW := tb_3 (List.mem_of_getElem? (i := 46) rfl) rfl
theorem w3_47 : Cond.instanceMethod ⟨"NineBridges$Fixed", "roundMinutes", "(Z)I"⟩ ∈ gW := tb_3 (List.mem_of_getElem? (i := 47) rfl) rfl
theorem w3_48 : Cond.code ⟨"NineBridges$Fixed", "roundMinutes", "(Z)I"⟩ prog_4_method_3_code 2 (some .int) ∈ gW := tb_3 (List.mem_of_getElem? (i := 48) rfl) rfl
theorem w3_49 : Cond.selects "NineBridges$Frosty" ⟨"NineBridges$Bridge", "roundMinutes", "(Z)I"⟩ ⟨"NineBridges$Bridge", "roundMinutes", "(Z)I"⟩ ∈ gW := tb_3 (List.mem_of_getElem? (i := 49) rfl) rfl
theorem w3_50 : Cond.selects "NineBridges$Swinging" ⟨"NineBridges$Bridge", "roundMinutes", "(Z)I"⟩ ⟨"NineBridges$Bridge", "roundMinutes", "(Z)I"⟩ ∈ gW := tb_3 (List.mem_of_getElem? (i := 50) rfl) rfl
theorem w3_51 : Cond.code ⟨"NineBridges$Bridge", "roundMinutes", "(Z)I"⟩ prog_2_method_8_code 2 (some .int) ∈ gW := tb_3 (List.mem_of_getElem? (i := 51) rfl) rfl
theorem w3_52 : Cond.methodLink "NineBridges$Bridge" 58 ⟨"NineBridges$Bridge", "placeCount", "()I"⟩ ∈ gW := tb_3 (List.mem_of_getElem? (i := 52) rfl) rfl
theorem w3_53 : Cond.instanceMethod ⟨"NineBridges$Bridge", "placeCount", "()I"⟩ ∈ gW := tb_3 (List.mem_of_getElem? (i := 53) rfl) rfl
theorem w3_54 : Cond.selects "NineBridges$Bridge" ⟨"NineBridges$Bridge", "placeCount", "()I"⟩ ⟨"NineBridges$Bridge", "placeCount", "()I"⟩ ∈ gW := tb_3 (List.mem_of_getElem? (i := 54) rfl) rfl
theorem w3_55 : Cond.sameMethod "NineBridges$Bridge" "NineBridges$Bridge" "placeCount" "()I" ∈ gW := tb_3 (List.mem_of_getElem? (i := 55) rfl) rfl
theorem w3_56 : Cond.selects "NineBridges$Fixed" ⟨"NineBridges$Bridge", "placeCount", "()I"⟩ ⟨"NineBridges$Bridge", "placeCount", "()I"⟩ ∈ gW := tb_3 (List.mem_of_getElem? (i := 56) rfl) rfl
theorem w3_57 : Cond.selects "NineBridges$Frosty" ⟨"NineBridges$Bridge", "placeCount", "()I"⟩ ⟨"NineBridges$Bridge", "placeCount", "()I"⟩ ∈ gW := tb_3 (List.mem_of_getElem? (i := 57) rfl) rfl
theorem w3_58 : Cond.selects "NineBridges$Swinging" ⟨"NineBridges$Bridge", "placeCount", "()I"⟩ ⟨"NineBridges$Swinging", "placeCount", "()I"⟩ ∈ gW := tb_3 (List.mem_of_getElem? (i := 58) rfl) rfl
theorem w3_59 : Cond.instanceMethod ⟨"NineBridges$Swinging", "placeCount", "()I"⟩ ∈ gW := tb_3 (List.mem_of_getElem? (i := 59) rfl) rfl
theorem w3_60 : Cond.code ⟨"NineBridges$Swinging", "placeCount", "()I"⟩ prog_10_method_3_code 1 (some .int) ∈ gW := tb_3 (List.mem_of_getElem? (i := 60) rfl) rfl
theorem w3_61 : Cond.methodLink "NineBridges$Swinging" 7 ⟨"NineBridges$Swinging", "endCount", "()I"⟩ ∈ gW := tb_3 (List.mem_of_getElem? (i := 61) rfl) rfl
theorem w3_62 : Cond.sameMethod "NineBridges$Swinging" "NineBridges$Bridge" "endCount" "()I" ∈ gW := tb_3 (List.mem_of_getElem? (i := 62) rfl) rfl
theorem w3_64 : Cond.selects "NineBridges$Swinging" ⟨"NineBridges$Swinging", "endCount", "()I"⟩ ⟨"NineBridges$Bridge", "endCount", "()I"⟩ ∈ gW := tb_3 (List.mem_of_getElem? (i := 64) rfl) rfl
theorem w3_65 : Cond.code ⟨"NineBridges$Bridge", "placeCount", "()I"⟩ prog_2_method_6_code 1 (some .int) ∈ gW := tb_3 (List.mem_of_getElem? (i := 65) rfl) rfl
theorem w3_66 : Cond.methodLink "NineBridges$Bridge" 62 ⟨"NineBridges$Bridge", "turnMinutes", "(Z)I"⟩ ∈ gW := tb_3 (List.mem_of_getElem? (i := 66) rfl) rfl
theorem w3_67 : Cond.instanceMethod ⟨"NineBridges$Bridge", "turnMinutes", "(Z)I"⟩ ∈ gW := tb_3 (List.mem_of_getElem? (i := 67) rfl) rfl
theorem w3_68 : Cond.selects "NineBridges$Bridge" ⟨"NineBridges$Bridge", "turnMinutes", "(Z)I"⟩ ⟨"NineBridges$Bridge", "turnMinutes", "(Z)I"⟩ ∈ gW := tb_3 (List.mem_of_getElem? (i := 68) rfl) rfl
theorem w3_69 : Cond.sameMethod "NineBridges$Bridge" "NineBridges$Bridge" "turnMinutes" "(Z)I" ∈ gW := tb_3 (List.mem_of_getElem? (i := 69) rfl) rfl
theorem w3_70 : Cond.selects "NineBridges$Fixed" ⟨"NineBridges$Bridge", "turnMinutes", "(Z)I"⟩ ⟨"NineBridges$Bridge", "turnMinutes", "(Z)I"⟩ ∈ gW := tb_3 (List.mem_of_getElem? (i := 70) rfl) rfl
theorem w3_71 : Cond.selects "NineBridges$Frosty" ⟨"NineBridges$Bridge", "turnMinutes", "(Z)I"⟩ ⟨"NineBridges$Frosty", "turnMinutes", "(Z)I"⟩ ∈ gW := tb_3 (List.mem_of_getElem? (i := 71) rfl) rfl
theorem w3_72 : Cond.instanceMethod ⟨"NineBridges$Frosty", "turnMinutes", "(Z)I"⟩ ∈ gW := tb_3 (List.mem_of_getElem? (i := 72) rfl) rfl
theorem w3_73 : Cond.code ⟨"NineBridges$Frosty", "turnMinutes", "(Z)I"⟩ prog_5_method_3_code 2 (some .int) ∈ gW := tb_3 (List.mem_of_getElem? (i := 73) rfl) rfl
theorem w3_74 : Cond.selects "NineBridges$Swinging" ⟨"NineBridges$Bridge", "turnMinutes", "(Z)I"⟩ ⟨"NineBridges$Frosty", "turnMinutes", "(Z)I"⟩ ∈ gW := tb_3 (List.mem_of_getElem? (i := 74) rfl) rfl
theorem w3_75 : Cond.code ⟨"NineBridges$Bridge", "turnMinutes", "(Z)I"⟩ prog_2_method_5_code 2 (some .int) ∈ gW := tb_3 (List.mem_of_getElem? (i := 75) rfl) rfl
theorem w3_76 : Cond.methodLink "NineBridges" 200 ⟨"NineBridges$Bridge", "end", "(I)I"⟩ ∈ gW := tb_3 (List.mem_of_getElem? (i := 76) rfl) rfl
theorem w3_77 : Cond.instanceMethod ⟨"NineBridges$Bridge", "end", "(I)I"⟩ ∈ gW := tb_3 (List.mem_of_getElem? (i := 77) rfl) rfl
theorem w3_78 : Cond.selects "NineBridges$Bridge" ⟨"NineBridges$Bridge", "end", "(I)I"⟩ ⟨"NineBridges$Bridge", "end", "(I)I"⟩ ∈ gW := tb_3 (List.mem_of_getElem? (i := 78) rfl) rfl
theorem w3_79 : Cond.sameMethod "NineBridges$Bridge" "NineBridges$Bridge" "end" "(I)I" ∈ gW := tb_3 (List.mem_of_getElem? (i := 79) rfl) rfl
theorem w3_80 : Cond.selects "NineBridges$Fixed" ⟨"NineBridges$Bridge", "end", "(I)I"⟩ ⟨"NineBridges$Bridge", "end", "(I)I"⟩ ∈ gW := tb_3 (List.mem_of_getElem? (i := 80) rfl) rfl
theorem w3_81 : Cond.selects "NineBridges$Frosty" ⟨"NineBridges$Bridge", "end", "(I)I"⟩ ⟨"NineBridges$Bridge", "end", "(I)I"⟩ ∈ gW := tb_3 (List.mem_of_getElem? (i := 81) rfl) rfl
theorem w3_82 : Cond.selects "NineBridges$Swinging" ⟨"NineBridges$Bridge", "end", "(I)I"⟩ ⟨"NineBridges$Bridge", "end", "(I)I"⟩ ∈ gW := tb_3 (List.mem_of_getElem? (i := 82) rfl) rfl
theorem w3_83 : Cond.code ⟨"NineBridges$Bridge", "end", "(I)I"⟩ prog_2_method_4_code 2 (some .int) ∈ gW := tb_3 (List.mem_of_getElem? (i := 83) rfl) rfl
theorem w3_96 : Cond.methodLink "NineBridges" 130 ⟨"NineBridges$Bridge", "endAt", "(IZ)I"⟩ ∈ gW := tb_3 (List.mem_of_getElem? (i := 96) rfl) rfl
theorem w3_97 : Cond.instanceMethod ⟨"NineBridges$Bridge", "endAt", "(IZ)I"⟩ ∈ gW := tb_3 (List.mem_of_getElem? (i := 97) rfl) rfl
theorem w3_98 : Cond.selects "NineBridges$Bridge" ⟨"NineBridges$Bridge", "endAt", "(IZ)I"⟩ ⟨"NineBridges$Bridge", "endAt", "(IZ)I"⟩ ∈ gW := tb_3 (List.mem_of_getElem? (i := 98) rfl) rfl
theorem w3_99 : Cond.sameMethod "NineBridges$Bridge" "NineBridges$Bridge" "endAt" "(IZ)I" ∈ gW := tb_3 (List.mem_of_getElem? (i := 99) rfl) rfl
theorem w3_100 : Cond.selects "NineBridges$Fixed" ⟨"NineBridges$Bridge", "endAt", "(IZ)I"⟩ ⟨"NineBridges$Fixed", "endAt", "(IZ)I"⟩ ∈ gW := tb_3 (List.mem_of_getElem? (i := 100) rfl) rfl
theorem w3_101 : Cond.instanceMethod ⟨"NineBridges$Fixed", "endAt", "(IZ)I"⟩ ∈ gW := tb_3 (List.mem_of_getElem? (i := 101) rfl) rfl
theorem w3_102 : Cond.code ⟨"NineBridges$Fixed", "endAt", "(IZ)I"⟩ prog_4_method_4_code 3 (some .int) ∈ gW := tb_3 (List.mem_of_getElem? (i := 102) rfl) rfl
theorem w3_103 : Cond.methodLink "NineBridges$Fixed" 9 ⟨"NineBridges$Fixed", "end", "(I)I"⟩ ∈ gW := tb_3 (List.mem_of_getElem? (i := 103) rfl) rfl
theorem w3_104 : Cond.sameMethod "NineBridges$Fixed" "NineBridges$Bridge" "end" "(I)I" ∈ gW := tb_3 (List.mem_of_getElem? (i := 104) rfl) rfl
theorem w3_106 : Cond.selects "NineBridges$Fixed" ⟨"NineBridges$Fixed", "end", "(I)I"⟩ ⟨"NineBridges$Bridge", "end", "(I)I"⟩ ∈ gW := tb_3 (List.mem_of_getElem? (i := 106) rfl) rfl
theorem w3_107 : Cond.selects "NineBridges$Frosty" ⟨"NineBridges$Bridge", "endAt", "(IZ)I"⟩ ⟨"NineBridges$Bridge", "endAt", "(IZ)I"⟩ ∈ gW := tb_3 (List.mem_of_getElem? (i := 107) rfl) rfl
theorem w3_108 : Cond.selects "NineBridges$Swinging" ⟨"NineBridges$Bridge", "endAt", "(IZ)I"⟩ ⟨"NineBridges$Bridge", "endAt", "(IZ)I"⟩ ∈ gW := tb_3 (List.mem_of_getElem? (i := 108) rfl) rfl
theorem w3_109 : Cond.code ⟨"NineBridges$Bridge", "endAt", "(IZ)I"⟩ prog_2_method_9_code 6 (some .int) ∈ gW := tb_3 (List.mem_of_getElem? (i := 109) rfl) rfl
theorem w3_110 : Cond.methodLink "NineBridges$Bridge" 66 ⟨"NineBridges$Bridge", "roundMinutes", "(Z)I"⟩ ∈ gW := tb_3 (List.mem_of_getElem? (i := 110) rfl) rfl
theorem w3_111 : Cond.methodLink "NineBridges$Bridge" 69 ⟨"NineBridges$Bridge", "endOfPlace", "(I)I"⟩ ∈ gW := tb_3 (List.mem_of_getElem? (i := 111) rfl) rfl
theorem w3_112 : Cond.instanceMethod ⟨"NineBridges$Bridge", "endOfPlace", "(I)I"⟩ ∈ gW := tb_3 (List.mem_of_getElem? (i := 112) rfl) rfl
theorem w3_113 : Cond.selects "NineBridges$Bridge" ⟨"NineBridges$Bridge", "endOfPlace", "(I)I"⟩ ⟨"NineBridges$Bridge", "endOfPlace", "(I)I"⟩ ∈ gW := tb_3 (List.mem_of_getElem? (i := 113) rfl) rfl
theorem w3_114 : Cond.sameMethod "NineBridges$Bridge" "NineBridges$Bridge" "endOfPlace" "(I)I" ∈ gW := tb_3 (List.mem_of_getElem? (i := 114) rfl) rfl
theorem w3_115 : Cond.selects "NineBridges$Fixed" ⟨"NineBridges$Bridge", "endOfPlace", "(I)I"⟩ ⟨"NineBridges$Bridge", "endOfPlace", "(I)I"⟩ ∈ gW := tb_3 (List.mem_of_getElem? (i := 115) rfl) rfl
theorem w3_116 : Cond.selects "NineBridges$Frosty" ⟨"NineBridges$Bridge", "endOfPlace", "(I)I"⟩ ⟨"NineBridges$Bridge", "endOfPlace", "(I)I"⟩ ∈ gW := tb_3 (List.mem_of_getElem? (i := 116) rfl) rfl
theorem w3_117 : Cond.selects "NineBridges$Swinging" ⟨"NineBridges$Bridge", "endOfPlace", "(I)I"⟩ ⟨"NineBridges$Swinging", "endOfPlace", "(I)I"⟩ ∈ gW := tb_3 (List.mem_of_getElem? (i := 117) rfl) rfl
theorem w3_118 : Cond.instanceMethod ⟨"NineBridges$Swinging", "endOfPlace", "(I)I"⟩ ∈ gW := tb_3 (List.mem_of_getElem? (i := 118) rfl) rfl
theorem w3_119 : Cond.code ⟨"NineBridges$Swinging", "endOfPlace", "(I)I"⟩ prog_10_method_4_code 2 (some .int) ∈ gW := tb_3 (List.mem_of_getElem? (i := 119) rfl) rfl
theorem w3_120 : Cond.methodLink "NineBridges$Swinging" 13 ⟨"NineBridges$Swinging", "end", "(I)I"⟩ ∈ gW := tb_3 (List.mem_of_getElem? (i := 120) rfl) rfl
theorem w3_121 : Cond.sameMethod "NineBridges$Swinging" "NineBridges$Bridge" "end" "(I)I" ∈ gW := tb_3 (List.mem_of_getElem? (i := 121) rfl) rfl
theorem w3_122 : Cond.selects "NineBridges$Swinging" ⟨"NineBridges$Swinging", "end", "(I)I"⟩ ⟨"NineBridges$Bridge", "end", "(I)I"⟩ ∈ gW := tb_3 (List.mem_of_getElem? (i := 122) rfl) rfl
theorem w3_123 : Cond.methodLink "NineBridges$Swinging" 17 ⟨"NineBridges$Swinging", "placeCount", "()I"⟩ ∈ gW := tb_3 (List.mem_of_getElem? (i := 123) rfl) rfl
theorem w3_124 : Cond.code ⟨"NineBridges$Bridge", "endOfPlace", "(I)I"⟩ prog_2_method_7_code 2 (some .int) ∈ gW := tb_3 (List.mem_of_getElem? (i := 124) rfl) rfl
theorem w3_125 : Cond.methodLink "NineBridges$Bridge" 54 ⟨"NineBridges$Bridge", "end", "(I)I"⟩ ∈ gW := tb_3 (List.mem_of_getElem? (i := 125) rfl) rfl
theorem w3_130 : Cond.methodLink "NineBridges" 134 ⟨"NineBridges$Bridge", "standsStill", "(IZ)I"⟩ ∈ gW := tb_3 (List.mem_of_getElem? (i := 130) rfl) rfl
theorem w3_131 : Cond.instanceMethod ⟨"NineBridges$Bridge", "standsStill", "(IZ)I"⟩ ∈ gW := tb_3 (List.mem_of_getElem? (i := 131) rfl) rfl
theorem w3_132 : Cond.selects "NineBridges$Bridge" ⟨"NineBridges$Bridge", "standsStill", "(IZ)I"⟩ ⟨"NineBridges$Bridge", "standsStill", "(IZ)I"⟩ ∈ gW := tb_3 (List.mem_of_getElem? (i := 132) rfl) rfl
theorem w3_133 : Cond.sameMethod "NineBridges$Bridge" "NineBridges$Bridge" "standsStill" "(IZ)I" ∈ gW := tb_3 (List.mem_of_getElem? (i := 133) rfl) rfl
theorem w3_134 : Cond.selects "NineBridges$Fixed" ⟨"NineBridges$Bridge", "standsStill", "(IZ)I"⟩ ⟨"NineBridges$Fixed", "standsStill", "(IZ)I"⟩ ∈ gW := tb_3 (List.mem_of_getElem? (i := 134) rfl) rfl
theorem w3_135 : Cond.instanceMethod ⟨"NineBridges$Fixed", "standsStill", "(IZ)I"⟩ ∈ gW := tb_3 (List.mem_of_getElem? (i := 135) rfl) rfl
theorem w3_136 : Cond.code ⟨"NineBridges$Fixed", "standsStill", "(IZ)I"⟩ prog_4_method_5_code 3 (some .int) ∈ gW := tb_3 (List.mem_of_getElem? (i := 136) rfl) rfl
theorem w3_137 : Cond.selects "NineBridges$Frosty" ⟨"NineBridges$Bridge", "standsStill", "(IZ)I"⟩ ⟨"NineBridges$Bridge", "standsStill", "(IZ)I"⟩ ∈ gW := tb_3 (List.mem_of_getElem? (i := 137) rfl) rfl
theorem w3_138 : Cond.selects "NineBridges$Swinging" ⟨"NineBridges$Bridge", "standsStill", "(IZ)I"⟩ ⟨"NineBridges$Bridge", "standsStill", "(IZ)I"⟩ ∈ gW := tb_3 (List.mem_of_getElem? (i := 138) rfl) rfl
theorem w3_139 : Cond.code ⟨"NineBridges$Bridge", "standsStill", "(IZ)I"⟩ prog_2_method_10_code 4 (some .int) ∈ gW := tb_3 (List.mem_of_getElem? (i := 139) rfl) rfl
theorem w3_144 : Cond.methodLink "NineBridges" 137 ⟨"NineBridges", "isIslet", "(I)Z"⟩ ∈ gW := tb_3 (List.mem_of_getElem? (i := 144) rfl) rfl
theorem w3_145 : Cond.methodLink "NineBridges" 140 ⟨"NineBridges", "isMinute", "(I)Z"⟩ ∈ gW := tb_3 (List.mem_of_getElem? (i := 145) rfl) rfl
theorem w3_146 : Cond.static ⟨"NineBridges", "isMinute", "(I)Z"⟩ ∈ gW := tb_3 (List.mem_of_getElem? (i := 146) rfl) rfl
theorem w3_147 : Cond.code ⟨"NineBridges", "isMinute", "(I)Z"⟩ prog_1_method_34_code 1 (some .boolean) ∈ gW := tb_3 (List.mem_of_getElem? (i := 147) rfl) rfl
theorem w3_148 : Cond.methodLink "NineBridges" 143 ⟨"NineBridges", "isCarrier", "(II)Z"⟩ ∈ gW := tb_3 (List.mem_of_getElem? (i := 148) rfl) rfl
theorem w3_149 : Cond.static ⟨"NineBridges", "isCarrier", "(II)Z"⟩ ∈ gW := tb_3 (List.mem_of_getElem? (i := 149) rfl) rfl
theorem w3_150 : Cond.code ⟨"NineBridges", "isCarrier", "(II)Z"⟩ prog_1_method_36_code 2 (some .boolean) ∈ gW := tb_3 (List.mem_of_getElem? (i := 150) rfl) rfl
theorem w3_151 : Cond.methodLink "NineBridges" 147 ⟨"NineBridges", "openTable", "(IIII)V"⟩ ∈ gW := tb_3 (List.mem_of_getElem? (i := 151) rfl) rfl
theorem w3_153 : Cond.instanceMethod ⟨"NineBridges", "openTable", "(IIII)V"⟩ ∈ gW := tb_3 (List.mem_of_getElem? (i := 153) rfl) rfl
theorem w3_154 : Cond.code ⟨"NineBridges", "openTable", "(IIII)V"⟩ prog_1_method_39_code 7 none ∈ gW := tb_3 (List.mem_of_getElem? (i := 154) rfl) rfl
theorem w3_155 : Cond.methodLink "NineBridges" 290 ⟨"NineBridges$Timetable", "open", "(IIII)V"⟩ ∈ gW := tb_3 (List.mem_of_getElem? (i := 155) rfl) rfl
theorem w3_156 : Cond.instanceMethod ⟨"NineBridges$Timetable", "open", "(IIII)V"⟩ ∈ gW := tb_3 (List.mem_of_getElem? (i := 156) rfl) rfl
theorem w3_157 : Cond.selects "NineBridges$Timetable" ⟨"NineBridges$Timetable", "open", "(IIII)V"⟩ ⟨"NineBridges$Timetable", "open", "(IIII)V"⟩ ∈ gW := tb_3 (List.mem_of_getElem? (i := 157) rfl) rfl
theorem w3_158 : Cond.code ⟨"NineBridges$Timetable", "open", "(IIII)V"⟩ prog_11_method_2_code 5 none ∈ gW := tb_3 (List.mem_of_getElem? (i := 158) rfl) rfl
theorem w3_159 : Cond.methodLink "NineBridges$Timetable" 42 ⟨"java/lang/Math", "min", "(II)I"⟩ ∈ gW := tb_3 (List.mem_of_getElem? (i := 159) rfl) rfl
theorem w3_160 : Cond.methodLink "NineBridges$Timetable" 48 ⟨"java/lang/Math", "max", "(II)I"⟩ ∈ gW := tb_3 (List.mem_of_getElem? (i := 160) rfl) rfl
theorem w3_161 : Cond.methodLink "NineBridges" 186 ⟨"NineBridges$Timetable", "lay", "(ILNineBridges$Bridge;IZ)V"⟩ ∈ gW := tb_3 (List.mem_of_getElem? (i := 161) rfl) rfl
theorem w3_162 : Cond.instanceMethod ⟨"NineBridges$Timetable", "lay", "(ILNineBridges$Bridge;IZ)V"⟩ ∈ gW := tb_3 (List.mem_of_getElem? (i := 162) rfl) rfl
theorem w3_163 : Cond.selects "NineBridges$Timetable" ⟨"NineBridges$Timetable", "lay", "(ILNineBridges$Bridge;IZ)V"⟩ ⟨"NineBridges$Timetable", "lay", "(ILNineBridges$Bridge;IZ)V"⟩ ∈ gW := tb_3 (List.mem_of_getElem? (i := 163) rfl) rfl
theorem w3_164 : Cond.code ⟨"NineBridges$Timetable", "lay", "(ILNineBridges$Bridge;IZ)V"⟩ prog_11_method_7_code 11 none ∈ gW := tb_3 (List.mem_of_getElem? (i := 164) rfl) rfl
theorem w3_165 : Cond.methodLink "NineBridges$Timetable" 51 ⟨"NineBridges$Bridge", "roundMinutes", "(Z)I"⟩ ∈ gW := tb_3 (List.mem_of_getElem? (i := 165) rfl) rfl
theorem w3_166 : Cond.methodLink "NineBridges$Timetable" 57 ⟨"NineBridges$Bridge", "standsStill", "(IZ)I"⟩ ∈ gW := tb_3 (List.mem_of_getElem? (i := 166) rfl) rfl
theorem w3_167 : Cond.methodLink "NineBridges$Timetable" 61 ⟨"NineBridges$Bridge", "endAt", "(IZ)I"⟩ ∈ gW := tb_3 (List.mem_of_getElem? (i := 167) rfl) rfl
theorem w3_168 : Cond.methodLink "NineBridges" 229 ⟨"NineBridges$Timetable", "layNothing", "(I)V"⟩ ∈ gW := tb_3 (List.mem_of_getElem? (i := 168) rfl) rfl
theorem w3_169 : Cond.instanceMethod ⟨"NineBridges$Timetable", "layNothing", "(I)V"⟩ ∈ gW := tb_3 (List.mem_of_getElem? (i := 169) rfl) rfl
theorem w3_170 : Cond.selects "NineBridges$Timetable" ⟨"NineBridges$Timetable", "layNothing", "(I)V"⟩ ⟨"NineBridges$Timetable", "layNothing", "(I)V"⟩ ∈ gW := tb_3 (List.mem_of_getElem? (i := 170) rfl) rfl
theorem w3_171 : Cond.code ⟨"NineBridges$Timetable", "layNothing", "(I)V"⟩ prog_11_method_9_code 2 none ∈ gW := tb_3 (List.mem_of_getElem? (i := 171) rfl) rfl
theorem w3_172 : Cond.methodLink "NineBridges$Timetable" 73 ⟨"NineBridges$Timetable", "layAlways", "(III)V"⟩ ∈ gW := tb_3 (List.mem_of_getElem? (i := 172) rfl) rfl
theorem w3_173 : Cond.instanceMethod ⟨"NineBridges$Timetable", "layAlways", "(III)V"⟩ ∈ gW := tb_3 (List.mem_of_getElem? (i := 173) rfl) rfl
theorem w3_174 : Cond.selects "NineBridges$Timetable" ⟨"NineBridges$Timetable", "layAlways", "(III)V"⟩ ⟨"NineBridges$Timetable", "layAlways", "(III)V"⟩ ∈ gW := tb_3 (List.mem_of_getElem? (i := 174) rfl) rfl
theorem w3_175 : Cond.code ⟨"NineBridges$Timetable", "layAlways", "(III)V"⟩ prog_11_method_8_code 4 none ∈ gW := tb_3 (List.mem_of_getElem? (i := 175) rfl) rfl
theorem w3_176 : Cond.methodLink "NineBridges$Timetable" 67 ⟨"java/util/Arrays", "fill", "([II)V"⟩ ∈ gW := tb_3 (List.mem_of_getElem? (i := 176) rfl) rfl
theorem w3_177 : Cond.static ⟨"java/util/Arrays", "fill", "([II)V"⟩ ∈ gW := tb_3 (List.mem_of_getElem? (i := 177) rfl) rfl
theorem w3_178 : Cond.code ⟨"java/util/Arrays", "fill", "([II)V"⟩ prog_22_method_103_code 4 none ∈ gW := tb_3 (List.mem_of_getElem? (i := 178) rfl) rfl
theorem w3_179 : Cond.methodLink "NineBridges" 151 ⟨"NineBridges$Timetable", "reach", "(III[I)V"⟩ ∈ gW := tb_3 (List.mem_of_getElem? (i := 179) rfl) rfl
theorem w3_180 : Cond.instanceMethod ⟨"NineBridges$Timetable", "reach", "(III[I)V"⟩ ∈ gW := tb_3 (List.mem_of_getElem? (i := 180) rfl) rfl
theorem w3_181 : Cond.selects "NineBridges$Timetable" ⟨"NineBridges$Timetable", "reach", "(III[I)V"⟩ ⟨"NineBridges$Timetable", "reach", "(III[I)V"⟩ ∈ gW := tb_3 (List.mem_of_getElem? (i := 181) rfl) rfl
theorem w3_182 : Cond.code ⟨"NineBridges$Timetable", "reach", "(III[I)V"⟩ prog_11_method_10_code 11 none ∈ gW := tb_3 (List.mem_of_getElem? (i := 182) rfl) rfl
theorem w3_183 : Cond.constant "NineBridges$Timetable" 77 (2147483647) ∈ gW := tb_3 (List.mem_of_getElem? (i := 183) rfl) rfl
theorem w3_184 : Cond.methodLink "NineBridges$Timetable" 78 ⟨"NineBridges$Timetable", "everReached", "(I)I"⟩ ∈ gW := tb_3 (List.mem_of_getElem? (i := 184) rfl) rfl
theorem w3_186 : Cond.instanceMethod ⟨"NineBridges$Timetable", "everReached", "(I)I"⟩ ∈ gW := tb_3 (List.mem_of_getElem? (i := 186) rfl) rfl
theorem w3_187 : Cond.code ⟨"NineBridges$Timetable", "everReached", "(I)I"⟩ prog_11_method_11_code 5 (some .int) ∈ gW := tb_3 (List.mem_of_getElem? (i := 187) rfl) rfl
theorem w3_188 : Cond.methodLink "NineBridges$Timetable" 82 ⟨"NineBridges$Timetable", "landing", "(II)I"⟩ ∈ gW := tb_3 (List.mem_of_getElem? (i := 188) rfl) rfl
theorem w3_189 : Cond.instanceMethod ⟨"NineBridges$Timetable", "landing", "(II)I"⟩ ∈ gW := tb_3 (List.mem_of_getElem? (i := 189) rfl) rfl
theorem w3_190 : Cond.selects "NineBridges$Timetable" ⟨"NineBridges$Timetable", "landing", "(II)I"⟩ ⟨"NineBridges$Timetable", "landing", "(II)I"⟩ ∈ gW := tb_3 (List.mem_of_getElem? (i := 190) rfl) rfl
theorem w3_191 : Cond.code ⟨"NineBridges$Timetable", "landing", "(II)I"⟩ prog_11_method_6_code 4 (some .int) ∈ gW := tb_3 (List.mem_of_getElem? (i := 191) rfl) rfl
theorem w3_192 : Cond.constant "NineBridges" 155 (2147483647) ∈ gW := tb_3 (List.mem_of_getElem? (i := 192) rfl) rfl
theorem w3_197 : Cond.methodLink "NineBridges" 156 ⟨"NineBridges$Timetable", "latestStart", "(II)I"⟩ ∈ gW := tb_3 (List.mem_of_getElem? (i := 197) rfl) rfl
theorem w3_198 : Cond.instanceMethod ⟨"NineBridges$Timetable", "latestStart", "(II)I"⟩ ∈ gW := tb_3 (List.mem_of_getElem? (i := 198) rfl) rfl
theorem w3_199 : Cond.selects "NineBridges$Timetable" ⟨"NineBridges$Timetable", "latestStart", "(II)I"⟩ ⟨"NineBridges$Timetable", "latestStart", "(II)I"⟩ ∈ gW := tb_3 (List.mem_of_getElem? (i := 199) rfl) rfl
theorem w3_200 : Cond.code ⟨"NineBridges$Timetable", "latestStart", "(II)I"⟩ prog_11_method_12_code 7 (some .int) ∈ gW := tb_3 (List.mem_of_getElem? (i := 200) rfl) rfl
theorem w3_201 : Cond.methodLinkNest "NineBridges$Timetable" 85 ⟨"NineBridges", "isIslet", "(I)Z"⟩ "NineBridges" ∈ nW := tn_3 (List.mem_of_getElem? (i := 201) rfl) rfl
theorem w3_203 : Cond.instanceMethod ⟨"NineBridges", "again", "()J"⟩ ∈ gW := tb_3 (List.mem_of_getElem? (i := 203) rfl) rfl
theorem w3_204 : Cond.selects "NineBridges" ⟨"NineBridges", "again", "()J"⟩ ⟨"NineBridges", "again", "()J"⟩ ∈ gW := tb_3 (List.mem_of_getElem? (i := 204) rfl) rfl
theorem w3_205 : Cond.code ⟨"NineBridges", "again", "()J"⟩ prog_1_method_14_code 8 (some .long) ∈ gW := tb_3 (List.mem_of_getElem? (i := 205) rfl) rfl
theorem w3_206 : Cond.methodLink "NineBridges" 164 ⟨"NineBridges", "sharedDivisor", "(JJ)J"⟩ ∈ gW := tb_3 (List.mem_of_getElem? (i := 206) rfl) rfl
theorem w3_207 : Cond.static ⟨"NineBridges", "sharedDivisor", "(JJ)J"⟩ ∈ gW := tb_3 (List.mem_of_getElem? (i := 207) rfl) rfl
theorem w3_208 : Cond.code ⟨"NineBridges", "sharedDivisor", "(JJ)J"⟩ prog_1_method_40_code 7 (some .long) ∈ gW := tb_3 (List.mem_of_getElem? (i := 208) rfl) rfl
theorem w3_213 : Cond.methodLink "NineBridges" 168 ⟨"NineBridges", "minutesApart", "(III)I"⟩ ∈ gW := tb_3 (List.mem_of_getElem? (i := 213) rfl) rfl
theorem w3_215 : Cond.instanceMethod ⟨"NineBridges", "minutesApart", "(III)I"⟩ ∈ gW := tb_3 (List.mem_of_getElem? (i := 215) rfl) rfl
theorem w3_216 : Cond.code ⟨"NineBridges", "minutesApart", "(III)I"⟩ prog_1_method_41_code 6 (some .int) ∈ gW := tb_3 (List.mem_of_getElem? (i := 216) rfl) rfl
theorem w3_217 : Cond.methodLink "NineBridges" 293 ⟨"NineBridges", "isJoined", "(II)Z"⟩ ∈ gW := tb_3 (List.mem_of_getElem? (i := 217) rfl) rfl
theorem w3_219 : Cond.instanceMethod ⟨"NineBridges", "isJoined", "(II)Z"⟩ ∈ gW := tb_3 (List.mem_of_getElem? (i := 219) rfl) rfl
theorem w3_220 : Cond.code ⟨"NineBridges", "isJoined", "(II)Z"⟩ prog_1_method_42_code 6 (some .boolean) ∈ gW := tb_3 (List.mem_of_getElem? (i := 220) rfl) rfl
theorem w3_225 : Cond.methodLink "NineBridges" 172 ⟨"NineBridges", "isManyStarts", "(I)Z"⟩ ∈ gW := tb_3 (List.mem_of_getElem? (i := 225) rfl) rfl
theorem w3_226 : Cond.static ⟨"NineBridges", "isManyStarts", "(I)Z"⟩ ∈ gW := tb_3 (List.mem_of_getElem? (i := 226) rfl) rfl
theorem w3_227 : Cond.code ⟨"NineBridges", "isManyStarts", "(I)Z"⟩ prog_1_method_35_code 1 (some .boolean) ∈ gW := tb_3 (List.mem_of_getElem? (i := 227) rfl) rfl
theorem w3_228 : Cond.methodLink "NineBridges" 175 ⟨"NineBridges$Timetable", "foresee", "(I)V"⟩ ∈ gW := tb_3 (List.mem_of_getElem? (i := 228) rfl) rfl
theorem w3_229 : Cond.instanceMethod ⟨"NineBridges$Timetable", "foresee", "(I)V"⟩ ∈ gW := tb_3 (List.mem_of_getElem? (i := 229) rfl) rfl
theorem w3_230 : Cond.selects "NineBridges$Timetable" ⟨"NineBridges$Timetable", "foresee", "(I)V"⟩ ⟨"NineBridges$Timetable", "foresee", "(I)V"⟩ ∈ gW := tb_3 (List.mem_of_getElem? (i := 230) rfl) rfl
theorem w3_231 : Cond.code ⟨"NineBridges$Timetable", "foresee", "(I)V"⟩ prog_11_method_13_code 8 none ∈ gW := tb_3 (List.mem_of_getElem? (i := 231) rfl) rfl
theorem w3_232 : Cond.methodLink "NineBridges" 178 ⟨"NineBridges$Timetable", "longestWait", "(II)I"⟩ ∈ gW := tb_3 (List.mem_of_getElem? (i := 232) rfl) rfl
theorem w3_233 : Cond.instanceMethod ⟨"NineBridges$Timetable", "longestWait", "(II)I"⟩ ∈ gW := tb_3 (List.mem_of_getElem? (i := 233) rfl) rfl
theorem w3_234 : Cond.selects "NineBridges$Timetable" ⟨"NineBridges$Timetable", "longestWait", "(II)I"⟩ ⟨"NineBridges$Timetable", "longestWait", "(II)I"⟩ ∈ gW := tb_3 (List.mem_of_getElem? (i := 234) rfl) rfl
theorem w3_235 : Cond.code ⟨"NineBridges$Timetable", "longestWait", "(II)I"⟩ prog_11_method_15_code 6 (some .int) ∈ gW := tb_3 (List.mem_of_getElem? (i := 235) rfl) rfl
theorem w3_236 : Cond.methodLink "NineBridges$Timetable" 89 ⟨"NineBridges$Timetable", "waitFrom", "(II)I"⟩ ∈ gW := tb_3 (List.mem_of_getElem? (i := 236) rfl) rfl
theorem w3_238 : Cond.instanceMethod ⟨"NineBridges$Timetable", "waitFrom", "(II)I"⟩ ∈ gW := tb_3 (List.mem_of_getElem? (i := 238) rfl) rfl
theorem w3_239 : Cond.code ⟨"NineBridges$Timetable", "waitFrom", "(II)I"⟩ prog_11_method_14_code 4 (some .int) ∈ gW := tb_3 (List.mem_of_getElem? (i := 239) rfl) rfl
theorem w4_4 : Cond.methodLink "NineBridges" 181 ⟨"NineBridges$Timetable", "waitsTogether", "(II)I"⟩ ∈ gW := tb_4 (List.mem_of_getElem? (i := 4) rfl) rfl
theorem w4_5 : Cond.instanceMethod ⟨"NineBridges$Timetable", "waitsTogether", "(II)I"⟩ ∈ gW := tb_4 (List.mem_of_getElem? (i := 5) rfl) rfl
theorem w4_6 : Cond.selects "NineBridges$Timetable" ⟨"NineBridges$Timetable", "waitsTogether", "(II)I"⟩ ⟨"NineBridges$Timetable", "waitsTogether", "(II)I"⟩ ∈ gW := tb_4 (List.mem_of_getElem? (i := 6) rfl) rfl
theorem w4_7 : Cond.code ⟨"NineBridges$Timetable", "waitsTogether", "(II)I"⟩ prog_11_method_16_code 6 (some .int) ∈ gW := tb_4 (List.mem_of_getElem? (i := 7) rfl) rfl
theorem w4_16 : Cond.methodLink "NineBridges" 190 ⟨"NineBridges$Crowd", "most", "(LNineBridges$Timetable;II)I"⟩ ∈ gW := tb_4 (List.mem_of_getElem? (i := 16) rfl) rfl
theorem w4_17 : Cond.instanceMethod ⟨"NineBridges$Crowd", "most", "(LNineBridges$Timetable;II)I"⟩ ∈ gW := tb_4 (List.mem_of_getElem? (i := 17) rfl) rfl
theorem w4_18 : Cond.selects "NineBridges$Crowd" ⟨"NineBridges$Crowd", "most", "(LNineBridges$Timetable;II)I"⟩ ⟨"NineBridges$Crowd", "most", "(LNineBridges$Timetable;II)I"⟩ ∈ gW := tb_4 (List.mem_of_getElem? (i := 18) rfl) rfl
theorem w4_19 : Cond.code ⟨"NineBridges$Crowd", "most", "(LNineBridges$Timetable;II)I"⟩ prog_3_method_2_code 8 (some .int) ∈ gW := tb_4 (List.mem_of_getElem? (i := 19) rfl) rfl
theorem w4_20 : Cond.methodLinkNest "NineBridges$Crowd" 27 ⟨"NineBridges", "isIslet", "(I)Z"⟩ "NineBridges" ∈ nW := tn_4 (List.mem_of_getElem? (i := 20) rfl) rfl
theorem w4_21 : Cond.methodLink "NineBridges$Crowd" 31 ⟨"NineBridges$Timetable", "span", "()I"⟩ ∈ gW := tb_4 (List.mem_of_getElem? (i := 21) rfl) rfl
theorem w4_22 : Cond.instanceMethod ⟨"NineBridges$Timetable", "span", "()I"⟩ ∈ gW := tb_4 (List.mem_of_getElem? (i := 22) rfl) rfl
theorem w4_23 : Cond.selects "NineBridges$Timetable" ⟨"NineBridges$Timetable", "span", "()I"⟩ ⟨"NineBridges$Timetable", "span", "()I"⟩ ∈ gW := tb_4 (List.mem_of_getElem? (i := 23) rfl) rfl
theorem w4_24 : Cond.code ⟨"NineBridges$Timetable", "span", "()I"⟩ prog_11_method_3_code 1 (some .int) ∈ gW := tb_4 (List.mem_of_getElem? (i := 24) rfl) rfl
theorem w4_25 : Cond.methodLink "NineBridges$Crowd" 37 ⟨"java/util/Arrays", "fill", "([II)V"⟩ ∈ gW := tb_4 (List.mem_of_getElem? (i := 25) rfl) rfl
theorem w4_26 : Cond.methodLink "NineBridges$Crowd" 43 ⟨"NineBridges$Crowd", "sendWhilePathsAreFound", "(LNineBridges$Timetable;II)I"⟩ ∈ gW := tb_4 (List.mem_of_getElem? (i := 26) rfl) rfl
theorem w4_28 : Cond.instanceMethod ⟨"NineBridges$Crowd", "sendWhilePathsAreFound", "(LNineBridges$Timetable;II)I"⟩ ∈ gW := tb_4 (List.mem_of_getElem? (i := 28) rfl) rfl
theorem w4_29 : Cond.code ⟨"NineBridges$Crowd", "sendWhilePathsAreFound", "(LNineBridges$Timetable;II)I"⟩ prog_3_method_3_code 8 (some .int) ∈ gW := tb_4 (List.mem_of_getElem? (i := 29) rfl) rfl
theorem w4_30 : Cond.methodLink "NineBridges$Crowd" 47 ⟨"NineBridges$Crowd", "findPath", "(LNineBridges$Timetable;II)I"⟩ ∈ gW := tb_4 (List.mem_of_getElem? (i := 30) rfl) rfl
theorem w4_32 : Cond.instanceMethod ⟨"NineBridges$Crowd", "findPath", "(LNineBridges$Timetable;II)I"⟩ ∈ gW := tb_4 (List.mem_of_getElem? (i := 32) rfl) rfl
theorem w4_33 : Cond.code ⟨"NineBridges$Crowd", "findPath", "(LNineBridges$Timetable;II)I"⟩ prog_3_method_4_code 8 (some .int) ∈ gW := tb_4 (List.mem_of_getElem? (i := 33) rfl) rfl
theorem w4_34 : Cond.methodLink "NineBridges$Crowd" 54 ⟨"NineBridges$Crowd", "knot", "(II)I"⟩ ∈ gW := tb_4 (List.mem_of_getElem? (i := 34) rfl) rfl
theorem w4_35 : Cond.static ⟨"NineBridges$Crowd", "knot", "(II)I"⟩ ∈ gW := tb_4 (List.mem_of_getElem? (i := 35) rfl) rfl
theorem w4_36 : Cond.code ⟨"NineBridges$Crowd", "knot", "(II)I"⟩ prog_3_method_5_code 3 (some .int) ∈ gW := tb_4 (List.mem_of_getElem? (i := 36) rfl) rfl
theorem w4_37 : Cond.constant "NineBridges$Crowd" 58 (1000000) ∈ gW := tb_4 (List.mem_of_getElem? (i := 37) rfl) rfl
theorem w4_38 : Cond.methodLink "NineBridges$Crowd" 59 ⟨"NineBridges$Crowd", "nextKnot", "(LNineBridges$Timetable;II)I"⟩ ∈ gW := tb_4 (List.mem_of_getElem? (i := 38) rfl) rfl
theorem w4_40 : Cond.instanceMethod ⟨"NineBridges$Crowd", "nextKnot", "(LNineBridges$Timetable;II)I"⟩ ∈ gW := tb_4 (List.mem_of_getElem? (i := 40) rfl) rfl
theorem w4_41 : Cond.code ⟨"NineBridges$Crowd", "nextKnot", "(LNineBridges$Timetable;II)I"⟩ prog_3_method_6_code 6 (some .int) ∈ gW := tb_4 (List.mem_of_getElem? (i := 41) rfl) rfl
theorem w4_42 : Cond.methodLink "NineBridges$Crowd" 62 ⟨"NineBridges$Crowd", "acrossFrom", "(LNineBridges$Timetable;III)I"⟩ ∈ gW := tb_4 (List.mem_of_getElem? (i := 42) rfl) rfl
theorem w4_44 : Cond.instanceMethod ⟨"NineBridges$Crowd", "acrossFrom", "(LNineBridges$Timetable;III)I"⟩ ∈ gW := tb_4 (List.mem_of_getElem? (i := 44) rfl) rfl
theorem w4_45 : Cond.code ⟨"NineBridges$Crowd", "acrossFrom", "(LNineBridges$Timetable;III)I"⟩ prog_3_method_7_code 8 (some .int) ∈ gW := tb_4 (List.mem_of_getElem? (i := 45) rfl) rfl
theorem w4_46 : Cond.methodLink "NineBridges$Crowd" 69 ⟨"NineBridges$Timetable", "landing", "(II)I"⟩ ∈ gW := tb_4 (List.mem_of_getElem? (i := 46) rfl) rfl
theorem w4_47 : Cond.methodLink "NineBridges$Crowd" 72 ⟨"NineBridges$Timetable", "pivot", "(I)I"⟩ ∈ gW := tb_4 (List.mem_of_getElem? (i := 47) rfl) rfl
theorem w4_48 : Cond.instanceMethod ⟨"NineBridges$Timetable", "pivot", "(I)I"⟩ ∈ gW := tb_4 (List.mem_of_getElem? (i := 48) rfl) rfl
theorem w4_49 : Cond.selects "NineBridges$Timetable" ⟨"NineBridges$Timetable", "pivot", "(I)I"⟩ ⟨"NineBridges$Timetable", "pivot", "(I)I"⟩ ∈ gW := tb_4 (List.mem_of_getElem? (i := 49) rfl) rfl
theorem w4_50 : Cond.code ⟨"NineBridges$Timetable", "pivot", "(I)I"⟩ prog_11_method_5_code 2 (some .int) ∈ gW := tb_4 (List.mem_of_getElem? (i := 50) rfl) rfl
theorem w4_51 : Cond.methodLink "NineBridges$Crowd" 76 ⟨"NineBridges$Timetable", "pace", "()I"⟩ ∈ gW := tb_4 (List.mem_of_getElem? (i := 51) rfl) rfl
theorem w4_52 : Cond.instanceMethod ⟨"NineBridges$Timetable", "pace", "()I"⟩ ∈ gW := tb_4 (List.mem_of_getElem? (i := 52) rfl) rfl
theorem w4_53 : Cond.selects "NineBridges$Timetable" ⟨"NineBridges$Timetable", "pace", "()I"⟩ ⟨"NineBridges$Timetable", "pace", "()I"⟩ ∈ gW := tb_4 (List.mem_of_getElem? (i := 53) rfl) rfl
theorem w4_54 : Cond.code ⟨"NineBridges$Timetable", "pace", "()I"⟩ prog_11_method_4_code 1 (some .int) ∈ gW := tb_4 (List.mem_of_getElem? (i := 54) rfl) rfl
theorem w4_55 : Cond.methodLink "NineBridges$Crowd" 66 ⟨"NineBridges$Crowd", "takenBackFrom", "(LNineBridges$Timetable;III)I"⟩ ∈ gW := tb_4 (List.mem_of_getElem? (i := 55) rfl) rfl
theorem w4_57 : Cond.instanceMethod ⟨"NineBridges$Crowd", "takenBackFrom", "(LNineBridges$Timetable;III)I"⟩ ∈ gW := tb_4 (List.mem_of_getElem? (i := 57) rfl) rfl
theorem w4_58 : Cond.code ⟨"NineBridges$Crowd", "takenBackFrom", "(LNineBridges$Timetable;III)I"⟩ prog_3_method_8_code 9 (some .int) ∈ gW := tb_4 (List.mem_of_getElem? (i := 58) rfl) rfl
theorem w4_59 : Cond.methodLink "NineBridges$Crowd" 50 ⟨"NineBridges$Crowd", "send", "(LNineBridges$Timetable;II)V"⟩ ∈ gW := tb_4 (List.mem_of_getElem? (i := 59) rfl) rfl
theorem w4_61 : Cond.instanceMethod ⟨"NineBridges$Crowd", "send", "(LNineBridges$Timetable;II)V"⟩ ∈ gW := tb_4 (List.mem_of_getElem? (i := 61) rfl) rfl
theorem w4_62 : Cond.code ⟨"NineBridges$Crowd", "send", "(LNineBridges$Timetable;II)V"⟩ prog_3_method_9_code 8 none ∈ gW := tb_4 (List.mem_of_getElem? (i := 62) rfl) rfl
theorem w4_67 : Cond.methodLink "NineBridges" 204 ⟨"NineBridges$Timetable", "layAlways", "(III)V"⟩ ∈ gW := tb_4 (List.mem_of_getElem? (i := 67) rfl) rfl
theorem w4_72 : Cond.methodLink "NineBridges" 208 ⟨"java/lang/Math", "max", "(II)I"⟩ ∈ gW := tb_4 (List.mem_of_getElem? (i := 72) rfl) rfl
theorem w4_77 : Cond.methodLink "NineBridges" 213 ⟨"NineBridges$Notes", "isFull", "()Z"⟩ ∈ gW := tb_4 (List.mem_of_getElem? (i := 77) rfl) rfl
theorem w4_78 : Cond.instanceMethod ⟨"NineBridges$Notes", "isFull", "()Z"⟩ ∈ gW := tb_4 (List.mem_of_getElem? (i := 78) rfl) rfl
theorem w4_79 : Cond.selects "NineBridges$Notes" ⟨"NineBridges$Notes", "isFull", "()Z"⟩ ⟨"NineBridges$Notes", "isFull", "()Z"⟩ ∈ gW := tb_4 (List.mem_of_getElem? (i := 79) rfl) rfl
theorem w4_80 : Cond.code ⟨"NineBridges$Notes", "isFull", "()Z"⟩ prog_7_method_3_code 1 (some .boolean) ∈ gW := tb_4 (List.mem_of_getElem? (i := 80) rfl) rfl
theorem w4_81 : Cond.methodLink "NineBridges" 216 ⟨"NineBridges$Notes", "add", "(IIII)I"⟩ ∈ gW := tb_4 (List.mem_of_getElem? (i := 81) rfl) rfl
theorem w4_82 : Cond.instanceMethod ⟨"NineBridges$Notes", "add", "(IIII)I"⟩ ∈ gW := tb_4 (List.mem_of_getElem? (i := 82) rfl) rfl
theorem w4_83 : Cond.selects "NineBridges$Notes" ⟨"NineBridges$Notes", "add", "(IIII)I"⟩ ⟨"NineBridges$Notes", "add", "(IIII)I"⟩ ∈ gW := tb_4 (List.mem_of_getElem? (i := 83) rfl) rfl
theorem w4_84 : Cond.code ⟨"NineBridges$Notes", "add", "(IIII)I"⟩ prog_7_method_4_code 6 (some .int) ∈ gW := tb_4 (List.mem_of_getElem? (i := 84) rfl) rfl
theorem w4_85 : Cond.methodLink "NineBridges$Notes" 19 ⟨"NineBridges$Notes", "isFull", "()Z"⟩ ∈ gW := tb_4 (List.mem_of_getElem? (i := 85) rfl) rfl
theorem w4_90 : Cond.methodLink "NineBridges" 219 ⟨"NineBridges$Notes", "empty", "()I"⟩ ∈ gW := tb_4 (List.mem_of_getElem? (i := 90) rfl) rfl
theorem w4_91 : Cond.instanceMethod ⟨"NineBridges$Notes", "empty", "()I"⟩ ∈ gW := tb_4 (List.mem_of_getElem? (i := 91) rfl) rfl
theorem w4_92 : Cond.selects "NineBridges$Notes" ⟨"NineBridges$Notes", "empty", "()I"⟩ ⟨"NineBridges$Notes", "empty", "()I"⟩ ∈ gW := tb_4 (List.mem_of_getElem? (i := 92) rfl) rfl
theorem w4_93 : Cond.code ⟨"NineBridges$Notes", "empty", "()I"⟩ prog_7_method_6_code 2 (some .int) ∈ gW := tb_4 (List.mem_of_getElem? (i := 93) rfl) rfl
theorem w4_98 : Cond.methodLink "NineBridges" 220 ⟨"NineBridges", "allNotesHold", "()Z"⟩ ∈ gW := tb_4 (List.mem_of_getElem? (i := 98) rfl) rfl
theorem w4_100 : Cond.instanceMethod ⟨"NineBridges", "allNotesHold", "()Z"⟩ ∈ gW := tb_4 (List.mem_of_getElem? (i := 100) rfl) rfl
theorem w4_101 : Cond.code ⟨"NineBridges", "allNotesHold", "()Z"⟩ prog_1_method_43_code 3 (some .boolean) ∈ gW := tb_4 (List.mem_of_getElem? (i := 101) rfl) rfl
theorem w4_102 : Cond.methodLink "NineBridges" 246 ⟨"NineBridges$Notes", "size", "()I"⟩ ∈ gW := tb_4 (List.mem_of_getElem? (i := 102) rfl) rfl
theorem w4_103 : Cond.instanceMethod ⟨"NineBridges$Notes", "size", "()I"⟩ ∈ gW := tb_4 (List.mem_of_getElem? (i := 103) rfl) rfl
theorem w4_104 : Cond.selects "NineBridges$Notes" ⟨"NineBridges$Notes", "size", "()I"⟩ ⟨"NineBridges$Notes", "size", "()I"⟩ ∈ gW := tb_4 (List.mem_of_getElem? (i := 104) rfl) rfl
theorem w4_105 : Cond.code ⟨"NineBridges$Notes", "size", "()I"⟩ prog_7_method_2_code 1 (some .int) ∈ gW := tb_4 (List.mem_of_getElem? (i := 105) rfl) rfl
theorem w4_106 : Cond.methodLink "NineBridges" 265 ⟨"NineBridges$Notes", "part", "(II)I"⟩ ∈ gW := tb_4 (List.mem_of_getElem? (i := 106) rfl) rfl
theorem w4_107 : Cond.instanceMethod ⟨"NineBridges$Notes", "part", "(II)I"⟩ ∈ gW := tb_4 (List.mem_of_getElem? (i := 107) rfl) rfl
theorem w4_108 : Cond.selects "NineBridges$Notes" ⟨"NineBridges$Notes", "part", "(II)I"⟩ ⟨"NineBridges$Notes", "part", "(II)I"⟩ ∈ gW := tb_4 (List.mem_of_getElem? (i := 108) rfl) rfl
theorem w4_109 : Cond.code ⟨"NineBridges$Notes", "part", "(II)I"⟩ prog_7_method_5_code 4 (some .int) ∈ gW := tb_4 (List.mem_of_getElem? (i := 109) rfl) rfl
theorem w4_110 : Cond.methodLink "NineBridges" 223 ⟨"java/lang/Math", "floorMod", "(II)I"⟩ ∈ gW := tb_4 (List.mem_of_getElem? (i := 110) rfl) rfl
theorem w4_111 : Cond.static ⟨"java/lang/Math", "floorMod", "(II)I"⟩ ∈ gW := tb_4 (List.mem_of_getElem? (i := 111) rfl) rfl
theorem w4_112 : Cond.code ⟨"java/lang/Math", "floorMod", "(II)I"⟩ prog_17_method_50_code 3 (some .int) ∈ gW := tb_4 (List.mem_of_getElem? (i := 112) rfl) rfl
theorem w4_117 : Cond.methodLink "NineBridges" 226 ⟨"NineBridges", "waysTogether", "()I"⟩ ∈ gW := tb_4 (List.mem_of_getElem? (i := 117) rfl) rfl
theorem w4_119 : Cond.instanceMethod ⟨"NineBridges", "waysTogether", "()I"⟩ ∈ gW := tb_4 (List.mem_of_getElem? (i := 119) rfl) rfl
theorem w4_120 : Cond.code ⟨"NineBridges", "waysTogether", "()I"⟩ prog_1_method_44_code 4 (some .int) ∈ gW := tb_4 (List.mem_of_getElem? (i := 120) rfl) rfl
theorem w4_125 : Cond.methodLink "NineBridges" 232 ⟨"NineBridges$Image", "keep", "(Ljava/util/ArrayList;ZLNineBridges$Notes;)V"⟩ ∈ gW := tb_4 (List.mem_of_getElem? (i := 125) rfl) rfl
theorem w4_126 : Cond.instanceMethod ⟨"NineBridges$Image", "keep", "(Ljava/util/ArrayList;ZLNineBridges$Notes;)V"⟩ ∈ gW := tb_4 (List.mem_of_getElem? (i := 126) rfl) rfl
theorem w4_127 : Cond.selects "NineBridges$Image" ⟨"NineBridges$Image", "keep", "(Ljava/util/ArrayList;ZLNineBridges$Notes;)V"⟩ ⟨"NineBridges$Image", "keep", "(Ljava/util/ArrayList;ZLNineBridges$Notes;)V"⟩ ∈ gW := tb_4 (List.mem_of_getElem? (i := 127) rfl) rfl
theorem w4_128 : Cond.code ⟨"NineBridges$Image", "keep", "(Ljava/util/ArrayList;ZLNineBridges$Notes;)V"⟩ prog_6_method_4_code 5 none ∈ gW := tb_4 (List.mem_of_getElem? (i := 128) rfl) rfl
theorem w4_129 : Cond.methodLink "NineBridges$Image" 30 ⟨"java/util/ArrayList", "size", "()I"⟩ ∈ gW := tb_4 (List.mem_of_getElem? (i := 129) rfl) rfl
theorem w4_130 : Cond.methodLink "NineBridges$Image" 36 ⟨"java/lang/Math", "min", "(II)I"⟩ ∈ gW := tb_4 (List.mem_of_getElem? (i := 130) rfl) rfl
theorem w4_131 : Cond.methodLink "NineBridges$Image" 42 ⟨"java/util/ArrayList", "get", "(I)Ljava/lang/Object;"⟩ ∈ gW := tb_4 (List.mem_of_getElem? (i := 131) rfl) rfl
theorem w4_132 : Cond.classLink "NineBridges$Image" 46 "NineBridges$Bridge" ∈ gW := tb_4 (List.mem_of_getElem? (i := 132) rfl) rfl
theorem w4_133 : Cond.methodLink "NineBridges$Image" 51 ⟨"NineBridges$Notes", "becomeLike", "(LNineBridges$Notes;)V"⟩ ∈ gW := tb_4 (List.mem_of_getElem? (i := 133) rfl) rfl
theorem w4_134 : Cond.instanceMethod ⟨"NineBridges$Notes", "becomeLike", "(LNineBridges$Notes;)V"⟩ ∈ gW := tb_4 (List.mem_of_getElem? (i := 134) rfl) rfl
theorem w4_135 : Cond.selects "NineBridges$Notes" ⟨"NineBridges$Notes", "becomeLike", "(LNineBridges$Notes;)V"⟩ ⟨"NineBridges$Notes", "becomeLike", "(LNineBridges$Notes;)V"⟩ ∈ gW := tb_4 (List.mem_of_getElem? (i := 135) rfl) rfl
theorem w4_136 : Cond.code ⟨"NineBridges$Notes", "becomeLike", "(LNineBridges$Notes;)V"⟩ prog_7_method_7_code 2 none ∈ gW := tb_4 (List.mem_of_getElem? (i := 136) rfl) rfl
theorem w4_137 : Cond.methodLink "NineBridges$Notes" 23 ⟨"java/lang/System", "arraycopy", "(Ljava/lang/Object;ILjava/lang/Object;II)V"⟩ ∈ gW := tb_4 (List.mem_of_getElem? (i := 137) rfl) rfl
theorem w4_142 : Cond.methodLink "NineBridges" 236 ⟨"NineBridges$Image", "isKept", "()Z"⟩ ∈ gW := tb_4 (List.mem_of_getElem? (i := 142) rfl) rfl
theorem w4_143 : Cond.instanceMethod ⟨"NineBridges$Image", "isKept", "()Z"⟩ ∈ gW := tb_4 (List.mem_of_getElem? (i := 143) rfl) rfl
theorem w4_144 : Cond.selects "NineBridges$Image" ⟨"NineBridges$Image", "isKept", "()Z"⟩ ⟨"NineBridges$Image", "isKept", "()Z"⟩ ∈ gW := tb_4 (List.mem_of_getElem? (i := 144) rfl) rfl
theorem w4_145 : Cond.code ⟨"NineBridges$Image", "isKept", "()Z"⟩ prog_6_method_2_code 1 (some .boolean) ∈ gW := tb_4 (List.mem_of_getElem? (i := 145) rfl) rfl
theorem w4_146 : Cond.methodLink "NineBridges" 239 ⟨"NineBridges$Image", "giveBack", "(Ljava/util/ArrayList;LNineBridges$Notes;)V"⟩ ∈ gW := tb_4 (List.mem_of_getElem? (i := 146) rfl) rfl
theorem w4_147 : Cond.instanceMethod ⟨"NineBridges$Image", "giveBack", "(Ljava/util/ArrayList;LNineBridges$Notes;)V"⟩ ∈ gW := tb_4 (List.mem_of_getElem? (i := 147) rfl) rfl
theorem w4_148 : Cond.selects "NineBridges$Image" ⟨"NineBridges$Image", "giveBack", "(Ljava/util/ArrayList;LNineBridges$Notes;)V"⟩ ⟨"NineBridges$Image", "giveBack", "(Ljava/util/ArrayList;LNineBridges$Notes;)V"⟩ ∈ gW := tb_4 (List.mem_of_getElem? (i := 148) rfl) rfl
theorem w4_149 : Cond.code ⟨"NineBridges$Image", "giveBack", "(Ljava/util/ArrayList;LNineBridges$Notes;)V"⟩ prog_6_method_5_code 4 none ∈ gW := tb_4 (List.mem_of_getElem? (i := 149) rfl) rfl
theorem w4_150 : Cond.methodLink "NineBridges$Image" 55 ⟨"java/util/ArrayList", "remove", "(I)Ljava/lang/Object;"⟩ ∈ gW := tb_4 (List.mem_of_getElem? (i := 150) rfl) rfl
theorem w4_151 : Cond.instanceMethod ⟨"java/util/ArrayList", "remove", "(I)Ljava/lang/Object;"⟩ ∈ gW := tb_4 (List.mem_of_getElem? (i := 151) rfl) rfl
theorem w4_152 : Cond.selects "java/util/ArrayList" ⟨"java/util/ArrayList", "remove", "(I)Ljava/lang/Object;"⟩ ⟨"java/util/ArrayList", "remove", "(I)Ljava/lang/Object;"⟩ ∈ gW := tb_4 (List.mem_of_getElem? (i := 152) rfl) rfl
theorem w4_153 : Cond.code ⟨"java/util/ArrayList", "remove", "(I)Ljava/lang/Object;"⟩ prog_21_method_29_code 4 (some (.object "java/lang/Object")) ∈ gW := tb_4 (List.mem_of_getElem? (i := 153) rfl) rfl
theorem w4_154 : Cond.methodLink "java/util/ArrayList" 144 ⟨"java/util/ArrayList", "fastRemove", "([Ljava/lang/Object;I)V"⟩ ∈ gW := tb_4 (List.mem_of_getElem? (i := 154) rfl) rfl
theorem w4_156 : Cond.instanceMethod ⟨"java/util/ArrayList", "fastRemove", "([Ljava/lang/Object;I)V"⟩ ∈ gW := tb_4 (List.mem_of_getElem? (i := 156) rfl) rfl
theorem w4_157 : Cond.code ⟨"java/util/ArrayList", "fastRemove", "([Ljava/lang/Object;I)V"⟩ prog_21_method_39_code 4 none ∈ gW := tb_4 (List.mem_of_getElem? (i := 157) rfl) rfl
theorem w4_159 : Cond.methodLink "NineBridges" 243 ⟨"NineBridges$Image", "wasFrosty", "()Z"⟩ ∈ gW := tb_4 (List.mem_of_getElem? (i := 159) rfl) rfl
theorem w4_160 : Cond.instanceMethod ⟨"NineBridges$Image", "wasFrosty", "()Z"⟩ ∈ gW := tb_4 (List.mem_of_getElem? (i := 160) rfl) rfl
theorem w4_161 : Cond.selects "NineBridges$Image" ⟨"NineBridges$Image", "wasFrosty", "()Z"⟩ ⟨"NineBridges$Image", "wasFrosty", "()Z"⟩ ∈ gW := tb_4 (List.mem_of_getElem? (i := 161) rfl) rfl
theorem w4_162 : Cond.code ⟨"NineBridges$Image", "wasFrosty", "()Z"⟩ prog_6_method_3_code 1 (some .boolean) ∈ gW := tb_4 (List.mem_of_getElem? (i := 162) rfl) rfl
theorem w4_164 : Cond.instanceMethod ⟨"NineBridges", "count", "(I)I"⟩ ∈ gW := tb_4 (List.mem_of_getElem? (i := 164) rfl) rfl
theorem w4_165 : Cond.selects "NineBridges" ⟨"NineBridges", "count", "(I)I"⟩ ⟨"NineBridges", "count", "(I)I"⟩ ∈ gW := tb_4 (List.mem_of_getElem? (i := 165) rfl) rfl
theorem w4_166 : Cond.code ⟨"NineBridges", "count", "(I)I"⟩ prog_1_method_28_code 2 (some .int) ∈ gW := tb_4 (List.mem_of_getElem? (i := 166) rfl) rfl
theorem w4_167 : Cond.methodLink "NineBridges" 247 ⟨"NineBridges", "turningBridges", "()I"⟩ ∈ gW := tb_4 (List.mem_of_getElem? (i := 167) rfl) rfl
theorem w4_169 : Cond.instanceMethod ⟨"NineBridges", "turningBridges", "()I"⟩ ∈ gW := tb_4 (List.mem_of_getElem? (i := 169) rfl) rfl
theorem w4_170 : Cond.code ⟨"NineBridges", "turningBridges", "()I"⟩ prog_1_method_45_code 3 (some .int) ∈ gW := tb_4 (List.mem_of_getElem? (i := 170) rfl) rfl
theorem w4_175 : Cond.constantLong "NineBridges" 250 (557) ∈ gW := tb_4 (List.mem_of_getElem? (i := 175) rfl) rfl
theorem w4_176 : Cond.methodLink "NineBridges" 252 ⟨"NineBridges", "withBridge", "(JLNineBridges$Bridge;)J"⟩ ∈ gW := tb_4 (List.mem_of_getElem? (i := 176) rfl) rfl
theorem w4_178 : Cond.instanceMethod ⟨"NineBridges", "withBridge", "(JLNineBridges$Bridge;)J"⟩ ∈ gW := tb_4 (List.mem_of_getElem? (i := 178) rfl) rfl
theorem w4_179 : Cond.code ⟨"NineBridges", "withBridge", "(JLNineBridges$Bridge;)J"⟩ prog_1_method_47_code 7 (some .long) ∈ gW := tb_4 (List.mem_of_getElem? (i := 179) rfl) rfl
theorem w4_180 : Cond.methodLink "NineBridges" 260 ⟨"NineBridges", "with", "(JJ)J"⟩ ∈ gW := tb_4 (List.mem_of_getElem? (i := 180) rfl) rfl
theorem w4_181 : Cond.static ⟨"NineBridges", "with", "(JJ)J"⟩ ∈ gW := tb_4 (List.mem_of_getElem? (i := 181) rfl) rfl
theorem w4_182 : Cond.code ⟨"NineBridges", "with", "(JJ)J"⟩ prog_1_method_46_code 4 (some .long) ∈ gW := tb_4 (List.mem_of_getElem? (i := 182) rfl) rfl
theorem w4_183 : Cond.constantLong "NineBridges" 296 (31) ∈ gW := tb_4 (List.mem_of_getElem? (i := 183) rfl) rfl
theorem w4_184 : Cond.methodLink "NineBridges" 256 ⟨"NineBridges", "again", "()J"⟩ ∈ gW := tb_4 (List.mem_of_getElem? (i := 184) rfl) rfl
theorem w4_185 : Cond.constantLong "NineBridges" 263 (-1) ∈ gW := tb_4 (List.mem_of_getElem? (i := 185) rfl) rfl
theorem w4_186 : Cond.methodLink "NineBridges" 268 ⟨"NineBridges$Page", "codeAt", "(I)I"⟩ ∈ gW := tb_4 (List.mem_of_getElem? (i := 186) rfl) rfl
theorem w4_187 : Cond.instanceMethod ⟨"NineBridges$Page", "codeAt", "(I)I"⟩ ∈ gW := tb_4 (List.mem_of_getElem? (i := 187) rfl) rfl
theorem w4_188 : Cond.selects "NineBridges$Page" ⟨"NineBridges$Page", "codeAt", "(I)I"⟩ ⟨"NineBridges$Page", "codeAt", "(I)I"⟩ ∈ gW := tb_4 (List.mem_of_getElem? (i := 188) rfl) rfl
theorem w4_189 : Cond.code ⟨"NineBridges$Page", "codeAt", "(I)I"⟩ prog_8_method_6_code 2 (some .int) ∈ gW := tb_4 (List.mem_of_getElem? (i := 189) rfl) rfl
theorem w4_190 : Cond.methodLink "NineBridges" 271 ⟨"NineBridges", "count", "(I)I"⟩ ∈ gW := tb_4 (List.mem_of_getElem? (i := 190) rfl) rfl
theorem w6_66 : Cond.selects "NineBridges$Swinging" ⟨"NineBridges$Swinging", "placeCount", "()I"⟩ ⟨"NineBridges$Swinging", "placeCount", "()I"⟩ ∈ gW := tb_6 (List.mem_of_getElem? (i := 66) rfl) rfl
theorem w6_67 : Cond.castable "NineBridges$Fixed" "NineBridges$Bridge" ∈ nW := tn_6 (List.mem_of_getElem? (i := 67) rfl) rfl
theorem w6_68 : Cond.castable "NineBridges$Frosty" "NineBridges$Bridge" ∈ nW := tn_6 (List.mem_of_getElem? (i := 68) rfl) rfl
theorem w6_69 : Cond.castable "NineBridges$Swinging" "NineBridges$Bridge" ∈ nW := tn_6 (List.mem_of_getElem? (i := 69) rfl) rfl
theorem w6_70 : Cond.castable "NineBridges$Swinging" "NineBridges$Frosty" ∈ nW := tn_6 (List.mem_of_getElem? (i := 70) rfl) rfl
