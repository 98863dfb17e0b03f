theorem w1_11 : Cond.initialized "NineBridgesModel" ∈ gW := tb_1 (List.mem_of_getElem? (i := 11) rfl) rfl
theorem w1_234 : Cond.methodLink "NineBridgesLaw" 15 ⟨"NineBridges", "letters", "(J)I"⟩ ∈ gW := tb_1 (List.mem_of_getElem? (i := 234) rfl) rfl
theorem w1_235 : Cond.instanceMethod ⟨"NineBridges", "letters", "(J)I"⟩ ∈ gW := tb_1 (List.mem_of_getElem? (i := 235) rfl) rfl
theorem w1_236 : Cond.selects "NineBridges" ⟨"NineBridges", "letters", "(J)I"⟩ ⟨"NineBridges", "letters", "(J)I"⟩ ∈ gW := tb_1 (List.mem_of_getElem? (i := 236) rfl) rfl
theorem w1_237 : Cond.code ⟨"NineBridges", "letters", "(J)I"⟩ prog_1_method_2_code 5 (some .int) ∈ gW := tb_1 (List.mem_of_getElem? (i := 237) rfl) rfl
theorem w2_16 : Cond.methodLink "NineBridgesLaw" 20 ⟨"NineBridges", "blank", "()I"⟩ ∈ gW := tb_2 (List.mem_of_getElem? (i := 16) rfl) rfl
theorem w2_17 : Cond.instanceMethod ⟨"NineBridges", "blank", "()I"⟩ ∈ gW := tb_2 (List.mem_of_getElem? (i := 17) rfl) rfl
theorem w2_18 : Cond.selects "NineBridges" ⟨"NineBridges", "blank", "()I"⟩ ⟨"NineBridges", "blank", "()I"⟩ ∈ gW := tb_2 (List.mem_of_getElem? (i := 18) rfl) rfl
theorem w2_19 : Cond.code ⟨"NineBridges", "blank", "()I"⟩ prog_1_method_3_code 1 (some .int) ∈ gW := tb_2 (List.mem_of_getElem? (i := 19) rfl) rfl
theorem w2_24 : Cond.methodLink "NineBridgesLaw" 25 ⟨"NineBridges", "fault", "()I"⟩ ∈ gW := tb_2 (List.mem_of_getElem? (i := 24) rfl) rfl
theorem w2_25 : Cond.instanceMethod ⟨"NineBridges", "fault", "()I"⟩ ∈ gW := tb_2 (List.mem_of_getElem? (i := 25) rfl) rfl
theorem w2_26 : Cond.selects "NineBridges" ⟨"NineBridges", "fault", "()I"⟩ ⟨"NineBridges", "fault", "()I"⟩ ∈ gW := tb_2 (List.mem_of_getElem? (i := 26) rfl) rfl
theorem w2_27 : Cond.code ⟨"NineBridges", "fault", "()I"⟩ prog_1_method_4_code 1 (some .int) ∈ gW := tb_2 (List.mem_of_getElem? (i := 27) rfl) rfl
theorem w2_63 : Cond.methodLink "NineBridgesLaw" 29 ⟨"NineBridges", "bridge", "()I"⟩ ∈ gW := tb_2 (List.mem_of_getElem? (i := 63) rfl) rfl
theorem w2_64 : Cond.instanceMethod ⟨"NineBridges", "bridge", "()I"⟩ ∈ gW := tb_2 (List.mem_of_getElem? (i := 64) rfl) rfl
theorem w2_65 : Cond.selects "NineBridges" ⟨"NineBridges", "bridge", "()I"⟩ ⟨"NineBridges", "bridge", "()I"⟩ ∈ gW := tb_2 (List.mem_of_getElem? (i := 65) rfl) rfl
theorem w2_66 : Cond.code ⟨"NineBridges", "bridge", "()I"⟩ prog_1_method_5_code 1 (some .int) ∈ gW := tb_2 (List.mem_of_getElem? (i := 66) rfl) rfl
theorem w2_223 : Cond.methodLink "NineBridgesLaw" 33 ⟨"NineBridges", "as", "(II)I"⟩ ∈ gW := tb_2 (List.mem_of_getElem? (i := 223) rfl) rfl
theorem w2_224 : Cond.instanceMethod ⟨"NineBridges", "as", "(II)I"⟩ ∈ gW := tb_2 (List.mem_of_getElem? (i := 224) rfl) rfl
theorem w2_225 : Cond.selects "NineBridges" ⟨"NineBridges", "as", "(II)I"⟩ ⟨"NineBridges", "as", "(II)I"⟩ ∈ gW := tb_2 (List.mem_of_getElem? (i := 225) rfl) rfl
theorem w2_226 : Cond.code ⟨"NineBridges", "as", "(II)I"⟩ prog_1_method_6_code 3 (some .int) ∈ gW := tb_2 (List.mem_of_getElem? (i := 226) rfl) rfl
theorem w3_12 : Cond.methodLink "NineBridgesLaw" 38 ⟨"NineBridges", "about", "(II)I"⟩ ∈ gW := tb_3 (List.mem_of_getElem? (i := 12) rfl) rfl
theorem w3_13 : Cond.instanceMethod ⟨"NineBridges", "about", "(II)I"⟩ ∈ gW := tb_3 (List.mem_of_getElem? (i := 13) rfl) rfl
theorem w3_14 : Cond.selects "NineBridges" ⟨"NineBridges", "about", "(II)I"⟩ ⟨"NineBridges", "about", "(II)I"⟩ ∈ gW := tb_3 (List.mem_of_getElem? (i := 14) rfl) rfl
theorem w3_15 : Cond.code ⟨"NineBridges", "about", "(II)I"⟩ prog_1_method_7_code 3 (some .int) ∈ gW := tb_3 (List.mem_of_getElem? (i := 15) rfl) rfl
theorem w3_84 : Cond.methodLink "NineBridgesLaw" 42 ⟨"NineBridges", "offset", "(II)I"⟩ ∈ gW := tb_3 (List.mem_of_getElem? (i := 84) rfl) rfl
theorem w3_85 : Cond.instanceMethod ⟨"NineBridges", "offset", "(II)I"⟩ ∈ gW := tb_3 (List.mem_of_getElem? (i := 85) rfl) rfl
theorem w3_86 : Cond.selects "NineBridges" ⟨"NineBridges", "offset", "(II)I"⟩ ⟨"NineBridges", "offset", "(II)I"⟩ ∈ gW := tb_3 (List.mem_of_getElem? (i := 86) rfl) rfl
theorem w3_87 : Cond.code ⟨"NineBridges", "offset", "(II)I"⟩ prog_1_method_8_code 5 (some .int) ∈ gW := tb_3 (List.mem_of_getElem? (i := 87) rfl) rfl
theorem w3_88 : Cond.methodLink "NineBridgesLaw" 46 ⟨"NineBridges", "frost", "(Z)I"⟩ ∈ gW := tb_3 (List.mem_of_getElem? (i := 88) rfl) rfl
theorem w3_89 : Cond.instanceMethod ⟨"NineBridges", "frost", "(Z)I"⟩ ∈ gW := tb_3 (List.mem_of_getElem? (i := 89) rfl) rfl
theorem w3_90 : Cond.selects "NineBridges" ⟨"NineBridges", "frost", "(Z)I"⟩ ⟨"NineBridges", "frost", "(Z)I"⟩ ∈ gW := tb_3 (List.mem_of_getElem? (i := 90) rfl) rfl
theorem w3_91 : Cond.code ⟨"NineBridges", "frost", "(Z)I"⟩ prog_1_method_9_code 3 (some .int) ∈ gW := tb_3 (List.mem_of_getElem? (i := 91) rfl) rfl
theorem w3_92 : Cond.methodLink "NineBridgesLaw" 51 ⟨"NineBridges", "joins", "(II)I"⟩ ∈ gW := tb_3 (List.mem_of_getElem? (i := 92) rfl) rfl
theorem w3_93 : Cond.instanceMethod ⟨"NineBridges", "joins", "(II)I"⟩ ∈ gW := tb_3 (List.mem_of_getElem? (i := 93) rfl) rfl
theorem w3_94 : Cond.selects "NineBridges" ⟨"NineBridges", "joins", "(II)I"⟩ ⟨"NineBridges", "joins", "(II)I"⟩ ∈ gW := tb_3 (List.mem_of_getElem? (i := 94) rfl) rfl
theorem w3_95 : Cond.code ⟨"NineBridges", "joins", "(II)I"⟩ prog_1_method_10_code 4 (some .int) ∈ gW := tb_3 (List.mem_of_getElem? (i := 95) rfl) rfl
theorem w3_126 : Cond.methodLink "NineBridgesLaw" 55 ⟨"NineBridges", "lasts", "(II)I"⟩ ∈ gW := tb_3 (List.mem_of_getElem? (i := 126) rfl) rfl
theorem w3_127 : Cond.instanceMethod ⟨"NineBridges", "lasts", "(II)I"⟩ ∈ gW := tb_3 (List.mem_of_getElem? (i := 127) rfl) rfl
theorem w3_128 : Cond.selects "NineBridges" ⟨"NineBridges", "lasts", "(II)I"⟩ ⟨"NineBridges", "lasts", "(II)I"⟩ ∈ gW := tb_3 (List.mem_of_getElem? (i := 128) rfl) rfl
theorem w3_129 : Cond.code ⟨"NineBridges", "lasts", "(II)I"⟩ prog_1_method_11_code 4 (some .int) ∈ gW := tb_3 (List.mem_of_getElem? (i := 129) rfl) rfl
theorem w3_140 : Cond.methodLink "NineBridgesLaw" 59 ⟨"NineBridges", "soonest", "(IIIII)I"⟩ ∈ gW := tb_3 (List.mem_of_getElem? (i := 140) rfl) rfl
theorem w3_141 : Cond.instanceMethod ⟨"NineBridges", "soonest", "(IIIII)I"⟩ ∈ gW := tb_3 (List.mem_of_getElem? (i := 141) rfl) rfl
theorem w3_142 : Cond.selects "NineBridges" ⟨"NineBridges", "soonest", "(IIIII)I"⟩ ⟨"NineBridges", "soonest", "(IIIII)I"⟩ ∈ gW := tb_3 (List.mem_of_getElem? (i := 142) rfl) rfl
theorem w3_143 : Cond.code ⟨"NineBridges", "soonest", "(IIIII)I"⟩ prog_1_method_12_code 6 (some .int) ∈ gW := tb_3 (List.mem_of_getElem? (i := 143) rfl) rfl
theorem w3_193 : Cond.methodLink "NineBridgesLaw" 64 ⟨"NineBridges", "last", "(IIIIII)I"⟩ ∈ gW := tb_3 (List.mem_of_getElem? (i := 193) rfl) rfl
theorem w3_194 : Cond.instanceMethod ⟨"NineBridges", "last", "(IIIIII)I"⟩ ∈ gW := tb_3 (List.mem_of_getElem? (i := 194) rfl) rfl
theorem w3_195 : Cond.selects "NineBridges" ⟨"NineBridges", "last", "(IIIIII)I"⟩ ⟨"NineBridges", "last", "(IIIIII)I"⟩ ∈ gW := tb_3 (List.mem_of_getElem? (i := 195) rfl) rfl
theorem w3_196 : Cond.code ⟨"NineBridges", "last", "(IIIIII)I"⟩ prog_1_method_13_code 8 (some .int) ∈ gW := tb_3 (List.mem_of_getElem? (i := 196) rfl) rfl
theorem w3_202 : Cond.methodLink "NineBridgesLaw" 69 ⟨"NineBridges", "again", "()J"⟩ ∈ gW := tb_3 (List.mem_of_getElem? (i := 202) rfl) rfl
theorem w3_209 : Cond.methodLink "NineBridgesLaw" 74 ⟨"NineBridges", "cut", "(III)I"⟩ ∈ gW := tb_3 (List.mem_of_getElem? (i := 209) rfl) rfl
theorem w3_210 : Cond.instanceMethod ⟨"NineBridges", "cut", "(III)I"⟩ ∈ gW := tb_3 (List.mem_of_getElem? (i := 210) rfl) rfl
theorem w3_211 : Cond.selects "NineBridges" ⟨"NineBridges", "cut", "(III)I"⟩ ⟨"NineBridges", "cut", "(III)I"⟩ ∈ gW := tb_3 (List.mem_of_getElem? (i := 211) rfl) rfl
theorem w3_212 : Cond.code ⟨"NineBridges", "cut", "(III)I"⟩ prog_1_method_15_code 4 (some .int) ∈ gW := tb_3 (List.mem_of_getElem? (i := 212) rfl) rfl
theorem w3_221 : Cond.methodLink "NineBridgesLaw" 79 ⟨"NineBridges", "worst", "(IIIII)I"⟩ ∈ gW := tb_3 (List.mem_of_getElem? (i := 221) rfl) rfl
theorem w3_222 : Cond.instanceMethod ⟨"NineBridges", "worst", "(IIIII)I"⟩ ∈ gW := tb_3 (List.mem_of_getElem? (i := 222) rfl) rfl
theorem w3_223 : Cond.selects "NineBridges" ⟨"NineBridges", "worst", "(IIIII)I"⟩ ⟨"NineBridges", "worst", "(IIIII)I"⟩ ∈ gW := tb_3 (List.mem_of_getElem? (i := 223) rfl) rfl
theorem w3_224 : Cond.code ⟨"NineBridges", "worst", "(IIIII)I"⟩ prog_1_method_16_code 6 (some .int) ∈ gW := tb_3 (List.mem_of_getElem? (i := 224) rfl) rfl
theorem w4_0 : Cond.methodLink "NineBridgesLaw" 83 ⟨"NineBridges", "mean", "(IIIIII)I"⟩ ∈ gW := tb_4 (List.mem_of_getElem? (i := 0) rfl) rfl
theorem w4_1 : Cond.instanceMethod ⟨"NineBridges", "mean", "(IIIIII)I"⟩ ∈ gW := tb_4 (List.mem_of_getElem? (i := 1) rfl) rfl
theorem w4_2 : Cond.selects "NineBridges" ⟨"NineBridges", "mean", "(IIIIII)I"⟩ ⟨"NineBridges", "mean", "(IIIIII)I"⟩ ∈ gW := tb_4 (List.mem_of_getElem? (i := 2) rfl) rfl
theorem w4_3 : Cond.code ⟨"NineBridges", "mean", "(IIIIII)I"⟩ prog_1_method_17_code 9 (some .int) ∈ gW := tb_4 (List.mem_of_getElem? (i := 3) rfl) rfl
theorem w4_8 : Cond.methodLink "NineBridgesLaw" 87 ⟨"NineBridges", "set", "(III)I"⟩ ∈ gW := tb_4 (List.mem_of_getElem? (i := 8) rfl) rfl
theorem w4_9 : Cond.instanceMethod ⟨"NineBridges", "set", "(III)I"⟩ ∈ gW := tb_4 (List.mem_of_getElem? (i := 9) rfl) rfl
theorem w4_10 : Cond.selects "NineBridges" ⟨"NineBridges", "set", "(III)I"⟩ ⟨"NineBridges", "set", "(III)I"⟩ ∈ gW := tb_4 (List.mem_of_getElem? (i := 10) rfl) rfl
theorem w4_11 : Cond.code ⟨"NineBridges", "set", "(III)I"⟩ prog_1_method_18_code 9 (some .int) ∈ gW := tb_4 (List.mem_of_getElem? (i := 11) rfl) rfl
theorem w4_12 : Cond.methodLink "NineBridgesLaw" 91 ⟨"NineBridges", "crowd", "(IIIIII)I"⟩ ∈ gW := tb_4 (List.mem_of_getElem? (i := 12) rfl) rfl
theorem w4_13 : Cond.instanceMethod ⟨"NineBridges", "crowd", "(IIIIII)I"⟩ ∈ gW := tb_4 (List.mem_of_getElem? (i := 13) rfl) rfl
theorem w4_14 : Cond.selects "NineBridges" ⟨"NineBridges", "crowd", "(IIIIII)I"⟩ ⟨"NineBridges", "crowd", "(IIIIII)I"⟩ ∈ gW := tb_4 (List.mem_of_getElem? (i := 14) rfl) rfl
theorem w4_15 : Cond.code ⟨"NineBridges", "crowd", "(IIIIII)I"⟩ prog_1_method_19_code 7 (some .int) ∈ gW := tb_4 (List.mem_of_getElem? (i := 15) rfl) rfl
theorem w4_63 : Cond.methodLink "NineBridgesLaw" 95 ⟨"NineBridges", "stranded", "(III)I"⟩ ∈ gW := tb_4 (List.mem_of_getElem? (i := 63) rfl) rfl
theorem w4_64 : Cond.instanceMethod ⟨"NineBridges", "stranded", "(III)I"⟩ ∈ gW := tb_4 (List.mem_of_getElem? (i := 64) rfl) rfl
theorem w4_65 : Cond.selects "NineBridges" ⟨"NineBridges", "stranded", "(III)I"⟩ ⟨"NineBridges", "stranded", "(III)I"⟩ ∈ gW := tb_4 (List.mem_of_getElem? (i := 65) rfl) rfl
theorem w4_66 : Cond.code ⟨"NineBridges", "stranded", "(III)I"⟩ prog_1_method_20_code 7 (some .int) ∈ gW := tb_4 (List.mem_of_getElem? (i := 66) rfl) rfl
theorem w4_68 : Cond.methodLink "NineBridgesLaw" 99 ⟨"NineBridges", "meeting", "(IIIIII)I"⟩ ∈ gW := tb_4 (List.mem_of_getElem? (i := 68) rfl) rfl
theorem w4_69 : Cond.instanceMethod ⟨"NineBridges", "meeting", "(IIIIII)I"⟩ ∈ gW := tb_4 (List.mem_of_getElem? (i := 69) rfl) rfl
theorem w4_70 : Cond.selects "NineBridges" ⟨"NineBridges", "meeting", "(IIIIII)I"⟩ ⟨"NineBridges", "meeting", "(IIIIII)I"⟩ ∈ gW := tb_4 (List.mem_of_getElem? (i := 70) rfl) rfl
theorem w4_71 : Cond.code ⟨"NineBridges", "meeting", "(IIIIII)I"⟩ prog_1_method_21_code 11 (some .int) ∈ gW := tb_4 (List.mem_of_getElem? (i := 71) rfl) rfl
theorem w4_73 : Cond.methodLink "NineBridgesLaw" 103 ⟨"NineBridges", "note", "(IIII)I"⟩ ∈ gW := tb_4 (List.mem_of_getElem? (i := 73) rfl) rfl
theorem w4_74 : Cond.instanceMethod ⟨"NineBridges", "note", "(IIII)I"⟩ ∈ gW := tb_4 (List.mem_of_getElem? (i := 74) rfl) rfl
theorem w4_75 : Cond.selects "NineBridges" ⟨"NineBridges", "note", "(IIII)I"⟩ ⟨"NineBridges", "note", "(IIII)I"⟩ ∈ gW := tb_4 (List.mem_of_getElem? (i := 75) rfl) rfl
theorem w4_76 : Cond.code ⟨"NineBridges", "note", "(IIII)I"⟩ prog_1_method_22_code 5 (some .int) ∈ gW := tb_4 (List.mem_of_getElem? (i := 76) rfl) rfl
theorem w4_86 : Cond.methodLink "NineBridgesLaw" 108 ⟨"NineBridges", "forget", "()I"⟩ ∈ gW := tb_4 (List.mem_of_getElem? (i := 86) rfl) rfl
theorem w4_87 : Cond.instanceMethod ⟨"NineBridges", "forget", "()I"⟩ ∈ gW := tb_4 (List.mem_of_getElem? (i := 87) rfl) rfl
theorem w4_88 : Cond.selects "NineBridges" ⟨"NineBridges", "forget", "()I"⟩ ⟨"NineBridges", "forget", "()I"⟩ ∈ gW := tb_4 (List.mem_of_getElem? (i := 88) rfl) rfl
theorem w4_89 : Cond.code ⟨"NineBridges", "forget", "()I"⟩ prog_1_method_23_code 1 (some .int) ∈ gW := tb_4 (List.mem_of_getElem? (i := 89) rfl) rfl
theorem w4_94 : Cond.methodLink "NineBridgesLaw" 112 ⟨"NineBridges", "lost", "(I)I"⟩ ∈ gW := tb_4 (List.mem_of_getElem? (i := 94) rfl) rfl
theorem w4_95 : Cond.instanceMethod ⟨"NineBridges", "lost", "(I)I"⟩ ∈ gW := tb_4 (List.mem_of_getElem? (i := 95) rfl) rfl
theorem w4_96 : Cond.selects "NineBridges" ⟨"NineBridges", "lost", "(I)I"⟩ ⟨"NineBridges", "lost", "(I)I"⟩ ∈ gW := tb_4 (List.mem_of_getElem? (i := 96) rfl) rfl
theorem w4_97 : Cond.code ⟨"NineBridges", "lost", "(I)I"⟩ prog_1_method_24_code 6 (some .int) ∈ gW := tb_4 (List.mem_of_getElem? (i := 97) rfl) rfl
theorem w4_113 : Cond.methodLink "NineBridgesLaw" 117 ⟨"NineBridges", "worth", "(III)I"⟩ ∈ gW := tb_4 (List.mem_of_getElem? (i := 113) rfl) rfl
theorem w4_114 : Cond.instanceMethod ⟨"NineBridges", "worth", "(III)I"⟩ ∈ gW := tb_4 (List.mem_of_getElem? (i := 114) rfl) rfl
theorem w4_115 : Cond.selects "NineBridges" ⟨"NineBridges", "worth", "(III)I"⟩ ⟨"NineBridges", "worth", "(III)I"⟩ ∈ gW := tb_4 (List.mem_of_getElem? (i := 115) rfl) rfl
theorem w4_116 : Cond.code ⟨"NineBridges", "worth", "(III)I"⟩ prog_1_method_25_code 5 (some .int) ∈ gW := tb_4 (List.mem_of_getElem? (i := 116) rfl) rfl
theorem w4_121 : Cond.methodLink "NineBridgesLaw" 121 ⟨"NineBridges", "image", "()I"⟩ ∈ gW := tb_4 (List.mem_of_getElem? (i := 121) rfl) rfl
theorem w4_122 : Cond.instanceMethod ⟨"NineBridges", "image", "()I"⟩ ∈ gW := tb_4 (List.mem_of_getElem? (i := 122) rfl) rfl
theorem w4_123 : Cond.selects "NineBridges" ⟨"NineBridges", "image", "()I"⟩ ⟨"NineBridges", "image", "()I"⟩ ∈ gW := tb_4 (List.mem_of_getElem? (i := 123) rfl) rfl
theorem w4_124 : Cond.code ⟨"NineBridges", "image", "()I"⟩ prog_1_method_26_code 1 (some .int) ∈ gW := tb_4 (List.mem_of_getElem? (i := 124) rfl) rfl
theorem w4_138 : Cond.methodLink "NineBridgesLaw" 125 ⟨"NineBridges", "restore", "()I"⟩ ∈ gW := tb_4 (List.mem_of_getElem? (i := 138) rfl) rfl
theorem w4_139 : Cond.instanceMethod ⟨"NineBridges", "restore", "()I"⟩ ∈ gW := tb_4 (List.mem_of_getElem? (i := 139) rfl) rfl
theorem w4_140 : Cond.selects "NineBridges" ⟨"NineBridges", "restore", "()I"⟩ ⟨"NineBridges", "restore", "()I"⟩ ∈ gW := tb_4 (List.mem_of_getElem? (i := 140) rfl) rfl
theorem w4_141 : Cond.code ⟨"NineBridges", "restore", "()I"⟩ prog_1_method_27_code 1 (some .int) ∈ gW := tb_4 (List.mem_of_getElem? (i := 141) rfl) rfl
theorem w4_163 : Cond.methodLink "NineBridgesLaw" 129 ⟨"NineBridges", "count", "(I)I"⟩ ∈ gW := tb_4 (List.mem_of_getElem? (i := 163) rfl) rfl
theorem w4_171 : Cond.methodLink "NineBridgesLaw" 133 ⟨"NineBridges", "digest", "()J"⟩ ∈ gW := tb_4 (List.mem_of_getElem? (i := 171) rfl) rfl
theorem w4_172 : Cond.instanceMethod ⟨"NineBridges", "digest", "()J"⟩ ∈ gW := tb_4 (List.mem_of_getElem? (i := 172) rfl) rfl
theorem w4_173 : Cond.selects "NineBridges" ⟨"NineBridges", "digest", "()J"⟩ ⟨"NineBridges", "digest", "()J"⟩ ∈ gW := tb_4 (List.mem_of_getElem? (i := 173) rfl) rfl
theorem w4_174 : Cond.code ⟨"NineBridges", "digest", "()J"⟩ prog_1_method_29_code 5 (some .long) ∈ gW := tb_4 (List.mem_of_getElem? (i := 174) rfl) rfl
theorem w5_45 : Cond.methodLink "NineBridgesLaw" 19 ⟨"NineBridgesModel", "letters", "(J)I"⟩ ∈ gW := tb_5 (List.mem_of_getElem? (i := 45) rfl) rfl
theorem w5_46 : Cond.instanceMethod ⟨"NineBridgesModel", "letters", "(J)I"⟩ ∈ gW := tb_5 (List.mem_of_getElem? (i := 46) rfl) rfl
theorem w5_47 : Cond.selects "NineBridgesModel" ⟨"NineBridgesModel", "letters", "(J)I"⟩ ⟨"NineBridgesModel", "letters", "(J)I"⟩ ∈ gW := tb_5 (List.mem_of_getElem? (i := 47) rfl) rfl
theorem w5_48 : Cond.code ⟨"NineBridgesModel", "letters", "(J)I"⟩ prog_13_method_3_code 9 (some .int) ∈ gW := tb_5 (List.mem_of_getElem? (i := 48) rfl) rfl
theorem w5_50 : Cond.methodLink "NineBridgesLaw" 24 ⟨"NineBridgesModel", "blank", "()I"⟩ ∈ gW := tb_5 (List.mem_of_getElem? (i := 50) rfl) rfl
theorem w5_51 : Cond.instanceMethod ⟨"NineBridgesModel", "blank", "()I"⟩ ∈ gW := tb_5 (List.mem_of_getElem? (i := 51) rfl) rfl
theorem w5_52 : Cond.selects "NineBridgesModel" ⟨"NineBridgesModel", "blank", "()I"⟩ ⟨"NineBridgesModel", "blank", "()I"⟩ ∈ gW := tb_5 (List.mem_of_getElem? (i := 52) rfl) rfl
theorem w5_53 : Cond.code ⟨"NineBridgesModel", "blank", "()I"⟩ prog_13_method_4_code 2 (some .int) ∈ gW := tb_5 (List.mem_of_getElem? (i := 53) rfl) rfl
theorem w5_54 : Cond.methodLink "NineBridgesLaw" 28 ⟨"NineBridgesModel", "fault", "()I"⟩ ∈ gW := tb_5 (List.mem_of_getElem? (i := 54) rfl) rfl
theorem w5_55 : Cond.instanceMethod ⟨"NineBridgesModel", "fault", "()I"⟩ ∈ gW := tb_5 (List.mem_of_getElem? (i := 55) rfl) rfl
theorem w5_56 : Cond.selects "NineBridgesModel" ⟨"NineBridgesModel", "fault", "()I"⟩ ⟨"NineBridgesModel", "fault", "()I"⟩ ∈ gW := tb_5 (List.mem_of_getElem? (i := 56) rfl) rfl
theorem w5_57 : Cond.code ⟨"NineBridgesModel", "fault", "()I"⟩ prog_13_method_11_code 1 (some .int) ∈ gW := tb_5 (List.mem_of_getElem? (i := 57) rfl) rfl
theorem w5_88 : Cond.methodLink "NineBridgesLaw" 32 ⟨"NineBridgesModel", "bridge", "()I"⟩ ∈ gW := tb_5 (List.mem_of_getElem? (i := 88) rfl) rfl
theorem w5_89 : Cond.instanceMethod ⟨"NineBridgesModel", "bridge", "()I"⟩ ∈ gW := tb_5 (List.mem_of_getElem? (i := 89) rfl) rfl
theorem w5_90 : Cond.selects "NineBridgesModel" ⟨"NineBridgesModel", "bridge", "()I"⟩ ⟨"NineBridgesModel", "bridge", "()I"⟩ ∈ gW := tb_5 (List.mem_of_getElem? (i := 90) rfl) rfl
theorem w5_91 : Cond.code ⟨"NineBridgesModel", "bridge", "()I"⟩ prog_13_method_12_code 2 (some .int) ∈ gW := tb_5 (List.mem_of_getElem? (i := 91) rfl) rfl
theorem w5_92 : Cond.methodLink "NineBridgesLaw" 37 ⟨"NineBridgesModel", "as", "(II)I"⟩ ∈ gW := tb_5 (List.mem_of_getElem? (i := 92) rfl) rfl
theorem w5_93 : Cond.instanceMethod ⟨"NineBridgesModel", "as", "(II)I"⟩ ∈ gW := tb_5 (List.mem_of_getElem? (i := 93) rfl) rfl
theorem w5_94 : Cond.selects "NineBridgesModel" ⟨"NineBridgesModel", "as", "(II)I"⟩ ⟨"NineBridgesModel", "as", "(II)I"⟩ ∈ gW := tb_5 (List.mem_of_getElem? (i := 94) rfl) rfl
theorem w5_95 : Cond.code ⟨"NineBridgesModel", "as", "(II)I"⟩ prog_13_method_15_code 5 (some .int) ∈ gW := tb_5 (List.mem_of_getElem? (i := 95) rfl) rfl
theorem w5_101 : Cond.methodLink "NineBridgesLaw" 41 ⟨"NineBridgesModel", "about", "(II)I"⟩ ∈ gW := tb_5 (List.mem_of_getElem? (i := 101) rfl) rfl
theorem w5_102 : Cond.instanceMethod ⟨"NineBridgesModel", "about", "(II)I"⟩ ∈ gW := tb_5 (List.mem_of_getElem? (i := 102) rfl) rfl
theorem w5_103 : Cond.selects "NineBridgesModel" ⟨"NineBridgesModel", "about", "(II)I"⟩ ⟨"NineBridgesModel", "about", "(II)I"⟩ ∈ gW := tb_5 (List.mem_of_getElem? (i := 103) rfl) rfl
theorem w5_104 : Cond.code ⟨"NineBridgesModel", "about", "(II)I"⟩ prog_13_method_20_code 3 (some .int) ∈ gW := tb_5 (List.mem_of_getElem? (i := 104) rfl) rfl
theorem w5_121 : Cond.methodLink "NineBridgesLaw" 45 ⟨"NineBridgesModel", "offset", "(II)I"⟩ ∈ gW := tb_5 (List.mem_of_getElem? (i := 121) rfl) rfl
theorem w5_122 : Cond.instanceMethod ⟨"NineBridgesModel", "offset", "(II)I"⟩ ∈ gW := tb_5 (List.mem_of_getElem? (i := 122) rfl) rfl
theorem w5_123 : Cond.selects "NineBridgesModel" ⟨"NineBridgesModel", "offset", "(II)I"⟩ ⟨"NineBridgesModel", "offset", "(II)I"⟩ ∈ gW := tb_5 (List.mem_of_getElem? (i := 123) rfl) rfl
theorem w5_124 : Cond.code ⟨"NineBridgesModel", "offset", "(II)I"⟩ prog_13_method_21_code 4 (some .int) ∈ gW := tb_5 (List.mem_of_getElem? (i := 124) rfl) rfl
theorem w5_125 : Cond.methodLink "NineBridgesLaw" 50 ⟨"NineBridgesModel", "frost", "(Z)I"⟩ ∈ gW := tb_5 (List.mem_of_getElem? (i := 125) rfl) rfl
theorem w5_126 : Cond.instanceMethod ⟨"NineBridgesModel", "frost", "(Z)I"⟩ ∈ gW := tb_5 (List.mem_of_getElem? (i := 126) rfl) rfl
theorem w5_127 : Cond.selects "NineBridgesModel" ⟨"NineBridgesModel", "frost", "(Z)I"⟩ ⟨"NineBridgesModel", "frost", "(Z)I"⟩ ∈ gW := tb_5 (List.mem_of_getElem? (i := 127) rfl) rfl
theorem w5_128 : Cond.code ⟨"NineBridgesModel", "frost", "(Z)I"⟩ prog_13_method_22_code 3 (some .int) ∈ gW := tb_5 (List.mem_of_getElem? (i := 128) rfl) rfl
theorem w5_129 : Cond.methodLink "NineBridgesLaw" 54 ⟨"NineBridgesModel", "joins", "(II)I"⟩ ∈ gW := tb_5 (List.mem_of_getElem? (i := 129) rfl) rfl
theorem w5_130 : Cond.instanceMethod ⟨"NineBridgesModel", "joins", "(II)I"⟩ ∈ gW := tb_5 (List.mem_of_getElem? (i := 130) rfl) rfl
theorem w5_131 : Cond.selects "NineBridgesModel" ⟨"NineBridgesModel", "joins", "(II)I"⟩ ⟨"NineBridgesModel", "joins", "(II)I"⟩ ∈ gW := tb_5 (List.mem_of_getElem? (i := 131) rfl) rfl
theorem w5_132 : Cond.code ⟨"NineBridgesModel", "joins", "(II)I"⟩ prog_13_method_26_code 3 (some .int) ∈ gW := tb_5 (List.mem_of_getElem? (i := 132) rfl) rfl
theorem w5_142 : Cond.methodLink "NineBridgesLaw" 58 ⟨"NineBridgesModel", "lasts", "(II)I"⟩ ∈ gW := tb_5 (List.mem_of_getElem? (i := 142) rfl) rfl
theorem w5_143 : Cond.instanceMethod ⟨"NineBridgesModel", "lasts", "(II)I"⟩ ∈ gW := tb_5 (List.mem_of_getElem? (i := 143) rfl) rfl
theorem w5_144 : Cond.selects "NineBridgesModel" ⟨"NineBridgesModel", "lasts", "(II)I"⟩ ⟨"NineBridgesModel", "lasts", "(II)I"⟩ ∈ gW := tb_5 (List.mem_of_getElem? (i := 144) rfl) rfl
theorem w5_145 : Cond.code ⟨"NineBridgesModel", "lasts", "(II)I"⟩ prog_13_method_27_code 3 (some .int) ∈ gW := tb_5 (List.mem_of_getElem? (i := 145) rfl) rfl
theorem w5_150 : Cond.methodLink "NineBridgesLaw" 63 ⟨"NineBridgesModel", "soonest", "(IIIII)I"⟩ ∈ gW := tb_5 (List.mem_of_getElem? (i := 150) rfl) rfl
theorem w5_151 : Cond.instanceMethod ⟨"NineBridgesModel", "soonest", "(IIIII)I"⟩ ∈ gW := tb_5 (List.mem_of_getElem? (i := 151) rfl) rfl
theorem w5_152 : Cond.selects "NineBridgesModel" ⟨"NineBridgesModel", "soonest", "(IIIII)I"⟩ ⟨"NineBridgesModel", "soonest", "(IIIII)I"⟩ ∈ gW := tb_5 (List.mem_of_getElem? (i := 152) rfl) rfl
theorem w5_153 : Cond.code ⟨"NineBridgesModel", "soonest", "(IIIII)I"⟩ prog_13_method_33_code 6 (some .int) ∈ gW := tb_5 (List.mem_of_getElem? (i := 153) rfl) rfl
theorem w5_177 : Cond.methodLink "NineBridgesLaw" 68 ⟨"NineBridgesModel", "last", "(IIIIII)I"⟩ ∈ gW := tb_5 (List.mem_of_getElem? (i := 177) rfl) rfl
theorem w5_178 : Cond.instanceMethod ⟨"NineBridgesModel", "last", "(IIIIII)I"⟩ ∈ gW := tb_5 (List.mem_of_getElem? (i := 178) rfl) rfl
theorem w5_179 : Cond.selects "NineBridgesModel" ⟨"NineBridgesModel", "last", "(IIIIII)I"⟩ ⟨"NineBridgesModel", "last", "(IIIIII)I"⟩ ∈ gW := tb_5 (List.mem_of_getElem? (i := 179) rfl) rfl
theorem w5_180 : Cond.code ⟨"NineBridgesModel", "last", "(IIIIII)I"⟩ prog_13_method_34_code 13 (some .int) ∈ gW := tb_5 (List.mem_of_getElem? (i := 180) rfl) rfl
theorem w5_181 : Cond.methodLink "NineBridgesLaw" 73 ⟨"NineBridgesModel", "again", "()J"⟩ ∈ gW := tb_5 (List.mem_of_getElem? (i := 181) rfl) rfl
theorem w5_182 : Cond.instanceMethod ⟨"NineBridgesModel", "again", "()J"⟩ ∈ gW := tb_5 (List.mem_of_getElem? (i := 182) rfl) rfl
theorem w5_183 : Cond.selects "NineBridgesModel" ⟨"NineBridgesModel", "again", "()J"⟩ ⟨"NineBridgesModel", "again", "()J"⟩ ∈ gW := tb_5 (List.mem_of_getElem? (i := 183) rfl) rfl
theorem w5_184 : Cond.code ⟨"NineBridgesModel", "again", "()J"⟩ prog_13_method_37_code 1 (some .long) ∈ gW := tb_5 (List.mem_of_getElem? (i := 184) rfl) rfl
theorem w5_192 : Cond.methodLink "NineBridgesLaw" 78 ⟨"NineBridgesModel", "cut", "(III)I"⟩ ∈ gW := tb_5 (List.mem_of_getElem? (i := 192) rfl) rfl
theorem w5_193 : Cond.instanceMethod ⟨"NineBridgesModel", "cut", "(III)I"⟩ ∈ gW := tb_5 (List.mem_of_getElem? (i := 193) rfl) rfl
theorem w5_194 : Cond.selects "NineBridgesModel" ⟨"NineBridgesModel", "cut", "(III)I"⟩ ⟨"NineBridgesModel", "cut", "(III)I"⟩ ∈ gW := tb_5 (List.mem_of_getElem? (i := 194) rfl) rfl
theorem w5_195 : Cond.code ⟨"NineBridgesModel", "cut", "(III)I"⟩ prog_13_method_39_code 4 (some .int) ∈ gW := tb_5 (List.mem_of_getElem? (i := 195) rfl) rfl
theorem w5_201 : Cond.methodLink "NineBridgesLaw" 82 ⟨"NineBridgesModel", "worst", "(IIIII)I"⟩ ∈ gW := tb_5 (List.mem_of_getElem? (i := 201) rfl) rfl
theorem w5_202 : Cond.instanceMethod ⟨"NineBridgesModel", "worst", "(IIIII)I"⟩ ∈ gW := tb_5 (List.mem_of_getElem? (i := 202) rfl) rfl
theorem w5_203 : Cond.selects "NineBridgesModel" ⟨"NineBridgesModel", "worst", "(IIIII)I"⟩ ⟨"NineBridgesModel", "worst", "(IIIII)I"⟩ ∈ gW := tb_5 (List.mem_of_getElem? (i := 203) rfl) rfl
theorem w5_204 : Cond.code ⟨"NineBridgesModel", "worst", "(IIIII)I"⟩ prog_13_method_41_code 6 (some .int) ∈ gW := tb_5 (List.mem_of_getElem? (i := 204) rfl) rfl
theorem w5_210 : Cond.methodLink "NineBridgesLaw" 86 ⟨"NineBridgesModel", "mean", "(IIIIII)I"⟩ ∈ gW := tb_5 (List.mem_of_getElem? (i := 210) rfl) rfl
theorem w5_211 : Cond.instanceMethod ⟨"NineBridgesModel", "mean", "(IIIIII)I"⟩ ∈ gW := tb_5 (List.mem_of_getElem? (i := 211) rfl) rfl
theorem w5_212 : Cond.selects "NineBridgesModel" ⟨"NineBridgesModel", "mean", "(IIIIII)I"⟩ ⟨"NineBridgesModel", "mean", "(IIIIII)I"⟩ ∈ gW := tb_5 (List.mem_of_getElem? (i := 212) rfl) rfl
theorem w5_213 : Cond.code ⟨"NineBridgesModel", "mean", "(IIIIII)I"⟩ prog_13_method_42_code 8 (some .int) ∈ gW := tb_5 (List.mem_of_getElem? (i := 213) rfl) rfl
theorem w5_214 : Cond.methodLink "NineBridgesLaw" 90 ⟨"NineBridgesModel", "set", "(III)I"⟩ ∈ gW := tb_5 (List.mem_of_getElem? (i := 214) rfl) rfl
theorem w5_215 : Cond.instanceMethod ⟨"NineBridgesModel", "set", "(III)I"⟩ ∈ gW := tb_5 (List.mem_of_getElem? (i := 215) rfl) rfl
theorem w5_216 : Cond.selects "NineBridgesModel" ⟨"NineBridgesModel", "set", "(III)I"⟩ ⟨"NineBridgesModel", "set", "(III)I"⟩ ∈ gW := tb_5 (List.mem_of_getElem? (i := 216) rfl) rfl
theorem w5_217 : Cond.code ⟨"NineBridgesModel", "set", "(III)I"⟩ prog_13_method_43_code 9 (some .int) ∈ gW := tb_5 (List.mem_of_getElem? (i := 217) rfl) rfl
theorem w5_218 : Cond.methodLink "NineBridgesLaw" 94 ⟨"NineBridgesModel", "crowd", "(IIIIII)I"⟩ ∈ gW := tb_5 (List.mem_of_getElem? (i := 218) rfl) rfl
theorem w5_219 : Cond.instanceMethod ⟨"NineBridgesModel", "crowd", "(IIIIII)I"⟩ ∈ gW := tb_5 (List.mem_of_getElem? (i := 219) rfl) rfl
theorem w5_220 : Cond.selects "NineBridgesModel" ⟨"NineBridgesModel", "crowd", "(IIIIII)I"⟩ ⟨"NineBridgesModel", "crowd", "(IIIIII)I"⟩ ∈ gW := tb_5 (List.mem_of_getElem? (i := 220) rfl) rfl
theorem w5_221 : Cond.code ⟨"NineBridgesModel", "crowd", "(IIIIII)I"⟩ prog_13_method_48_code 8 (some .int) ∈ gW := tb_5 (List.mem_of_getElem? (i := 221) rfl) rfl
theorem w5_238 : Cond.methodLink "NineBridgesLaw" 98 ⟨"NineBridgesModel", "stranded", "(III)I"⟩ ∈ gW := tb_5 (List.mem_of_getElem? (i := 238) rfl) rfl
theorem w5_239 : Cond.instanceMethod ⟨"NineBridgesModel", "stranded", "(III)I"⟩ ∈ gW := tb_5 (List.mem_of_getElem? (i := 239) rfl) rfl
theorem w6_0 : Cond.selects "NineBridgesModel" ⟨"NineBridgesModel", "stranded", "(III)I"⟩ ⟨"NineBridgesModel", "stranded", "(III)I"⟩ ∈ gW := tb_6 (List.mem_of_getElem? (i := 0) rfl) rfl
theorem w6_1 : Cond.code ⟨"NineBridgesModel", "stranded", "(III)I"⟩ prog_13_method_49_code 6 (some .int) ∈ gW := tb_6 (List.mem_of_getElem? (i := 1) rfl) rfl
theorem w6_2 : Cond.methodLink "NineBridgesLaw" 102 ⟨"NineBridgesModel", "meeting", "(IIIIII)I"⟩ ∈ gW := tb_6 (List.mem_of_getElem? (i := 2) rfl) rfl
theorem w6_3 : Cond.instanceMethod ⟨"NineBridgesModel", "meeting", "(IIIIII)I"⟩ ∈ gW := tb_6 (List.mem_of_getElem? (i := 3) rfl) rfl
theorem w6_4 : Cond.selects "NineBridgesModel" ⟨"NineBridgesModel", "meeting", "(IIIIII)I"⟩ ⟨"NineBridgesModel", "meeting", "(IIIIII)I"⟩ ∈ gW := tb_6 (List.mem_of_getElem? (i := 4) rfl) rfl
theorem w6_5 : Cond.code ⟨"NineBridgesModel", "meeting", "(IIIIII)I"⟩ prog_13_method_50_code 11 (some .int) ∈ gW := tb_6 (List.mem_of_getElem? (i := 5) rfl) rfl
theorem w6_6 : Cond.methodLink "NineBridgesLaw" 107 ⟨"NineBridgesModel", "note", "(IIII)I"⟩ ∈ gW := tb_6 (List.mem_of_getElem? (i := 6) rfl) rfl
theorem w6_7 : Cond.instanceMethod ⟨"NineBridgesModel", "note", "(IIII)I"⟩ ∈ gW := tb_6 (List.mem_of_getElem? (i := 7) rfl) rfl
theorem w6_8 : Cond.selects "NineBridgesModel" ⟨"NineBridgesModel", "note", "(IIII)I"⟩ ⟨"NineBridgesModel", "note", "(IIII)I"⟩ ∈ gW := tb_6 (List.mem_of_getElem? (i := 8) rfl) rfl
theorem w6_9 : Cond.code ⟨"NineBridgesModel", "note", "(IIII)I"⟩ prog_13_method_51_code 5 (some .int) ∈ gW := tb_6 (List.mem_of_getElem? (i := 9) rfl) rfl
theorem w6_11 : Cond.methodLink "NineBridgesLaw" 111 ⟨"NineBridgesModel", "forget", "()I"⟩ ∈ gW := tb_6 (List.mem_of_getElem? (i := 11) rfl) rfl
theorem w6_12 : Cond.instanceMethod ⟨"NineBridgesModel", "forget", "()I"⟩ ∈ gW := tb_6 (List.mem_of_getElem? (i := 12) rfl) rfl
theorem w6_13 : Cond.selects "NineBridgesModel" ⟨"NineBridgesModel", "forget", "()I"⟩ ⟨"NineBridgesModel", "forget", "()I"⟩ ∈ gW := tb_6 (List.mem_of_getElem? (i := 13) rfl) rfl
theorem w6_14 : Cond.code ⟨"NineBridgesModel", "forget", "()I"⟩ prog_13_method_52_code 2 (some .int) ∈ gW := tb_6 (List.mem_of_getElem? (i := 14) rfl) rfl
theorem w6_15 : Cond.methodLink "NineBridgesLaw" 116 ⟨"NineBridgesModel", "lost", "(I)I"⟩ ∈ gW := tb_6 (List.mem_of_getElem? (i := 15) rfl) rfl
theorem w6_16 : Cond.instanceMethod ⟨"NineBridgesModel", "lost", "(I)I"⟩ ∈ gW := tb_6 (List.mem_of_getElem? (i := 16) rfl) rfl
theorem w6_17 : Cond.selects "NineBridgesModel" ⟨"NineBridgesModel", "lost", "(I)I"⟩ ⟨"NineBridgesModel", "lost", "(I)I"⟩ ∈ gW := tb_6 (List.mem_of_getElem? (i := 17) rfl) rfl
theorem w6_18 : Cond.code ⟨"NineBridgesModel", "lost", "(I)I"⟩ prog_13_method_54_code 5 (some .int) ∈ gW := tb_6 (List.mem_of_getElem? (i := 18) rfl) rfl
theorem w6_23 : Cond.methodLink "NineBridgesLaw" 120 ⟨"NineBridgesModel", "worth", "(III)I"⟩ ∈ gW := tb_6 (List.mem_of_getElem? (i := 23) rfl) rfl
theorem w6_24 : Cond.instanceMethod ⟨"NineBridgesModel", "worth", "(III)I"⟩ ∈ gW := tb_6 (List.mem_of_getElem? (i := 24) rfl) rfl
theorem w6_25 : Cond.selects "NineBridgesModel" ⟨"NineBridgesModel", "worth", "(III)I"⟩ ⟨"NineBridgesModel", "worth", "(III)I"⟩ ∈ gW := tb_6 (List.mem_of_getElem? (i := 25) rfl) rfl
theorem w6_26 : Cond.code ⟨"NineBridgesModel", "worth", "(III)I"⟩ prog_13_method_56_code 6 (some .int) ∈ gW := tb_6 (List.mem_of_getElem? (i := 26) rfl) rfl
theorem w6_31 : Cond.methodLink "NineBridgesLaw" 124 ⟨"NineBridgesModel", "image", "()I"⟩ ∈ gW := tb_6 (List.mem_of_getElem? (i := 31) rfl) rfl
theorem w6_32 : Cond.instanceMethod ⟨"NineBridgesModel", "image", "()I"⟩ ∈ gW := tb_6 (List.mem_of_getElem? (i := 32) rfl) rfl
theorem w6_33 : Cond.selects "NineBridgesModel" ⟨"NineBridgesModel", "image", "()I"⟩ ⟨"NineBridgesModel", "image", "()I"⟩ ∈ gW := tb_6 (List.mem_of_getElem? (i := 33) rfl) rfl
theorem w6_34 : Cond.code ⟨"NineBridgesModel", "image", "()I"⟩ prog_13_method_57_code 2 (some .int) ∈ gW := tb_6 (List.mem_of_getElem? (i := 34) rfl) rfl
theorem w6_35 : Cond.methodLink "NineBridgesLaw" 128 ⟨"NineBridgesModel", "restore", "()I"⟩ ∈ gW := tb_6 (List.mem_of_getElem? (i := 35) rfl) rfl
theorem w6_36 : Cond.instanceMethod ⟨"NineBridgesModel", "restore", "()I"⟩ ∈ gW := tb_6 (List.mem_of_getElem? (i := 36) rfl) rfl
theorem w6_37 : Cond.selects "NineBridgesModel" ⟨"NineBridgesModel", "restore", "()I"⟩ ⟨"NineBridgesModel", "restore", "()I"⟩ ∈ gW := tb_6 (List.mem_of_getElem? (i := 37) rfl) rfl
theorem w6_38 : Cond.code ⟨"NineBridgesModel", "restore", "()I"⟩ prog_13_method_58_code 2 (some .int) ∈ gW := tb_6 (List.mem_of_getElem? (i := 38) rfl) rfl
theorem w6_39 : Cond.methodLink "NineBridgesLaw" 132 ⟨"NineBridgesModel", "count", "(I)I"⟩ ∈ gW := tb_6 (List.mem_of_getElem? (i := 39) rfl) rfl
theorem w6_40 : Cond.instanceMethod ⟨"NineBridgesModel", "count", "(I)I"⟩ ∈ gW := tb_6 (List.mem_of_getElem? (i := 40) rfl) rfl
theorem w6_41 : Cond.selects "NineBridgesModel" ⟨"NineBridgesModel", "count", "(I)I"⟩ ⟨"NineBridgesModel", "count", "(I)I"⟩ ∈ gW := tb_6 (List.mem_of_getElem? (i := 41) rfl) rfl
theorem w6_42 : Cond.code ⟨"NineBridgesModel", "count", "(I)I"⟩ prog_13_method_61_code 2 (some .int) ∈ gW := tb_6 (List.mem_of_getElem? (i := 42) rfl) rfl
theorem w6_51 : Cond.methodLink "NineBridgesLaw" 136 ⟨"NineBridgesModel", "digest", "()J"⟩ ∈ gW := tb_6 (List.mem_of_getElem? (i := 51) rfl) rfl
theorem w6_52 : Cond.instanceMethod ⟨"NineBridgesModel", "digest", "()J"⟩ ∈ gW := tb_6 (List.mem_of_getElem? (i := 52) rfl) rfl
theorem w6_53 : Cond.selects "NineBridgesModel" ⟨"NineBridgesModel", "digest", "()J"⟩ ⟨"NineBridgesModel", "digest", "()J"⟩ ∈ gW := tb_6 (List.mem_of_getElem? (i := 53) rfl) rfl
theorem w6_54 : Cond.code ⟨"NineBridgesModel", "digest", "()J"⟩ prog_13_method_64_code 2 (some .long) ∈ gW := tb_6 (List.mem_of_getElem? (i := 54) rfl) rfl
theorem w6_65 : Cond.constantLong "NineBridgesLaw" 13 (4294967295) ∈ gW := tb_6 (List.mem_of_getElem? (i := 65) rfl) rfl
def NF : Nat := 2000000
def Pu_letters (Inv : USt → BSt → MSt → Prop) : Prop := ∀ (u : USt) (b : BSt) (v : MSt) (a1 : Int64), Inv u b v → ∃ (r : Int32) (u1 : USt) (v1 : MSt), mX10_letters NF u a1 = some (r, u1) ∧ mM_letters NF v a1 = some (r, v1) ∧ Inv u1 b v1
def Pu_blank (Inv : USt → BSt → MSt → Prop) : Prop := ∀ (u : USt) (b : BSt) (v : MSt), Inv u b v → ∃ (r : Int32) (u1 : USt) (v1 : MSt), mX10_blank NF u = some (r, u1) ∧ mM_blank NF v  = some (r, v1) ∧ Inv u1 b v1
def Pu_fault (Inv : USt → BSt → MSt → Prop) : Prop := ∀ (u : USt) (b : BSt) (v : MSt), Inv u b v → ∃ (r : Int32) (u1 : USt) (v1 : MSt), mX10_fault NF u = some (r, u1) ∧ mM_fault NF v  = some (r, v1) ∧ Inv u1 b v1
def Pu_bridge (Inv : USt → BSt → MSt → Prop) : Prop := ∀ (u : USt) (b : BSt) (v : MSt), Inv u b v → ∃ (r1 r2 r3 r4 r5 r6 : Int32) (u1 u3 : USt), mX6_readBy NF u = some (r1, u1) ∧ mX6_size NF u1 = some r2 ∧ mX7_isWhole NF u1 = some r3 ∧ mJx4a65c_size_8abf5 NF u1 = some r4 ∧ (0 ≤ (u1.1 4).toInt ∧ (u1.1 4).toInt ≤ 3) ∧ (r4 < 10 → (b = none ∧ u1.1 10 = 0) ∨ (∃ x, b = some x ∧ (u1.1 10).toInt = x.2.1 ∧ x.2.1 < 10)) ∧ mX6_empty NF (siX (siX u1 9 (u1.1 9 + 1)) 10 (u1.1 10 + 1)) = some (r5, u3) ∧ mJx4a65c_size_8abf5 NF u3 = some r6 ∧ ∃ (r : Int32) (v1 : MSt), mM_bridge NF v = some (r, v1) ∧ ∀ (ret : Int32) (u' : USt) (b' : BSt), ((((r1 < r2 ∨ r3 = 0) ∧ ret = -103 ∧ u' = u1 ∧ b' = b) ∨ (¬ r1 < r2 ∧ ¬ r3 = 0 ∧ ¬ r4 < 10 ∧ ret = -104 ∧ u' = u1 ∧ b' = b) ∨ (¬ r1 < r2 ∧ ¬ r3 = 0 ∧ r4 < 10 ∧ ret = r6 - 1 ∧ u' = u3 ∧ ∃ v : BV, v.2.2.1 = clsK (u1.1 2) ∧ v.2.2.2.1 = bI u1 ∧ v.2.2.2.2.1 = (u1.1 4).toNatClampNeg ∧ (∀ j, j < (u1.1 4).toNatClampNeg → v.2.2.2.2.2 j = u1.2 4 j) ∧ bAdd b v b'))) → ret = r ∧ Inv u' b' v1
def Pu_as (Inv : USt → BSt → MSt → Prop) : Prop := ∀ (u : USt) (b : BSt) (v : MSt) (a1 : Int32) (a2 : Int32), Inv u b v → ∃ (r : Int32), mX10_as NF u b a1 a2 = some r ∧ mM_as NF v a1 a2 = some r ∧ Inv u b v
def Pu_about (Inv : USt → BSt → MSt → Prop) : Prop := ∀ (u : USt) (b : BSt) (v : MSt) (a1 : Int32) (a2 : Int32), Inv u b v → ∃ (r : Int32), mX10_about NF u b a1 a2 = some r ∧ mM_about NF v a1 a2 = some r ∧ Inv u b v
def Pu_offset (Inv : USt → BSt → MSt → Prop) : Prop := ∀ (u : USt) (b : BSt) (v : MSt) (a1 : Int32) (a2 : Int32), Inv u b v → ∃ (r : Int32) (b1 : BSt) (v1 : MSt), mX10_offset NF u b a1 a2 = some (r, b1) ∧ mM_offset NF v a1 a2 = some (r, v1) ∧ Inv u b1 v1
def Pu_frost (Inv : USt → BSt → MSt → Prop) : Prop := ∀ (u : USt) (b : BSt) (v : MSt) (a1 : Int32), Inv u b v → (a1 = 0 ∨ a1 = 1) → ∃ (r : Int32) (u1 : USt) (v1 : MSt), mX10_frost NF u a1 = some (r, u1) ∧ mM_frost NF v a1 = some (r, v1) ∧ Inv u1 b v1
def Pu_joins (Inv : USt → BSt → MSt → Prop) : Prop := ∀ (u : USt) (b : BSt) (v : MSt) (a1 : Int32) (a2 : Int32), Inv u b v → ∃ (r : Int32), mX10_joins NF u b a1 a2 = some r ∧ mM_joins NF v a1 a2 = some r ∧ Inv u b v
def Pu_lasts (Inv : USt → BSt → MSt → Prop) : Prop := ∀ (u : USt) (b : BSt) (v : MSt) (a1 : Int32) (a2 : Int32), Inv u b v → ∃ (r : Int32), mX10_lasts NF u b a1 a2 = some r ∧ mM_lasts NF v a1 a2 = some r ∧ Inv u b v
def Pu_soonest (Inv : USt → BSt → MSt → Prop) : Prop := ∀ (u : USt) (b : BSt) (v : MSt) (a1 : Int32) (a2 : Int32) (a3 : Int32) (a4 : Int32) (a5 : Int32), Inv u b v → ∃ (r : Int32) (u1 : USt) (v1 : MSt), mX10_soonest NF b u a1 a2 a3 a4 a5 = some (r, u1) ∧ mM_soonest NF v a1 a2 a3 a4 a5 = some (r, v1) ∧ Inv u1 b v1
def Pu_last (Inv : USt → BSt → MSt → Prop) : Prop := ∀ (u : USt) (b : BSt) (v : MSt) (a1 : Int32) (a2 : Int32) (a3 : Int32) (a4 : Int32) (a5 : Int32) (a6 : Int32), Inv u b v → ∃ (r : Int32) (u1 : USt) (v1 : MSt), mX10_last NF b u a1 a2 a3 a4 a5 a6 = some (r, u1) ∧ mM_last NF v a1 a2 a3 a4 a5 a6 = some (r, v1) ∧ Inv u1 b v1
def Pu_again (Inv : USt → BSt → MSt → Prop) : Prop := ∀ (u : USt) (b : BSt) (v : MSt), Inv u b v → ∃ (r : Int64), mX10_again NF u b = some r ∧ mM_again NF v  = some r ∧ Inv u b v
def Pu_cut (Inv : USt → BSt → MSt → Prop) : Prop := ∀ (u : USt) (b : BSt) (v : MSt) (a1 : Int32) (a2 : Int32) (a3 : Int32), Inv u b v → ∃ (r : Int32), mX10_cut NF u b a1 a2 a3 = some r ∧ mM_cut NF v a1 a2 a3 = some r ∧ Inv u b v
def Pu_worst (Inv : USt → BSt → MSt → Prop) : Prop := ∀ (u : USt) (b : BSt) (v : MSt) (a1 : Int32) (a2 : Int32) (a3 : Int32) (a4 : Int32) (a5 : Int32), Inv u b v → ∃ (r : Int32) (u1 : USt) (v1 : MSt), mX10_worst NF b u a1 a2 a3 a4 a5 = some (r, u1) ∧ mM_worst NF v a1 a2 a3 a4 a5 = some (r, v1) ∧ Inv u1 b v1
def Pu_mean (Inv : USt → BSt → MSt → Prop) : Prop := ∀ (u : USt) (b : BSt) (v : MSt) (a1 : Int32) (a2 : Int32) (a3 : Int32) (a4 : Int32) (a5 : Int32) (a6 : Int32), Inv u b v → ∃ (r : Int32) (u1 : USt) (v1 : MSt), mX10_mean NF b u a1 a2 a3 a4 a5 a6 = some (r, u1) ∧ mM_mean NF v a1 a2 a3 a4 a5 a6 = some (r, v1) ∧ Inv u1 b v1
def Pu_set (Inv : USt → BSt → MSt → Prop) : Prop := ∀ (u : USt) (b : BSt) (v : MSt) (a1 : Int32) (a2 : Int32) (a3 : Int32), Inv u b v → ∃ (r : Int32) (u1 : USt) (v1 : MSt), mX10_set NF b u a1 a2 a3 = some (r, u1) ∧ mM_set NF v a1 a2 a3 = some (r, v1) ∧ Inv u1 b v1
def Pu_crowd (Inv : USt → BSt → MSt → Prop) : Prop := ∀ (u : USt) (b : BSt) (v : MSt) (a1 : Int32) (a2 : Int32) (a3 : Int32) (a4 : Int32) (a5 : Int32) (a6 : Int32), Inv u b v → ∃ (r : Int32) (u1 : USt) (v1 : MSt), mX10_crowd NF b u a1 a2 a3 a4 a5 a6 = some (r, u1) ∧ mM_crowd NF v a1 a2 a3 a4 a5 a6 = some (r, v1) ∧ Inv u1 b v1
def Pu_stranded (Inv : USt → BSt → MSt → Prop) : Prop := ∀ (u : USt) (b : BSt) (v : MSt) (a1 : Int32) (a2 : Int32) (a3 : Int32), Inv u b v → ∃ (r : Int32) (u1 : USt) (v1 : MSt), mX10_stranded NF b u a1 a2 a3 = some (r, u1) ∧ mM_stranded NF v a1 a2 a3 = some (r, v1) ∧ Inv u1 b v1
def Pu_meeting (Inv : USt → BSt → MSt → Prop) : Prop := ∀ (u : USt) (b : BSt) (v : MSt) (a1 : Int32) (a2 : Int32) (a3 : Int32) (a4 : Int32) (a5 : Int32) (a6 : Int32), Inv u b v → ∃ (r : Int32) (u1 : USt) (v1 : MSt), mX10_meeting NF b u a1 a2 a3 a4 a5 a6 = some (r, u1) ∧ mM_meeting NF v a1 a2 a3 a4 a5 a6 = some (r, v1) ∧ Inv u1 b v1
def Pu_note (Inv : USt → BSt → MSt → Prop) : Prop := ∀ (u : USt) (b : BSt) (v : MSt) (a1 : Int32) (a2 : Int32) (a3 : Int32) (a4 : Int32), Inv u b v → ∃ (r : Int32) (u1 : USt) (v1 : MSt), mX10_note NF u a1 a2 a3 a4 = some (r, u1) ∧ mM_note NF v a1 a2 a3 a4 = some (r, v1) ∧ Inv u1 b v1
def Pu_forget (Inv : USt → BSt → MSt → Prop) : Prop := ∀ (u : USt) (b : BSt) (v : MSt), Inv u b v → ∃ (r : Int32) (u1 : USt) (v1 : MSt), mX10_forget NF u = some (r, u1) ∧ mM_forget NF v  = some (r, v1) ∧ Inv u1 b v1
def Pu_lost (Inv : USt → BSt → MSt → Prop) : Prop := ∀ (u : USt) (b : BSt) (v : MSt) (a1 : Int32), Inv u b v → ∃ (r : Int32) (u1 : USt) (v1 : MSt), mX10_lost NF b u a1 = some (r, u1) ∧ mM_lost NF v a1 = some (r, v1) ∧ Inv u1 b v1
def Pu_worth (Inv : USt → BSt → MSt → Prop) : Prop := ∀ (u : USt) (b : BSt) (v : MSt) (a1 : Int32) (a2 : Int32) (a3 : Int32), Inv u b v → ∃ (r : Int32) (u1 : USt) (v1 : MSt), mX10_worth NF b u a1 a2 a3 = some (r, u1) ∧ mM_worth NF v a1 a2 a3 = some (r, v1) ∧ Inv u1 b v1
def Pu_image (Inv : USt → BSt → MSt → Prop) : Prop := ∀ (u : USt) (b : BSt) (v : MSt), Inv u b v → ∃ (r : Int32) (u1 : USt) (v1 : MSt), mX10_image NF b u = some (r, u1) ∧ mM_image NF v  = some (r, v1) ∧ Inv u1 b v1
def Pu_restore (Inv : USt → BSt → MSt → Prop) : Prop := ∀ (u : USt) (b : BSt) (v : MSt), Inv u b v → ∃ (r : Int32) (u1 : USt) (b1 : BSt) (v1 : MSt), mX10_restore NF u b = some (r, u1, b1) ∧ mM_restore NF v  = some (r, v1) ∧ Inv u1 b1 v1
def Pu_count (Inv : USt → BSt → MSt → Prop) : Prop := ∀ (u : USt) (b : BSt) (v : MSt) (a1 : Int32), Inv u b v → ∃ (r : Int32), mX10_count NF u b a1 = some r ∧ mM_count NF v a1 = some r ∧ Inv u b v
def Pu_digest (Inv : USt → BSt → MSt → Prop) : Prop := ∀ (u : USt) (b : BSt) (v : MSt), Inv u b v → ∃ (r : Int64) (u1 : USt) (v1 : MSt), mX10_digest NF b u = some (r, u1) ∧ mM_digest NF v  = some (r, v1) ∧ Inv u1 b v1
def PureOK (Inv : USt → BSt → MSt → Prop) : Prop := Pu_letters Inv ∧ Pu_blank Inv ∧ Pu_fault Inv ∧ Pu_bridge Inv ∧ Pu_as Inv ∧ Pu_about Inv ∧ Pu_offset Inv ∧ Pu_frost Inv ∧ Pu_joins Inv ∧ Pu_lasts Inv ∧ Pu_soonest Inv ∧ Pu_last Inv ∧ Pu_again Inv ∧ Pu_cut Inv ∧ Pu_worst Inv ∧ Pu_mean Inv ∧ Pu_set Inv ∧ Pu_crowd Inv ∧ Pu_stranded Inv ∧ Pu_meeting Inv ∧ Pu_note Inv ∧ Pu_forget Inv ∧ Pu_lost Inv ∧ Pu_worth Inv ∧ Pu_image Inv ∧ Pu_restore Inv ∧ Pu_count Inv ∧ Pu_digest Inv
theorem lg_cmp_self (x : Int64) : lg_cmp x x = 0 := by
  unfold lg_cmp
  simp
set_option maxRecDepth 100000 in
set_option maxHeartbeats 8000000 in
theorem lc_letters {l : Launch} {D : va_G} {cI cO cR : ClassId} {q q2 : Nat → Nat} {t0 o bs L : Nat} {xs : Nat → Int32} {G : Gx} {Inv : USt → BSt → MSt → Prop} {cs : Nat × Nat} {x3 : Int32} {u : USt} {b : BSt} {v : MSt} (C : jC l room_1 D (tX cI cO cR) G cL_law 4 RL) (X : jXs bs L xs G) (E : jX0 t0 G) (K2 : jKs D [(cI, .int)] G) (hcs : cs.1 + 3 ≤ 600000 ∧ cs.2 + 19 ≤ 7302250) (i1 : vp_in (x3 + 1) L) (i2 : vp_in (x3 + 2) L) (i3 : vp_in (x3 + 3) L) (i4 : vp_in (x3 + 4) L) (i5 : vp_in (x3 + 5) L) (i6 : vp_in (x3 + 6) L) (hI : Inv u b v) (hp : Pu_letters Inv) (KK : ∀ (u : USt) (b : BSt) (v : MSt), Inv u b v → J l room_1 D G (cs.1 + 3, cs.2 + 19) (wX cI cO cR q t0 u b ++ wM cI o q2 v) [(0, .ref bs), (1, .ref (q 0)), (2, .ref o), (3, .int x3)] [] 1220) : J l room_1 D G cs (wX cI cO cR q t0 u b ++ wM cI o q2 v) [(0, .ref bs), (1, .ref (q 0)), (2, .ref o), (3, .int x3)] [] 160 := by
  obtain ⟨r, u1, v1, e1, em, hI2⟩ := hp u b v ((Int32.toInt64 (xs (x3 + 1).toNatClampNeg) <<< (Int32.toInt64 32 &&& 63)) ||| (Int32.toInt64 (xs (x3 + 2).toNatClampNeg) &&& 4294967295)) hI
  refine j_aload_n C dL_law_160 rfl 1 rfl ?_
  refine j_aload_n C dL_law_161 rfl 0 rfl ?_
  refine j_iload_n C dL_law_162 rfl 3 rfl ?_
  refine j_iconst (v := 1) C dL_law_163 (by decide) ?_
  refine j_iadd C dL_law_164 ?_
  refine j_sld C X i1 dL_law_165 ?_
  refine j_i2l C dL_law_166 ?_
  refine j_bipush (v := 32) C dL_law_167 (by decide) ?_
  refine j_lshl C dL_law_169 ?_
  refine j_aload_n C dL_law_170 rfl 0 rfl ?_
  refine j_iload_n C dL_law_171 rfl 3 rfl ?_
  refine j_iconst (v := 2) C dL_law_172 (by decide) ?_
  refine j_iadd C dL_law_173 ?_
  refine j_sld C X i2 dL_law_174 ?_
  refine j_i2l C dL_law_175 ?_
  refine j_ldc2 C dL_law_176 w6_65 ?_
  refine j_land C dL_law_179 ?_
  refine j_lor C dL_law_180 ?_
  refine j_callL (As := [.long ((Int32.toInt64 (xs (x3 + 1).toNatClampNeg) <<< (Int32.toInt64 32 &&& 63)) ||| (Int32.toInt64 (xs (x3 + 2).toNatClampNeg) &&& 4294967295))]) (rest := []) C (qX10_letters e1) w1_237 w1_234 w1_235 w1_236 w1_1 wd_X10_letters ⟨by decide, by decide⟩ 0 rfl rfl rfl (Nat.le_of_ble_eq_true rfl) dL_law_181 ⟨rfl, rfl⟩ ⟨by show _ ≤ 600000; omega, by show _ ≤ 7302250; omega⟩ rfl ?_
  refine j_aload_n C dL_law_184 rfl 2 rfl ?_
  refine j_aload_n C dL_law_185 rfl 0 rfl ?_
  refine j_iload_n C dL_law_186 rfl 3 rfl ?_
  refine j_iconst (v := 1) C dL_law_187 (by decide) ?_
  refine j_iadd C dL_law_188 ?_
  refine j_sld C X i1 dL_law_189 ?_
  refine j_i2l C dL_law_190 ?_
  refine j_bipush (v := 32) C dL_law_191 (by decide) ?_
  refine j_lshl C dL_law_193 ?_
  refine j_aload_n C dL_law_194 rfl 0 rfl ?_
  refine j_iload_n C dL_law_195 rfl 3 rfl ?_
  refine j_iconst (v := 2) C dL_law_196 (by decide) ?_
  refine j_iadd C dL_law_197 ?_
  refine j_sld C X i2 dL_law_198 ?_
  refine j_i2l C dL_law_199 ?_
  refine j_ldc2 C dL_law_200 w6_65 ?_
  refine j_land C dL_law_203 ?_
  refine j_lor C dL_law_204 ?_
  refine j_callR (As := [.long ((Int32.toInt64 (xs (x3 + 1).toNatClampNeg) <<< (Int32.toInt64 32 &&& 63)) ||| (Int32.toInt64 (xs (x3 + 2).toNatClampNeg) &&& 4294967295))]) (rest := [.int r]) C K2 (cM_letters em) w5_48 w5_45 w5_46 w5_47 w1_11 wd_X11_letters ⟨by decide, by decide⟩ 0 rfl rfl rfl (Nat.le_of_ble_eq_true rfl) dL_law_205 ⟨rfl, rfl⟩ ⟨by show _ ≤ 600000; omega, by show _ ≤ 7302250; omega⟩ rfl ?_
  refine j_icmp_eq (tgt := 1220) C dL_law_208 (by decide) (fun _ => ?_) (fun hq => absurd rfl hq)
  exact J.widen (cs' := (cs.1 + 3, cs.2 + 19)) (by show cs.1 ≤ cs.1 + 3; omega) (by show cs.2 ≤ cs.2 + 19; omega) (KK _ _ _ hI2)
set_option maxRecDepth 100000 in
set_option maxHeartbeats 8000000 in
theorem lc_blank {l : Launch} {D : va_G} {cI cO cR : ClassId} {q q2 : Nat → Nat} {t0 o bs L : Nat} {xs : Nat → Int32} {G : Gx} {Inv : USt → BSt → MSt → Prop} {cs : Nat × Nat} {x3 : Int32} {u : USt} {b : BSt} {v : MSt} (C : jC l room_1 D (tX cI cO cR) G cL_law 4 RL) (X : jXs bs L xs G) (E : jX0 t0 G) (K2 : jKs D [(cI, .int)] G) (hcs : cs.1 + 3 ≤ 600000 ∧ cs.2 + 19 ≤ 7302250) (i1 : vp_in (x3 + 1) L) (i2 : vp_in (x3 + 2) L) (i3 : vp_in (x3 + 3) L) (i4 : vp_in (x3 + 4) L) (i5 : vp_in (x3 + 5) L) (i6 : vp_in (x3 + 6) L) (hI : Inv u b v) (hp : Pu_blank Inv) (KK : ∀ (u : USt) (b : BSt) (v : MSt), Inv u b v → J l room_1 D G (cs.1 + 3, cs.2 + 19) (wX cI cO cR q t0 u b ++ wM cI o q2 v) [(0, .ref bs), (1, .ref (q 0)), (2, .ref o), (3, .int x3)] [] 1220) : J l room_1 D G cs (wX cI cO cR q t0 u b ++ wM cI o q2 v) [(0, .ref bs), (1, .ref (q 0)), (2, .ref o), (3, .int x3)] [] 213 := by
  obtain ⟨r, u1, v1, e1, em, hI2⟩ := hp u b v  hI
  refine j_aload_n C dL_law_213 rfl 1 rfl ?_
  refine j_callL (As := []) (rest := []) C (qX10_blank e1) w2_19 w2_16 w2_17 w2_18 w1_1 wd_X10_blank ⟨by decide, by decide⟩ 0 rfl rfl rfl (Nat.le_of_ble_eq_true rfl) dL_law_214 ⟨rfl, rfl⟩ ⟨by show _ ≤ 600000; omega, by show _ ≤ 7302250; omega⟩ rfl ?_
  refine j_aload_n C dL_law_217 rfl 2 rfl ?_
  refine j_callR (As := []) (rest := [.int r]) C K2 (cM_blank em) w5_53 w5_50 w5_51 w5_52 w1_11 wd_X11_blank ⟨by decide, by decide⟩ 0 rfl rfl rfl (Nat.le_of_ble_eq_true rfl) dL_law_218 ⟨rfl, rfl⟩ ⟨by show _ ≤ 600000; omega, by show _ ≤ 7302250; omega⟩ rfl ?_
  refine j_icmp_eq (tgt := 1220) C dL_law_221 (by decide) (fun _ => ?_) (fun hq => absurd rfl hq)
  exact J.widen (cs' := (cs.1 + 3, cs.2 + 19)) (by show cs.1 ≤ cs.1 + 3; omega) (by show cs.2 ≤ cs.2 + 19; omega) (KK _ _ _ hI2)
set_option maxRecDepth 100000 in
set_option maxHeartbeats 8000000 in
theorem lc_fault {l : Launch} {D : va_G} {cI cO cR : ClassId} {q q2 : Nat → Nat} {t0 o bs L : Nat} {xs : Nat → Int32} {G : Gx} {Inv : USt → BSt → MSt → Prop} {cs : Nat × Nat} {x3 : Int32} {u : USt} {b : BSt} {v : MSt} (C : jC l room_1 D (tX cI cO cR) G cL_law 4 RL) (X : jXs bs L xs G) (E : jX0 t0 G) (K2 : jKs D [(cI, .int)] G) (hcs : cs.1 + 3 ≤ 600000 ∧ cs.2 + 19 ≤ 7302250) (i1 : vp_in (x3 + 1) L) (i2 : vp_in (x3 + 2) L) (i3 : vp_in (x3 + 3) L) (i4 : vp_in (x3 + 4) L) (i5 : vp_in (x3 + 5) L) (i6 : vp_in (x3 + 6) L) (hI : Inv u b v) (hp : Pu_fault Inv) (KK : ∀ (u : USt) (b : BSt) (v : MSt), Inv u b v → J l room_1 D G (cs.1 + 3, cs.2 + 19) (wX cI cO cR q t0 u b ++ wM cI o q2 v) [(0, .ref bs), (1, .ref (q 0)), (2, .ref o), (3, .int x3)] [] 1220) : J l room_1 D G cs (wX cI cO cR q t0 u b ++ wM cI o q2 v) [(0, .ref bs), (1, .ref (q 0)), (2, .ref o), (3, .int x3)] [] 226 := by
  obtain ⟨r, u1, v1, e1, em, hI2⟩ := hp u b v  hI
  refine j_aload_n C dL_law_226 rfl 1 rfl ?_
  refine j_callL (As := []) (rest := []) C (qX10_fault e1) w2_27 w2_24 w2_25 w2_26 w1_1 wd_X10_fault ⟨by decide, by decide⟩ 0 rfl rfl rfl (Nat.le_of_ble_eq_true rfl) dL_law_227 ⟨rfl, rfl⟩ ⟨by show _ ≤ 600000; omega, by show _ ≤ 7302250; omega⟩ rfl ?_
  refine j_aload_n C dL_law_230 rfl 2 rfl ?_
  refine j_callR (As := []) (rest := [.int r]) C K2 (cM_fault em) w5_57 w5_54 w5_55 w5_56 w1_11 wd_X11_fault ⟨by decide, by decide⟩ 0 rfl rfl rfl (Nat.le_of_ble_eq_true rfl) dL_law_231 ⟨rfl, rfl⟩ ⟨by show _ ≤ 600000; omega, by show _ ≤ 7302250; omega⟩ rfl ?_
  refine j_icmp_eq (tgt := 1220) C dL_law_234 (by decide) (fun _ => ?_) (fun hq => absurd rfl hq)
  exact J.widen (cs' := (cs.1 + 3, cs.2 + 19)) (by show cs.1 ≤ cs.1 + 3; omega) (by show cs.2 ≤ cs.2 + 19; omega) (KK _ _ _ hI2)
set_option maxRecDepth 100000 in
set_option maxHeartbeats 8000000 in
theorem lc_bridge {l : Launch} {D : va_G} {cI cO cR : ClassId} {q q2 : Nat → Nat} {t0 o bs L : Nat} {xs : Nat → Int32} {G : Gx} {Inv : USt → BSt → MSt → Prop} {cs : Nat × Nat} {x3 : Int32} {u : USt} {b : BSt} {v : MSt} (C : jC l room_1 D (tX cI cO cR) G cL_law 4 RL) (X : jXs bs L xs G) (E : jX0 t0 G) (K2 : jKs D [(cI, .int)] G) (hcs : cs.1 + 3 ≤ 600000 ∧ cs.2 + 19 ≤ 7302250) (i1 : vp_in (x3 + 1) L) (i2 : vp_in (x3 + 2) L) (i3 : vp_in (x3 + 3) L) (i4 : vp_in (x3 + 4) L) (i5 : vp_in (x3 + 5) L) (i6 : vp_in (x3 + 6) L) (hI : Inv u b v) (hp : Pu_bridge Inv) (KK : ∀ (u : USt) (b : BSt) (v : MSt), Inv u b v → J l room_1 D G (cs.1 + 3, cs.2 + 19) (wX cI cO cR q t0 u b ++ wM cI o q2 v) [(0, .ref bs), (1, .ref (q 0)), (2, .ref o), (3, .int x3)] [] 1220) : J l room_1 D G cs (wX cI cO cR q t0 u b ++ wM cI o q2 v) [(0, .ref bs), (1, .ref (q 0)), (2, .ref o), (3, .int x3)] [] 239 := by
  obtain ⟨r1, r2, r3, r4, r5, r6, u1, u3, e1, e2, e3, e4, e5, e6, e7, e8, r, v1, em, hI2⟩ := hp u b v hI
  refine j_aload_n C dL_law_239 rfl 1 rfl ?_
  refine j_callLE (cs' := (cs.1 + 3, cs.2 + 19)) (As := []) (rest := []) C E (e_bridge e1 e2 e3 e4 e5 e6 e7 e8) w2_66 w2_63 w2_64 w2_65 w1_1 wdE_bridge ⟨by decide, by decide⟩ 0 rfl rfl rfl (Nat.le_of_ble_eq_true rfl) dL_law_240 hcs rfl rfl (fun rv w1 hP => ?_)
  obtain ⟨ret, u', b', rfl, rfl, hq⟩ := hP
  obtain ⟨rfl, hI3⟩ := hI2 _ _ _ hq
  refine j_aload_n C dL_law_243 rfl 2 rfl ?_
  refine j_callR (As := []) (rest := [.int _]) C K2 (cM_bridge em) w5_91 w5_88 w5_89 w5_90 w1_11 wd_X11_bridge ⟨by decide, by decide⟩ 0 rfl rfl rfl (Nat.le_of_ble_eq_true rfl) dL_law_244 ⟨rfl, rfl⟩ ⟨by show _ ≤ 600000; omega, by show _ ≤ 7302250; omega⟩ rfl ?_
  refine j_icmp_eq (tgt := 1220) C dL_law_247 (by decide) (fun _ => ?_) (fun hq => absurd rfl hq)
  exact KK _ _ _ hI3
set_option maxRecDepth 100000 in
set_option maxHeartbeats 8000000 in
theorem lc_as {l : Launch} {D : va_G} {cI cO cR : ClassId} {q q2 : Nat → Nat} {t0 o bs L : Nat} {xs : Nat → Int32} {G : Gx} {Inv : USt → BSt → MSt → Prop} {cs : Nat × Nat} {x3 : Int32} {u : USt} {b : BSt} {v : MSt} (C : jC l room_1 D (tX cI cO cR) G cL_law 4 RL) (X : jXs bs L xs G) (E : jX0 t0 G) (K2 : jKs D [(cI, .int)] G) (hcs : cs.1 + 3 ≤ 600000 ∧ cs.2 + 19 ≤ 7302250) (i1 : vp_in (x3 + 1) L) (i2 : vp_in (x3 + 2) L) (i3 : vp_in (x3 + 3) L) (i4 : vp_in (x3 + 4) L) (i5 : vp_in (x3 + 5) L) (i6 : vp_in (x3 + 6) L) (hI : Inv u b v) (hp : Pu_as Inv) (KK : ∀ (u : USt) (b : BSt) (v : MSt), Inv u b v → J l room_1 D G (cs.1 + 3, cs.2 + 19) (wX cI cO cR q t0 u b ++ wM cI o q2 v) [(0, .ref bs), (1, .ref (q 0)), (2, .ref o), (3, .int x3)] [] 1220) : J l room_1 D G cs (wX cI cO cR q t0 u b ++ wM cI o q2 v) [(0, .ref bs), (1, .ref (q 0)), (2, .ref o), (3, .int x3)] [] 252 := by
  obtain ⟨r, e1, em, hI2⟩ := hp u b v (xs (x3 + 1).toNatClampNeg) (xs (x3 + 2).toNatClampNeg) hI
  refine j_aload_n C dL_law_252 rfl 1 rfl ?_
  refine j_aload_n C dL_law_253 rfl 0 rfl ?_
  refine j_iload_n C dL_law_254 rfl 3 rfl ?_
  refine j_iconst (v := 1) C dL_law_255 (by decide) ?_
  refine j_iadd C dL_law_256 ?_
  refine j_sld C X i1 dL_law_257 ?_
  refine j_aload_n C dL_law_258 rfl 0 rfl ?_
  refine j_iload_n C dL_law_259 rfl 3 rfl ?_
  refine j_iconst (v := 2) C dL_law_260 (by decide) ?_
  refine j_iadd C dL_law_261 ?_
  refine j_sld C X i2 dL_law_262 ?_
  refine j_callL (As := [.int (xs (x3 + 1).toNatClampNeg), .int (xs (x3 + 2).toNatClampNeg)]) (rest := []) C (qX10_as e1) w2_226 w2_223 w2_224 w2_225 w1_1 wd_X10_as ⟨by decide, by decide⟩ 0 rfl rfl rfl (Nat.le_of_ble_eq_true rfl) dL_law_263 ⟨rfl, rfl⟩ ⟨by show _ ≤ 600000; omega, by show _ ≤ 7302250; omega⟩ rfl ?_
  refine j_aload_n C dL_law_266 rfl 2 rfl ?_
  refine j_aload_n C dL_law_267 rfl 0 rfl ?_
  refine j_iload_n C dL_law_268 rfl 3 rfl ?_
  refine j_iconst (v := 1) C dL_law_269 (by decide) ?_
  refine j_iadd C dL_law_270 ?_
  refine j_sld C X i1 dL_law_271 ?_
  refine j_aload_n C dL_law_272 rfl 0 rfl ?_
  refine j_iload_n C dL_law_273 rfl 3 rfl ?_
  refine j_iconst (v := 2) C dL_law_274 (by decide) ?_
  refine j_iadd C dL_law_275 ?_
  refine j_sld C X i2 dL_law_276 ?_
  refine j_callR (As := [.int (xs (x3 + 1).toNatClampNeg), .int (xs (x3 + 2).toNatClampNeg)]) (rest := [.int r]) C K2 (cM_as em) w5_95 w5_92 w5_93 w5_94 w1_11 wd_X11_as ⟨by decide, by decide⟩ 0 rfl rfl rfl (Nat.le_of_ble_eq_true rfl) dL_law_277 ⟨rfl, rfl⟩ ⟨by show _ ≤ 600000; omega, by show _ ≤ 7302250; omega⟩ rfl ?_
  refine j_icmp_eq (tgt := 1220) C dL_law_280 (by decide) (fun _ => ?_) (fun hq => absurd rfl hq)
  exact J.widen (cs' := (cs.1 + 3, cs.2 + 19)) (by show cs.1 ≤ cs.1 + 3; omega) (by show cs.2 ≤ cs.2 + 19; omega) (KK _ _ _ hI2)
set_option maxRecDepth 100000 in
set_option maxHeartbeats 8000000 in
theorem lc_about {l : Launch} {D : va_G} {cI cO cR : ClassId} {q q2 : Nat → Nat} {t0 o bs L : Nat} {xs : Nat → Int32} {G : Gx} {Inv : USt → BSt → MSt → Prop} {cs : Nat × Nat} {x3 : Int32} {u : USt} {b : BSt} {v : MSt} (C : jC l room_1 D (tX cI cO cR) G cL_law 4 RL) (X : jXs bs L xs G) (E : jX0 t0 G) (K2 : jKs D [(cI, .int)] G) (hcs : cs.1 + 3 ≤ 600000 ∧ cs.2 + 19 ≤ 7302250) (i1 : vp_in (x3 + 1) L) (i2 : vp_in (x3 + 2) L) (i3 : vp_in (x3 + 3) L) (i4 : vp_in (x3 + 4) L) (i5 : vp_in (x3 + 5) L) (i6 : vp_in (x3 + 6) L) (hI : Inv u b v) (hp : Pu_about Inv) (KK : ∀ (u : USt) (b : BSt) (v : MSt), Inv u b v → J l room_1 D G (cs.1 + 3, cs.2 + 19) (wX cI cO cR q t0 u b ++ wM cI o q2 v) [(0, .ref bs), (1, .ref (q 0)), (2, .ref o), (3, .int x3)] [] 1220) : J l room_1 D G cs (wX cI cO cR q t0 u b ++ wM cI o q2 v) [(0, .ref bs), (1, .ref (q 0)), (2, .ref o), (3, .int x3)] [] 285 := by
  obtain ⟨r, e1, em, hI2⟩ := hp u b v (xs (x3 + 1).toNatClampNeg) (xs (x3 + 2).toNatClampNeg) hI
  refine j_aload_n C dL_law_285 rfl 1 rfl ?_
  refine j_aload_n C dL_law_286 rfl 0 rfl ?_
  refine j_iload_n C dL_law_287 rfl 3 rfl ?_
  refine j_iconst (v := 1) C dL_law_288 (by decide) ?_
  refine j_iadd C dL_law_289 ?_
  refine j_sld C X i1 dL_law_290 ?_
  refine j_aload_n C dL_law_291 rfl 0 rfl ?_
  refine j_iload_n C dL_law_292 rfl 3 rfl ?_
  refine j_iconst (v := 2) C dL_law_293 (by decide) ?_
  refine j_iadd C dL_law_294 ?_
  refine j_sld C X i2 dL_law_295 ?_
  refine j_callL (As := [.int (xs (x3 + 1).toNatClampNeg), .int (xs (x3 + 2).toNatClampNeg)]) (rest := []) C (qX10_about e1) w3_15 w3_12 w3_13 w3_14 w1_1 wd_X10_about ⟨by decide, by decide⟩ 0 rfl rfl rfl (Nat.le_of_ble_eq_true rfl) dL_law_296 ⟨rfl, rfl⟩ ⟨by show _ ≤ 600000; omega, by show _ ≤ 7302250; omega⟩ rfl ?_
  refine j_aload_n C dL_law_299 rfl 2 rfl ?_
  refine j_aload_n C dL_law_300 rfl 0 rfl ?_
  refine j_iload_n C dL_law_301 rfl 3 rfl ?_
  refine j_iconst (v := 1) C dL_law_302 (by decide) ?_
  refine j_iadd C dL_law_303 ?_
  refine j_sld C X i1 dL_law_304 ?_
  refine j_aload_n C dL_law_305 rfl 0 rfl ?_
  refine j_iload_n C dL_law_306 rfl 3 rfl ?_
  refine j_iconst (v := 2) C dL_law_307 (by decide) ?_
  refine j_iadd C dL_law_308 ?_
  refine j_sld C X i2 dL_law_309 ?_
  refine j_callR (As := [.int (xs (x3 + 1).toNatClampNeg), .int (xs (x3 + 2).toNatClampNeg)]) (rest := [.int r]) C K2 (cM_about em) w5_104 w5_101 w5_102 w5_103 w1_11 wd_X11_about ⟨by decide, by decide⟩ 0 rfl rfl rfl (Nat.le_of_ble_eq_true rfl) dL_law_310 ⟨rfl, rfl⟩ ⟨by show _ ≤ 600000; omega, by show _ ≤ 7302250; omega⟩ rfl ?_
  refine j_icmp_eq (tgt := 1220) C dL_law_313 (by decide) (fun _ => ?_) (fun hq => absurd rfl hq)
  exact J.widen (cs' := (cs.1 + 3, cs.2 + 19)) (by show cs.1 ≤ cs.1 + 3; omega) (by show cs.2 ≤ cs.2 + 19; omega) (KK _ _ _ hI2)
set_option maxRecDepth 100000 in
set_option maxHeartbeats 8000000 in
theorem lc_offset {l : Launch} {D : va_G} {cI cO cR : ClassId} {q q2 : Nat → Nat} {t0 o bs L : Nat} {xs : Nat → Int32} {G : Gx} {Inv : USt → BSt → MSt → Prop} {cs : Nat × Nat} {x3 : Int32} {u : USt} {b : BSt} {v : MSt} (C : jC l room_1 D (tX cI cO cR) G cL_law 4 RL) (X : jXs bs L xs G) (E : jX0 t0 G) (K2 : jKs D [(cI, .int)] G) (hcs : cs.1 + 3 ≤ 600000 ∧ cs.2 + 19 ≤ 7302250) (i1 : vp_in (x3 + 1) L) (i2 : vp_in (x3 + 2) L) (i3 : vp_in (x3 + 3) L) (i4 : vp_in (x3 + 4) L) (i5 : vp_in (x3 + 5) L) (i6 : vp_in (x3 + 6) L) (hI : Inv u b v) (hp : Pu_offset Inv) (KK : ∀ (u : USt) (b : BSt) (v : MSt), Inv u b v → J l room_1 D G (cs.1 + 3, cs.2 + 19) (wX cI cO cR q t0 u b ++ wM cI o q2 v) [(0, .ref bs), (1, .ref (q 0)), (2, .ref o), (3, .int x3)] [] 1220) : J l room_1 D G cs (wX cI cO cR q t0 u b ++ wM cI o q2 v) [(0, .ref bs), (1, .ref (q 0)), (2, .ref o), (3, .int x3)] [] 318 := by
  obtain ⟨r, b1, v1, e1, em, hI2⟩ := hp u b v (xs (x3 + 1).toNatClampNeg) (xs (x3 + 2).toNatClampNeg) hI
  refine j_aload_n C dL_law_318 rfl 1 rfl ?_
  refine j_aload_n C dL_law_319 rfl 0 rfl ?_
  refine j_iload_n C dL_law_320 rfl 3 rfl ?_
  refine j_iconst (v := 1) C dL_law_321 (by decide) ?_
  refine j_iadd C dL_law_322 ?_
  refine j_sld C X i1 dL_law_323 ?_
  refine j_aload_n C dL_law_324 rfl 0 rfl ?_
  refine j_iload_n C dL_law_325 rfl 3 rfl ?_
  refine j_iconst (v := 2) C dL_law_326 (by decide) ?_
  refine j_iadd C dL_law_327 ?_
  refine j_sld C X i2 dL_law_328 ?_
  refine j_callL (As := [.int (xs (x3 + 1).toNatClampNeg), .int (xs (x3 + 2).toNatClampNeg)]) (rest := []) C (qX10_offset e1) w3_87 w3_84 w3_85 w3_86 w1_1 wd_X10_offset ⟨by decide, by decide⟩ 0 rfl rfl rfl (Nat.le_of_ble_eq_true rfl) dL_law_329 ⟨rfl, rfl⟩ ⟨by show _ ≤ 600000; omega, by show _ ≤ 7302250; omega⟩ rfl ?_
  refine j_aload_n C dL_law_332 rfl 2 rfl ?_
  refine j_aload_n C dL_law_333 rfl 0 rfl ?_
  refine j_iload_n C dL_law_334 rfl 3 rfl ?_
  refine j_iconst (v := 1) C dL_law_335 (by decide) ?_
  refine j_iadd C dL_law_336 ?_
  refine j_sld C X i1 dL_law_337 ?_
  refine j_aload_n C dL_law_338 rfl 0 rfl ?_
  refine j_iload_n C dL_law_339 rfl 3 rfl ?_
  refine j_iconst (v := 2) C dL_law_340 (by decide) ?_
  refine j_iadd C dL_law_341 ?_
  refine j_sld C X i2 dL_law_342 ?_
  refine j_callR (As := [.int (xs (x3 + 1).toNatClampNeg), .int (xs (x3 + 2).toNatClampNeg)]) (rest := [.int r]) C K2 (cM_offset em) w5_124 w5_121 w5_122 w5_123 w1_11 wd_X11_offset ⟨by decide, by decide⟩ 0 rfl rfl rfl (Nat.le_of_ble_eq_true rfl) dL_law_343 ⟨rfl, rfl⟩ ⟨by show _ ≤ 600000; omega, by show _ ≤ 7302250; omega⟩ rfl ?_
  refine j_icmp_eq (tgt := 1220) C dL_law_346 (by decide) (fun _ => ?_) (fun hq => absurd rfl hq)
  exact J.widen (cs' := (cs.1 + 3, cs.2 + 19)) (by show cs.1 ≤ cs.1 + 3; omega) (by show cs.2 ≤ cs.2 + 19; omega) (KK _ _ _ hI2)
set_option maxRecDepth 100000 in
set_option maxHeartbeats 8000000 in
theorem lc_frost {l : Launch} {D : va_G} {cI cO cR : ClassId} {q q2 : Nat → Nat} {t0 o bs L : Nat} {xs : Nat → Int32} {G : Gx} {Inv : USt → BSt → MSt → Prop} {cs : Nat × Nat} {x3 : Int32} {u : USt} {b : BSt} {v : MSt} (C : jC l room_1 D (tX cI cO cR) G cL_law 4 RL) (X : jXs bs L xs G) (E : jX0 t0 G) (K2 : jKs D [(cI, .int)] G) (hcs : cs.1 + 3 ≤ 600000 ∧ cs.2 + 19 ≤ 7302250) (i1 : vp_in (x3 + 1) L) (i2 : vp_in (x3 + 2) L) (i3 : vp_in (x3 + 3) L) (i4 : vp_in (x3 + 4) L) (i5 : vp_in (x3 + 5) L) (i6 : vp_in (x3 + 6) L) (hI : Inv u b v) (hp : Pu_frost Inv) (KK : ∀ (u : USt) (b : BSt) (v : MSt), Inv u b v → J l room_1 D G (cs.1 + 3, cs.2 + 19) (wX cI cO cR q t0 u b ++ wM cI o q2 v) [(0, .ref bs), (1, .ref (q 0)), (2, .ref o), (3, .int x3)] [] 1220) : J l room_1 D G cs (wX cI cO cR q t0 u b ++ wM cI o q2 v) [(0, .ref bs), (1, .ref (q 0)), (2, .ref o), (3, .int x3)] [] 351 := by
  by_cases hz : (xs (x3 + 1).toNatClampNeg) = 0
  · obtain ⟨r, u1, v1, e1, em, hI2⟩ := hp u b v 0 hI (by decide)
    refine j_aload_n C dL_law_351 rfl 1 rfl ?_
    refine j_aload_n C dL_law_352 rfl 0 rfl ?_
    refine j_iload_n C dL_law_353 rfl 3 rfl ?_
    refine j_iconst (v := 1) C dL_law_354 (by decide) ?_
    refine j_iadd C dL_law_355 ?_
    refine j_sld C X i1 dL_law_356 ?_
    refine j_if_eq (tgt := 364) C dL_law_357 (by decide) (fun _ => ?_) (fun hq => absurd hz hq)
    refine j_iconst (v := 0) C dL_law_364 (by decide) ?_
    refine j_callL (As := [.int 0]) (rest := []) C (qX10_frost e1) w3_91 w3_88 w3_89 w3_90 w1_1 wd_X10_frost ⟨by decide, by decide⟩ 0 rfl rfl rfl (Nat.le_of_ble_eq_true rfl) dL_law_365 ⟨rfl, rfl⟩ ⟨by show _ ≤ 600000; omega, by show _ ≤ 7302250; omega⟩ rfl ?_
    refine j_aload_n C dL_law_368 rfl 2 rfl ?_
    refine j_aload_n C dL_law_369 rfl 0 rfl ?_
    refine j_iload_n C dL_law_370 rfl 3 rfl ?_
    refine j_iconst (v := 1) C dL_law_371 (by decide) ?_
    refine j_iadd C dL_law_372 ?_
    refine j_sld C X i1 dL_law_373 ?_
    refine j_if_eq (tgt := 381) C dL_law_374 (by decide) (fun _ => ?_) (fun hq => absurd hz hq)
    refine j_iconst (v := 0) C dL_law_381 (by decide) ?_
    refine j_callR (As := [.int 0]) (rest := [.int r]) C K2 (cM_frost em) w5_128 w5_125 w5_126 w5_127 w1_11 wd_X11_frost ⟨by decide, by decide⟩ 0 rfl rfl rfl (Nat.le_of_ble_eq_true rfl) dL_law_382 ⟨rfl, rfl⟩ ⟨by show _ ≤ 600000; omega, by show _ ≤ 7302250; omega⟩ rfl ?_
    refine j_icmp_eq (tgt := 1220) C dL_law_385 (by decide) (fun _ => ?_) (fun hq => absurd rfl hq)
    exact J.widen (cs' := (cs.1 + 3, cs.2 + 19)) (by show cs.1 ≤ cs.1 + 3; omega) (by show cs.2 ≤ cs.2 + 19; omega) (KK _ _ _ hI2)
  · obtain ⟨r, u1, v1, e1, em, hI2⟩ := hp u b v 1 hI (by decide)
    refine j_aload_n C dL_law_351 rfl 1 rfl ?_
    refine j_aload_n C dL_law_352 rfl 0 rfl ?_
    refine j_iload_n C dL_law_353 rfl 3 rfl ?_
    refine j_iconst (v := 1) C dL_law_354 (by decide) ?_
    refine j_iadd C dL_law_355 ?_
    refine j_sld C X i1 dL_law_356 ?_
    refine j_if_eq (tgt := 364) C dL_law_357 (by decide) (fun hq => absurd hq hz) (fun _ => ?_)
    refine j_iconst (v := 1) C dL_law_360 (by decide) ?_
    refine j_goto (tgt := 365) C dL_law_361 (by decide) ?_
    refine j_callL (As := [.int 1]) (rest := []) C (qX10_frost e1) w3_91 w3_88 w3_89 w3_90 w1_1 wd_X10_frost ⟨by decide, by decide⟩ 0 rfl rfl rfl (Nat.le_of_ble_eq_true rfl) dL_law_365 ⟨rfl, rfl⟩ ⟨by show _ ≤ 600000; omega, by show _ ≤ 7302250; omega⟩ rfl ?_
    refine j_aload_n C dL_law_368 rfl 2 rfl ?_
    refine j_aload_n C dL_law_369 rfl 0 rfl ?_
    refine j_iload_n C dL_law_370 rfl 3 rfl ?_
    refine j_iconst (v := 1) C dL_law_371 (by decide) ?_
    refine j_iadd C dL_law_372 ?_
    refine j_sld C X i1 dL_law_373 ?_
    refine j_if_eq (tgt := 381) C dL_law_374 (by decide) (fun hq => absurd hq hz) (fun _ => ?_)
    refine j_iconst (v := 1) C dL_law_377 (by decide) ?_
    refine j_goto (tgt := 382) C dL_law_378 (by decide) ?_
    refine j_callR (As := [.int 1]) (rest := [.int r]) C K2 (cM_frost em) w5_128 w5_125 w5_126 w5_127 w1_11 wd_X11_frost ⟨by decide, by decide⟩ 0 rfl rfl rfl (Nat.le_of_ble_eq_true rfl) dL_law_382 ⟨rfl, rfl⟩ ⟨by show _ ≤ 600000; omega, by show _ ≤ 7302250; omega⟩ rfl ?_
    refine j_icmp_eq (tgt := 1220) C dL_law_385 (by decide) (fun _ => ?_) (fun hq => absurd rfl hq)
    exact J.widen (cs' := (cs.1 + 3, cs.2 + 19)) (by show cs.1 ≤ cs.1 + 3; omega) (by show cs.2 ≤ cs.2 + 19; omega) (KK _ _ _ hI2)
set_option maxRecDepth 100000 in
set_option maxHeartbeats 8000000 in
theorem lc_joins {l : Launch} {D : va_G} {cI cO cR : ClassId} {q q2 : Nat → Nat} {t0 o bs L : Nat} {xs : Nat → Int32} {G : Gx} {Inv : USt → BSt → MSt → Prop} {cs : Nat × Nat} {x3 : Int32} {u : USt} {b : BSt} {v : MSt} (C : jC l room_1 D (tX cI cO cR) G cL_law 4 RL) (X : jXs bs L xs G) (E : jX0 t0 G) (K2 : jKs D [(cI, .int)] G) (hcs : cs.1 + 3 ≤ 600000 ∧ cs.2 + 19 ≤ 7302250) (i1 : vp_in (x3 + 1) L) (i2 : vp_in (x3 + 2) L) (i3 : vp_in (x3 + 3) L) (i4 : vp_in (x3 + 4) L) (i5 : vp_in (x3 + 5) L) (i6 : vp_in (x3 + 6) L) (hI : Inv u b v) (hp : Pu_joins Inv) (KK : ∀ (u : USt) (b : BSt) (v : MSt), Inv u b v → J l room_1 D G (cs.1 + 3, cs.2 + 19) (wX cI cO cR q t0 u b ++ wM cI o q2 v) [(0, .ref bs), (1, .ref (q 0)), (2, .ref o), (3, .int x3)] [] 1220) : J l room_1 D G cs (wX cI cO cR q t0 u b ++ wM cI o q2 v) [(0, .ref bs), (1, .ref (q 0)), (2, .ref o), (3, .int x3)] [] 390 := by
  obtain ⟨r, e1, em, hI2⟩ := hp u b v (xs (x3 + 1).toNatClampNeg) (xs (x3 + 2).toNatClampNeg) hI
  refine j_aload_n C dL_law_390 rfl 1 rfl ?_
  refine j_aload_n C dL_law_391 rfl 0 rfl ?_
  refine j_iload_n C dL_law_392 rfl 3 rfl ?_
  refine j_iconst (v := 1) C dL_law_393 (by decide) ?_
  refine j_iadd C dL_law_394 ?_
  refine j_sld C X i1 dL_law_395 ?_
  refine j_aload_n C dL_law_396 rfl 0 rfl ?_
  refine j_iload_n C dL_law_397 rfl 3 rfl ?_
  refine j_iconst (v := 2) C dL_law_398 (by decide) ?_
  refine j_iadd C dL_law_399 ?_
  refine j_sld C X i2 dL_law_400 ?_
  refine j_callL (As := [.int (xs (x3 + 1).toNatClampNeg), .int (xs (x3 + 2).toNatClampNeg)]) (rest := []) C (qX10_joins e1) w3_95 w3_92 w3_93 w3_94 w1_1 wd_X10_joins ⟨by decide, by decide⟩ 0 rfl rfl rfl (Nat.le_of_ble_eq_true rfl) dL_law_401 ⟨rfl, rfl⟩ ⟨by show _ ≤ 600000; omega, by show _ ≤ 7302250; omega⟩ rfl ?_
  refine j_aload_n C dL_law_404 rfl 2 rfl ?_
  refine j_aload_n C dL_law_405 rfl 0 rfl ?_
  refine j_iload_n C dL_law_406 rfl 3 rfl ?_
  refine j_iconst (v := 1) C dL_law_407 (by decide) ?_
  refine j_iadd C dL_law_408 ?_
  refine j_sld C X i1 dL_law_409 ?_
  refine j_aload_n C dL_law_410 rfl 0 rfl ?_
  refine j_iload_n C dL_law_411 rfl 3 rfl ?_
  refine j_iconst (v := 2) C dL_law_412 (by decide) ?_
  refine j_iadd C dL_law_413 ?_
  refine j_sld C X i2 dL_law_414 ?_
  refine j_callR (As := [.int (xs (x3 + 1).toNatClampNeg), .int (xs (x3 + 2).toNatClampNeg)]) (rest := [.int r]) C K2 (cM_joins em) w5_132 w5_129 w5_130 w5_131 w1_11 wd_X11_joins ⟨by decide, by decide⟩ 0 rfl rfl rfl (Nat.le_of_ble_eq_true rfl) dL_law_415 ⟨rfl, rfl⟩ ⟨by show _ ≤ 600000; omega, by show _ ≤ 7302250; omega⟩ rfl ?_
  refine j_icmp_eq (tgt := 1220) C dL_law_418 (by decide) (fun _ => ?_) (fun hq => absurd rfl hq)
  exact J.widen (cs' := (cs.1 + 3, cs.2 + 19)) (by show cs.1 ≤ cs.1 + 3; omega) (by show cs.2 ≤ cs.2 + 19; omega) (KK _ _ _ hI2)
set_option maxRecDepth 100000 in
set_option maxHeartbeats 8000000 in
theorem lc_lasts {l : Launch} {D : va_G} {cI cO cR : ClassId} {q q2 : Nat → Nat} {t0 o bs L : Nat} {xs : Nat → Int32} {G : Gx} {Inv : USt → BSt → MSt → Prop} {cs : Nat × Nat} {x3 : Int32} {u : USt} {b : BSt} {v : MSt} (C : jC l room_1 D (tX cI cO cR) G cL_law 4 RL) (X : jXs bs L xs G) (E : jX0 t0 G) (K2 : jKs D [(cI, .int)] G) (hcs : cs.1 + 3 ≤ 600000 ∧ cs.2 + 19 ≤ 7302250) (i1 : vp_in (x3 + 1) L) (i2 : vp_in (x3 + 2) L) (i3 : vp_in (x3 + 3) L) (i4 : vp_in (x3 + 4) L) (i5 : vp_in (x3 + 5) L) (i6 : vp_in (x3 + 6) L) (hI : Inv u b v) (hp : Pu_lasts Inv) (KK : ∀ (u : USt) (b : BSt) (v : MSt), Inv u b v → J l room_1 D G (cs.1 + 3, cs.2 + 19) (wX cI cO cR q t0 u b ++ wM cI o q2 v) [(0, .ref bs), (1, .ref (q 0)), (2, .ref o), (3, .int x3)] [] 1220) : J l room_1 D G cs (wX cI cO cR q t0 u b ++ wM cI o q2 v) [(0, .ref bs), (1, .ref (q 0)), (2, .ref o), (3, .int x3)] [] 423 := by
  obtain ⟨r, e1, em, hI2⟩ := hp u b v (xs (x3 + 1).toNatClampNeg) (xs (x3 + 2).toNatClampNeg) hI
  refine j_aload_n C dL_law_423 rfl 1 rfl ?_
  refine j_aload_n C dL_law_424 rfl 0 rfl ?_
  refine j_iload_n C dL_law_425 rfl 3 rfl ?_
  refine j_iconst (v := 1) C dL_law_426 (by decide) ?_
  refine j_iadd C dL_law_427 ?_
  refine j_sld C X i1 dL_law_428 ?_
  refine j_aload_n C dL_law_429 rfl 0 rfl ?_
  refine j_iload_n C dL_law_430 rfl 3 rfl ?_
  refine j_iconst (v := 2) C dL_law_431 (by decide) ?_
  refine j_iadd C dL_law_432 ?_
  refine j_sld C X i2 dL_law_433 ?_
  refine j_callL (As := [.int (xs (x3 + 1).toNatClampNeg), .int (xs (x3 + 2).toNatClampNeg)]) (rest := []) C (qX10_lasts e1) w3_129 w3_126 w3_127 w3_128 w1_1 wd_X10_lasts ⟨by decide, by decide⟩ 0 rfl rfl rfl (Nat.le_of_ble_eq_true rfl) dL_law_434 ⟨rfl, rfl⟩ ⟨by show _ ≤ 600000; omega, by show _ ≤ 7302250; omega⟩ rfl ?_
  refine j_aload_n C dL_law_437 rfl 2 rfl ?_
  refine j_aload_n C dL_law_438 rfl 0 rfl ?_
  refine j_iload_n C dL_law_439 rfl 3 rfl ?_
  refine j_iconst (v := 1) C dL_law_440 (by decide) ?_
  refine j_iadd C dL_law_441 ?_
  refine j_sld C X i1 dL_law_442 ?_
  refine j_aload_n C dL_law_443 rfl 0 rfl ?_
  refine j_iload_n C dL_law_444 rfl 3 rfl ?_
  refine j_iconst (v := 2) C dL_law_445 (by decide) ?_
  refine j_iadd C dL_law_446 ?_
  refine j_sld C X i2 dL_law_447 ?_
  refine j_callR (As := [.int (xs (x3 + 1).toNatClampNeg), .int (xs (x3 + 2).toNatClampNeg)]) (rest := [.int r]) C K2 (cM_lasts em) w5_145 w5_142 w5_143 w5_144 w1_11 wd_X11_lasts ⟨by decide, by decide⟩ 0 rfl rfl rfl (Nat.le_of_ble_eq_true rfl) dL_law_448 ⟨rfl, rfl⟩ ⟨by show _ ≤ 600000; omega, by show _ ≤ 7302250; omega⟩ rfl ?_
  refine j_icmp_eq (tgt := 1220) C dL_law_451 (by decide) (fun _ => ?_) (fun hq => absurd rfl hq)
  exact J.widen (cs' := (cs.1 + 3, cs.2 + 19)) (by show cs.1 ≤ cs.1 + 3; omega) (by show cs.2 ≤ cs.2 + 19; omega) (KK _ _ _ hI2)
set_option maxRecDepth 100000 in
set_option maxHeartbeats 8000000 in
theorem lc_soonest {l : Launch} {D : va_G} {cI cO cR : ClassId} {q q2 : Nat → Nat} {t0 o bs L : Nat} {xs : Nat → Int32} {G : Gx} {Inv : USt → BSt → MSt → Prop} {cs : Nat × Nat} {x3 : Int32} {u : USt} {b : BSt} {v : MSt} (C : jC l room_1 D (tX cI cO cR) G cL_law 4 RL) (X : jXs bs L xs G) (E : jX0 t0 G) (K2 : jKs D [(cI, .int)] G) (hcs : cs.1 + 3 ≤ 600000 ∧ cs.2 + 19 ≤ 7302250) (i1 : vp_in (x3 + 1) L) (i2 : vp_in (x3 + 2) L) (i3 : vp_in (x3 + 3) L) (i4 : vp_in (x3 + 4) L) (i5 : vp_in (x3 + 5) L) (i6 : vp_in (x3 + 6) L) (hI : Inv u b v) (hp : Pu_soonest Inv) (KK : ∀ (u : USt) (b : BSt) (v : MSt), Inv u b v → J l room_1 D G (cs.1 + 3, cs.2 + 19) (wX cI cO cR q t0 u b ++ wM cI o q2 v) [(0, .ref bs), (1, .ref (q 0)), (2, .ref o), (3, .int x3)] [] 1220) : J l room_1 D G cs (wX cI cO cR q t0 u b ++ wM cI o q2 v) [(0, .ref bs), (1, .ref (q 0)), (2, .ref o), (3, .int x3)] [] 456 := by
  obtain ⟨r, u1, v1, e1, em, hI2⟩ := hp u b v (xs (x3 + 1).toNatClampNeg) (xs (x3 + 2).toNatClampNeg) (xs (x3 + 3).toNatClampNeg) (xs (x3 + 4).toNatClampNeg) (xs (x3 + 5).toNatClampNeg) hI
  refine j_aload_n C dL_law_456 rfl 1 rfl ?_
  refine j_aload_n C dL_law_457 rfl 0 rfl ?_
  refine j_iload_n C dL_law_458 rfl 3 rfl ?_
  refine j_iconst (v := 1) C dL_law_459 (by decide) ?_
  refine j_iadd C dL_law_460 ?_
  refine j_sld C X i1 dL_law_461 ?_
  refine j_aload_n C dL_law_462 rfl 0 rfl ?_
  refine j_iload_n C dL_law_463 rfl 3 rfl ?_
  refine j_iconst (v := 2) C dL_law_464 (by decide) ?_
  refine j_iadd C dL_law_465 ?_
  refine j_sld C X i2 dL_law_466 ?_
  refine j_aload_n C dL_law_467 rfl 0 rfl ?_
  refine j_iload_n C dL_law_468 rfl 3 rfl ?_
  refine j_iconst (v := 3) C dL_law_469 (by decide) ?_
  refine j_iadd C dL_law_470 ?_
  refine j_sld C X i3 dL_law_471 ?_
  refine j_aload_n C dL_law_472 rfl 0 rfl ?_
  refine j_iload_n C dL_law_473 rfl 3 rfl ?_
  refine j_iconst (v := 4) C dL_law_474 (by decide) ?_
  refine j_iadd C dL_law_475 ?_
  refine j_sld C X i4 dL_law_476 ?_
  refine j_aload_n C dL_law_477 rfl 0 rfl ?_
  refine j_iload_n C dL_law_478 rfl 3 rfl ?_
  refine j_iconst (v := 5) C dL_law_479 (by decide) ?_
  refine j_iadd C dL_law_480 ?_
  refine j_sld C X i5 dL_law_481 ?_
  refine j_callL (As := [.int (xs (x3 + 1).toNatClampNeg), .int (xs (x3 + 2).toNatClampNeg), .int (xs (x3 + 3).toNatClampNeg), .int (xs (x3 + 4).toNatClampNeg), .int (xs (x3 + 5).toNatClampNeg)]) (rest := []) C (qX10_soonest e1) w3_143 w3_140 w3_141 w3_142 w1_1 wd_X10_soonest ⟨by decide, by decide⟩ 0 rfl rfl rfl (Nat.le_of_ble_eq_true rfl) dL_law_482 ⟨rfl, rfl⟩ ⟨by show _ ≤ 600000; omega, by show _ ≤ 7302250; omega⟩ rfl ?_
  refine j_aload_n C dL_law_485 rfl 2 rfl ?_
  refine j_aload_n C dL_law_486 rfl 0 rfl ?_
  refine j_iload_n C dL_law_487 rfl 3 rfl ?_
  refine j_iconst (v := 1) C dL_law_488 (by decide) ?_
  refine j_iadd C dL_law_489 ?_
  refine j_sld C X i1 dL_law_490 ?_
  refine j_aload_n C dL_law_491 rfl 0 rfl ?_
  refine j_iload_n C dL_law_492 rfl 3 rfl ?_
  refine j_iconst (v := 2) C dL_law_493 (by decide) ?_
  refine j_iadd C dL_law_494 ?_
  refine j_sld C X i2 dL_law_495 ?_
  refine j_aload_n C dL_law_496 rfl 0 rfl ?_
  refine j_iload_n C dL_law_497 rfl 3 rfl ?_
  refine j_iconst (v := 3) C dL_law_498 (by decide) ?_
  refine j_iadd C dL_law_499 ?_
  refine j_sld C X i3 dL_law_500 ?_
  refine j_aload_n C dL_law_501 rfl 0 rfl ?_
  refine j_iload_n C dL_law_502 rfl 3 rfl ?_
  refine j_iconst (v := 4) C dL_law_503 (by decide) ?_
  refine j_iadd C dL_law_504 ?_
  refine j_sld C X i4 dL_law_505 ?_
  refine j_aload_n C dL_law_506 rfl 0 rfl ?_
  refine j_iload_n C dL_law_507 rfl 3 rfl ?_
  refine j_iconst (v := 5) C dL_law_508 (by decide) ?_
  refine j_iadd C dL_law_509 ?_
  refine j_sld C X i5 dL_law_510 ?_
  refine j_callR (As := [.int (xs (x3 + 1).toNatClampNeg), .int (xs (x3 + 2).toNatClampNeg), .int (xs (x3 + 3).toNatClampNeg), .int (xs (x3 + 4).toNatClampNeg), .int (xs (x3 + 5).toNatClampNeg)]) (rest := [.int r]) C K2 (cM_soonest em) w5_153 w5_150 w5_151 w5_152 w1_11 wd_X11_soonest ⟨by decide, by decide⟩ 0 rfl rfl rfl (Nat.le_of_ble_eq_true rfl) dL_law_511 ⟨rfl, rfl⟩ ⟨by show _ ≤ 600000; omega, by show _ ≤ 7302250; omega⟩ rfl ?_
  refine j_icmp_eq (tgt := 1220) C dL_law_514 (by decide) (fun _ => ?_) (fun hq => absurd rfl hq)
  exact J.widen (cs' := (cs.1 + 3, cs.2 + 19)) (by show cs.1 ≤ cs.1 + 3; omega) (by show cs.2 ≤ cs.2 + 19; omega) (KK _ _ _ hI2)
set_option maxRecDepth 100000 in
set_option maxHeartbeats 8000000 in
theorem lc_last {l : Launch} {D : va_G} {cI cO cR : ClassId} {q q2 : Nat → Nat} {t0 o bs L : Nat} {xs : Nat → Int32} {G : Gx} {Inv : USt → BSt → MSt → Prop} {cs : Nat × Nat} {x3 : Int32} {u : USt} {b : BSt} {v : MSt} (C : jC l room_1 D (tX cI cO cR) G cL_law 4 RL) (X : jXs bs L xs G) (E : jX0 t0 G) (K2 : jKs D [(cI, .int)] G) (hcs : cs.1 + 3 ≤ 600000 ∧ cs.2 + 19 ≤ 7302250) (i1 : vp_in (x3 + 1) L) (i2 : vp_in (x3 + 2) L) (i3 : vp_in (x3 + 3) L) (i4 : vp_in (x3 + 4) L) (i5 : vp_in (x3 + 5) L) (i6 : vp_in (x3 + 6) L) (hI : Inv u b v) (hp : Pu_last Inv) (KK : ∀ (u : USt) (b : BSt) (v : MSt), Inv u b v → J l room_1 D G (cs.1 + 3, cs.2 + 19) (wX cI cO cR q t0 u b ++ wM cI o q2 v) [(0, .ref bs), (1, .ref (q 0)), (2, .ref o), (3, .int x3)] [] 1220) : J l room_1 D G cs (wX cI cO cR q t0 u b ++ wM cI o q2 v) [(0, .ref bs), (1, .ref (q 0)), (2, .ref o), (3, .int x3)] [] 519 := by
  obtain ⟨r, u1, v1, e1, em, hI2⟩ := hp u b v (xs (x3 + 1).toNatClampNeg) (xs (x3 + 2).toNatClampNeg) (xs (x3 + 3).toNatClampNeg) (xs (x3 + 4).toNatClampNeg) (xs (x3 + 5).toNatClampNeg) (xs (x3 + 6).toNatClampNeg) hI
  refine j_aload_n C dL_law_519 rfl 1 rfl ?_
  refine j_aload_n C dL_law_520 rfl 0 rfl ?_
  refine j_iload_n C dL_law_521 rfl 3 rfl ?_
  refine j_iconst (v := 1) C dL_law_522 (by decide) ?_
  refine j_iadd C dL_law_523 ?_
  refine j_sld C X i1 dL_law_524 ?_
  refine j_aload_n C dL_law_525 rfl 0 rfl ?_
  refine j_iload_n C dL_law_526 rfl 3 rfl ?_
  refine j_iconst (v := 2) C dL_law_527 (by decide) ?_
  refine j_iadd C dL_law_528 ?_
  refine j_sld C X i2 dL_law_529 ?_
  refine j_aload_n C dL_law_530 rfl 0 rfl ?_
  refine j_iload_n C dL_law_531 rfl 3 rfl ?_
  refine j_iconst (v := 3) C dL_law_532 (by decide) ?_
  refine j_iadd C dL_law_533 ?_
  refine j_sld C X i3 dL_law_534 ?_
  refine j_aload_n C dL_law_535 rfl 0 rfl ?_
  refine j_iload_n C dL_law_536 rfl 3 rfl ?_
  refine j_iconst (v := 4) C dL_law_537 (by decide) ?_
  refine j_iadd C dL_law_538 ?_
  refine j_sld C X i4 dL_law_539 ?_
  refine j_aload_n C dL_law_540 rfl 0 rfl ?_
  refine j_iload_n C dL_law_541 rfl 3 rfl ?_
  refine j_iconst (v := 5) C dL_law_542 (by decide) ?_
  refine j_iadd C dL_law_543 ?_
  refine j_sld C X i5 dL_law_544 ?_
  refine j_aload_n C dL_law_545 rfl 0 rfl ?_
  refine j_iload_n C dL_law_546 rfl 3 rfl ?_
  refine j_bipush (v := 6) C dL_law_547 (by decide) ?_
  refine j_iadd C dL_law_549 ?_
  refine j_sld C X i6 dL_law_550 ?_
  refine j_callL (As := [.int (xs (x3 + 1).toNatClampNeg), .int (xs (x3 + 2).toNatClampNeg), .int (xs (x3 + 3).toNatClampNeg), .int (xs (x3 + 4).toNatClampNeg), .int (xs (x3 + 5).toNatClampNeg), .int (xs (x3 + 6).toNatClampNeg)]) (rest := []) C (qX10_last e1) w3_196 w3_193 w3_194 w3_195 w1_1 wd_X10_last ⟨by decide, by decide⟩ 0 rfl rfl rfl (Nat.le_of_ble_eq_true rfl) dL_law_551 ⟨rfl, rfl⟩ ⟨by show _ ≤ 600000; omega, by show _ ≤ 7302250; omega⟩ rfl ?_
  refine j_aload_n C dL_law_554 rfl 2 rfl ?_
  refine j_aload_n C dL_law_555 rfl 0 rfl ?_
  refine j_iload_n C dL_law_556 rfl 3 rfl ?_
  refine j_iconst (v := 1) C dL_law_557 (by decide) ?_
  refine j_iadd C dL_law_558 ?_
  refine j_sld C X i1 dL_law_559 ?_
  refine j_aload_n C dL_law_560 rfl 0 rfl ?_
  refine j_iload_n C dL_law_561 rfl 3 rfl ?_
  refine j_iconst (v := 2) C dL_law_562 (by decide) ?_
  refine j_iadd C dL_law_563 ?_
  refine j_sld C X i2 dL_law_564 ?_
  refine j_aload_n C dL_law_565 rfl 0 rfl ?_
  refine j_iload_n C dL_law_566 rfl 3 rfl ?_
  refine j_iconst (v := 3) C dL_law_567 (by decide) ?_
  refine j_iadd C dL_law_568 ?_
  refine j_sld C X i3 dL_law_569 ?_
  refine j_aload_n C dL_law_570 rfl 0 rfl ?_
  refine j_iload_n C dL_law_571 rfl 3 rfl ?_
  refine j_iconst (v := 4) C dL_law_572 (by decide) ?_
  refine j_iadd C dL_law_573 ?_
  refine j_sld C X i4 dL_law_574 ?_
  refine j_aload_n C dL_law_575 rfl 0 rfl ?_
  refine j_iload_n C dL_law_576 rfl 3 rfl ?_
  refine j_iconst (v := 5) C dL_law_577 (by decide) ?_
  refine j_iadd C dL_law_578 ?_
  refine j_sld C X i5 dL_law_579 ?_
  refine j_aload_n C dL_law_580 rfl 0 rfl ?_
  refine j_iload_n C dL_law_581 rfl 3 rfl ?_
  refine j_bipush (v := 6) C dL_law_582 (by decide) ?_
  refine j_iadd C dL_law_584 ?_
  refine j_sld C X i6 dL_law_585 ?_
  refine j_callR (As := [.int (xs (x3 + 1).toNatClampNeg), .int (xs (x3 + 2).toNatClampNeg), .int (xs (x3 + 3).toNatClampNeg), .int (xs (x3 + 4).toNatClampNeg), .int (xs (x3 + 5).toNatClampNeg), .int (xs (x3 + 6).toNatClampNeg)]) (rest := [.int r]) C K2 (cM_last em) w5_180 w5_177 w5_178 w5_179 w1_11 wd_X11_last ⟨by decide, by decide⟩ 0 rfl rfl rfl (Nat.le_of_ble_eq_true rfl) dL_law_586 ⟨rfl, rfl⟩ ⟨by show _ ≤ 600000; omega, by show _ ≤ 7302250; omega⟩ rfl ?_
  refine j_icmp_eq (tgt := 1220) C dL_law_589 (by decide) (fun _ => ?_) (fun hq => absurd rfl hq)
  exact J.widen (cs' := (cs.1 + 3, cs.2 + 19)) (by show cs.1 ≤ cs.1 + 3; omega) (by show cs.2 ≤ cs.2 + 19; omega) (KK _ _ _ hI2)
set_option maxRecDepth 100000 in
set_option maxHeartbeats 8000000 in
theorem lc_again {l : Launch} {D : va_G} {cI cO cR : ClassId} {q q2 : Nat → Nat} {t0 o bs L : Nat} {xs : Nat → Int32} {G : Gx} {Inv : USt → BSt → MSt → Prop} {cs : Nat × Nat} {x3 : Int32} {u : USt} {b : BSt} {v : MSt} (C : jC l room_1 D (tX cI cO cR) G cL_law 4 RL) (X : jXs bs L xs G) (E : jX0 t0 G) (K2 : jKs D [(cI, .int)] G) (hcs : cs.1 + 3 ≤ 600000 ∧ cs.2 + 19 ≤ 7302250) (i1 : vp_in (x3 + 1) L) (i2 : vp_in (x3 + 2) L) (i3 : vp_in (x3 + 3) L) (i4 : vp_in (x3 + 4) L) (i5 : vp_in (x3 + 5) L) (i6 : vp_in (x3 + 6) L) (hI : Inv u b v) (hp : Pu_again Inv) (KK : ∀ (u : USt) (b : BSt) (v : MSt), Inv u b v → J l room_1 D G (cs.1 + 3, cs.2 + 19) (wX cI cO cR q t0 u b ++ wM cI o q2 v) [(0, .ref bs), (1, .ref (q 0)), (2, .ref o), (3, .int x3)] [] 1220) : J l room_1 D G cs (wX cI cO cR q t0 u b ++ wM cI o q2 v) [(0, .ref bs), (1, .ref (q 0)), (2, .ref o), (3, .int x3)] [] 594 := by
  obtain ⟨r, e1, em, hI2⟩ := hp u b v  hI
  refine j_aload_n C dL_law_594 rfl 1 rfl ?_
  refine j_callL (As := []) (rest := []) C (qX10_again e1) w3_205 w3_202 w3_203 w3_204 w1_1 wd_X10_again ⟨by decide, by decide⟩ 0 rfl rfl rfl (Nat.le_of_ble_eq_true rfl) dL_law_595 ⟨rfl, rfl⟩ ⟨by show _ ≤ 600000; omega, by show _ ≤ 7302250; omega⟩ rfl ?_
  refine j_aload_n C dL_law_598 rfl 2 rfl ?_
  refine j_callR (As := []) (rest := [.long r]) C K2 (cM_again em) w5_184 w5_181 w5_182 w5_183 w1_11 wd_X11_again ⟨by decide, by decide⟩ 0 rfl rfl rfl (Nat.le_of_ble_eq_true rfl) dL_law_599 ⟨rfl, rfl⟩ ⟨by show _ ≤ 600000; omega, by show _ ≤ 7302250; omega⟩ rfl ?_
  refine j_lcmp C dL_law_602 ?_
  refine j_if_eq (tgt := 1220) C dL_law_603 (by decide) (fun _ => ?_) (fun hq => absurd (lg_cmp_self r) hq)
  exact J.widen (cs' := (cs.1 + 3, cs.2 + 19)) (by show cs.1 ≤ cs.1 + 3; omega) (by show cs.2 ≤ cs.2 + 19; omega) (KK _ _ _ hI2)
set_option maxRecDepth 100000 in
set_option maxHeartbeats 8000000 in
theorem lc_cut {l : Launch} {D : va_G} {cI cO cR : ClassId} {q q2 : Nat → Nat} {t0 o bs L : Nat} {xs : Nat → Int32} {G : Gx} {Inv : USt → BSt → MSt → Prop} {cs : Nat × Nat} {x3 : Int32} {u : USt} {b : BSt} {v : MSt} (C : jC l room_1 D (tX cI cO cR) G cL_law 4 RL) (X : jXs bs L xs G) (E : jX0 t0 G) (K2 : jKs D [(cI, .int)] G) (hcs : cs.1 + 3 ≤ 600000 ∧ cs.2 + 19 ≤ 7302250) (i1 : vp_in (x3 + 1) L) (i2 : vp_in (x3 + 2) L) (i3 : vp_in (x3 + 3) L) (i4 : vp_in (x3 + 4) L) (i5 : vp_in (x3 + 5) L) (i6 : vp_in (x3 + 6) L) (hI : Inv u b v) (hp : Pu_cut Inv) (KK : ∀ (u : USt) (b : BSt) (v : MSt), Inv u b v → J l room_1 D G (cs.1 + 3, cs.2 + 19) (wX cI cO cR q t0 u b ++ wM cI o q2 v) [(0, .ref bs), (1, .ref (q 0)), (2, .ref o), (3, .int x3)] [] 1220) : J l room_1 D G cs (wX cI cO cR q t0 u b ++ wM cI o q2 v) [(0, .ref bs), (1, .ref (q 0)), (2, .ref o), (3, .int x3)] [] 608 := by
  obtain ⟨r, e1, em, hI2⟩ := hp u b v (xs (x3 + 1).toNatClampNeg) (xs (x3 + 2).toNatClampNeg) (xs (x3 + 3).toNatClampNeg) hI
  refine j_aload_n C dL_law_608 rfl 1 rfl ?_
  refine j_aload_n C dL_law_609 rfl 0 rfl ?_
  refine j_iload_n C dL_law_610 rfl 3 rfl ?_
  refine j_iconst (v := 1) C dL_law_611 (by decide) ?_
  refine j_iadd C dL_law_612 ?_
  refine j_sld C X i1 dL_law_613 ?_
  refine j_aload_n C dL_law_614 rfl 0 rfl ?_
  refine j_iload_n C dL_law_615 rfl 3 rfl ?_
  refine j_iconst (v := 2) C dL_law_616 (by decide) ?_
  refine j_iadd C dL_law_617 ?_
  refine j_sld C X i2 dL_law_618 ?_
  refine j_aload_n C dL_law_619 rfl 0 rfl ?_
  refine j_iload_n C dL_law_620 rfl 3 rfl ?_
  refine j_iconst (v := 3) C dL_law_621 (by decide) ?_
  refine j_iadd C dL_law_622 ?_
  refine j_sld C X i3 dL_law_623 ?_
  refine j_callL (As := [.int (xs (x3 + 1).toNatClampNeg), .int (xs (x3 + 2).toNatClampNeg), .int (xs (x3 + 3).toNatClampNeg)]) (rest := []) C (qX10_cut e1) w3_212 w3_209 w3_210 w3_211 w1_1 wd_X10_cut ⟨by decide, by decide⟩ 0 rfl rfl rfl (Nat.le_of_ble_eq_true rfl) dL_law_624 ⟨rfl, rfl⟩ ⟨by show _ ≤ 600000; omega, by show _ ≤ 7302250; omega⟩ rfl ?_
  refine j_aload_n C dL_law_627 rfl 2 rfl ?_
  refine j_aload_n C dL_law_628 rfl 0 rfl ?_
  refine j_iload_n C dL_law_629 rfl 3 rfl ?_
  refine j_iconst (v := 1) C dL_law_630 (by decide) ?_
  refine j_iadd C dL_law_631 ?_
  refine j_sld C X i1 dL_law_632 ?_
  refine j_aload_n C dL_law_633 rfl 0 rfl ?_
  refine j_iload_n C dL_law_634 rfl 3 rfl ?_
  refine j_iconst (v := 2) C dL_law_635 (by decide) ?_
  refine j_iadd C dL_law_636 ?_
  refine j_sld C X i2 dL_law_637 ?_
  refine j_aload_n C dL_law_638 rfl 0 rfl ?_
  refine j_iload_n C dL_law_639 rfl 3 rfl ?_
  refine j_iconst (v := 3) C dL_law_640 (by decide) ?_
  refine j_iadd C dL_law_641 ?_
  refine j_sld C X i3 dL_law_642 ?_
  refine j_callR (As := [.int (xs (x3 + 1).toNatClampNeg), .int (xs (x3 + 2).toNatClampNeg), .int (xs (x3 + 3).toNatClampNeg)]) (rest := [.int r]) C K2 (cM_cut em) w5_195 w5_192 w5_193 w5_194 w1_11 wd_X11_cut ⟨by decide, by decide⟩ 0 rfl rfl rfl (Nat.le_of_ble_eq_true rfl) dL_law_643 ⟨rfl, rfl⟩ ⟨by show _ ≤ 600000; omega, by show _ ≤ 7302250; omega⟩ rfl ?_
  refine j_icmp_eq (tgt := 1220) C dL_law_646 (by decide) (fun _ => ?_) (fun hq => absurd rfl hq)
  exact J.widen (cs' := (cs.1 + 3, cs.2 + 19)) (by show cs.1 ≤ cs.1 + 3; omega) (by show cs.2 ≤ cs.2 + 19; omega) (KK _ _ _ hI2)
set_option maxRecDepth 100000 in
set_option maxHeartbeats 8000000 in
theorem lc_worst {l : Launch} {D : va_G} {cI cO cR : ClassId} {q q2 : Nat → Nat} {t0 o bs L : Nat} {xs : Nat → Int32} {G : Gx} {Inv : USt → BSt → MSt → Prop} {cs : Nat × Nat} {x3 : Int32} {u : USt} {b : BSt} {v : MSt} (C : jC l room_1 D (tX cI cO cR) G cL_law 4 RL) (X : jXs bs L xs G) (E : jX0 t0 G) (K2 : jKs D [(cI, .int)] G) (hcs : cs.1 + 3 ≤ 600000 ∧ cs.2 + 19 ≤ 7302250) (i1 : vp_in (x3 + 1) L) (i2 : vp_in (x3 + 2) L) (i3 : vp_in (x3 + 3) L) (i4 : vp_in (x3 + 4) L) (i5 : vp_in (x3 + 5) L) (i6 : vp_in (x3 + 6) L) (hI : Inv u b v) (hp : Pu_worst Inv) (KK : ∀ (u : USt) (b : BSt) (v : MSt), Inv u b v → J l room_1 D G (cs.1 + 3, cs.2 + 19) (wX cI cO cR q t0 u b ++ wM cI o q2 v) [(0, .ref bs), (1, .ref (q 0)), (2, .ref o), (3, .int x3)] [] 1220) : J l room_1 D G cs (wX cI cO cR q t0 u b ++ wM cI o q2 v) [(0, .ref bs), (1, .ref (q 0)), (2, .ref o), (3, .int x3)] [] 651 := by
  obtain ⟨r, u1, v1, e1, em, hI2⟩ := hp u b v (xs (x3 + 1).toNatClampNeg) (xs (x3 + 2).toNatClampNeg) (xs (x3 + 3).toNatClampNeg) (xs (x3 + 4).toNatClampNeg) (xs (x3 + 5).toNatClampNeg) hI
  refine j_aload_n C dL_law_651 rfl 1 rfl ?_
  refine j_aload_n C dL_law_652 rfl 0 rfl ?_
  refine j_iload_n C dL_law_653 rfl 3 rfl ?_
  refine j_iconst (v := 1) C dL_law_654 (by decide) ?_
  refine j_iadd C dL_law_655 ?_
  refine j_sld C X i1 dL_law_656 ?_
  refine j_aload_n C dL_law_657 rfl 0 rfl ?_
  refine j_iload_n C dL_law_658 rfl 3 rfl ?_
  refine j_iconst (v := 2) C dL_law_659 (by decide) ?_
  refine j_iadd C dL_law_660 ?_
  refine j_sld C X i2 dL_law_661 ?_
  refine j_aload_n C dL_law_662 rfl 0 rfl ?_
  refine j_iload_n C dL_law_663 rfl 3 rfl ?_
  refine j_iconst (v := 3) C dL_law_664 (by decide) ?_
  refine j_iadd C dL_law_665 ?_
  refine j_sld C X i3 dL_law_666 ?_
  refine j_aload_n C dL_law_667 rfl 0 rfl ?_
  refine j_iload_n C dL_law_668 rfl 3 rfl ?_
  refine j_iconst (v := 4) C dL_law_669 (by decide) ?_
  refine j_iadd C dL_law_670 ?_
  refine j_sld C X i4 dL_law_671 ?_
  refine j_aload_n C dL_law_672 rfl 0 rfl ?_
  refine j_iload_n C dL_law_673 rfl 3 rfl ?_
  refine j_iconst (v := 5) C dL_law_674 (by decide) ?_
  refine j_iadd C dL_law_675 ?_
  refine j_sld C X i5 dL_law_676 ?_
  refine j_callL (As := [.int (xs (x3 + 1).toNatClampNeg), .int (xs (x3 + 2).toNatClampNeg), .int (xs (x3 + 3).toNatClampNeg), .int (xs (x3 + 4).toNatClampNeg), .int (xs (x3 + 5).toNatClampNeg)]) (rest := []) C (qX10_worst e1) w3_224 w3_221 w3_222 w3_223 w1_1 wd_X10_worst ⟨by decide, by decide⟩ 0 rfl rfl rfl (Nat.le_of_ble_eq_true rfl) dL_law_677 ⟨rfl, rfl⟩ ⟨by show _ ≤ 600000; omega, by show _ ≤ 7302250; omega⟩ rfl ?_
  refine j_aload_n C dL_law_680 rfl 2 rfl ?_
  refine j_aload_n C dL_law_681 rfl 0 rfl ?_
  refine j_iload_n C dL_law_682 rfl 3 rfl ?_
  refine j_iconst (v := 1) C dL_law_683 (by decide) ?_
  refine j_iadd C dL_law_684 ?_
  refine j_sld C X i1 dL_law_685 ?_
  refine j_aload_n C dL_law_686 rfl 0 rfl ?_
  refine j_iload_n C dL_law_687 rfl 3 rfl ?_
  refine j_iconst (v := 2) C dL_law_688 (by decide) ?_
  refine j_iadd C dL_law_689 ?_
  refine j_sld C X i2 dL_law_690 ?_
  refine j_aload_n C dL_law_691 rfl 0 rfl ?_
  refine j_iload_n C dL_law_692 rfl 3 rfl ?_
  refine j_iconst (v := 3) C dL_law_693 (by decide) ?_
  refine j_iadd C dL_law_694 ?_
  refine j_sld C X i3 dL_law_695 ?_
  refine j_aload_n C dL_law_696 rfl 0 rfl ?_
  refine j_iload_n C dL_law_697 rfl 3 rfl ?_
  refine j_iconst (v := 4) C dL_law_698 (by decide) ?_
  refine j_iadd C dL_law_699 ?_
  refine j_sld C X i4 dL_law_700 ?_
  refine j_aload_n C dL_law_701 rfl 0 rfl ?_
  refine j_iload_n C dL_law_702 rfl 3 rfl ?_
  refine j_iconst (v := 5) C dL_law_703 (by decide) ?_
  refine j_iadd C dL_law_704 ?_
  refine j_sld C X i5 dL_law_705 ?_
  refine j_callR (As := [.int (xs (x3 + 1).toNatClampNeg), .int (xs (x3 + 2).toNatClampNeg), .int (xs (x3 + 3).toNatClampNeg), .int (xs (x3 + 4).toNatClampNeg), .int (xs (x3 + 5).toNatClampNeg)]) (rest := [.int r]) C K2 (cM_worst em) w5_204 w5_201 w5_202 w5_203 w1_11 wd_X11_worst ⟨by decide, by decide⟩ 0 rfl rfl rfl (Nat.le_of_ble_eq_true rfl) dL_law_706 ⟨rfl, rfl⟩ ⟨by show _ ≤ 600000; omega, by show _ ≤ 7302250; omega⟩ rfl ?_
  refine j_icmp_eq (tgt := 1220) C dL_law_709 (by decide) (fun _ => ?_) (fun hq => absurd rfl hq)
  exact J.widen (cs' := (cs.1 + 3, cs.2 + 19)) (by show cs.1 ≤ cs.1 + 3; omega) (by show cs.2 ≤ cs.2 + 19; omega) (KK _ _ _ hI2)
set_option maxRecDepth 100000 in
set_option maxHeartbeats 8000000 in
theorem lc_mean {l : Launch} {D : va_G} {cI cO cR : ClassId} {q q2 : Nat → Nat} {t0 o bs L : Nat} {xs : Nat → Int32} {G : Gx} {Inv : USt → BSt → MSt → Prop} {cs : Nat × Nat} {x3 : Int32} {u : USt} {b : BSt} {v : MSt} (C : jC l room_1 D (tX cI cO cR) G cL_law 4 RL) (X : jXs bs L xs G) (E : jX0 t0 G) (K2 : jKs D [(cI, .int)] G) (hcs : cs.1 + 3 ≤ 600000 ∧ cs.2 + 19 ≤ 7302250) (i1 : vp_in (x3 + 1) L) (i2 : vp_in (x3 + 2) L) (i3 : vp_in (x3 + 3) L) (i4 : vp_in (x3 + 4) L) (i5 : vp_in (x3 + 5) L) (i6 : vp_in (x3 + 6) L) (hI : Inv u b v) (hp : Pu_mean Inv) (KK : ∀ (u : USt) (b : BSt) (v : MSt), Inv u b v → J l room_1 D G (cs.1 + 3, cs.2 + 19) (wX cI cO cR q t0 u b ++ wM cI o q2 v) [(0, .ref bs), (1, .ref (q 0)), (2, .ref o), (3, .int x3)] [] 1220) : J l room_1 D G cs (wX cI cO cR q t0 u b ++ wM cI o q2 v) [(0, .ref bs), (1, .ref (q 0)), (2, .ref o), (3, .int x3)] [] 714 := by
  obtain ⟨r, u1, v1, e1, em, hI2⟩ := hp u b v (xs (x3 + 1).toNatClampNeg) (xs (x3 + 2).toNatClampNeg) (xs (x3 + 3).toNatClampNeg) (xs (x3 + 4).toNatClampNeg) (xs (x3 + 5).toNatClampNeg) (xs (x3 + 6).toNatClampNeg) hI
  refine j_aload_n C dL_law_714 rfl 1 rfl ?_
  refine j_aload_n C dL_law_715 rfl 0 rfl ?_
  refine j_iload_n C dL_law_716 rfl 3 rfl ?_
  refine j_iconst (v := 1) C dL_law_717 (by decide) ?_
  refine j_iadd C dL_law_718 ?_
  refine j_sld C X i1 dL_law_719 ?_
  refine j_aload_n C dL_law_720 rfl 0 rfl ?_
  refine j_iload_n C dL_law_721 rfl 3 rfl ?_
  refine j_iconst (v := 2) C dL_law_722 (by decide) ?_
  refine j_iadd C dL_law_723 ?_
  refine j_sld C X i2 dL_law_724 ?_
  refine j_aload_n C dL_law_725 rfl 0 rfl ?_
  refine j_iload_n C dL_law_726 rfl 3 rfl ?_
  refine j_iconst (v := 3) C dL_law_727 (by decide) ?_
  refine j_iadd C dL_law_728 ?_
  refine j_sld C X i3 dL_law_729 ?_
  refine j_aload_n C dL_law_730 rfl 0 rfl ?_
  refine j_iload_n C dL_law_731 rfl 3 rfl ?_
  refine j_iconst (v := 4) C dL_law_732 (by decide) ?_
  refine j_iadd C dL_law_733 ?_
  refine j_sld C X i4 dL_law_734 ?_
  refine j_aload_n C dL_law_735 rfl 0 rfl ?_
  refine j_iload_n C dL_law_736 rfl 3 rfl ?_
  refine j_iconst (v := 5) C dL_law_737 (by decide) ?_
  refine j_iadd C dL_law_738 ?_
  refine j_sld C X i5 dL_law_739 ?_
  refine j_aload_n C dL_law_740 rfl 0 rfl ?_
  refine j_iload_n C dL_law_741 rfl 3 rfl ?_
  refine j_bipush (v := 6) C dL_law_742 (by decide) ?_
  refine j_iadd C dL_law_744 ?_
  refine j_sld C X i6 dL_law_745 ?_
  refine j_callL (As := [.int (xs (x3 + 1).toNatClampNeg), .int (xs (x3 + 2).toNatClampNeg), .int (xs (x3 + 3).toNatClampNeg), .int (xs (x3 + 4).toNatClampNeg), .int (xs (x3 + 5).toNatClampNeg), .int (xs (x3 + 6).toNatClampNeg)]) (rest := []) C (qX10_mean e1) w4_3 w4_0 w4_1 w4_2 w1_1 wd_X10_mean ⟨by decide, by decide⟩ 0 rfl rfl rfl (Nat.le_of_ble_eq_true rfl) dL_law_746 ⟨rfl, rfl⟩ ⟨by show _ ≤ 600000; omega, by show _ ≤ 7302250; omega⟩ rfl ?_
  refine j_aload_n C dL_law_749 rfl 2 rfl ?_
  refine j_aload_n C dL_law_750 rfl 0 rfl ?_
  refine j_iload_n C dL_law_751 rfl 3 rfl ?_
  refine j_iconst (v := 1) C dL_law_752 (by decide) ?_
  refine j_iadd C dL_law_753 ?_
  refine j_sld C X i1 dL_law_754 ?_
  refine j_aload_n C dL_law_755 rfl 0 rfl ?_
  refine j_iload_n C dL_law_756 rfl 3 rfl ?_
  refine j_iconst (v := 2) C dL_law_757 (by decide) ?_
  refine j_iadd C dL_law_758 ?_
  refine j_sld C X i2 dL_law_759 ?_
  refine j_aload_n C dL_law_760 rfl 0 rfl ?_
  refine j_iload_n C dL_law_761 rfl 3 rfl ?_
  refine j_iconst (v := 3) C dL_law_762 (by decide) ?_
  refine j_iadd C dL_law_763 ?_
  refine j_sld C X i3 dL_law_764 ?_
  refine j_aload_n C dL_law_765 rfl 0 rfl ?_
  refine j_iload_n C dL_law_766 rfl 3 rfl ?_
  refine j_iconst (v := 4) C dL_law_767 (by decide) ?_
  refine j_iadd C dL_law_768 ?_
  refine j_sld C X i4 dL_law_769 ?_
  refine j_aload_n C dL_law_770 rfl 0 rfl ?_
  refine j_iload_n C dL_law_771 rfl 3 rfl ?_
  refine j_iconst (v := 5) C dL_law_772 (by decide) ?_
  refine j_iadd C dL_law_773 ?_
  refine j_sld C X i5 dL_law_774 ?_
  refine j_aload_n C dL_law_775 rfl 0 rfl ?_
  refine j_iload_n C dL_law_776 rfl 3 rfl ?_
  refine j_bipush (v := 6) C dL_law_777 (by decide) ?_
  refine j_iadd C dL_law_779 ?_
  refine j_sld C X i6 dL_law_780 ?_
  refine j_callR (As := [.int (xs (x3 + 1).toNatClampNeg), .int (xs (x3 + 2).toNatClampNeg), .int (xs (x3 + 3).toNatClampNeg), .int (xs (x3 + 4).toNatClampNeg), .int (xs (x3 + 5).toNatClampNeg), .int (xs (x3 + 6).toNatClampNeg)]) (rest := [.int r]) C K2 (cM_mean em) w5_213 w5_210 w5_211 w5_212 w1_11 wd_X11_mean ⟨by decide, by decide⟩ 0 rfl rfl rfl (Nat.le_of_ble_eq_true rfl) dL_law_781 ⟨rfl, rfl⟩ ⟨by show _ ≤ 600000; omega, by show _ ≤ 7302250; omega⟩ rfl ?_
  refine j_icmp_eq (tgt := 1220) C dL_law_784 (by decide) (fun _ => ?_) (fun hq => absurd rfl hq)
  exact J.widen (cs' := (cs.1 + 3, cs.2 + 19)) (by show cs.1 ≤ cs.1 + 3; omega) (by show cs.2 ≤ cs.2 + 19; omega) (KK _ _ _ hI2)
set_option maxRecDepth 100000 in
set_option maxHeartbeats 8000000 in
theorem lc_set {l : Launch} {D : va_G} {cI cO cR : ClassId} {q q2 : Nat → Nat} {t0 o bs L : Nat} {xs : Nat → Int32} {G : Gx} {Inv : USt → BSt → MSt → Prop} {cs : Nat × Nat} {x3 : Int32} {u : USt} {b : BSt} {v : MSt} (C : jC l room_1 D (tX cI cO cR) G cL_law 4 RL) (X : jXs bs L xs G) (E : jX0 t0 G) (K2 : jKs D [(cI, .int)] G) (hcs : cs.1 + 3 ≤ 600000 ∧ cs.2 + 19 ≤ 7302250) (i1 : vp_in (x3 + 1) L) (i2 : vp_in (x3 + 2) L) (i3 : vp_in (x3 + 3) L) (i4 : vp_in (x3 + 4) L) (i5 : vp_in (x3 + 5) L) (i6 : vp_in (x3 + 6) L) (hI : Inv u b v) (hp : Pu_set Inv) (KK : ∀ (u : USt) (b : BSt) (v : MSt), Inv u b v → J l room_1 D G (cs.1 + 3, cs.2 + 19) (wX cI cO cR q t0 u b ++ wM cI o q2 v) [(0, .ref bs), (1, .ref (q 0)), (2, .ref o), (3, .int x3)] [] 1220) : J l room_1 D G cs (wX cI cO cR q t0 u b ++ wM cI o q2 v) [(0, .ref bs), (1, .ref (q 0)), (2, .ref o), (3, .int x3)] [] 789 := by
  obtain ⟨r, u1, v1, e1, em, hI2⟩ := hp u b v (xs (x3 + 1).toNatClampNeg) (xs (x3 + 2).toNatClampNeg) (xs (x3 + 3).toNatClampNeg) hI
  refine j_aload_n C dL_law_789 rfl 1 rfl ?_
  refine j_aload_n C dL_law_790 rfl 0 rfl ?_
  refine j_iload_n C dL_law_791 rfl 3 rfl ?_
  refine j_iconst (v := 1) C dL_law_792 (by decide) ?_
  refine j_iadd C dL_law_793 ?_
  refine j_sld C X i1 dL_law_794 ?_
  refine j_aload_n C dL_law_795 rfl 0 rfl ?_
  refine j_iload_n C dL_law_796 rfl 3 rfl ?_
  refine j_iconst (v := 2) C dL_law_797 (by decide) ?_
  refine j_iadd C dL_law_798 ?_
  refine j_sld C X i2 dL_law_799 ?_
  refine j_aload_n C dL_law_800 rfl 0 rfl ?_
  refine j_iload_n C dL_law_801 rfl 3 rfl ?_
  refine j_iconst (v := 3) C dL_law_802 (by decide) ?_
  refine j_iadd C dL_law_803 ?_
  refine j_sld C X i3 dL_law_804 ?_
  refine j_callL (As := [.int (xs (x3 + 1).toNatClampNeg), .int (xs (x3 + 2).toNatClampNeg), .int (xs (x3 + 3).toNatClampNeg)]) (rest := []) C (qX10_set e1) w4_11 w4_8 w4_9 w4_10 w1_1 wd_X10_set ⟨by decide, by decide⟩ 0 rfl rfl rfl (Nat.le_of_ble_eq_true rfl) dL_law_805 ⟨rfl, rfl⟩ ⟨by show _ ≤ 600000; omega, by show _ ≤ 7302250; omega⟩ rfl ?_
  refine j_aload_n C dL_law_808 rfl 2 rfl ?_
  refine j_aload_n C dL_law_809 rfl 0 rfl ?_
  refine j_iload_n C dL_law_810 rfl 3 rfl ?_
  refine j_iconst (v := 1) C dL_law_811 (by decide) ?_
  refine j_iadd C dL_law_812 ?_
  refine j_sld C X i1 dL_law_813 ?_
  refine j_aload_n C dL_law_814 rfl 0 rfl ?_
  refine j_iload_n C dL_law_815 rfl 3 rfl ?_
  refine j_iconst (v := 2) C dL_law_816 (by decide) ?_
  refine j_iadd C dL_law_817 ?_
  refine j_sld C X i2 dL_law_818 ?_
  refine j_aload_n C dL_law_819 rfl 0 rfl ?_
  refine j_iload_n C dL_law_820 rfl 3 rfl ?_
  refine j_iconst (v := 3) C dL_law_821 (by decide) ?_
  refine j_iadd C dL_law_822 ?_
  refine j_sld C X i3 dL_law_823 ?_
  refine j_callR (As := [.int (xs (x3 + 1).toNatClampNeg), .int (xs (x3 + 2).toNatClampNeg), .int (xs (x3 + 3).toNatClampNeg)]) (rest := [.int r]) C K2 (cM_set em) w5_217 w5_214 w5_215 w5_216 w1_11 wd_X11_set ⟨by decide, by decide⟩ 0 rfl rfl rfl (Nat.le_of_ble_eq_true rfl) dL_law_824 ⟨rfl, rfl⟩ ⟨by show _ ≤ 600000; omega, by show _ ≤ 7302250; omega⟩ rfl ?_
  refine j_icmp_eq (tgt := 1220) C dL_law_827 (by decide) (fun _ => ?_) (fun hq => absurd rfl hq)
  exact J.widen (cs' := (cs.1 + 3, cs.2 + 19)) (by show cs.1 ≤ cs.1 + 3; omega) (by show cs.2 ≤ cs.2 + 19; omega) (KK _ _ _ hI2)
set_option maxRecDepth 100000 in
set_option maxHeartbeats 8000000 in
theorem lc_crowd {l : Launch} {D : va_G} {cI cO cR : ClassId} {q q2 : Nat → Nat} {t0 o bs L : Nat} {xs : Nat → Int32} {G : Gx} {Inv : USt → BSt → MSt → Prop} {cs : Nat × Nat} {x3 : Int32} {u : USt} {b : BSt} {v : MSt} (C : jC l room_1 D (tX cI cO cR) G cL_law 4 RL) (X : jXs bs L xs G) (E : jX0 t0 G) (K2 : jKs D [(cI, .int)] G) (hcs : cs.1 + 3 ≤ 600000 ∧ cs.2 + 19 ≤ 7302250) (i1 : vp_in (x3 + 1) L) (i2 : vp_in (x3 + 2) L) (i3 : vp_in (x3 + 3) L) (i4 : vp_in (x3 + 4) L) (i5 : vp_in (x3 + 5) L) (i6 : vp_in (x3 + 6) L) (hI : Inv u b v) (hp : Pu_crowd Inv) (KK : ∀ (u : USt) (b : BSt) (v : MSt), Inv u b v → J l room_1 D G (cs.1 + 3, cs.2 + 19) (wX cI cO cR q t0 u b ++ wM cI o q2 v) [(0, .ref bs), (1, .ref (q 0)), (2, .ref o), (3, .int x3)] [] 1220) : J l room_1 D G cs (wX cI cO cR q t0 u b ++ wM cI o q2 v) [(0, .ref bs), (1, .ref (q 0)), (2, .ref o), (3, .int x3)] [] 832 := by
  obtain ⟨r, u1, v1, e1, em, hI2⟩ := hp u b v (xs (x3 + 1).toNatClampNeg) (xs (x3 + 2).toNatClampNeg) (xs (x3 + 3).toNatClampNeg) (xs (x3 + 4).toNatClampNeg) (xs (x3 + 5).toNatClampNeg) (xs (x3 + 6).toNatClampNeg) hI
  refine j_aload_n C dL_law_832 rfl 1 rfl ?_
  refine j_aload_n C dL_law_833 rfl 0 rfl ?_
  refine j_iload_n C dL_law_834 rfl 3 rfl ?_
  refine j_iconst (v := 1) C dL_law_835 (by decide) ?_
  refine j_iadd C dL_law_836 ?_
  refine j_sld C X i1 dL_law_837 ?_
  refine j_aload_n C dL_law_838 rfl 0 rfl ?_
  refine j_iload_n C dL_law_839 rfl 3 rfl ?_
  refine j_iconst (v := 2) C dL_law_840 (by decide) ?_
  refine j_iadd C dL_law_841 ?_
  refine j_sld C X i2 dL_law_842 ?_
  refine j_aload_n C dL_law_843 rfl 0 rfl ?_
  refine j_iload_n C dL_law_844 rfl 3 rfl ?_
  refine j_iconst (v := 3) C dL_law_845 (by decide) ?_
  refine j_iadd C dL_law_846 ?_
  refine j_sld C X i3 dL_law_847 ?_
  refine j_aload_n C dL_law_848 rfl 0 rfl ?_
  refine j_iload_n C dL_law_849 rfl 3 rfl ?_
  refine j_iconst (v := 4) C dL_law_850 (by decide) ?_
  refine j_iadd C dL_law_851 ?_
  refine j_sld C X i4 dL_law_852 ?_
  refine j_aload_n C dL_law_853 rfl 0 rfl ?_
  refine j_iload_n C dL_law_854 rfl 3 rfl ?_
  refine j_iconst (v := 5) C dL_law_855 (by decide) ?_
  refine j_iadd C dL_law_856 ?_
  refine j_sld C X i5 dL_law_857 ?_
  refine j_aload_n C dL_law_858 rfl 0 rfl ?_
  refine j_iload_n C dL_law_859 rfl 3 rfl ?_
  refine j_bipush (v := 6) C dL_law_860 (by decide) ?_
  refine j_iadd C dL_law_862 ?_
  refine j_sld C X i6 dL_law_863 ?_
  refine j_callL (As := [.int (xs (x3 + 1).toNatClampNeg), .int (xs (x3 + 2).toNatClampNeg), .int (xs (x3 + 3).toNatClampNeg), .int (xs (x3 + 4).toNatClampNeg), .int (xs (x3 + 5).toNatClampNeg), .int (xs (x3 + 6).toNatClampNeg)]) (rest := []) C (qX10_crowd e1) w4_15 w4_12 w4_13 w4_14 w1_1 wd_X10_crowd ⟨by decide, by decide⟩ 0 rfl rfl rfl (Nat.le_of_ble_eq_true rfl) dL_law_864 ⟨rfl, rfl⟩ ⟨by show _ ≤ 600000; omega, by show _ ≤ 7302250; omega⟩ rfl ?_
  refine j_aload_n C dL_law_867 rfl 2 rfl ?_
  refine j_aload_n C dL_law_868 rfl 0 rfl ?_
  refine j_iload_n C dL_law_869 rfl 3 rfl ?_
  refine j_iconst (v := 1) C dL_law_870 (by decide) ?_
  refine j_iadd C dL_law_871 ?_
  refine j_sld C X i1 dL_law_872 ?_
  refine j_aload_n C dL_law_873 rfl 0 rfl ?_
  refine j_iload_n C dL_law_874 rfl 3 rfl ?_
  refine j_iconst (v := 2) C dL_law_875 (by decide) ?_
  refine j_iadd C dL_law_876 ?_
  refine j_sld C X i2 dL_law_877 ?_
  refine j_aload_n C dL_law_878 rfl 0 rfl ?_
  refine j_iload_n C dL_law_879 rfl 3 rfl ?_
  refine j_iconst (v := 3) C dL_law_880 (by decide) ?_
  refine j_iadd C dL_law_881 ?_
  refine j_sld C X i3 dL_law_882 ?_
  refine j_aload_n C dL_law_883 rfl 0 rfl ?_
  refine j_iload_n C dL_law_884 rfl 3 rfl ?_
  refine j_iconst (v := 4) C dL_law_885 (by decide) ?_
  refine j_iadd C dL_law_886 ?_
  refine j_sld C X i4 dL_law_887 ?_
  refine j_aload_n C dL_law_888 rfl 0 rfl ?_
  refine j_iload_n C dL_law_889 rfl 3 rfl ?_
  refine j_iconst (v := 5) C dL_law_890 (by decide) ?_
  refine j_iadd C dL_law_891 ?_
  refine j_sld C X i5 dL_law_892 ?_
  refine j_aload_n C dL_law_893 rfl 0 rfl ?_
  refine j_iload_n C dL_law_894 rfl 3 rfl ?_
  refine j_bipush (v := 6) C dL_law_895 (by decide) ?_
  refine j_iadd C dL_law_897 ?_
  refine j_sld C X i6 dL_law_898 ?_
  refine j_callR (As := [.int (xs (x3 + 1).toNatClampNeg), .int (xs (x3 + 2).toNatClampNeg), .int (xs (x3 + 3).toNatClampNeg), .int (xs (x3 + 4).toNatClampNeg), .int (xs (x3 + 5).toNatClampNeg), .int (xs (x3 + 6).toNatClampNeg)]) (rest := [.int r]) C K2 (cM_crowd em) w5_221 w5_218 w5_219 w5_220 w1_11 wd_X11_crowd ⟨by decide, by decide⟩ 0 rfl rfl rfl (Nat.le_of_ble_eq_true rfl) dL_law_899 ⟨rfl, rfl⟩ ⟨by show _ ≤ 600000; omega, by show _ ≤ 7302250; omega⟩ rfl ?_
  refine j_icmp_eq (tgt := 1220) C dL_law_902 (by decide) (fun _ => ?_) (fun hq => absurd rfl hq)
  exact J.widen (cs' := (cs.1 + 3, cs.2 + 19)) (by show cs.1 ≤ cs.1 + 3; omega) (by show cs.2 ≤ cs.2 + 19; omega) (KK _ _ _ hI2)
set_option maxRecDepth 100000 in
set_option maxHeartbeats 8000000 in
theorem lc_stranded {l : Launch} {D : va_G} {cI cO cR : ClassId} {q q2 : Nat → Nat} {t0 o bs L : Nat} {xs : Nat → Int32} {G : Gx} {Inv : USt → BSt → MSt → Prop} {cs : Nat × Nat} {x3 : Int32} {u : USt} {b : BSt} {v : MSt} (C : jC l room_1 D (tX cI cO cR) G cL_law 4 RL) (X : jXs bs L xs G) (E : jX0 t0 G) (K2 : jKs D [(cI, .int)] G) (hcs : cs.1 + 3 ≤ 600000 ∧ cs.2 + 19 ≤ 7302250) (i1 : vp_in (x3 + 1) L) (i2 : vp_in (x3 + 2) L) (i3 : vp_in (x3 + 3) L) (i4 : vp_in (x3 + 4) L) (i5 : vp_in (x3 + 5) L) (i6 : vp_in (x3 + 6) L) (hI : Inv u b v) (hp : Pu_stranded Inv) (KK : ∀ (u : USt) (b : BSt) (v : MSt), Inv u b v → J l room_1 D G (cs.1 + 3, cs.2 + 19) (wX cI cO cR q t0 u b ++ wM cI o q2 v) [(0, .ref bs), (1, .ref (q 0)), (2, .ref o), (3, .int x3)] [] 1220) : J l room_1 D G cs (wX cI cO cR q t0 u b ++ wM cI o q2 v) [(0, .ref bs), (1, .ref (q 0)), (2, .ref o), (3, .int x3)] [] 907 := by
  obtain ⟨r, u1, v1, e1, em, hI2⟩ := hp u b v (xs (x3 + 1).toNatClampNeg) (xs (x3 + 2).toNatClampNeg) (xs (x3 + 3).toNatClampNeg) hI
  refine j_aload_n C dL_law_907 rfl 1 rfl ?_
  refine j_aload_n C dL_law_908 rfl 0 rfl ?_
  refine j_iload_n C dL_law_909 rfl 3 rfl ?_
  refine j_iconst (v := 1) C dL_law_910 (by decide) ?_
  refine j_iadd C dL_law_911 ?_
  refine j_sld C X i1 dL_law_912 ?_
  refine j_aload_n C dL_law_913 rfl 0 rfl ?_
  refine j_iload_n C dL_law_914 rfl 3 rfl ?_
  refine j_iconst (v := 2) C dL_law_915 (by decide) ?_
  refine j_iadd C dL_law_916 ?_
  refine j_sld C X i2 dL_law_917 ?_
  refine j_aload_n C dL_law_918 rfl 0 rfl ?_
  refine j_iload_n C dL_law_919 rfl 3 rfl ?_
  refine j_iconst (v := 3) C dL_law_920 (by decide) ?_
  refine j_iadd C dL_law_921 ?_
  refine j_sld C X i3 dL_law_922 ?_
  refine j_callL (As := [.int (xs (x3 + 1).toNatClampNeg), .int (xs (x3 + 2).toNatClampNeg), .int (xs (x3 + 3).toNatClampNeg)]) (rest := []) C (qX10_stranded e1) w4_66 w4_63 w4_64 w4_65 w1_1 wd_X10_stranded ⟨by decide, by decide⟩ 0 rfl rfl rfl (Nat.le_of_ble_eq_true rfl) dL_law_923 ⟨rfl, rfl⟩ ⟨by show _ ≤ 600000; omega, by show _ ≤ 7302250; omega⟩ rfl ?_
  refine j_aload_n C dL_law_926 rfl 2 rfl ?_
  refine j_aload_n C dL_law_927 rfl 0 rfl ?_
  refine j_iload_n C dL_law_928 rfl 3 rfl ?_
  refine j_iconst (v := 1) C dL_law_929 (by decide) ?_
  refine j_iadd C dL_law_930 ?_
  refine j_sld C X i1 dL_law_931 ?_
  refine j_aload_n C dL_law_932 rfl 0 rfl ?_
  refine j_iload_n C dL_law_933 rfl 3 rfl ?_
  refine j_iconst (v := 2) C dL_law_934 (by decide) ?_
  refine j_iadd C dL_law_935 ?_
  refine j_sld C X i2 dL_law_936 ?_
  refine j_aload_n C dL_law_937 rfl 0 rfl ?_
  refine j_iload_n C dL_law_938 rfl 3 rfl ?_
  refine j_iconst (v := 3) C dL_law_939 (by decide) ?_
  refine j_iadd C dL_law_940 ?_
  refine j_sld C X i3 dL_law_941 ?_
  refine j_callR (As := [.int (xs (x3 + 1).toNatClampNeg), .int (xs (x3 + 2).toNatClampNeg), .int (xs (x3 + 3).toNatClampNeg)]) (rest := [.int r]) C K2 (cM_stranded em) w6_1 w5_238 w5_239 w6_0 w1_11 wd_X11_stranded ⟨by decide, by decide⟩ 0 rfl rfl rfl (Nat.le_of_ble_eq_true rfl) dL_law_942 ⟨rfl, rfl⟩ ⟨by show _ ≤ 600000; omega, by show _ ≤ 7302250; omega⟩ rfl ?_
  refine j_icmp_eq (tgt := 1220) C dL_law_945 (by decide) (fun _ => ?_) (fun hq => absurd rfl hq)
  exact J.widen (cs' := (cs.1 + 3, cs.2 + 19)) (by show cs.1 ≤ cs.1 + 3; omega) (by show cs.2 ≤ cs.2 + 19; omega) (KK _ _ _ hI2)
set_option maxRecDepth 100000 in
set_option maxHeartbeats 8000000 in
theorem lc_meeting {l : Launch} {D : va_G} {cI cO cR : ClassId} {q q2 : Nat → Nat} {t0 o bs L : Nat} {xs : Nat → Int32} {G : Gx} {Inv : USt → BSt → MSt → Prop} {cs : Nat × Nat} {x3 : Int32} {u : USt} {b : BSt} {v : MSt} (C : jC l room_1 D (tX cI cO cR) G cL_law 4 RL) (X : jXs bs L xs G) (E : jX0 t0 G) (K2 : jKs D [(cI, .int)] G) (hcs : cs.1 + 3 ≤ 600000 ∧ cs.2 + 19 ≤ 7302250) (i1 : vp_in (x3 + 1) L) (i2 : vp_in (x3 + 2) L) (i3 : vp_in (x3 + 3) L) (i4 : vp_in (x3 + 4) L) (i5 : vp_in (x3 + 5) L) (i6 : vp_in (x3 + 6) L) (hI : Inv u b v) (hp : Pu_meeting Inv) (KK : ∀ (u : USt) (b : BSt) (v : MSt), Inv u b v → J l room_1 D G (cs.1 + 3, cs.2 + 19) (wX cI cO cR q t0 u b ++ wM cI o q2 v) [(0, .ref bs), (1, .ref (q 0)), (2, .ref o), (3, .int x3)] [] 1220) : J l room_1 D G cs (wX cI cO cR q t0 u b ++ wM cI o q2 v) [(0, .ref bs), (1, .ref (q 0)), (2, .ref o), (3, .int x3)] [] 950 := by
  obtain ⟨r, u1, v1, e1, em, hI2⟩ := hp u b v (xs (x3 + 1).toNatClampNeg) (xs (x3 + 2).toNatClampNeg) (xs (x3 + 3).toNatClampNeg) (xs (x3 + 4).toNatClampNeg) (xs (x3 + 5).toNatClampNeg) (xs (x3 + 6).toNatClampNeg) hI
  refine j_aload_n C dL_law_950 rfl 1 rfl ?_
  refine j_aload_n C dL_law_951 rfl 0 rfl ?_
  refine j_iload_n C dL_law_952 rfl 3 rfl ?_
  refine j_iconst (v := 1) C dL_law_953 (by decide) ?_
  refine j_iadd C dL_law_954 ?_
  refine j_sld C X i1 dL_law_955 ?_
  refine j_aload_n C dL_law_956 rfl 0 rfl ?_
  refine j_iload_n C dL_law_957 rfl 3 rfl ?_
  refine j_iconst (v := 2) C dL_law_958 (by decide) ?_
  refine j_iadd C dL_law_959 ?_
  refine j_sld C X i2 dL_law_960 ?_
  refine j_aload_n C dL_law_961 rfl 0 rfl ?_
  refine j_iload_n C dL_law_962 rfl 3 rfl ?_
  refine j_iconst (v := 3) C dL_law_963 (by decide) ?_
  refine j_iadd C dL_law_964 ?_
  refine j_sld C X i3 dL_law_965 ?_
  refine j_aload_n C dL_law_966 rfl 0 rfl ?_
  refine j_iload_n C dL_law_967 rfl 3 rfl ?_
  refine j_iconst (v := 4) C dL_law_968 (by decide) ?_
  refine j_iadd C dL_law_969 ?_
  refine j_sld C X i4 dL_law_970 ?_
  refine j_aload_n C dL_law_971 rfl 0 rfl ?_
  refine j_iload_n C dL_law_972 rfl 3 rfl ?_
  refine j_iconst (v := 5) C dL_law_973 (by decide) ?_
  refine j_iadd C dL_law_974 ?_
  refine j_sld C X i5 dL_law_975 ?_
  refine j_aload_n C dL_law_976 rfl 0 rfl ?_
  refine j_iload_n C dL_law_977 rfl 3 rfl ?_
  refine j_bipush (v := 6) C dL_law_978 (by decide) ?_
  refine j_iadd C dL_law_980 ?_
  refine j_sld C X i6 dL_law_981 ?_
  refine j_callL (As := [.int (xs (x3 + 1).toNatClampNeg), .int (xs (x3 + 2).toNatClampNeg), .int (xs (x3 + 3).toNatClampNeg), .int (xs (x3 + 4).toNatClampNeg), .int (xs (x3 + 5).toNatClampNeg), .int (xs (x3 + 6).toNatClampNeg)]) (rest := []) C (qX10_meeting e1) w4_71 w4_68 w4_69 w4_70 w1_1 wd_X10_meeting ⟨by decide, by decide⟩ 0 rfl rfl rfl (Nat.le_of_ble_eq_true rfl) dL_law_982 ⟨rfl, rfl⟩ ⟨by show _ ≤ 600000; omega, by show _ ≤ 7302250; omega⟩ rfl ?_
  refine j_aload_n C dL_law_985 rfl 2 rfl ?_
  refine j_aload_n C dL_law_986 rfl 0 rfl ?_
  refine j_iload_n C dL_law_987 rfl 3 rfl ?_
  refine j_iconst (v := 1) C dL_law_988 (by decide) ?_
  refine j_iadd C dL_law_989 ?_
  refine j_sld C X i1 dL_law_990 ?_
  refine j_aload_n C dL_law_991 rfl 0 rfl ?_
  refine j_iload_n C dL_law_992 rfl 3 rfl ?_
  refine j_iconst (v := 2) C dL_law_993 (by decide) ?_
  refine j_iadd C dL_law_994 ?_
  refine j_sld C X i2 dL_law_995 ?_
  refine j_aload_n C dL_law_996 rfl 0 rfl ?_
  refine j_iload_n C dL_law_997 rfl 3 rfl ?_
  refine j_iconst (v := 3) C dL_law_998 (by decide) ?_
  refine j_iadd C dL_law_999 ?_
  refine j_sld C X i3 dL_law_1000 ?_
  refine j_aload_n C dL_law_1001 rfl 0 rfl ?_
  refine j_iload_n C dL_law_1002 rfl 3 rfl ?_
  refine j_iconst (v := 4) C dL_law_1003 (by decide) ?_
  refine j_iadd C dL_law_1004 ?_
  refine j_sld C X i4 dL_law_1005 ?_
  refine j_aload_n C dL_law_1006 rfl 0 rfl ?_
  refine j_iload_n C dL_law_1007 rfl 3 rfl ?_
  refine j_iconst (v := 5) C dL_law_1008 (by decide) ?_
  refine j_iadd C dL_law_1009 ?_
  refine j_sld C X i5 dL_law_1010 ?_
  refine j_aload_n C dL_law_1011 rfl 0 rfl ?_
  refine j_iload_n C dL_law_1012 rfl 3 rfl ?_
  refine j_bipush (v := 6) C dL_law_1013 (by decide) ?_
  refine j_iadd C dL_law_1015 ?_
  refine j_sld C X i6 dL_law_1016 ?_
  refine j_callR (As := [.int (xs (x3 + 1).toNatClampNeg), .int (xs (x3 + 2).toNatClampNeg), .int (xs (x3 + 3).toNatClampNeg), .int (xs (x3 + 4).toNatClampNeg), .int (xs (x3 + 5).toNatClampNeg), .int (xs (x3 + 6).toNatClampNeg)]) (rest := [.int r]) C K2 (cM_meeting em) w6_5 w6_2 w6_3 w6_4 w1_11 wd_X11_meeting ⟨by decide, by decide⟩ 0 rfl rfl rfl (Nat.le_of_ble_eq_true rfl) dL_law_1017 ⟨rfl, rfl⟩ ⟨by show _ ≤ 600000; omega, by show _ ≤ 7302250; omega⟩ rfl ?_
  refine j_icmp_eq (tgt := 1220) C dL_law_1020 (by decide) (fun _ => ?_) (fun hq => absurd rfl hq)
  exact J.widen (cs' := (cs.1 + 3, cs.2 + 19)) (by show cs.1 ≤ cs.1 + 3; omega) (by show cs.2 ≤ cs.2 + 19; omega) (KK _ _ _ hI2)
set_option maxRecDepth 100000 in
set_option maxHeartbeats 8000000 in
theorem lc_note {l : Launch} {D : va_G} {cI cO cR : ClassId} {q q2 : Nat → Nat} {t0 o bs L : Nat} {xs : Nat → Int32} {G : Gx} {Inv : USt → BSt → MSt → Prop} {cs : Nat × Nat} {x3 : Int32} {u : USt} {b : BSt} {v : MSt} (C : jC l room_1 D (tX cI cO cR) G cL_law 4 RL) (X : jXs bs L xs G) (E : jX0 t0 G) (K2 : jKs D [(cI, .int)] G) (hcs : cs.1 + 3 ≤ 600000 ∧ cs.2 + 19 ≤ 7302250) (i1 : vp_in (x3 + 1) L) (i2 : vp_in (x3 + 2) L) (i3 : vp_in (x3 + 3) L) (i4 : vp_in (x3 + 4) L) (i5 : vp_in (x3 + 5) L) (i6 : vp_in (x3 + 6) L) (hI : Inv u b v) (hp : Pu_note Inv) (KK : ∀ (u : USt) (b : BSt) (v : MSt), Inv u b v → J l room_1 D G (cs.1 + 3, cs.2 + 19) (wX cI cO cR q t0 u b ++ wM cI o q2 v) [(0, .ref bs), (1, .ref (q 0)), (2, .ref o), (3, .int x3)] [] 1220) : J l room_1 D G cs (wX cI cO cR q t0 u b ++ wM cI o q2 v) [(0, .ref bs), (1, .ref (q 0)), (2, .ref o), (3, .int x3)] [] 1025 := by
  obtain ⟨r, u1, v1, e1, em, hI2⟩ := hp u b v (xs (x3 + 1).toNatClampNeg) (xs (x3 + 2).toNatClampNeg) (xs (x3 + 3).toNatClampNeg) (xs (x3 + 4).toNatClampNeg) hI
  refine j_aload_n C dL_law_1025 rfl 1 rfl ?_
  refine j_aload_n C dL_law_1026 rfl 0 rfl ?_
  refine j_iload_n C dL_law_1027 rfl 3 rfl ?_
  refine j_iconst (v := 1) C dL_law_1028 (by decide) ?_
  refine j_iadd C dL_law_1029 ?_
  refine j_sld C X i1 dL_law_1030 ?_
  refine j_aload_n C dL_law_1031 rfl 0 rfl ?_
  refine j_iload_n C dL_law_1032 rfl 3 rfl ?_
  refine j_iconst (v := 2) C dL_law_1033 (by decide) ?_
  refine j_iadd C dL_law_1034 ?_
  refine j_sld C X i2 dL_law_1035 ?_
  refine j_aload_n C dL_law_1036 rfl 0 rfl ?_
  refine j_iload_n C dL_law_1037 rfl 3 rfl ?_
  refine j_iconst (v := 3) C dL_law_1038 (by decide) ?_
  refine j_iadd C dL_law_1039 ?_
  refine j_sld C X i3 dL_law_1040 ?_
  refine j_aload_n C dL_law_1041 rfl 0 rfl ?_
  refine j_iload_n C dL_law_1042 rfl 3 rfl ?_
  refine j_iconst (v := 4) C dL_law_1043 (by decide) ?_
  refine j_iadd C dL_law_1044 ?_
  refine j_sld C X i4 dL_law_1045 ?_
  refine j_callL (As := [.int (xs (x3 + 1).toNatClampNeg), .int (xs (x3 + 2).toNatClampNeg), .int (xs (x3 + 3).toNatClampNeg), .int (xs (x3 + 4).toNatClampNeg)]) (rest := []) C (qX10_note e1) w4_76 w4_73 w4_74 w4_75 w1_1 wd_X10_note ⟨by decide, by decide⟩ 0 rfl rfl rfl (Nat.le_of_ble_eq_true rfl) dL_law_1046 ⟨rfl, rfl⟩ ⟨by show _ ≤ 600000; omega, by show _ ≤ 7302250; omega⟩ rfl ?_
  refine j_aload_n C dL_law_1049 rfl 2 rfl ?_
  refine j_aload_n C dL_law_1050 rfl 0 rfl ?_
  refine j_iload_n C dL_law_1051 rfl 3 rfl ?_
  refine j_iconst (v := 1) C dL_law_1052 (by decide) ?_
  refine j_iadd C dL_law_1053 ?_
  refine j_sld C X i1 dL_law_1054 ?_
  refine j_aload_n C dL_law_1055 rfl 0 rfl ?_
  refine j_iload_n C dL_law_1056 rfl 3 rfl ?_
  refine j_iconst (v := 2) C dL_law_1057 (by decide) ?_
  refine j_iadd C dL_law_1058 ?_
  refine j_sld C X i2 dL_law_1059 ?_
  refine j_aload_n C dL_law_1060 rfl 0 rfl ?_
  refine j_iload_n C dL_law_1061 rfl 3 rfl ?_
  refine j_iconst (v := 3) C dL_law_1062 (by decide) ?_
  refine j_iadd C dL_law_1063 ?_
  refine j_sld C X i3 dL_law_1064 ?_
  refine j_aload_n C dL_law_1065 rfl 0 rfl ?_
  refine j_iload_n C dL_law_1066 rfl 3 rfl ?_
  refine j_iconst (v := 4) C dL_law_1067 (by decide) ?_
  refine j_iadd C dL_law_1068 ?_
  refine j_sld C X i4 dL_law_1069 ?_
  refine j_callR (As := [.int (xs (x3 + 1).toNatClampNeg), .int (xs (x3 + 2).toNatClampNeg), .int (xs (x3 + 3).toNatClampNeg), .int (xs (x3 + 4).toNatClampNeg)]) (rest := [.int r]) C K2 (cM_note em) w6_9 w6_6 w6_7 w6_8 w1_11 wd_X11_note ⟨by decide, by decide⟩ 0 rfl rfl rfl (Nat.le_of_ble_eq_true rfl) dL_law_1070 ⟨rfl, rfl⟩ ⟨by show _ ≤ 600000; omega, by show _ ≤ 7302250; omega⟩ rfl ?_
  refine j_icmp_eq (tgt := 1220) C dL_law_1073 (by decide) (fun _ => ?_) (fun hq => absurd rfl hq)
  exact J.widen (cs' := (cs.1 + 3, cs.2 + 19)) (by show cs.1 ≤ cs.1 + 3; omega) (by show cs.2 ≤ cs.2 + 19; omega) (KK _ _ _ hI2)
set_option maxRecDepth 100000 in
set_option maxHeartbeats 8000000 in
theorem lc_forget {l : Launch} {D : va_G} {cI cO cR : ClassId} {q q2 : Nat → Nat} {t0 o bs L : Nat} {xs : Nat → Int32} {G : Gx} {Inv : USt → BSt → MSt → Prop} {cs : Nat × Nat} {x3 : Int32} {u : USt} {b : BSt} {v : MSt} (C : jC l room_1 D (tX cI cO cR) G cL_law 4 RL) (X : jXs bs L xs G) (E : jX0 t0 G) (K2 : jKs D [(cI, .int)] G) (hcs : cs.1 + 3 ≤ 600000 ∧ cs.2 + 19 ≤ 7302250) (i1 : vp_in (x3 + 1) L) (i2 : vp_in (x3 + 2) L) (i3 : vp_in (x3 + 3) L) (i4 : vp_in (x3 + 4) L) (i5 : vp_in (x3 + 5) L) (i6 : vp_in (x3 + 6) L) (hI : Inv u b v) (hp : Pu_forget Inv) (KK : ∀ (u : USt) (b : BSt) (v : MSt), Inv u b v → J l room_1 D G (cs.1 + 3, cs.2 + 19) (wX cI cO cR q t0 u b ++ wM cI o q2 v) [(0, .ref bs), (1, .ref (q 0)), (2, .ref o), (3, .int x3)] [] 1220) : J l room_1 D G cs (wX cI cO cR q t0 u b ++ wM cI o q2 v) [(0, .ref bs), (1, .ref (q 0)), (2, .ref o), (3, .int x3)] [] 1078 := by
  obtain ⟨r, u1, v1, e1, em, hI2⟩ := hp u b v  hI
  refine j_aload_n C dL_law_1078 rfl 1 rfl ?_
  refine j_callL (As := []) (rest := []) C (qX10_forget e1) w4_89 w4_86 w4_87 w4_88 w1_1 wd_X10_forget ⟨by decide, by decide⟩ 0 rfl rfl rfl (Nat.le_of_ble_eq_true rfl) dL_law_1079 ⟨rfl, rfl⟩ ⟨by show _ ≤ 600000; omega, by show _ ≤ 7302250; omega⟩ rfl ?_
  refine j_aload_n C dL_law_1082 rfl 2 rfl ?_
  refine j_callR (As := []) (rest := [.int r]) C K2 (cM_forget em) w6_14 w6_11 w6_12 w6_13 w1_11 wd_X11_forget ⟨by decide, by decide⟩ 0 rfl rfl rfl (Nat.le_of_ble_eq_true rfl) dL_law_1083 ⟨rfl, rfl⟩ ⟨by show _ ≤ 600000; omega, by show _ ≤ 7302250; omega⟩ rfl ?_
  refine j_icmp_eq (tgt := 1220) C dL_law_1086 (by decide) (fun _ => ?_) (fun hq => absurd rfl hq)
  exact J.widen (cs' := (cs.1 + 3, cs.2 + 19)) (by show cs.1 ≤ cs.1 + 3; omega) (by show cs.2 ≤ cs.2 + 19; omega) (KK _ _ _ hI2)
set_option maxRecDepth 100000 in
set_option maxHeartbeats 8000000 in
theorem lc_lost {l : Launch} {D : va_G} {cI cO cR : ClassId} {q q2 : Nat → Nat} {t0 o bs L : Nat} {xs : Nat → Int32} {G : Gx} {Inv : USt → BSt → MSt → Prop} {cs : Nat × Nat} {x3 : Int32} {u : USt} {b : BSt} {v : MSt} (C : jC l room_1 D (tX cI cO cR) G cL_law 4 RL) (X : jXs bs L xs G) (E : jX0 t0 G) (K2 : jKs D [(cI, .int)] G) (hcs : cs.1 + 3 ≤ 600000 ∧ cs.2 + 19 ≤ 7302250) (i1 : vp_in (x3 + 1) L) (i2 : vp_in (x3 + 2) L) (i3 : vp_in (x3 + 3) L) (i4 : vp_in (x3 + 4) L) (i5 : vp_in (x3 + 5) L) (i6 : vp_in (x3 + 6) L) (hI : Inv u b v) (hp : Pu_lost Inv) (KK : ∀ (u : USt) (b : BSt) (v : MSt), Inv u b v → J l room_1 D G (cs.1 + 3, cs.2 + 19) (wX cI cO cR q t0 u b ++ wM cI o q2 v) [(0, .ref bs), (1, .ref (q 0)), (2, .ref o), (3, .int x3)] [] 1220) : J l room_1 D G cs (wX cI cO cR q t0 u b ++ wM cI o q2 v) [(0, .ref bs), (1, .ref (q 0)), (2, .ref o), (3, .int x3)] [] 1091 := by
  obtain ⟨r, u1, v1, e1, em, hI2⟩ := hp u b v (xs (x3 + 1).toNatClampNeg) hI
  refine j_aload_n C dL_law_1091 rfl 1 rfl ?_
  refine j_aload_n C dL_law_1092 rfl 0 rfl ?_
  refine j_iload_n C dL_law_1093 rfl 3 rfl ?_
  refine j_iconst (v := 1) C dL_law_1094 (by decide) ?_
  refine j_iadd C dL_law_1095 ?_
  refine j_sld C X i1 dL_law_1096 ?_
  refine j_callL (As := [.int (xs (x3 + 1).toNatClampNeg)]) (rest := []) C (qX10_lost e1) w4_97 w4_94 w4_95 w4_96 w1_1 wd_X10_lost ⟨by decide, by decide⟩ 0 rfl rfl rfl (Nat.le_of_ble_eq_true rfl) dL_law_1097 ⟨rfl, rfl⟩ ⟨by show _ ≤ 600000; omega, by show _ ≤ 7302250; omega⟩ rfl ?_
  refine j_aload_n C dL_law_1100 rfl 2 rfl ?_
  refine j_aload_n C dL_law_1101 rfl 0 rfl ?_
  refine j_iload_n C dL_law_1102 rfl 3 rfl ?_
  refine j_iconst (v := 1) C dL_law_1103 (by decide) ?_
  refine j_iadd C dL_law_1104 ?_
  refine j_sld C X i1 dL_law_1105 ?_
  refine j_callR (As := [.int (xs (x3 + 1).toNatClampNeg)]) (rest := [.int r]) C K2 (cM_lost em) w6_18 w6_15 w6_16 w6_17 w1_11 wd_X11_lost ⟨by decide, by decide⟩ 0 rfl rfl rfl (Nat.le_of_ble_eq_true rfl) dL_law_1106 ⟨rfl, rfl⟩ ⟨by show _ ≤ 600000; omega, by show _ ≤ 7302250; omega⟩ rfl ?_
  refine j_icmp_eq (tgt := 1220) C dL_law_1109 (by decide) (fun _ => ?_) (fun hq => absurd rfl hq)
  exact J.widen (cs' := (cs.1 + 3, cs.2 + 19)) (by show cs.1 ≤ cs.1 + 3; omega) (by show cs.2 ≤ cs.2 + 19; omega) (KK _ _ _ hI2)
set_option maxRecDepth 100000 in
set_option maxHeartbeats 8000000 in
theorem lc_worth {l : Launch} {D : va_G} {cI cO cR : ClassId} {q q2 : Nat → Nat} {t0 o bs L : Nat} {xs : Nat → Int32} {G : Gx} {Inv : USt → BSt → MSt → Prop} {cs : Nat × Nat} {x3 : Int32} {u : USt} {b : BSt} {v : MSt} (C : jC l room_1 D (tX cI cO cR) G cL_law 4 RL) (X : jXs bs L xs G) (E : jX0 t0 G) (K2 : jKs D [(cI, .int)] G) (hcs : cs.1 + 3 ≤ 600000 ∧ cs.2 + 19 ≤ 7302250) (i1 : vp_in (x3 + 1) L) (i2 : vp_in (x3 + 2) L) (i3 : vp_in (x3 + 3) L) (i4 : vp_in (x3 + 4) L) (i5 : vp_in (x3 + 5) L) (i6 : vp_in (x3 + 6) L) (hI : Inv u b v) (hp : Pu_worth Inv) (KK : ∀ (u : USt) (b : BSt) (v : MSt), Inv u b v → J l room_1 D G (cs.1 + 3, cs.2 + 19) (wX cI cO cR q t0 u b ++ wM cI o q2 v) [(0, .ref bs), (1, .ref (q 0)), (2, .ref o), (3, .int x3)] [] 1220) : J l room_1 D G cs (wX cI cO cR q t0 u b ++ wM cI o q2 v) [(0, .ref bs), (1, .ref (q 0)), (2, .ref o), (3, .int x3)] [] 1114 := by
  obtain ⟨r, u1, v1, e1, em, hI2⟩ := hp u b v (xs (x3 + 1).toNatClampNeg) (xs (x3 + 2).toNatClampNeg) (xs (x3 + 3).toNatClampNeg) hI
  refine j_aload_n C dL_law_1114 rfl 1 rfl ?_
  refine j_aload_n C dL_law_1115 rfl 0 rfl ?_
  refine j_iload_n C dL_law_1116 rfl 3 rfl ?_
  refine j_iconst (v := 1) C dL_law_1117 (by decide) ?_
  refine j_iadd C dL_law_1118 ?_
  refine j_sld C X i1 dL_law_1119 ?_
  refine j_aload_n C dL_law_1120 rfl 0 rfl ?_
  refine j_iload_n C dL_law_1121 rfl 3 rfl ?_
  refine j_iconst (v := 2) C dL_law_1122 (by decide) ?_
  refine j_iadd C dL_law_1123 ?_
  refine j_sld C X i2 dL_law_1124 ?_
  refine j_aload_n C dL_law_1125 rfl 0 rfl ?_
  refine j_iload_n C dL_law_1126 rfl 3 rfl ?_
  refine j_iconst (v := 3) C dL_law_1127 (by decide) ?_
  refine j_iadd C dL_law_1128 ?_
  refine j_sld C X i3 dL_law_1129 ?_
  refine j_callL (As := [.int (xs (x3 + 1).toNatClampNeg), .int (xs (x3 + 2).toNatClampNeg), .int (xs (x3 + 3).toNatClampNeg)]) (rest := []) C (qX10_worth e1) w4_116 w4_113 w4_114 w4_115 w1_1 wd_X10_worth ⟨by decide, by decide⟩ 0 rfl rfl rfl (Nat.le_of_ble_eq_true rfl) dL_law_1130 ⟨rfl, rfl⟩ ⟨by show _ ≤ 600000; omega, by show _ ≤ 7302250; omega⟩ rfl ?_
  refine j_aload_n C dL_law_1133 rfl 2 rfl ?_
  refine j_aload_n C dL_law_1134 rfl 0 rfl ?_
  refine j_iload_n C dL_law_1135 rfl 3 rfl ?_
  refine j_iconst (v := 1) C dL_law_1136 (by decide) ?_
  refine j_iadd C dL_law_1137 ?_
  refine j_sld C X i1 dL_law_1138 ?_
  refine j_aload_n C dL_law_1139 rfl 0 rfl ?_
  refine j_iload_n C dL_law_1140 rfl 3 rfl ?_
  refine j_iconst (v := 2) C dL_law_1141 (by decide) ?_
  refine j_iadd C dL_law_1142 ?_
  refine j_sld C X i2 dL_law_1143 ?_
  refine j_aload_n C dL_law_1144 rfl 0 rfl ?_
  refine j_iload_n C dL_law_1145 rfl 3 rfl ?_
  refine j_iconst (v := 3) C dL_law_1146 (by decide) ?_
  refine j_iadd C dL_law_1147 ?_
  refine j_sld C X i3 dL_law_1148 ?_
  refine j_callR (As := [.int (xs (x3 + 1).toNatClampNeg), .int (xs (x3 + 2).toNatClampNeg), .int (xs (x3 + 3).toNatClampNeg)]) (rest := [.int r]) C K2 (cM_worth em) w6_26 w6_23 w6_24 w6_25 w1_11 wd_X11_worth ⟨by decide, by decide⟩ 0 rfl rfl rfl (Nat.le_of_ble_eq_true rfl) dL_law_1149 ⟨rfl, rfl⟩ ⟨by show _ ≤ 600000; omega, by show _ ≤ 7302250; omega⟩ rfl ?_
  refine j_icmp_eq (tgt := 1220) C dL_law_1152 (by decide) (fun _ => ?_) (fun hq => absurd rfl hq)
  exact J.widen (cs' := (cs.1 + 3, cs.2 + 19)) (by show cs.1 ≤ cs.1 + 3; omega) (by show cs.2 ≤ cs.2 + 19; omega) (KK _ _ _ hI2)
set_option maxRecDepth 100000 in
set_option maxHeartbeats 8000000 in
theorem lc_image {l : Launch} {D : va_G} {cI cO cR : ClassId} {q q2 : Nat → Nat} {t0 o bs L : Nat} {xs : Nat → Int32} {G : Gx} {Inv : USt → BSt → MSt → Prop} {cs : Nat × Nat} {x3 : Int32} {u : USt} {b : BSt} {v : MSt} (C : jC l room_1 D (tX cI cO cR) G cL_law 4 RL) (X : jXs bs L xs G) (E : jX0 t0 G) (K2 : jKs D [(cI, .int)] G) (hcs : cs.1 + 3 ≤ 600000 ∧ cs.2 + 19 ≤ 7302250) (i1 : vp_in (x3 + 1) L) (i2 : vp_in (x3 + 2) L) (i3 : vp_in (x3 + 3) L) (i4 : vp_in (x3 + 4) L) (i5 : vp_in (x3 + 5) L) (i6 : vp_in (x3 + 6) L) (hI : Inv u b v) (hp : Pu_image Inv) (KK : ∀ (u : USt) (b : BSt) (v : MSt), Inv u b v → J l room_1 D G (cs.1 + 3, cs.2 + 19) (wX cI cO cR q t0 u b ++ wM cI o q2 v) [(0, .ref bs), (1, .ref (q 0)), (2, .ref o), (3, .int x3)] [] 1220) : J l room_1 D G cs (wX cI cO cR q t0 u b ++ wM cI o q2 v) [(0, .ref bs), (1, .ref (q 0)), (2, .ref o), (3, .int x3)] [] 1157 := by
  obtain ⟨r, u1, v1, e1, em, hI2⟩ := hp u b v  hI
  refine j_aload_n C dL_law_1157 rfl 1 rfl ?_
  refine j_callL (As := []) (rest := []) C (qX10_image e1) w4_124 w4_121 w4_122 w4_123 w1_1 wd_X10_image ⟨by decide, by decide⟩ 0 rfl rfl rfl (Nat.le_of_ble_eq_true rfl) dL_law_1158 ⟨rfl, rfl⟩ ⟨by show _ ≤ 600000; omega, by show _ ≤ 7302250; omega⟩ rfl ?_
  refine j_aload_n C dL_law_1161 rfl 2 rfl ?_
  refine j_callR (As := []) (rest := [.int r]) C K2 (cM_image em) w6_34 w6_31 w6_32 w6_33 w1_11 wd_X11_image ⟨by decide, by decide⟩ 0 rfl rfl rfl (Nat.le_of_ble_eq_true rfl) dL_law_1162 ⟨rfl, rfl⟩ ⟨by show _ ≤ 600000; omega, by show _ ≤ 7302250; omega⟩ rfl ?_
  refine j_icmp_eq (tgt := 1220) C dL_law_1165 (by decide) (fun _ => ?_) (fun hq => absurd rfl hq)
  exact J.widen (cs' := (cs.1 + 3, cs.2 + 19)) (by show cs.1 ≤ cs.1 + 3; omega) (by show cs.2 ≤ cs.2 + 19; omega) (KK _ _ _ hI2)
set_option maxRecDepth 100000 in
set_option maxHeartbeats 8000000 in
theorem lc_restore {l : Launch} {D : va_G} {cI cO cR : ClassId} {q q2 : Nat → Nat} {t0 o bs L : Nat} {xs : Nat → Int32} {G : Gx} {Inv : USt → BSt → MSt → Prop} {cs : Nat × Nat} {x3 : Int32} {u : USt} {b : BSt} {v : MSt} (C : jC l room_1 D (tX cI cO cR) G cL_law 4 RL) (X : jXs bs L xs G) (E : jX0 t0 G) (K2 : jKs D [(cI, .int)] G) (hcs : cs.1 + 3 ≤ 600000 ∧ cs.2 + 19 ≤ 7302250) (i1 : vp_in (x3 + 1) L) (i2 : vp_in (x3 + 2) L) (i3 : vp_in (x3 + 3) L) (i4 : vp_in (x3 + 4) L) (i5 : vp_in (x3 + 5) L) (i6 : vp_in (x3 + 6) L) (hI : Inv u b v) (hp : Pu_restore Inv) (KK : ∀ (u : USt) (b : BSt) (v : MSt), Inv u b v → J l room_1 D G (cs.1 + 3, cs.2 + 19) (wX cI cO cR q t0 u b ++ wM cI o q2 v) [(0, .ref bs), (1, .ref (q 0)), (2, .ref o), (3, .int x3)] [] 1220) : J l room_1 D G cs (wX cI cO cR q t0 u b ++ wM cI o q2 v) [(0, .ref bs), (1, .ref (q 0)), (2, .ref o), (3, .int x3)] [] 1170 := by
  obtain ⟨r, u1, b1, v1, e1, em, hI2⟩ := hp u b v  hI
  refine j_aload_n C dL_law_1170 rfl 1 rfl ?_
  refine j_callL (As := []) (rest := []) C (qX10_restore e1) w4_141 w4_138 w4_139 w4_140 w1_1 wd_X10_restore ⟨by decide, by decide⟩ 0 rfl rfl rfl (Nat.le_of_ble_eq_true rfl) dL_law_1171 ⟨rfl, rfl⟩ ⟨by show _ ≤ 600000; omega, by show _ ≤ 7302250; omega⟩ rfl ?_
  refine j_aload_n C dL_law_1174 rfl 2 rfl ?_
  refine j_callR (As := []) (rest := [.int r]) C K2 (cM_restore em) w6_38 w6_35 w6_36 w6_37 w1_11 wd_X11_restore ⟨by decide, by decide⟩ 0 rfl rfl rfl (Nat.le_of_ble_eq_true rfl) dL_law_1175 ⟨rfl, rfl⟩ ⟨by show _ ≤ 600000; omega, by show _ ≤ 7302250; omega⟩ rfl ?_
  refine j_icmp_eq (tgt := 1220) C dL_law_1178 (by decide) (fun _ => ?_) (fun hq => absurd rfl hq)
  exact J.widen (cs' := (cs.1 + 3, cs.2 + 19)) (by show cs.1 ≤ cs.1 + 3; omega) (by show cs.2 ≤ cs.2 + 19; omega) (KK _ _ _ hI2)
set_option maxRecDepth 100000 in
set_option maxHeartbeats 8000000 in
theorem lc_count {l : Launch} {D : va_G} {cI cO cR : ClassId} {q q2 : Nat → Nat} {t0 o bs L : Nat} {xs : Nat → Int32} {G : Gx} {Inv : USt → BSt → MSt → Prop} {cs : Nat × Nat} {x3 : Int32} {u : USt} {b : BSt} {v : MSt} (C : jC l room_1 D (tX cI cO cR) G cL_law 4 RL) (X : jXs bs L xs G) (E : jX0 t0 G) (K2 : jKs D [(cI, .int)] G) (hcs : cs.1 + 3 ≤ 600000 ∧ cs.2 + 19 ≤ 7302250) (i1 : vp_in (x3 + 1) L) (i2 : vp_in (x3 + 2) L) (i3 : vp_in (x3 + 3) L) (i4 : vp_in (x3 + 4) L) (i5 : vp_in (x3 + 5) L) (i6 : vp_in (x3 + 6) L) (hI : Inv u b v) (hp : Pu_count Inv) (KK : ∀ (u : USt) (b : BSt) (v : MSt), Inv u b v → J l room_1 D G (cs.1 + 3, cs.2 + 19) (wX cI cO cR q t0 u b ++ wM cI o q2 v) [(0, .ref bs), (1, .ref (q 0)), (2, .ref o), (3, .int x3)] [] 1220) : J l room_1 D G cs (wX cI cO cR q t0 u b ++ wM cI o q2 v) [(0, .ref bs), (1, .ref (q 0)), (2, .ref o), (3, .int x3)] [] 1183 := by
  obtain ⟨r, e1, em, hI2⟩ := hp u b v (xs (x3 + 1).toNatClampNeg) hI
  refine j_aload_n C dL_law_1183 rfl 1 rfl ?_
  refine j_aload_n C dL_law_1184 rfl 0 rfl ?_
  refine j_iload_n C dL_law_1185 rfl 3 rfl ?_
  refine j_iconst (v := 1) C dL_law_1186 (by decide) ?_
  refine j_iadd C dL_law_1187 ?_
  refine j_sld C X i1 dL_law_1188 ?_
  refine j_callL (As := [.int (xs (x3 + 1).toNatClampNeg)]) (rest := []) C (qX10_count e1) w4_166 w4_163 w4_164 w4_165 w1_1 wd_X10_count ⟨by decide, by decide⟩ 0 rfl rfl rfl (Nat.le_of_ble_eq_true rfl) dL_law_1189 ⟨rfl, rfl⟩ ⟨by show _ ≤ 600000; omega, by show _ ≤ 7302250; omega⟩ rfl ?_
  refine j_aload_n C dL_law_1192 rfl 2 rfl ?_
  refine j_aload_n C dL_law_1193 rfl 0 rfl ?_
  refine j_iload_n C dL_law_1194 rfl 3 rfl ?_
  refine j_iconst (v := 1) C dL_law_1195 (by decide) ?_
  refine j_iadd C dL_law_1196 ?_
  refine j_sld C X i1 dL_law_1197 ?_
  refine j_callR (As := [.int (xs (x3 + 1).toNatClampNeg)]) (rest := [.int r]) C K2 (cM_count em) w6_42 w6_39 w6_40 w6_41 w1_11 wd_X11_count ⟨by decide, by decide⟩ 0 rfl rfl rfl (Nat.le_of_ble_eq_true rfl) dL_law_1198 ⟨rfl, rfl⟩ ⟨by show _ ≤ 600000; omega, by show _ ≤ 7302250; omega⟩ rfl ?_
  refine j_icmp_eq (tgt := 1220) C dL_law_1201 (by decide) (fun _ => ?_) (fun hq => absurd rfl hq)
  exact J.widen (cs' := (cs.1 + 3, cs.2 + 19)) (by show cs.1 ≤ cs.1 + 3; omega) (by show cs.2 ≤ cs.2 + 19; omega) (KK _ _ _ hI2)
set_option maxRecDepth 100000 in
set_option maxHeartbeats 8000000 in
theorem lc_digest {l : Launch} {D : va_G} {cI cO cR : ClassId} {q q2 : Nat → Nat} {t0 o bs L : Nat} {xs : Nat → Int32} {G : Gx} {Inv : USt → BSt → MSt → Prop} {cs : Nat × Nat} {x3 : Int32} {u : USt} {b : BSt} {v : MSt} (C : jC l room_1 D (tX cI cO cR) G cL_law 4 RL) (X : jXs bs L xs G) (E : jX0 t0 G) (K2 : jKs D [(cI, .int)] G) (hcs : cs.1 + 3 ≤ 600000 ∧ cs.2 + 19 ≤ 7302250) (i1 : vp_in (x3 + 1) L) (i2 : vp_in (x3 + 2) L) (i3 : vp_in (x3 + 3) L) (i4 : vp_in (x3 + 4) L) (i5 : vp_in (x3 + 5) L) (i6 : vp_in (x3 + 6) L) (hI : Inv u b v) (hp : Pu_digest Inv) (KK : ∀ (u : USt) (b : BSt) (v : MSt), Inv u b v → J l room_1 D G (cs.1 + 3, cs.2 + 19) (wX cI cO cR q t0 u b ++ wM cI o q2 v) [(0, .ref bs), (1, .ref (q 0)), (2, .ref o), (3, .int x3)] [] 1220) : J l room_1 D G cs (wX cI cO cR q t0 u b ++ wM cI o q2 v) [(0, .ref bs), (1, .ref (q 0)), (2, .ref o), (3, .int x3)] [] 1206 := by
  obtain ⟨r, u1, v1, e1, em, hI2⟩ := hp u b v  hI
  refine j_aload_n C dL_law_1206 rfl 1 rfl ?_
  refine j_callL (As := []) (rest := []) C (qX10_digest e1) w4_174 w4_171 w4_172 w4_173 w1_1 wd_X10_digest ⟨by decide, by decide⟩ 0 rfl rfl rfl (Nat.le_of_ble_eq_true rfl) dL_law_1207 ⟨rfl, rfl⟩ ⟨by show _ ≤ 600000; omega, by show _ ≤ 7302250; omega⟩ rfl ?_
  refine j_aload_n C dL_law_1210 rfl 2 rfl ?_
  refine j_callR (As := []) (rest := [.long r]) C K2 (cM_digest em) w6_54 w6_51 w6_52 w6_53 w1_11 wd_X11_digest ⟨by decide, by decide⟩ 0 rfl rfl rfl (Nat.le_of_ble_eq_true rfl) dL_law_1211 ⟨rfl, rfl⟩ ⟨by show _ ≤ 600000; omega, by show _ ≤ 7302250; omega⟩ rfl ?_
  refine j_lcmp C dL_law_1214 ?_
  refine j_if_eq (tgt := 1220) C dL_law_1215 (by decide) (fun _ => ?_) (fun hq => absurd (lg_cmp_self r) hq)
  exact J.widen (cs' := (cs.1 + 3, cs.2 + 19)) (by show cs.1 ≤ cs.1 + 3; omega) (by show cs.2 ≤ cs.2 + 19; omega) (KK _ _ _ hI2)
theorem j_tabK {l : Launch} {R : Room} {D : va_G} {tys : List (ClassId × FieldType)} {G : Gx} {cc : ByteArray} {nL : Nat} {own : String} {cs : Nat × Nat} {ws : va_W} {lv : List (Nat × Value)} {st : List Value} {pc : Nat} {dflt lo hi : Int} {offs : Array Int} {len : Nat} {x k : Int32} {off : Int} {tgt : Nat} (hx : x = k) (C : jC l R D tys G cc nL own) (d : decode cc pc = .ok (.tableswitch dflt lo hi offs, len)) (h1 : ¬ k.toInt < lo) (h2 : ¬ hi < k.toInt) (ho : offs[(k.toInt - lo).toNat]? = some off) (ht : (pc : Int) + off = (tgt : Int)) (kk : J l R D G cs ws lv st tgt) : J l R D G cs ws lv (.int x :: st) pc := by
  subst hx
  exact j_tableIn C d h1 h2 ho ht kk
theorem nI_add_lit (m j : Nat) : nI m + nI j = nI (m + j) := nI_add m j
set_option maxRecDepth 100000 in
set_option maxHeartbeats 8000000 in
theorem law_step {l : Launch} {D : va_G} {cI cO cR : ClassId} {q q2 : Nat → Nat} {t0 o bs L : Nat} {xs : Nat → Int32} {G : Gx} {Inv : USt → BSt → MSt → Prop} {cs : Nat × Nat} {x3 : Int32} {u : USt} {b : BSt} {v : MSt} (C : jC l room_1 D (tX cI cO cR) G cL_law 4 RL) (X : jXs bs L xs G) (E : jX0 t0 G) (K2 : jKs D [(cI, .int)] G) (hcs : cs.1 + 3 ≤ 600000 ∧ cs.2 + 19 ≤ 7302250) (i1 : vp_in (x3 + 1) L) (i2 : vp_in (x3 + 2) L) (i3 : vp_in (x3 + 3) L) (i4 : vp_in (x3 + 4) L) (i5 : vp_in (x3 + 5) L) (i6 : vp_in (x3 + 6) L) (i0 : vp_in x3 L) (hI : Inv u b v) (hp : PureOK Inv) (KK : ∀ (u : USt) (b : BSt) (v : MSt), Inv u b v → J l room_1 D G (cs.1 + 3, cs.2 + 19) (wX cI cO cR q t0 u b ++ wM cI o q2 v) [(0, .ref bs), (1, .ref (q 0)), (2, .ref o), (3, .int x3)] [] 1220) : J l room_1 D G cs (wX cI cO cR q t0 u b ++ wM cI o q2 v) [(0, .ref bs), (1, .ref (q 0)), (2, .ref o), (3, .int x3)] [] 27 := by
  obtain ⟨p0, p1, p2, p3, p4, p5, p6, p7, p8, p9, p10, p11, p12, p13, p14, p15, p16, p17, p18, p19, p20, p21, p22, p23, p24, p25, p26, p27⟩ := hp
  have kk := J.widen (cs := cs) (cs' := (cs.1 + 3, cs.2 + 19)) (by show cs.1 ≤ cs.1 + 3; omega) (by show cs.2 ≤ cs.2 + 19; omega) (KK u b v hI)
  refine j_aload_n C dL_law_27 rfl 0 rfl ?_
  refine j_iload_n C dL_law_28 rfl 3 rfl ?_
  refine j_sld C X i0 dL_law_29 ?_
  refine j_bipush (v := 31) C dL_law_30 (by decide) ?_
  refine j_iand C dL_law_32 ?_
  generalize (xs x3.toNatClampNeg &&& 31) = x
  by_cases hq : x.toInt < 0 ∨ 27 < x.toInt
  · exact j_tableOut (tgt := 1220) C dL_law_33 hq (by decide) kk
  rcases (show x.toInt = 0 ∨ x.toInt = 1 ∨ x.toInt = 2 ∨ x.toInt = 3 ∨ x.toInt = 4 ∨ x.toInt = 5 ∨ x.toInt = 6 ∨ x.toInt = 7 ∨ x.toInt = 8 ∨ x.toInt = 9 ∨ x.toInt = 10 ∨ x.toInt = 11 ∨ x.toInt = 12 ∨ x.toInt = 13 ∨ x.toInt = 14 ∨ x.toInt = 15 ∨ x.toInt = 16 ∨ x.toInt = 17 ∨ x.toInt = 18 ∨ x.toInt = 19 ∨ x.toInt = 20 ∨ x.toInt = 21 ∨ x.toInt = 22 ∨ x.toInt = 23 ∨ x.toInt = 24 ∨ x.toInt = 25 ∨ x.toInt = 26 ∨ x.toInt = 27 by omega) with h | h | h | h | h | h | h | h | h | h | h | h | h | h | h | h | h | h | h | h | h | h | h | h | h | h | h | h
  · exact j_tabK (k := 0) (tgt := 160) (Int32.toInt_inj.mp h) C dL_law_33 (by decide) (by decide) rfl (by decide) (lc_letters C X E K2 hcs i1 i2 i3 i4 i5 i6 hI p0 KK)
  · exact j_tabK (k := 1) (tgt := 213) (Int32.toInt_inj.mp h) C dL_law_33 (by decide) (by decide) rfl (by decide) (lc_blank C X E K2 hcs i1 i2 i3 i4 i5 i6 hI p1 KK)
  · exact j_tabK (k := 2) (tgt := 226) (Int32.toInt_inj.mp h) C dL_law_33 (by decide) (by decide) rfl (by decide) (lc_fault C X E K2 hcs i1 i2 i3 i4 i5 i6 hI p2 KK)
  · exact j_tabK (k := 3) (tgt := 239) (Int32.toInt_inj.mp h) C dL_law_33 (by decide) (by decide) rfl (by decide) (lc_bridge C X E K2 hcs i1 i2 i3 i4 i5 i6 hI p3 KK)
  · exact j_tabK (k := 4) (tgt := 252) (Int32.toInt_inj.mp h) C dL_law_33 (by decide) (by decide) rfl (by decide) (lc_as C X E K2 hcs i1 i2 i3 i4 i5 i6 hI p4 KK)
  · exact j_tabK (k := 5) (tgt := 285) (Int32.toInt_inj.mp h) C dL_law_33 (by decide) (by decide) rfl (by decide) (lc_about C X E K2 hcs i1 i2 i3 i4 i5 i6 hI p5 KK)
  · exact j_tabK (k := 6) (tgt := 318) (Int32.toInt_inj.mp h) C dL_law_33 (by decide) (by decide) rfl (by decide) (lc_offset C X E K2 hcs i1 i2 i3 i4 i5 i6 hI p6 KK)
  · exact j_tabK (k := 7) (tgt := 351) (Int32.toInt_inj.mp h) C dL_law_33 (by decide) (by decide) rfl (by decide) (lc_frost C X E K2 hcs i1 i2 i3 i4 i5 i6 hI p7 KK)
  · exact j_tabK (k := 8) (tgt := 390) (Int32.toInt_inj.mp h) C dL_law_33 (by decide) (by decide) rfl (by decide) (lc_joins C X E K2 hcs i1 i2 i3 i4 i5 i6 hI p8 KK)
  · exact j_tabK (k := 9) (tgt := 423) (Int32.toInt_inj.mp h) C dL_law_33 (by decide) (by decide) rfl (by decide) (lc_lasts C X E K2 hcs i1 i2 i3 i4 i5 i6 hI p9 KK)
  · exact j_tabK (k := 10) (tgt := 456) (Int32.toInt_inj.mp h) C dL_law_33 (by decide) (by decide) rfl (by decide) (lc_soonest C X E K2 hcs i1 i2 i3 i4 i5 i6 hI p10 KK)
  · exact j_tabK (k := 11) (tgt := 519) (Int32.toInt_inj.mp h) C dL_law_33 (by decide) (by decide) rfl (by decide) (lc_last C X E K2 hcs i1 i2 i3 i4 i5 i6 hI p11 KK)
  · exact j_tabK (k := 12) (tgt := 594) (Int32.toInt_inj.mp h) C dL_law_33 (by decide) (by decide) rfl (by decide) (lc_again C X E K2 hcs i1 i2 i3 i4 i5 i6 hI p12 KK)
  · exact j_tabK (k := 13) (tgt := 608) (Int32.toInt_inj.mp h) C dL_law_33 (by decide) (by decide) rfl (by decide) (lc_cut C X E K2 hcs i1 i2 i3 i4 i5 i6 hI p13 KK)
  · exact j_tabK (k := 14) (tgt := 651) (Int32.toInt_inj.mp h) C dL_law_33 (by decide) (by decide) rfl (by decide) (lc_worst C X E K2 hcs i1 i2 i3 i4 i5 i6 hI p14 KK)
  · exact j_tabK (k := 15) (tgt := 714) (Int32.toInt_inj.mp h) C dL_law_33 (by decide) (by decide) rfl (by decide) (lc_mean C X E K2 hcs i1 i2 i3 i4 i5 i6 hI p15 KK)
  · exact j_tabK (k := 16) (tgt := 789) (Int32.toInt_inj.mp h) C dL_law_33 (by decide) (by decide) rfl (by decide) (lc_set C X E K2 hcs i1 i2 i3 i4 i5 i6 hI p16 KK)
  · exact j_tabK (k := 17) (tgt := 832) (Int32.toInt_inj.mp h) C dL_law_33 (by decide) (by decide) rfl (by decide) (lc_crowd C X E K2 hcs i1 i2 i3 i4 i5 i6 hI p17 KK)
  · exact j_tabK (k := 18) (tgt := 907) (Int32.toInt_inj.mp h) C dL_law_33 (by decide) (by decide) rfl (by decide) (lc_stranded C X E K2 hcs i1 i2 i3 i4 i5 i6 hI p18 KK)
  · exact j_tabK (k := 19) (tgt := 950) (Int32.toInt_inj.mp h) C dL_law_33 (by decide) (by decide) rfl (by decide) (lc_meeting C X E K2 hcs i1 i2 i3 i4 i5 i6 hI p19 KK)
  · exact j_tabK (k := 20) (tgt := 1025) (Int32.toInt_inj.mp h) C dL_law_33 (by decide) (by decide) rfl (by decide) (lc_note C X E K2 hcs i1 i2 i3 i4 i5 i6 hI p20 KK)
  · exact j_tabK (k := 21) (tgt := 1078) (Int32.toInt_inj.mp h) C dL_law_33 (by decide) (by decide) rfl (by decide) (lc_forget C X E K2 hcs i1 i2 i3 i4 i5 i6 hI p21 KK)
  · exact j_tabK (k := 22) (tgt := 1091) (Int32.toInt_inj.mp h) C dL_law_33 (by decide) (by decide) rfl (by decide) (lc_lost C X E K2 hcs i1 i2 i3 i4 i5 i6 hI p22 KK)
  · exact j_tabK (k := 23) (tgt := 1114) (Int32.toInt_inj.mp h) C dL_law_33 (by decide) (by decide) rfl (by decide) (lc_worth C X E K2 hcs i1 i2 i3 i4 i5 i6 hI p23 KK)
  · exact j_tabK (k := 24) (tgt := 1157) (Int32.toInt_inj.mp h) C dL_law_33 (by decide) (by decide) rfl (by decide) (lc_image C X E K2 hcs i1 i2 i3 i4 i5 i6 hI p24 KK)
  · exact j_tabK (k := 25) (tgt := 1170) (Int32.toInt_inj.mp h) C dL_law_33 (by decide) (by decide) rfl (by decide) (lc_restore C X E K2 hcs i1 i2 i3 i4 i5 i6 hI p25 KK)
  · exact j_tabK (k := 26) (tgt := 1183) (Int32.toInt_inj.mp h) C dL_law_33 (by decide) (by decide) rfl (by decide) (lc_count C X E K2 hcs i1 i2 i3 i4 i5 i6 hI p26 KK)
  · exact j_tabK (k := 27) (tgt := 1206) (Int32.toInt_inj.mp h) C dL_law_33 (by decide) (by decide) rfl (by decide) (lc_digest C X E K2 hcs i1 i2 i3 i4 i5 i6 hI p27 KK)
theorem lw_cmp {L m : Nat} (hL : L ≤ 3584) (hm : m ≤ 4000) : (Int32.ofNat L - 7 < nI m) ↔ L < m + 7 := by
  have e1 : (Int32.ofNat L).toInt = L := nI_toInt (by omega)
  have e2 : (nI m).toInt = m := nI_toInt (by omega)
  have e3 : (7 : Int32).toInt = 7 := rfl
  have e4 : (Int32.ofNat L - 7).toInt = (L : Int) - 7 := by
    rw [Int32.toInt_sub, e1, e3]
    rw [Int.bmod_eq_of_le (by omega) (by omega)]
  rw [Int32.lt_iff_toInt_lt, e4, e2]
  omega
theorem lw_in {L m j : Nat} (hL : L ≤ 3584) (h : m + j < L) : vp_in (nI m + nI j) L := by
  rw [nI_add]
  exact vp_in_nI h (by omega)
set_option maxRecDepth 100000 in
set_option maxHeartbeats 8000000 in
/-- the law's loop, from its head with m ints read -/
theorem law_loop {l : Launch} {D : va_G} {cI cO cR : ClassId} {q q2 : Nat → Nat} {t0 o bs L : Nat} {xs : Nat → Int32} {G : Gx} {Inv : USt → BSt → MSt → Prop} (C : jC l room_1 D (tX cI cO cR) G cL_law 4 RL) (X : jXs bs L xs G) (E : jX0 t0 G) (K2 : jKs D [(cI, .int)] G) (hL : L ≤ 3584) (hp : PureOK Inv) (hend : ∀ (cs : Nat × Nat) (ws : va_W) (x3 : Int32), cs.1 ≤ 600000 → cs.2 ≤ 7302250 → J l room_1 D G cs ws [(0, .ref bs), (1, .ref (q 0)), (2, .ref o), (3, .int x3)] [] 1226) :
    ∀ (n m : Nat) (cs : Nat × Nat) (u : USt) (b : BSt) (v : MSt), L < m + 7 * n → m ≤ L + 7 → cs.1 + 3 * n ≤ 600000 → cs.2 + 19 * n ≤ 7302250 → Inv u b v → J l room_1 D G cs (wX cI cO cR q t0 u b ++ wM cI o q2 v) [(0, .ref bs), (1, .ref (q 0)), (2, .ref o), (3, .int (nI m))] [] 18 := by
  have head : ∀ (m : Nat) (cs : Nat × Nat) (ws : va_W), m ≤ L + 7 → cs.1 ≤ 600000 → cs.2 ≤ 7302250 → (m + 7 ≤ L → J l room_1 D G cs ws [(0, .ref bs), (1, .ref (q 0)), (2, .ref o), (3, .int (nI m))] [] 27) → J l room_1 D G cs ws [(0, .ref bs), (1, .ref (q 0)), (2, .ref o), (3, .int (nI m))] [] 18 := by
    intro m cs ws hm h1 h2 k
    refine j_iload_n C dL_law_18 rfl 3 rfl ?_
    refine j_aload_n C dL_law_19 rfl 0 rfl ?_
    refine j_slen C X dL_law_20 ?_
    refine j_bipush (v := 7) C dL_law_21 (by decide) ?_
    refine j_isub C dL_law_23 ?_
    refine j_icmp_gt (tgt := 1226) C dL_law_24 (by decide) (fun _ => hend _ _ _ h1 h2) (fun hq => k ?_)
    have := mt (lw_cmp hL (m := m) (by omega)).mpr hq
    omega
  intro n
  induction n with
  | zero =>
    intro m cs u b v h1 h2 h3 h4 hI
    exact head m cs _ h2 (by omega) (by omega) (fun h => absurd h (by omega))
  | succ n ih =>
    intro m cs u b v h1 h2 h3 h4 hI
    refine head m cs _ h2 (by omega) (by omega) (fun hm => ?_)
    refine law_step C X E K2 (by omega) (lw_in (j := 1) hL (by omega)) (lw_in (j := 2) hL (by omega)) (lw_in (j := 3) hL (by omega)) (lw_in (j := 4) hL (by omega)) (lw_in (j := 5) hL (by omega)) (lw_in (j := 6) hL (by omega)) (vp_in_nI (by omega) (by omega)) hI hp (fun u b v hI => ?_)
    refine j_iinc (v := nI (m + 7)) C dL_law_1220 3 rfl (nI_add m 7) (by decide) rfl ?_
    refine j_goto (tgt := 18) C dL_law_1223 (by decide) ?_
    exact J.sub [1, 2, 3, 0] rfl (ih (m + 7) (cs.1 + 3, cs.2 + 19) u b v (by omega) (by omega) (by show cs.1 + 3 + 3 * n ≤ _; omega) (by show cs.2 + 19 + 19 * n ≤ _; omega) hI)
