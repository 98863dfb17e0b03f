theorem w1_4 : Cond.initialized "java/util/AbstractCollection" ∈ gW := tb_1 (List.mem_of_getElem? (i := 4) rfl) rfl
theorem w1_5 : Cond.initialized "java/util/AbstractList" ∈ gW := tb_1 (List.mem_of_getElem? (i := 5) rfl) rfl
theorem w1_27 : Cond.methodLink "NineBridges" 1 ⟨"java/lang/Object", "<init>", "()V"⟩ ∈ gW := tb_1 (List.mem_of_getElem? (i := 27) rfl) rfl
theorem w1_28 : Cond.instanceMethod ⟨"java/lang/Object", "<init>", "()V"⟩ ∈ gW := tb_1 (List.mem_of_getElem? (i := 28) rfl) rfl
theorem w1_29 : Cond.code ⟨"java/lang/Object", "<init>", "()V"⟩ object_method_1_code 1 none ∈ gW := tb_1 (List.mem_of_getElem? (i := 29) rfl) rfl
theorem w1_30 : Cond.classLink "NineBridges" 7 "NineBridges$Page" ∈ gW := tb_1 (List.mem_of_getElem? (i := 30) rfl) rfl
theorem w1_31 : Cond.instantiable "NineBridges$Page" 2 ∈ gW := tb_1 (List.mem_of_getElem? (i := 31) rfl) rfl
theorem w1_32 : Cond.methodLinkNest "NineBridges" 9 ⟨"NineBridges$Page", "<init>", "()V"⟩ "NineBridges" ∈ nW := tn_1 (List.mem_of_getElem? (i := 32) rfl) rfl
theorem w1_33 : Cond.instanceMethod ⟨"NineBridges$Page", "<init>", "()V"⟩ ∈ gW := tb_1 (List.mem_of_getElem? (i := 33) rfl) rfl
theorem w1_34 : Cond.code ⟨"NineBridges$Page", "<init>", "()V"⟩ prog_8_method_1_code 1 none ∈ gW := tb_1 (List.mem_of_getElem? (i := 34) rfl) rfl
theorem w1_35 : Cond.methodLink "NineBridges$Page" 3 ⟨"java/lang/Object", "<init>", "()V"⟩ ∈ gW := tb_1 (List.mem_of_getElem? (i := 35) rfl) rfl
theorem w1_43 : Cond.arrayClass .int ∈ gW := tb_1 (List.mem_of_getElem? (i := 43) rfl) rfl
theorem w1_44 : Cond.classLink "NineBridges" 16 "NineBridges$Reader" ∈ gW := tb_1 (List.mem_of_getElem? (i := 44) rfl) rfl
theorem w1_45 : Cond.instantiable "NineBridges$Reader" 9 ∈ gW := tb_1 (List.mem_of_getElem? (i := 45) rfl) rfl
theorem w1_46 : Cond.methodLinkNest "NineBridges" 18 ⟨"NineBridges$Reader", "<init>", "()V"⟩ "NineBridges" ∈ nW := tn_1 (List.mem_of_getElem? (i := 46) rfl) rfl
theorem w1_47 : Cond.instanceMethod ⟨"NineBridges$Reader", "<init>", "()V"⟩ ∈ gW := tb_1 (List.mem_of_getElem? (i := 47) rfl) rfl
theorem w1_48 : Cond.code ⟨"NineBridges$Reader", "<init>", "()V"⟩ prog_9_method_1_code 1 none ∈ gW := tb_1 (List.mem_of_getElem? (i := 48) rfl) rfl
theorem w1_49 : Cond.methodLink "NineBridges$Reader" 3 ⟨"java/lang/Object", "<init>", "()V"⟩ ∈ gW := tb_1 (List.mem_of_getElem? (i := 49) rfl) rfl
theorem w1_85 : Cond.classLink "NineBridges" 23 "java/util/ArrayList" ∈ gW := tb_1 (List.mem_of_getElem? (i := 85) rfl) rfl
theorem w1_86 : Cond.instantiable "java/util/ArrayList" 3 ∈ gW := tb_1 (List.mem_of_getElem? (i := 86) rfl) rfl
theorem w1_87 : Cond.methodLink "NineBridges" 25 ⟨"java/util/ArrayList", "<init>", "()V"⟩ ∈ gW := tb_1 (List.mem_of_getElem? (i := 87) rfl) rfl
theorem w1_88 : Cond.instanceMethod ⟨"java/util/ArrayList", "<init>", "()V"⟩ ∈ gW := tb_1 (List.mem_of_getElem? (i := 88) rfl) rfl
theorem w1_89 : Cond.code ⟨"java/util/ArrayList", "<init>", "()V"⟩ prog_21_method_2_code 1 none ∈ gW := tb_1 (List.mem_of_getElem? (i := 89) rfl) rfl
theorem w1_90 : Cond.methodLink "java/util/ArrayList" 1 ⟨"java/util/AbstractList", "<init>", "()V"⟩ ∈ gW := tb_1 (List.mem_of_getElem? (i := 90) rfl) rfl
theorem w1_91 : Cond.instanceMethod ⟨"java/util/AbstractList", "<init>", "()V"⟩ ∈ gW := tb_1 (List.mem_of_getElem? (i := 91) rfl) rfl
theorem w1_92 : Cond.code ⟨"java/util/AbstractList", "<init>", "()V"⟩ prog_20_method_1_code 1 none ∈ gW := tb_1 (List.mem_of_getElem? (i := 92) rfl) rfl
theorem w1_93 : Cond.methodLink "java/util/AbstractList" 1 ⟨"java/util/AbstractCollection", "<init>", "()V"⟩ ∈ gW := tb_1 (List.mem_of_getElem? (i := 93) rfl) rfl
theorem w1_94 : Cond.instanceMethod ⟨"java/util/AbstractCollection", "<init>", "()V"⟩ ∈ gW := tb_1 (List.mem_of_getElem? (i := 94) rfl) rfl
theorem w1_95 : Cond.code ⟨"java/util/AbstractCollection", "<init>", "()V"⟩ prog_19_method_1_code 1 none ∈ gW := tb_1 (List.mem_of_getElem? (i := 95) rfl) rfl
theorem w1_96 : Cond.methodLink "java/util/AbstractCollection" 1 ⟨"java/lang/Object", "<init>", "()V"⟩ ∈ gW := tb_1 (List.mem_of_getElem? (i := 96) rfl) rfl
theorem w1_97 : Cond.fieldLink "java/util/ArrayList" 39 "java/util/ArrayList" "DEFAULTCAPACITY_EMPTY_ELEMENTDATA" "[Ljava/lang/Object;" ∈ gW := tb_1 (List.mem_of_getElem? (i := 97) rfl) rfl
theorem w1_101 : Cond.fieldLink "java/util/AbstractList" 7 "java/util/AbstractList" "modCount" "I" ∈ gW := tb_1 (List.mem_of_getElem? (i := 101) rfl) rfl
theorem w1_111 : Cond.classLink "NineBridges" 30 "NineBridges$Notes" ∈ gW := tb_1 (List.mem_of_getElem? (i := 111) rfl) rfl
theorem w1_112 : Cond.instantiable "NineBridges$Notes" 2 ∈ gW := tb_1 (List.mem_of_getElem? (i := 112) rfl) rfl
theorem w1_113 : Cond.methodLinkNest "NineBridges" 32 ⟨"NineBridges$Notes", "<init>", "()V"⟩ "NineBridges" ∈ nW := tn_1 (List.mem_of_getElem? (i := 113) rfl) rfl
theorem w1_114 : Cond.instanceMethod ⟨"NineBridges$Notes", "<init>", "()V"⟩ ∈ gW := tb_1 (List.mem_of_getElem? (i := 114) rfl) rfl
theorem w1_115 : Cond.code ⟨"NineBridges$Notes", "<init>", "()V"⟩ prog_7_method_1_code 1 none ∈ gW := tb_1 (List.mem_of_getElem? (i := 115) rfl) rfl
theorem w1_116 : Cond.methodLink "NineBridges$Notes" 3 ⟨"java/lang/Object", "<init>", "()V"⟩ ∈ gW := tb_1 (List.mem_of_getElem? (i := 116) rfl) rfl
theorem w1_124 : Cond.classLink "NineBridges" 37 "NineBridges$Image" ∈ gW := tb_1 (List.mem_of_getElem? (i := 124) rfl) rfl
theorem w1_125 : Cond.instantiable "NineBridges$Image" 4 ∈ gW := tb_1 (List.mem_of_getElem? (i := 125) rfl) rfl
theorem w1_126 : Cond.methodLinkNest "NineBridges" 39 ⟨"NineBridges$Image", "<init>", "()V"⟩ "NineBridges" ∈ nW := tn_1 (List.mem_of_getElem? (i := 126) rfl) rfl
theorem w1_127 : Cond.instanceMethod ⟨"NineBridges$Image", "<init>", "()V"⟩ ∈ gW := tb_1 (List.mem_of_getElem? (i := 127) rfl) rfl
theorem w1_128 : Cond.code ⟨"NineBridges$Image", "<init>", "()V"⟩ prog_6_method_1_code 1 none ∈ gW := tb_1 (List.mem_of_getElem? (i := 128) rfl) rfl
theorem w1_129 : Cond.methodLink "NineBridges$Image" 3 ⟨"java/lang/Object", "<init>", "()V"⟩ ∈ gW := tb_1 (List.mem_of_getElem? (i := 129) rfl) rfl
theorem w1_130 : Cond.classLink "NineBridges$Image" 15 "NineBridges$Notes" ∈ gW := tb_1 (List.mem_of_getElem? (i := 130) rfl) rfl
theorem w1_131 : Cond.methodLinkNest "NineBridges$Image" 17 ⟨"NineBridges$Notes", "<init>", "()V"⟩ "NineBridges" ∈ nW := tn_1 (List.mem_of_getElem? (i := 131) rfl) rfl
theorem w1_145 : Cond.classLink "NineBridges" 44 "NineBridges$Timetable" ∈ gW := tb_1 (List.mem_of_getElem? (i := 145) rfl) rfl
theorem w1_146 : Cond.instantiable "NineBridges$Timetable" 9 ∈ gW := tb_1 (List.mem_of_getElem? (i := 146) rfl) rfl
theorem w1_147 : Cond.methodLinkNest "NineBridges" 46 ⟨"NineBridges$Timetable", "<init>", "()V"⟩ "NineBridges" ∈ nW := tn_1 (List.mem_of_getElem? (i := 147) rfl) rfl
theorem w1_148 : Cond.instanceMethod ⟨"NineBridges$Timetable", "<init>", "()V"⟩ ∈ gW := tb_1 (List.mem_of_getElem? (i := 148) rfl) rfl
theorem w1_149 : Cond.code ⟨"NineBridges$Timetable", "<init>", "()V"⟩ prog_11_method_1_code 1 none ∈ gW := tb_1 (List.mem_of_getElem? (i := 149) rfl) rfl
theorem w1_150 : Cond.methodLink "NineBridges$Timetable" 3 ⟨"java/lang/Object", "<init>", "()V"⟩ ∈ gW := tb_1 (List.mem_of_getElem? (i := 150) rfl) rfl
theorem w1_151 : Cond.classLink "NineBridges$Timetable" 9 "[[I" ∈ gW := tb_1 (List.mem_of_getElem? (i := 151) rfl) rfl
theorem w1_181 : Cond.classLink "NineBridges" 51 "NineBridges$Crowd" ∈ gW := tb_1 (List.mem_of_getElem? (i := 181) rfl) rfl
theorem w1_182 : Cond.instantiable "NineBridges$Crowd" 5 ∈ gW := tb_1 (List.mem_of_getElem? (i := 182) rfl) rfl
theorem w1_183 : Cond.methodLinkNest "NineBridges" 53 ⟨"NineBridges$Crowd", "<init>", "()V"⟩ "NineBridges" ∈ nW := tn_1 (List.mem_of_getElem? (i := 183) rfl) rfl
theorem w1_184 : Cond.instanceMethod ⟨"NineBridges$Crowd", "<init>", "()V"⟩ ∈ gW := tb_1 (List.mem_of_getElem? (i := 184) rfl) rfl
theorem w1_185 : Cond.code ⟨"NineBridges$Crowd", "<init>", "()V"⟩ prog_3_method_1_code 1 none ∈ gW := tb_1 (List.mem_of_getElem? (i := 185) rfl) rfl
theorem w1_186 : Cond.methodLink "NineBridges$Crowd" 5 ⟨"java/lang/Object", "<init>", "()V"⟩ ∈ gW := tb_1 (List.mem_of_getElem? (i := 186) rfl) rfl
theorem w4_196 : Cond.methodLink "NineBridgesModel" 1 ⟨"java/lang/Object", "<init>", "()V"⟩ ∈ gW := tb_4 (List.mem_of_getElem? (i := 196) rfl) rfl
theorem w4_197 : Cond.fieldLink "NineBridgesModel" 7 "NineBridgesModel" "page" "[I" ∈ gW := tb_4 (List.mem_of_getElem? (i := 197) rfl) rfl
theorem w4_200 : Cond.fieldLink "NineBridgesModel" 13 "NineBridgesModel" "readRow" "[I" ∈ gW := tb_4 (List.mem_of_getElem? (i := 200) rfl) rfl
theorem w4_202 : Cond.fieldLink "NineBridgesModel" 16 "NineBridgesModel" "rows" "[I" ∈ gW := tb_4 (List.mem_of_getElem? (i := 202) rfl) rfl
theorem w4_204 : Cond.fieldLink "NineBridgesModel" 56 "NineBridgesModel" "without" "I" ∈ gW := tb_4 (List.mem_of_getElem? (i := 204) rfl) rfl
theorem w4_205 : Cond.fieldLink "NineBridgesModel" 59 "NineBridgesModel" "stuck" "I" ∈ gW := tb_4 (List.mem_of_getElem? (i := 205) rfl) rfl
theorem w4_207 : Cond.fieldLink "NineBridgesModel" 19 "NineBridgesModel" "there" "[I" ∈ gW := tb_4 (List.mem_of_getElem? (i := 207) rfl) rfl
theorem w4_210 : Cond.fieldLink "NineBridgesModel" 22 "NineBridgesModel" "waits" "[I" ∈ gW := tb_4 (List.mem_of_getElem? (i := 210) rfl) rfl
theorem w4_211 : Cond.fieldLink "NineBridgesModel" 25 "NineBridgesModel" "goesOn" "[I" ∈ gW := tb_4 (List.mem_of_getElem? (i := 211) rfl) rfl
theorem w4_212 : Cond.fieldLink "NineBridgesModel" 28 "NineBridgesModel" "goesBack" "[I" ∈ gW := tb_4 (List.mem_of_getElem? (i := 212) rfl) rfl
theorem w4_213 : Cond.fieldLink "NineBridgesModel" 31 "NineBridgesModel" "cameFrom" "[I" ∈ gW := tb_4 (List.mem_of_getElem? (i := 213) rfl) rfl
theorem w4_214 : Cond.fieldLink "NineBridgesModel" 34 "NineBridgesModel" "cameBy" "[I" ∈ gW := tb_4 (List.mem_of_getElem? (i := 214) rfl) rfl
theorem w4_215 : Cond.fieldLink "NineBridgesModel" 37 "NineBridgesModel" "line" "[I" ∈ gW := tb_4 (List.mem_of_getElem? (i := 215) rfl) rfl
theorem w4_217 : Cond.fieldLink "NineBridgesModel" 40 "NineBridgesModel" "other" "[I" ∈ gW := tb_4 (List.mem_of_getElem? (i := 217) rfl) rfl
theorem w4_219 : Cond.fieldLink "NineBridgesModel" 43 "NineBridgesModel" "noteRows" "[I" ∈ gW := tb_4 (List.mem_of_getElem? (i := 219) rfl) rfl
theorem w4_220 : Cond.fieldLink "NineBridgesModel" 52 "NineBridgesModel" "keptBridges" "I" ∈ gW := tb_4 (List.mem_of_getElem? (i := 220) rfl) rfl
theorem w4_223 : Cond.fieldLink "NineBridgesModel" 46 "NineBridgesModel" "keptOffsets" "[I" ∈ gW := tb_4 (List.mem_of_getElem? (i := 223) rfl) rfl
theorem w4_224 : Cond.fieldLink "NineBridgesModel" 49 "NineBridgesModel" "keptRows" "[I" ∈ gW := tb_4 (List.mem_of_getElem? (i := 224) rfl) rfl
