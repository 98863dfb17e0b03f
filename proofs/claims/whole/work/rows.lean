section
-- ===== PART A: goes FIRST, ahead of the names: the tables' words, and 'selects' of the private methods out of them =====
/-- a private method of a class that the tables say can be made, by its rows of tables_1 -/
def lw_okq (q : MethodName × Nat) : Prop := (q.1.cls ≠ "java/lang/invoke/MethodHandle" ∧ q.1.cls ≠ "java/lang/invoke/VarHandle") ∧ Cond.instantiable q.1.cls q.2 ∈ tables_1 ∧ Cond.privateMethod q.1 ∈ tables_1 ∧ Cond.instanceMethod q.1 ∈ tables_1
theorem lw_p0 : lw_okq (⟨"NineBridges$Reader", "takesSign", "(I)Z"⟩, 9) := ⟨⟨by decide +kernel, by decide +kernel⟩, List.mem_of_getElem? (i := 45) (by decide +kernel), List.mem_of_getElem? (i := 281) (by decide +kernel), List.mem_of_getElem? (i := 282) (by decide +kernel)⟩
theorem lw_p1 : lw_okq (⟨"NineBridges$Reader", "takesPivot", "(I)Z"⟩, 9) := ⟨⟨by decide +kernel, by decide +kernel⟩, List.mem_of_getElem? (i := 45) (by decide +kernel), List.mem_of_getElem? (i := 285) (by decide +kernel), List.mem_of_getElem? (i := 286) (by decide +kernel)⟩
theorem lw_p2 : lw_okq (⟨"NineBridges$Reader", "takesMark", "(IC)Z"⟩, 9) := ⟨⟨by decide +kernel, by decide +kernel⟩, List.mem_of_getElem? (i := 45) (by decide +kernel), List.mem_of_getElem? (i := 292) (by decide +kernel), List.mem_of_getElem? (i := 293) (by decide +kernel)⟩
theorem lw_p3 : lw_okq (⟨"NineBridges$Reader", "takesEnd", "(I)Z"⟩, 9) := ⟨⟨by decide +kernel, by decide +kernel⟩, List.mem_of_getElem? (i := 45) (by decide +kernel), List.mem_of_getElem? (i := 296) (by decide +kernel), List.mem_of_getElem? (i := 297) (by decide +kernel)⟩
theorem lw_p4 : lw_okq (⟨"NineBridges$Reader", "takesDigit", "(I)Z"⟩, 9) := ⟨⟨by decide +kernel, by decide +kernel⟩, List.mem_of_getElem? (i := 45) (by decide +kernel), List.mem_of_getElem? (i := 300) (by decide +kernel), List.mem_of_getElem? (i := 301) (by decide +kernel)⟩
theorem lw_p5 : lw_okq (⟨"java/util/ArrayList", "add", "(Ljava/lang/Object;[Ljava/lang/Object;I)V"⟩, 3) := ⟨⟨by decide +kernel, by decide +kernel⟩, List.mem_of_getElem? (i := 86) (by decide +kernel), List.mem_of_getElem? (i := 416) (by decide +kernel), List.mem_of_getElem? (i := 417) (by decide +kernel)⟩
theorem lw_p6 : lw_okq (⟨"java/util/ArrayList", "grow", "()[Ljava/lang/Object;"⟩, 3) := ⟨⟨by decide +kernel, by decide +kernel⟩, List.mem_of_getElem? (i := 86) (by decide +kernel), List.mem_of_getElem? (i := 420) (by decide +kernel), List.mem_of_getElem? (i := 421) (by decide +kernel)⟩
theorem lw_p7 : lw_okq (⟨"java/util/ArrayList", "grow", "(I)[Ljava/lang/Object;"⟩, 3) := ⟨⟨by decide +kernel, by decide +kernel⟩, List.mem_of_getElem? (i := 86) (by decide +kernel), List.mem_of_getElem? (i := 424) (by decide +kernel), List.mem_of_getElem? (i := 425) (by decide +kernel)⟩
theorem lw_p8 : lw_okq (⟨"NineBridges", "isBridge", "(I)Z"⟩, 10) := ⟨⟨by decide +kernel, by decide +kernel⟩, List.mem_of_getElem? (i := 23) (by decide +kernel), List.mem_of_getElem? (i := 468) (by decide +kernel), List.mem_of_getElem? (i := 469) (by decide +kernel)⟩
theorem lw_p9 : lw_okq (⟨"NineBridges", "told", "(LNineBridges$Bridge;I)I"⟩, 10) := ⟨⟨by decide +kernel, by decide +kernel⟩, List.mem_of_getElem? (i := 23) (by decide +kernel), List.mem_of_getElem? (i := 497) (by decide +kernel), List.mem_of_getElem? (i := 498) (by decide +kernel)⟩
theorem lw_p10 : lw_okq (⟨"NineBridges", "openTable", "(IIII)V"⟩, 10) := ⟨⟨by decide +kernel, by decide +kernel⟩, List.mem_of_getElem? (i := 23) (by decide +kernel), List.mem_of_getElem? (i := 632) (by decide +kernel), List.mem_of_getElem? (i := 633) (by decide +kernel)⟩
theorem lw_p11 : lw_okq (⟨"NineBridges$Timetable", "everReached", "(I)I"⟩, 9) := ⟨⟨by decide +kernel, by decide +kernel⟩, List.mem_of_getElem? (i := 146) (by decide +kernel), List.mem_of_getElem? (i := 665) (by decide +kernel), List.mem_of_getElem? (i := 666) (by decide +kernel)⟩
theorem lw_p12 : lw_okq (⟨"NineBridges", "minutesApart", "(III)I"⟩, 10) := ⟨⟨by decide +kernel, by decide +kernel⟩, List.mem_of_getElem? (i := 23) (by decide +kernel), List.mem_of_getElem? (i := 694) (by decide +kernel), List.mem_of_getElem? (i := 695) (by decide +kernel)⟩
theorem lw_p13 : lw_okq (⟨"NineBridges", "isJoined", "(II)Z"⟩, 10) := ⟨⟨by decide +kernel, by decide +kernel⟩, List.mem_of_getElem? (i := 23) (by decide +kernel), List.mem_of_getElem? (i := 698) (by decide +kernel), List.mem_of_getElem? (i := 699) (by decide +kernel)⟩
theorem lw_p14 : lw_okq (⟨"NineBridges$Timetable", "waitFrom", "(II)I"⟩, 9) := ⟨⟨by decide +kernel, by decide +kernel⟩, List.mem_of_getElem? (i := 146) (by decide +kernel), List.mem_of_getElem? (i := 717) (by decide +kernel), List.mem_of_getElem? (i := 718) (by decide +kernel)⟩
theorem lw_p15 : lw_okq (⟨"NineBridges$Crowd", "sendWhilePathsAreFound", "(LNineBridges$Timetable;II)I"⟩, 5) := ⟨⟨by decide +kernel, by decide +kernel⟩, List.mem_of_getElem? (i := 182) (by decide +kernel), List.mem_of_getElem? (i := 747) (by decide +kernel), List.mem_of_getElem? (i := 748) (by decide +kernel)⟩
def lw_privs_1 : List (MethodName × Nat) := [(⟨"NineBridges$Reader", "takesSign", "(I)Z"⟩, 9), (⟨"NineBridges$Reader", "takesPivot", "(I)Z"⟩, 9), (⟨"NineBridges$Reader", "takesMark", "(IC)Z"⟩, 9), (⟨"NineBridges$Reader", "takesEnd", "(I)Z"⟩, 9), (⟨"NineBridges$Reader", "takesDigit", "(I)Z"⟩, 9), (⟨"java/util/ArrayList", "add", "(Ljava/lang/Object;[Ljava/lang/Object;I)V"⟩, 3), (⟨"java/util/ArrayList", "grow", "()[Ljava/lang/Object;"⟩, 3), (⟨"java/util/ArrayList", "grow", "(I)[Ljava/lang/Object;"⟩, 3), (⟨"NineBridges", "isBridge", "(I)Z"⟩, 10), (⟨"NineBridges", "told", "(LNineBridges$Bridge;I)I"⟩, 10), (⟨"NineBridges", "openTable", "(IIII)V"⟩, 10), (⟨"NineBridges$Timetable", "everReached", "(I)I"⟩, 9), (⟨"NineBridges", "minutesApart", "(III)I"⟩, 10), (⟨"NineBridges", "isJoined", "(II)Z"⟩, 10), (⟨"NineBridges$Timetable", "waitFrom", "(II)I"⟩, 9), (⟨"NineBridges$Crowd", "sendWhilePathsAreFound", "(LNineBridges$Timetable;II)I"⟩, 5)]
theorem lw_r1 : ∀ q ∈ lw_privs_1, lw_okq q := List.forall_mem_cons.mpr ⟨lw_p0, List.forall_mem_cons.mpr ⟨lw_p1, List.forall_mem_cons.mpr ⟨lw_p2, List.forall_mem_cons.mpr ⟨lw_p3, List.forall_mem_cons.mpr ⟨lw_p4, List.forall_mem_cons.mpr ⟨lw_p5, List.forall_mem_cons.mpr ⟨lw_p6, List.forall_mem_cons.mpr ⟨lw_p7, List.forall_mem_cons.mpr ⟨lw_p8, List.forall_mem_cons.mpr ⟨lw_p9, List.forall_mem_cons.mpr ⟨lw_p10, List.forall_mem_cons.mpr ⟨lw_p11, List.forall_mem_cons.mpr ⟨lw_p12, List.forall_mem_cons.mpr ⟨lw_p13, List.forall_mem_cons.mpr ⟨lw_p14, List.forall_mem_cons.mpr ⟨lw_p15, fun _ h => absurd h List.not_mem_nil⟩⟩⟩⟩⟩⟩⟩⟩⟩⟩⟩⟩⟩⟩⟩⟩
theorem lw_p16 : lw_okq (⟨"NineBridges$Crowd", "findPath", "(LNineBridges$Timetable;II)I"⟩, 5) := ⟨⟨by decide +kernel, by decide +kernel⟩, List.mem_of_getElem? (i := 182) (by decide +kernel), List.mem_of_getElem? (i := 751) (by decide +kernel), List.mem_of_getElem? (i := 752) (by decide +kernel)⟩
theorem lw_p17 : lw_okq (⟨"NineBridges$Crowd", "nextKnot", "(LNineBridges$Timetable;II)I"⟩, 5) := ⟨⟨by decide +kernel, by decide +kernel⟩, List.mem_of_getElem? (i := 182) (by decide +kernel), List.mem_of_getElem? (i := 759) (by decide +kernel), List.mem_of_getElem? (i := 760) (by decide +kernel)⟩
theorem lw_p18 : lw_okq (⟨"NineBridges$Crowd", "acrossFrom", "(LNineBridges$Timetable;III)I"⟩, 5) := ⟨⟨by decide +kernel, by decide +kernel⟩, List.mem_of_getElem? (i := 182) (by decide +kernel), List.mem_of_getElem? (i := 763) (by decide +kernel), List.mem_of_getElem? (i := 764) (by decide +kernel)⟩
theorem lw_p19 : lw_okq (⟨"NineBridges$Crowd", "takenBackFrom", "(LNineBridges$Timetable;III)I"⟩, 5) := ⟨⟨by decide +kernel, by decide +kernel⟩, List.mem_of_getElem? (i := 182) (by decide +kernel), List.mem_of_getElem? (i := 776) (by decide +kernel), List.mem_of_getElem? (i := 777) (by decide +kernel)⟩
theorem lw_p20 : lw_okq (⟨"NineBridges$Crowd", "send", "(LNineBridges$Timetable;II)V"⟩, 5) := ⟨⟨by decide +kernel, by decide +kernel⟩, List.mem_of_getElem? (i := 182) (by decide +kernel), List.mem_of_getElem? (i := 780) (by decide +kernel), List.mem_of_getElem? (i := 781) (by decide +kernel)⟩
theorem lw_p21 : lw_okq (⟨"NineBridges", "allNotesHold", "()Z"⟩, 10) := ⟨⟨by decide +kernel, by decide +kernel⟩, List.mem_of_getElem? (i := 23) (by decide +kernel), List.mem_of_getElem? (i := 819) (by decide +kernel), List.mem_of_getElem? (i := 820) (by decide +kernel)⟩
theorem lw_p22 : lw_okq (⟨"NineBridges", "waysTogether", "()I"⟩, 10) := ⟨⟨by decide +kernel, by decide +kernel⟩, List.mem_of_getElem? (i := 23) (by decide +kernel), List.mem_of_getElem? (i := 838) (by decide +kernel), List.mem_of_getElem? (i := 839) (by decide +kernel)⟩
theorem lw_p23 : lw_okq (⟨"java/util/ArrayList", "fastRemove", "([Ljava/lang/Object;I)V"⟩, 3) := ⟨⟨by decide +kernel, by decide +kernel⟩, List.mem_of_getElem? (i := 86) (by decide +kernel), List.mem_of_getElem? (i := 875) (by decide +kernel), List.mem_of_getElem? (i := 876) (by decide +kernel)⟩
theorem lw_p24 : lw_okq (⟨"NineBridges", "turningBridges", "()I"⟩, 10) := ⟨⟨by decide +kernel, by decide +kernel⟩, List.mem_of_getElem? (i := 23) (by decide +kernel), List.mem_of_getElem? (i := 888) (by decide +kernel), List.mem_of_getElem? (i := 889) (by decide +kernel)⟩
theorem lw_p25 : lw_okq (⟨"NineBridges", "withBridge", "(JLNineBridges$Bridge;)J"⟩, 10) := ⟨⟨by decide +kernel, by decide +kernel⟩, List.mem_of_getElem? (i := 23) (by decide +kernel), List.mem_of_getElem? (i := 897) (by decide +kernel), List.mem_of_getElem? (i := 898) (by decide +kernel)⟩
theorem lw_p26 : lw_okq (⟨"NineBridgesModel", "faultOf", "()I"⟩, 29) := ⟨⟨by decide +kernel, by decide +kernel⟩, List.mem_of_getElem? (i := 912) (by decide +kernel), List.mem_of_getElem? (i := 1019) (by decide +kernel), List.mem_of_getElem? (i := 1020) (by decide +kernel)⟩
theorem lw_p27 : lw_okq (⟨"NineBridgesModel", "go", "(I)Z"⟩, 29) := ⟨⟨by decide +kernel, by decide +kernel⟩, List.mem_of_getElem? (i := 912) (by decide +kernel), List.mem_of_getElem? (i := 1023) (by decide +kernel), List.mem_of_getElem? (i := 1024) (by decide +kernel)⟩
theorem lw_p28 : lw_okq (⟨"NineBridgesModel", "goPivot", "(I)Z"⟩, 29) := ⟨⟨by decide +kernel, by decide +kernel⟩, List.mem_of_getElem? (i := 912) (by decide +kernel), List.mem_of_getElem? (i := 1030) (by decide +kernel), List.mem_of_getElem? (i := 1031) (by decide +kernel)⟩
theorem lw_p29 : lw_okq (⟨"NineBridgesModel", "goEnd", "(I)Z"⟩, 29) := ⟨⟨by decide +kernel, by decide +kernel⟩, List.mem_of_getElem? (i := 912) (by decide +kernel), List.mem_of_getElem? (i := 1039) (by decide +kernel), List.mem_of_getElem? (i := 1040) (by decide +kernel)⟩
theorem lw_p30 : lw_okq (⟨"NineBridgesModel", "goDigit", "(III)Z"⟩, 29) := ⟨⟨by decide +kernel, by decide +kernel⟩, List.mem_of_getElem? (i := 912) (by decide +kernel), List.mem_of_getElem? (i := 1044) (by decide +kernel), List.mem_of_getElem? (i := 1045) (by decide +kernel)⟩
theorem lw_p31 : lw_okq (⟨"NineBridgesModel", "isBridge", "(I)Z"⟩, 29) := ⟨⟨by decide +kernel, by decide +kernel⟩, List.mem_of_getElem? (i := 912) (by decide +kernel), List.mem_of_getElem? (i := 1057) (by decide +kernel), List.mem_of_getElem? (i := 1058) (by decide +kernel)⟩
def lw_privs_2 : List (MethodName × Nat) := [(⟨"NineBridges$Crowd", "findPath", "(LNineBridges$Timetable;II)I"⟩, 5), (⟨"NineBridges$Crowd", "nextKnot", "(LNineBridges$Timetable;II)I"⟩, 5), (⟨"NineBridges$Crowd", "acrossFrom", "(LNineBridges$Timetable;III)I"⟩, 5), (⟨"NineBridges$Crowd", "takenBackFrom", "(LNineBridges$Timetable;III)I"⟩, 5), (⟨"NineBridges$Crowd", "send", "(LNineBridges$Timetable;II)V"⟩, 5), (⟨"NineBridges", "allNotesHold", "()Z"⟩, 10), (⟨"NineBridges", "waysTogether", "()I"⟩, 10), (⟨"java/util/ArrayList", "fastRemove", "([Ljava/lang/Object;I)V"⟩, 3), (⟨"NineBridges", "turningBridges", "()I"⟩, 10), (⟨"NineBridges", "withBridge", "(JLNineBridges$Bridge;)J"⟩, 10), (⟨"NineBridgesModel", "faultOf", "()I"⟩, 29), (⟨"NineBridgesModel", "go", "(I)Z"⟩, 29), (⟨"NineBridgesModel", "goPivot", "(I)Z"⟩, 29), (⟨"NineBridgesModel", "goEnd", "(I)Z"⟩, 29), (⟨"NineBridgesModel", "goDigit", "(III)Z"⟩, 29), (⟨"NineBridgesModel", "isBridge", "(I)Z"⟩, 29)]
theorem lw_r2 : ∀ q ∈ lw_privs_2, lw_okq q := List.forall_mem_cons.mpr ⟨lw_p16, List.forall_mem_cons.mpr ⟨lw_p17, List.forall_mem_cons.mpr ⟨lw_p18, List.forall_mem_cons.mpr ⟨lw_p19, List.forall_mem_cons.mpr ⟨lw_p20, List.forall_mem_cons.mpr ⟨lw_p21, List.forall_mem_cons.mpr ⟨lw_p22, List.forall_mem_cons.mpr ⟨lw_p23, List.forall_mem_cons.mpr ⟨lw_p24, List.forall_mem_cons.mpr ⟨lw_p25, List.forall_mem_cons.mpr ⟨lw_p26, List.forall_mem_cons.mpr ⟨lw_p27, List.forall_mem_cons.mpr ⟨lw_p28, List.forall_mem_cons.mpr ⟨lw_p29, List.forall_mem_cons.mpr ⟨lw_p30, List.forall_mem_cons.mpr ⟨lw_p31, fun _ h => absurd h List.not_mem_nil⟩⟩⟩⟩⟩⟩⟩⟩⟩⟩⟩⟩⟩⟩⟩⟩
theorem lw_p32 : lw_okq (⟨"NineBridgesModel", "tellAbout", "(II)I"⟩, 29) := ⟨⟨by decide +kernel, by decide +kernel⟩, List.mem_of_getElem? (i := 912) (by decide +kernel), List.mem_of_getElem? (i := 1066) (by decide +kernel), List.mem_of_getElem? (i := 1067) (by decide +kernel)⟩
theorem lw_p33 : lw_okq (⟨"NineBridgesModel", "roundOf", "(I)I"⟩, 29) := ⟨⟨by decide +kernel, by decide +kernel⟩, List.mem_of_getElem? (i := 912) (by decide +kernel), List.mem_of_getElem? (i := 1070) (by decide +kernel), List.mem_of_getElem? (i := 1071) (by decide +kernel)⟩
theorem lw_p34 : lw_okq (⟨"NineBridgesModel", "placesOf", "(I)I"⟩, 29) := ⟨⟨by decide +kernel, by decide +kernel⟩, List.mem_of_getElem? (i := 912) (by decide +kernel), List.mem_of_getElem? (i := 1074) (by decide +kernel), List.mem_of_getElem? (i := 1075) (by decide +kernel)⟩
theorem lw_p35 : lw_okq (⟨"NineBridgesModel", "placeOf", "(I)I"⟩, 29) := ⟨⟨by decide +kernel, by decide +kernel⟩, List.mem_of_getElem? (i := 912) (by decide +kernel), List.mem_of_getElem? (i := 1078) (by decide +kernel), List.mem_of_getElem? (i := 1079) (by decide +kernel)⟩
theorem lw_p36 : lw_okq (⟨"NineBridgesModel", "joinsNow", "(II)I"⟩, 29) := ⟨⟨by decide +kernel, by decide +kernel⟩, List.mem_of_getElem? (i := 912) (by decide +kernel), List.mem_of_getElem? (i := 1095) (by decide +kernel), List.mem_of_getElem? (i := 1096) (by decide +kernel)⟩
theorem lw_p37 : lw_okq (⟨"NineBridgesModel", "whereIn", "(II)I"⟩, 29) := ⟨⟨by decide +kernel, by decide +kernel⟩, List.mem_of_getElem? (i := 912) (by decide +kernel), List.mem_of_getElem? (i := 1099) (by decide +kernel), List.mem_of_getElem? (i := 1100) (by decide +kernel)⟩
theorem lw_p38 : lw_okq (⟨"NineBridgesModel", "lastsNow", "(II)I"⟩, 29) := ⟨⟨by decide +kernel, by decide +kernel⟩, List.mem_of_getElem? (i := 912) (by decide +kernel), List.mem_of_getElem? (i := 1107) (by decide +kernel), List.mem_of_getElem? (i := 1108) (by decide +kernel)⟩
theorem lw_p39 : lw_okq (⟨"NineBridgesModel", "soonestOf", "(IIIII)I"⟩, 29) := ⟨⟨by decide +kernel, by decide +kernel⟩, List.mem_of_getElem? (i := 912) (by decide +kernel), List.mem_of_getElem? (i := 1125) (by decide +kernel), List.mem_of_getElem? (i := 1126) (by decide +kernel)⟩
theorem lw_p40 : lw_okq (⟨"NineBridgesModel", "layThere", "(IIII)V"⟩, 29) := ⟨⟨by decide +kernel, by decide +kernel⟩, List.mem_of_getElem? (i := 912) (by decide +kernel), List.mem_of_getElem? (i := 1129) (by decide +kernel), List.mem_of_getElem? (i := 1130) (by decide +kernel)⟩
theorem lw_p41 : lw_okq (⟨"NineBridgesModel", "mayGo", "(IIII)Z"⟩, 29) := ⟨⟨by decide +kernel, by decide +kernel⟩, List.mem_of_getElem? (i := 912) (by decide +kernel), List.mem_of_getElem? (i := 1134) (by decide +kernel), List.mem_of_getElem? (i := 1135) (by decide +kernel)⟩
theorem lw_p42 : lw_okq (⟨"NineBridgesModel", "againOf", "()J"⟩, 29) := ⟨⟨by decide +kernel, by decide +kernel⟩, List.mem_of_getElem? (i := 912) (by decide +kernel), List.mem_of_getElem? (i := 1146) (by decide +kernel), List.mem_of_getElem? (i := 1147) (by decide +kernel)⟩
theorem lw_p43 : lw_okq (⟨"NineBridgesModel", "cutOf", "(III)I"⟩, 29) := ⟨⟨by decide +kernel, by decide +kernel⟩, List.mem_of_getElem? (i := 912) (by decide +kernel), List.mem_of_getElem? (i := 1158) (by decide +kernel), List.mem_of_getElem? (i := 1159) (by decide +kernel)⟩
theorem lw_p44 : lw_okq (⟨"NineBridgesModel", "layWaits", "(IIIII)V"⟩, 29) := ⟨⟨by decide +kernel, by decide +kernel⟩, List.mem_of_getElem? (i := 912) (by decide +kernel), List.mem_of_getElem? (i := 1167) (by decide +kernel), List.mem_of_getElem? (i := 1168) (by decide +kernel)⟩
theorem lw_p45 : lw_okq (⟨"NineBridgesModel", "oneMore", "(IIIIII)Z"⟩, 29) := ⟨⟨by decide +kernel, by decide +kernel⟩, List.mem_of_getElem? (i := 912) (by decide +kernel), List.mem_of_getElem? (i := 1183) (by decide +kernel), List.mem_of_getElem? (i := 1184) (by decide +kernel)⟩
theorem lw_p46 : lw_okq (⟨"NineBridgesModel", "comeTo", "(III)V"⟩, 29) := ⟨⟨by decide +kernel, by decide +kernel⟩, List.mem_of_getElem? (i := 912) (by decide +kernel), List.mem_of_getElem? (i := 1187) (by decide +kernel), List.mem_of_getElem? (i := 1188) (by decide +kernel)⟩
theorem lw_p47 : lw_okq (⟨"NineBridgesModel", "lookOn", "(IIIII)V"⟩, 29) := ⟨⟨by decide +kernel, by decide +kernel⟩, List.mem_of_getElem? (i := 912) (by decide +kernel), List.mem_of_getElem? (i := 1191) (by decide +kernel), List.mem_of_getElem? (i := 1192) (by decide +kernel)⟩
def lw_privs_3 : List (MethodName × Nat) := [(⟨"NineBridgesModel", "tellAbout", "(II)I"⟩, 29), (⟨"NineBridgesModel", "roundOf", "(I)I"⟩, 29), (⟨"NineBridgesModel", "placesOf", "(I)I"⟩, 29), (⟨"NineBridgesModel", "placeOf", "(I)I"⟩, 29), (⟨"NineBridgesModel", "joinsNow", "(II)I"⟩, 29), (⟨"NineBridgesModel", "whereIn", "(II)I"⟩, 29), (⟨"NineBridgesModel", "lastsNow", "(II)I"⟩, 29), (⟨"NineBridgesModel", "soonestOf", "(IIIII)I"⟩, 29), (⟨"NineBridgesModel", "layThere", "(IIII)V"⟩, 29), (⟨"NineBridgesModel", "mayGo", "(IIII)Z"⟩, 29), (⟨"NineBridgesModel", "againOf", "()J"⟩, 29), (⟨"NineBridgesModel", "cutOf", "(III)I"⟩, 29), (⟨"NineBridgesModel", "layWaits", "(IIIII)V"⟩, 29), (⟨"NineBridgesModel", "oneMore", "(IIIIII)Z"⟩, 29), (⟨"NineBridgesModel", "comeTo", "(III)V"⟩, 29), (⟨"NineBridgesModel", "lookOn", "(IIIII)V"⟩, 29)]
theorem lw_r3 : ∀ q ∈ lw_privs_3, lw_okq q := List.forall_mem_cons.mpr ⟨lw_p32, List.forall_mem_cons.mpr ⟨lw_p33, List.forall_mem_cons.mpr ⟨lw_p34, List.forall_mem_cons.mpr ⟨lw_p35, List.forall_mem_cons.mpr ⟨lw_p36, List.forall_mem_cons.mpr ⟨lw_p37, List.forall_mem_cons.mpr ⟨lw_p38, List.forall_mem_cons.mpr ⟨lw_p39, List.forall_mem_cons.mpr ⟨lw_p40, List.forall_mem_cons.mpr ⟨lw_p41, List.forall_mem_cons.mpr ⟨lw_p42, List.forall_mem_cons.mpr ⟨lw_p43, List.forall_mem_cons.mpr ⟨lw_p44, List.forall_mem_cons.mpr ⟨lw_p45, List.forall_mem_cons.mpr ⟨lw_p46, List.forall_mem_cons.mpr ⟨lw_p47, fun _ h => absurd h List.not_mem_nil⟩⟩⟩⟩⟩⟩⟩⟩⟩⟩⟩⟩⟩⟩⟩⟩
theorem lw_p48 : lw_okq (⟨"NineBridgesModel", "takeWay", "(II)V"⟩, 29) := ⟨⟨by decide +kernel, by decide +kernel⟩, List.mem_of_getElem? (i := 912) (by decide +kernel), List.mem_of_getElem? (i := 1195) (by decide +kernel), List.mem_of_getElem? (i := 1196) (by decide +kernel)⟩
theorem lw_p49 : lw_okq (⟨"NineBridgesModel", "areSo", "()Z"⟩, 29) := ⟨⟨by decide +kernel, by decide +kernel⟩, List.mem_of_getElem? (i := 912) (by decide +kernel), List.mem_of_getElem? (i := 1220) (by decide +kernel), List.mem_of_getElem? (i := 1221) (by decide +kernel)⟩
theorem lw_p50 : lw_okq (⟨"NineBridgesModel", "allSoonest", "(II)I"⟩, 29) := ⟨⟨by decide +kernel, by decide +kernel⟩, List.mem_of_getElem? (i := 912) (by decide +kernel), List.mem_of_getElem? (i := 1228) (by decide +kernel), List.mem_of_getElem? (i := 1229) (by decide +kernel)⟩
theorem lw_p51 : lw_okq (⟨"NineBridgesModel", "countOf", "(I)I"⟩, 29) := ⟨⟨by decide +kernel, by decide +kernel⟩, List.mem_of_getElem? (i := 912) (by decide +kernel), List.mem_of_getElem? (i := 1244) (by decide +kernel), List.mem_of_getElem? (i := 1245) (by decide +kernel)⟩
theorem lw_p52 : lw_okq (⟨"NineBridgesModel", "turning", "()I"⟩, 29) := ⟨⟨by decide +kernel, by decide +kernel⟩, List.mem_of_getElem? (i := 912) (by decide +kernel), List.mem_of_getElem? (i := 1248) (by decide +kernel), List.mem_of_getElem? (i := 1249) (by decide +kernel)⟩
theorem lw_p53 : lw_okq (⟨"NineBridgesModel", "sayBridge", "(I)V"⟩, 29) := ⟨⟨by decide +kernel, by decide +kernel⟩, List.mem_of_getElem? (i := 912) (by decide +kernel), List.mem_of_getElem? (i := 1257) (by decide +kernel), List.mem_of_getElem? (i := 1258) (by decide +kernel)⟩
theorem lw_p54 : lw_okq (⟨"NineBridgesModel", "say", "(J)V"⟩, 29) := ⟨⟨by decide +kernel, by decide +kernel⟩, List.mem_of_getElem? (i := 912) (by decide +kernel), List.mem_of_getElem? (i := 1261) (by decide +kernel), List.mem_of_getElem? (i := 1262) (by decide +kernel)⟩
def lw_privs_4 : List (MethodName × Nat) := [(⟨"NineBridgesModel", "takeWay", "(II)V"⟩, 29), (⟨"NineBridgesModel", "areSo", "()Z"⟩, 29), (⟨"NineBridgesModel", "allSoonest", "(II)I"⟩, 29), (⟨"NineBridgesModel", "countOf", "(I)I"⟩, 29), (⟨"NineBridgesModel", "turning", "()I"⟩, 29), (⟨"NineBridgesModel", "sayBridge", "(I)V"⟩, 29), (⟨"NineBridgesModel", "say", "(J)V"⟩, 29)]
theorem lw_r4 : ∀ q ∈ lw_privs_4, lw_okq q := List.forall_mem_cons.mpr ⟨lw_p48, List.forall_mem_cons.mpr ⟨lw_p49, List.forall_mem_cons.mpr ⟨lw_p50, List.forall_mem_cons.mpr ⟨lw_p51, List.forall_mem_cons.mpr ⟨lw_p52, List.forall_mem_cons.mpr ⟨lw_p53, List.forall_mem_cons.mpr ⟨lw_p54, fun _ h => absurd h List.not_mem_nil⟩⟩⟩⟩⟩⟩⟩
def lw_privs : List (MethodName × Nat) := lw_privs_1 ++ (lw_privs_2 ++ (lw_privs_3 ++ (lw_privs_4)))
def lw_tbl : List Cond := k2_sels lw_privs ++ tables_1
theorem lw_privs_ok : ∀ q ∈ lw_privs, lw_okq q := by
  show ∀ q ∈ lw_privs_1 ++ (lw_privs_2 ++ (lw_privs_3 ++ (lw_privs_4))), lw_okq q
  exact List.forall_mem_append.mpr ⟨lw_r1, List.forall_mem_append.mpr ⟨lw_r2, List.forall_mem_append.mpr ⟨lw_r3, lw_r4⟩⟩⟩
end
section
def RX0 : String := "NineBridges$Bridge"
def TX0 : u_T := fun k => match k with
  | 0 => ("NineBridges$Bridge", "pivot", "I", true)
  | 1 => ("NineBridges$Bridge", "stand", "I", true)
  | 2 => ("NineBridges$Bridge", "turn", "I", true)
  | 3 => ("NineBridges$Bridge", "bears", "I", true)
  | 4 => ("NineBridges$Bridge", "ends", "[I", true)
  | _ => ("NineBridges$Bridge", "shift", "I", false)
def tyX0 : Nat → FieldType := fun k => match k with
  | 0 => .int
  | 1 => .int
  | 2 => .int
  | 3 => .int
  | 4 => .array .int
  | _ => .int
theorem nmX0 : ∀ a, a < 6 → ∀ b, b < 6 → a ≠ b → (TX0 a).2.1 ≠ (TX0 b).2.1 := by decide +kernel
theorem tyX0_ok : ∀ k, k < 6 → parseFieldDescriptor (TX0 k).2.2.1 = some (tyX0 k) := by decide +kernel
abbrev cX0_init : ByteArray := prog_2_method_1_code
def yX0_init : MethodName := ⟨RX0, "<init>", "(LNineBridges$Reader;)V"⟩
abbrev cX0_kind : ByteArray := prog_2_method_2_code
def yX0_kind : MethodName := ⟨RX0, "kind", "()I"⟩
abbrev cX0_endCount : ByteArray := prog_2_method_3_code
def yX0_endCount : MethodName := ⟨RX0, "endCount", "()I"⟩
abbrev cX0_end : ByteArray := prog_2_method_4_code
def yX0_end : MethodName := ⟨RX0, "end", "(I)I"⟩
abbrev cX0_turnMinutes : ByteArray := prog_2_method_5_code
def yX0_turnMinutes : MethodName := ⟨RX0, "turnMinutes", "(Z)I"⟩
abbrev cX0_placeCount : ByteArray := prog_2_method_6_code
def yX0_placeCount : MethodName := ⟨RX0, "placeCount", "()I"⟩
abbrev cX0_endOfPlace : ByteArray := prog_2_method_7_code
def yX0_endOfPlace : MethodName := ⟨RX0, "endOfPlace", "(I)I"⟩
abbrev cX0_roundMinutes : ByteArray := prog_2_method_8_code
def yX0_roundMinutes : MethodName := ⟨RX0, "roundMinutes", "(Z)I"⟩
abbrev cX0_endAt : ByteArray := prog_2_method_9_code
def yX0_endAt : MethodName := ⟨RX0, "endAt", "(IZ)I"⟩
abbrev cX0_standsStill : ByteArray := prog_2_method_10_code
def yX0_standsStill : MethodName := ⟨RX0, "standsStill", "(IZ)I"⟩
def RX1 : String := "NineBridges$Crowd"
def TX1 : u_T := fun k => match k with
  | 0 => ("NineBridges$Crowd", "going", "[I", true)
  | 1 => ("NineBridges$Crowd", "waiting", "[I", true)
  | 2 => ("NineBridges$Crowd", "tries", "[I", true)
  | 3 => ("NineBridges$Crowd", "onPath", "[I", true)
  | _ => ("NineBridges$Crowd", "path", "[I", true)
def tyX1 : Nat → FieldType := fun k => match k with
  | 0 => .array .int
  | 1 => .array .int
  | 2 => .array .int
  | 3 => .array .int
  | _ => .array .int
theorem nmX1 : ∀ a, a < 5 → ∀ b, b < 5 → a ≠ b → (TX1 a).2.1 ≠ (TX1 b).2.1 := by decide +kernel
theorem tyX1_ok : ∀ k, k < 5 → parseFieldDescriptor (TX1 k).2.2.1 = some (tyX1 k) := by decide +kernel
abbrev cX1_init : ByteArray := prog_3_method_1_code
def yX1_init : MethodName := ⟨RX1, "<init>", "()V"⟩
abbrev cX1_most : ByteArray := prog_3_method_2_code
def yX1_most : MethodName := ⟨RX1, "most", "(LNineBridges$Timetable;II)I"⟩
abbrev cX1_sendWhilePathsAreFound : ByteArray := prog_3_method_3_code
def yX1_sendWhilePathsAreFound : MethodName := ⟨RX1, "sendWhilePathsAreFound", "(LNineBridges$Timetable;II)I"⟩
abbrev cX1_findPath : ByteArray := prog_3_method_4_code
def yX1_findPath : MethodName := ⟨RX1, "findPath", "(LNineBridges$Timetable;II)I"⟩
abbrev cX1_knot : ByteArray := prog_3_method_5_code
def yX1_knot : MethodName := ⟨RX1, "knot", "(II)I"⟩
abbrev cX1_nextKnot : ByteArray := prog_3_method_6_code
def yX1_nextKnot : MethodName := ⟨RX1, "nextKnot", "(LNineBridges$Timetable;II)I"⟩
abbrev cX1_acrossFrom : ByteArray := prog_3_method_7_code
def yX1_acrossFrom : MethodName := ⟨RX1, "acrossFrom", "(LNineBridges$Timetable;III)I"⟩
abbrev cX1_takenBackFrom : ByteArray := prog_3_method_8_code
def yX1_takenBackFrom : MethodName := ⟨RX1, "takenBackFrom", "(LNineBridges$Timetable;III)I"⟩
abbrev cX1_send : ByteArray := prog_3_method_9_code
def yX1_send : MethodName := ⟨RX1, "send", "(LNineBridges$Timetable;II)V"⟩
def RX2 : String := "NineBridges$Fixed"
def TX2 : u_T := fun k => match k with
  | 0 => ("NineBridges$Bridge", "pivot", "I", true)
  | 1 => ("NineBridges$Bridge", "stand", "I", true)
  | 2 => ("NineBridges$Bridge", "turn", "I", true)
  | 3 => ("NineBridges$Bridge", "bears", "I", true)
  | 4 => ("NineBridges$Bridge", "ends", "[I", true)
  | _ => ("NineBridges$Bridge", "shift", "I", false)
def tyX2 : Nat → FieldType := fun k => match k with
  | 0 => .int
  | 1 => .int
  | 2 => .int
  | 3 => .int
  | 4 => .array .int
  | _ => .int
theorem nmX2 : ∀ a, a < 6 → ∀ b, b < 6 → a ≠ b → (TX2 a).2.1 ≠ (TX2 b).2.1 := by decide +kernel
theorem tyX2_ok : ∀ k, k < 6 → parseFieldDescriptor (TX2 k).2.2.1 = some (tyX2 k) := by decide +kernel
abbrev cX2_init : ByteArray := prog_4_method_1_code
def yX2_init : MethodName := ⟨RX2, "<init>", "(LNineBridges$Reader;)V"⟩
abbrev cX2_kind : ByteArray := prog_4_method_2_code
def yX2_kind : MethodName := ⟨RX2, "kind", "()I"⟩
abbrev cX2_roundMinutes : ByteArray := prog_4_method_3_code
def yX2_roundMinutes : MethodName := ⟨RX2, "roundMinutes", "(Z)I"⟩
abbrev cX2_endAt : ByteArray := prog_4_method_4_code
def yX2_endAt : MethodName := ⟨RX2, "endAt", "(IZ)I"⟩
abbrev cX2_standsStill : ByteArray := prog_4_method_5_code
def yX2_standsStill : MethodName := ⟨RX2, "standsStill", "(IZ)I"⟩
def RX3 : String := "NineBridges$Frosty"
def TX3 : u_T := fun k => match k with
  | 0 => ("NineBridges$Bridge", "pivot", "I", true)
  | 1 => ("NineBridges$Bridge", "stand", "I", true)
  | 2 => ("NineBridges$Bridge", "turn", "I", true)
  | 3 => ("NineBridges$Bridge", "bears", "I", true)
  | 4 => ("NineBridges$Bridge", "ends", "[I", true)
  | _ => ("NineBridges$Bridge", "shift", "I", false)
def tyX3 : Nat → FieldType := fun k => match k with
  | 0 => .int
  | 1 => .int
  | 2 => .int
  | 3 => .int
  | 4 => .array .int
  | _ => .int
theorem nmX3 : ∀ a, a < 6 → ∀ b, b < 6 → a ≠ b → (TX3 a).2.1 ≠ (TX3 b).2.1 := by decide +kernel
theorem tyX3_ok : ∀ k, k < 6 → parseFieldDescriptor (TX3 k).2.2.1 = some (tyX3 k) := by decide +kernel
abbrev cX3_init : ByteArray := prog_5_method_1_code
def yX3_init : MethodName := ⟨RX3, "<init>", "(LNineBridges$Reader;)V"⟩
abbrev cX3_kind : ByteArray := prog_5_method_2_code
def yX3_kind : MethodName := ⟨RX3, "kind", "()I"⟩
abbrev cX3_turnMinutes : ByteArray := prog_5_method_3_code
def yX3_turnMinutes : MethodName := ⟨RX3, "turnMinutes", "(Z)I"⟩
def RX4 : String := "NineBridges$Image"
def TX4 : u_T := fun k => match k with
  | 0 => ("NineBridges$Image", "shifts", "[I", true)
  | 1 => ("NineBridges$Image", "notes", "LNineBridges$Notes;", true)
  | 2 => ("NineBridges$Image", "bridgeCount", "I", false)
  | _ => ("NineBridges$Image", "frosty", "Z", false)
def tyX4 : Nat → FieldType := fun k => match k with
  | 0 => .array .int
  | 1 => .object "NineBridges$Notes"
  | 2 => .int
  | _ => .boolean
theorem nmX4 : ∀ a, a < 4 → ∀ b, b < 4 → a ≠ b → (TX4 a).2.1 ≠ (TX4 b).2.1 := by decide +kernel
theorem tyX4_ok : ∀ k, k < 4 → parseFieldDescriptor (TX4 k).2.2.1 = some (tyX4 k) := by decide +kernel
abbrev cX4_init : ByteArray := prog_6_method_1_code
def yX4_init : MethodName := ⟨RX4, "<init>", "()V"⟩
abbrev cX4_isKept : ByteArray := prog_6_method_2_code
def yX4_isKept : MethodName := ⟨RX4, "isKept", "()Z"⟩
abbrev cX4_wasFrosty : ByteArray := prog_6_method_3_code
def yX4_wasFrosty : MethodName := ⟨RX4, "wasFrosty", "()Z"⟩
abbrev cX4_keep : ByteArray := prog_6_method_4_code
def yX4_keep : MethodName := ⟨RX4, "keep", "(Ljava/util/ArrayList;ZLNineBridges$Notes;)V"⟩
abbrev cX4_giveBack : ByteArray := prog_6_method_5_code
def yX4_giveBack : MethodName := ⟨RX4, "giveBack", "(Ljava/util/ArrayList;LNineBridges$Notes;)V"⟩
def RX5 : String := "NineBridges$Notes"
def TX5 : u_T := fun k => match k with
  | 0 => ("NineBridges$Notes", "parts", "[I", true)
  | _ => ("NineBridges$Notes", "size", "I", false)
def tyX5 : Nat → FieldType := fun k => match k with
  | 0 => .array .int
  | _ => .int
theorem nmX5 : ∀ a, a < 2 → ∀ b, b < 2 → a ≠ b → (TX5 a).2.1 ≠ (TX5 b).2.1 := by decide +kernel
theorem tyX5_ok : ∀ k, k < 2 → parseFieldDescriptor (TX5 k).2.2.1 = some (tyX5 k) := by decide +kernel
abbrev cX5_init : ByteArray := prog_7_method_1_code
def yX5_init : MethodName := ⟨RX5, "<init>", "()V"⟩
abbrev cX5_size : ByteArray := prog_7_method_2_code
def yX5_size : MethodName := ⟨RX5, "size", "()I"⟩
abbrev cX5_isFull : ByteArray := prog_7_method_3_code
def yX5_isFull : MethodName := ⟨RX5, "isFull", "()Z"⟩
abbrev cX5_add : ByteArray := prog_7_method_4_code
def yX5_add : MethodName := ⟨RX5, "add", "(IIII)I"⟩
abbrev cX5_part : ByteArray := prog_7_method_5_code
def yX5_part : MethodName := ⟨RX5, "part", "(II)I"⟩
abbrev cX5_empty : ByteArray := prog_7_method_6_code
def yX5_empty : MethodName := ⟨RX5, "empty", "()I"⟩
abbrev cX5_becomeLike : ByteArray := prog_7_method_7_code
def yX5_becomeLike : MethodName := ⟨RX5, "becomeLike", "(LNineBridges$Notes;)V"⟩
def RX6 : String := "NineBridges$Page"
def TX6 : u_T := fun k => match k with
  | 0 => ("NineBridges$Page", "codes", "[I", true)
  | _ => ("NineBridges$Page", "size", "I", false)
def tyX6 : Nat → FieldType := fun k => match k with
  | 0 => .array .int
  | _ => .int
theorem nmX6 : ∀ a, a < 2 → ∀ b, b < 2 → a ≠ b → (TX6 a).2.1 ≠ (TX6 b).2.1 := by decide +kernel
theorem tyX6_ok : ∀ k, k < 2 → parseFieldDescriptor (TX6 k).2.2.1 = some (tyX6 k) := by decide +kernel
abbrev cX6_init : ByteArray := prog_8_method_1_code
def yX6_init : MethodName := ⟨RX6, "<init>", "()V"⟩
abbrev cX6_size : ByteArray := prog_8_method_2_code
def yX6_size : MethodName := ⟨RX6, "size", "()I"⟩
abbrev cX6_hasRoom : ByteArray := prog_8_method_3_code
def yX6_hasRoom : MethodName := ⟨RX6, "hasRoom", "(I)Z"⟩
abbrev cX6_append : ByteArray := prog_8_method_4_code
def yX6_append : MethodName := ⟨RX6, "append", "(I)V"⟩
abbrev cX6_empty : ByteArray := prog_8_method_5_code
def yX6_empty : MethodName := ⟨RX6, "empty", "()I"⟩
abbrev cX6_codeAt : ByteArray := prog_8_method_6_code
def yX6_codeAt : MethodName := ⟨RX6, "codeAt", "(I)I"⟩
abbrev cX6_readBy : ByteArray := prog_8_method_7_code
def yX6_readBy : MethodName := ⟨RX6, "readBy", "(LNineBridges$Reader;)I"⟩
def RX7 : String := "NineBridges$Reader"
def TX7 : u_T := fun k => match k with
  | 0 => ("NineBridges$Reader", "ends", "[I", true)
  | 1 => ("NineBridges$Reader", "stage", "I", false)
  | 2 => ("NineBridges$Reader", "kind", "I", false)
  | 3 => ("NineBridges$Reader", "pivot", "I", false)
  | 4 => ("NineBridges$Reader", "endCount", "I", false)
  | 5 => ("NineBridges$Reader", "stand", "I", false)
  | 6 => ("NineBridges$Reader", "turn", "I", false)
  | 7 => ("NineBridges$Reader", "shift", "I", false)
  | _ => ("NineBridges$Reader", "bears", "I", false)
def tyX7 : Nat → FieldType := fun k => match k with
  | 0 => .array .int
  | 1 => .int
  | 2 => .int
  | 3 => .int
  | 4 => .int
  | 5 => .int
  | 6 => .int
  | 7 => .int
  | _ => .int
theorem nmX7 : ∀ a, a < 9 → ∀ b, b < 9 → a ≠ b → (TX7 a).2.1 ≠ (TX7 b).2.1 := by decide +kernel
theorem tyX7_ok : ∀ k, k < 9 → parseFieldDescriptor (TX7 k).2.2.1 = some (tyX7 k) := by decide +kernel
abbrev cX7_init : ByteArray := prog_9_method_1_code
def yX7_init : MethodName := ⟨RX7, "<init>", "()V"⟩
abbrev cX7_begin : ByteArray := prog_9_method_2_code
def yX7_begin : MethodName := ⟨RX7, "begin", "()V"⟩
abbrev cX7_isWhole : ByteArray := prog_9_method_3_code
def yX7_isWhole : MethodName := ⟨RX7, "isWhole", "()Z"⟩
abbrev cX7_takes : ByteArray := prog_9_method_4_code
def yX7_takes : MethodName := ⟨RX7, "takes", "(I)Z"⟩
abbrev cX7_takesSign : ByteArray := prog_9_method_5_code
def yX7_takesSign : MethodName := ⟨RX7, "takesSign", "(I)Z"⟩
abbrev cX7_takesPivot : ByteArray := prog_9_method_6_code
def yX7_takesPivot : MethodName := ⟨RX7, "takesPivot", "(I)Z"⟩
abbrev cX7_takesMark : ByteArray := prog_9_method_7_code
def yX7_takesMark : MethodName := ⟨RX7, "takesMark", "(IC)Z"⟩
abbrev cX7_takesEnd : ByteArray := prog_9_method_8_code
def yX7_takesEnd : MethodName := ⟨RX7, "takesEnd", "(I)Z"⟩
abbrev cX7_takesDigit : ByteArray := prog_9_method_9_code
def yX7_takesDigit : MethodName := ⟨RX7, "takesDigit", "(I)Z"⟩
abbrev cX7_made : ByteArray := prog_9_method_10_code
def yX7_made : MethodName := ⟨RX7, "made", "()LNineBridges$Bridge;"⟩
def RX8 : String := "NineBridges$Swinging"
def TX8 : u_T := fun k => match k with
  | 0 => ("NineBridges$Bridge", "pivot", "I", true)
  | 1 => ("NineBridges$Bridge", "stand", "I", true)
  | 2 => ("NineBridges$Bridge", "turn", "I", true)
  | 3 => ("NineBridges$Bridge", "bears", "I", true)
  | 4 => ("NineBridges$Bridge", "ends", "[I", true)
  | _ => ("NineBridges$Bridge", "shift", "I", false)
def tyX8 : Nat → FieldType := fun k => match k with
  | 0 => .int
  | 1 => .int
  | 2 => .int
  | 3 => .int
  | 4 => .array .int
  | _ => .int
theorem nmX8 : ∀ a, a < 6 → ∀ b, b < 6 → a ≠ b → (TX8 a).2.1 ≠ (TX8 b).2.1 := by decide +kernel
theorem tyX8_ok : ∀ k, k < 6 → parseFieldDescriptor (TX8 k).2.2.1 = some (tyX8 k) := by decide +kernel
abbrev cX8_init : ByteArray := prog_10_method_1_code
def yX8_init : MethodName := ⟨RX8, "<init>", "(LNineBridges$Reader;)V"⟩
abbrev cX8_kind : ByteArray := prog_10_method_2_code
def yX8_kind : MethodName := ⟨RX8, "kind", "()I"⟩
abbrev cX8_placeCount : ByteArray := prog_10_method_3_code
def yX8_placeCount : MethodName := ⟨RX8, "placeCount", "()I"⟩
abbrev cX8_endOfPlace : ByteArray := prog_10_method_4_code
def yX8_endOfPlace : MethodName := ⟨RX8, "endOfPlace", "(I)I"⟩
def RX9 : String := "NineBridges$Timetable"
def TX9 : u_T := fun k => match k with
  | 0 => ("NineBridges$Timetable", "landings", "[[I", true)
  | 1 => ("NineBridges$Timetable", "pivots", "[I", true)
  | 2 => ("NineBridges$Timetable", "touched", "[I", true)
  | 3 => ("NineBridges$Timetable", "firsts", "[[I", true)
  | 4 => ("NineBridges$Timetable", "latest", "[I", true)
  | 5 => ("NineBridges$Timetable", "start", "I", false)
  | 6 => ("NineBridges$Timetable", "span", "I", false)
  | 7 => ("NineBridges$Timetable", "pace", "I", false)
  | _ => ("NineBridges$Timetable", "rows", "I", false)
def tyX9 : Nat → FieldType := fun k => match k with
  | 0 => .array (.array .int)
  | 1 => .array .int
  | 2 => .array .int
  | 3 => .array (.array .int)
  | 4 => .array .int
  | 5 => .int
  | 6 => .int
  | 7 => .int
  | _ => .int
theorem nmX9 : ∀ a, a < 9 → ∀ b, b < 9 → a ≠ b → (TX9 a).2.1 ≠ (TX9 b).2.1 := by decide +kernel
theorem tyX9_ok : ∀ k, k < 9 → parseFieldDescriptor (TX9 k).2.2.1 = some (tyX9 k) := by decide +kernel
abbrev cX9_init : ByteArray := prog_11_method_1_code
def yX9_init : MethodName := ⟨RX9, "<init>", "()V"⟩
abbrev cX9_open : ByteArray := prog_11_method_2_code
def yX9_open : MethodName := ⟨RX9, "open", "(IIII)V"⟩
abbrev cX9_span : ByteArray := prog_11_method_3_code
def yX9_span : MethodName := ⟨RX9, "span", "()I"⟩
abbrev cX9_pace : ByteArray := prog_11_method_4_code
def yX9_pace : MethodName := ⟨RX9, "pace", "()I"⟩
abbrev cX9_pivot : ByteArray := prog_11_method_5_code
def yX9_pivot : MethodName := ⟨RX9, "pivot", "(I)I"⟩
abbrev cX9_landing : ByteArray := prog_11_method_6_code
def yX9_landing : MethodName := ⟨RX9, "landing", "(II)I"⟩
abbrev cX9_lay : ByteArray := prog_11_method_7_code
def yX9_lay : MethodName := ⟨RX9, "lay", "(ILNineBridges$Bridge;IZ)V"⟩
abbrev cX9_layAlways : ByteArray := prog_11_method_8_code
def yX9_layAlways : MethodName := ⟨RX9, "layAlways", "(III)V"⟩
abbrev cX9_layNothing : ByteArray := prog_11_method_9_code
def yX9_layNothing : MethodName := ⟨RX9, "layNothing", "(I)V"⟩
abbrev cX9_reach : ByteArray := prog_11_method_10_code
def yX9_reach : MethodName := ⟨RX9, "reach", "(III[I)V"⟩
abbrev cX9_everReached : ByteArray := prog_11_method_11_code
def yX9_everReached : MethodName := ⟨RX9, "everReached", "(I)I"⟩
abbrev cX9_latestStart : ByteArray := prog_11_method_12_code
def yX9_latestStart : MethodName := ⟨RX9, "latestStart", "(II)I"⟩
abbrev cX9_foresee : ByteArray := prog_11_method_13_code
def yX9_foresee : MethodName := ⟨RX9, "foresee", "(I)V"⟩
abbrev cX9_waitFrom : ByteArray := prog_11_method_14_code
def yX9_waitFrom : MethodName := ⟨RX9, "waitFrom", "(II)I"⟩
abbrev cX9_longestWait : ByteArray := prog_11_method_15_code
def yX9_longestWait : MethodName := ⟨RX9, "longestWait", "(II)I"⟩
abbrev cX9_waitsTogether : ByteArray := prog_11_method_16_code
def yX9_waitsTogether : MethodName := ⟨RX9, "waitsTogether", "(II)I"⟩
def RX10 : String := "NineBridges"
def TX10 : u_T := fun k => match k with
  | 0 => ("NineBridges", "page", "LNineBridges$Page;", true)
  | 1 => ("NineBridges", "reader", "LNineBridges$Reader;", true)
  | 2 => ("NineBridges", "bridges", "Ljava/util/ArrayList;", true)
  | 3 => ("NineBridges", "notes", "LNineBridges$Notes;", true)
  | 4 => ("NineBridges", "kept", "LNineBridges$Image;", true)
  | 5 => ("NineBridges", "table", "LNineBridges$Timetable;", true)
  | 6 => ("NineBridges", "carriers", "LNineBridges$Crowd;", true)
  | 7 => ("NineBridges", "arrivals", "[I", true)
  | 8 => ("NineBridges", "otherArrivals", "[I", true)
  | _ => ("NineBridges", "frosty", "Z", false)
def tyX10 : Nat → FieldType := fun k => match k with
  | 0 => .object "NineBridges$Page"
  | 1 => .object "NineBridges$Reader"
  | 2 => .object "java/util/ArrayList"
  | 3 => .object "NineBridges$Notes"
  | 4 => .object "NineBridges$Image"
  | 5 => .object "NineBridges$Timetable"
  | 6 => .object "NineBridges$Crowd"
  | 7 => .array .int
  | 8 => .array .int
  | _ => .boolean
theorem nmX10 : ∀ a, a < 10 → ∀ b, b < 10 → a ≠ b → (TX10 a).2.1 ≠ (TX10 b).2.1 := by decide +kernel
theorem tyX10_ok : ∀ k, k < 10 → parseFieldDescriptor (TX10 k).2.2.1 = some (tyX10 k) := by decide +kernel
abbrev cX10_init : ByteArray := prog_1_method_1_code
def yX10_init : MethodName := ⟨RX10, "<init>", "()V"⟩
abbrev cX10_letters : ByteArray := prog_1_method_2_code
def yX10_letters : MethodName := ⟨RX10, "letters", "(J)I"⟩
abbrev cX10_blank : ByteArray := prog_1_method_3_code
def yX10_blank : MethodName := ⟨RX10, "blank", "()I"⟩
abbrev cX10_fault : ByteArray := prog_1_method_4_code
def yX10_fault : MethodName := ⟨RX10, "fault", "()I"⟩
abbrev cX10_bridge : ByteArray := prog_1_method_5_code
def yX10_bridge : MethodName := ⟨RX10, "bridge", "()I"⟩
abbrev cX10_as : ByteArray := prog_1_method_6_code
def yX10_as : MethodName := ⟨RX10, "as", "(II)I"⟩
abbrev cX10_about : ByteArray := prog_1_method_7_code
def yX10_about : MethodName := ⟨RX10, "about", "(II)I"⟩
abbrev cX10_offset : ByteArray := prog_1_method_8_code
def yX10_offset : MethodName := ⟨RX10, "offset", "(II)I"⟩
abbrev cX10_frost : ByteArray := prog_1_method_9_code
def yX10_frost : MethodName := ⟨RX10, "frost", "(Z)I"⟩
abbrev cX10_joins : ByteArray := prog_1_method_10_code
def yX10_joins : MethodName := ⟨RX10, "joins", "(II)I"⟩
abbrev cX10_lasts : ByteArray := prog_1_method_11_code
def yX10_lasts : MethodName := ⟨RX10, "lasts", "(II)I"⟩
abbrev cX10_soonest : ByteArray := prog_1_method_12_code
def yX10_soonest : MethodName := ⟨RX10, "soonest", "(IIIII)I"⟩
abbrev cX10_last : ByteArray := prog_1_method_13_code
def yX10_last : MethodName := ⟨RX10, "last", "(IIIIII)I"⟩
abbrev cX10_again : ByteArray := prog_1_method_14_code
def yX10_again : MethodName := ⟨RX10, "again", "()J"⟩
abbrev cX10_cut : ByteArray := prog_1_method_15_code
def yX10_cut : MethodName := ⟨RX10, "cut", "(III)I"⟩
abbrev cX10_worst : ByteArray := prog_1_method_16_code
def yX10_worst : MethodName := ⟨RX10, "worst", "(IIIII)I"⟩
abbrev cX10_mean : ByteArray := prog_1_method_17_code
def yX10_mean : MethodName := ⟨RX10, "mean", "(IIIIII)I"⟩
abbrev cX10_set : ByteArray := prog_1_method_18_code
def yX10_set : MethodName := ⟨RX10, "set", "(III)I"⟩
abbrev cX10_crowd : ByteArray := prog_1_method_19_code
def yX10_crowd : MethodName := ⟨RX10, "crowd", "(IIIIII)I"⟩
abbrev cX10_stranded : ByteArray := prog_1_method_20_code
def yX10_stranded : MethodName := ⟨RX10, "stranded", "(III)I"⟩
abbrev cX10_meeting : ByteArray := prog_1_method_21_code
def yX10_meeting : MethodName := ⟨RX10, "meeting", "(IIIIII)I"⟩
abbrev cX10_note : ByteArray := prog_1_method_22_code
def yX10_note : MethodName := ⟨RX10, "note", "(IIII)I"⟩
abbrev cX10_forget : ByteArray := prog_1_method_23_code
def yX10_forget : MethodName := ⟨RX10, "forget", "()I"⟩
abbrev cX10_lost : ByteArray := prog_1_method_24_code
def yX10_lost : MethodName := ⟨RX10, "lost", "(I)I"⟩
abbrev cX10_worth : ByteArray := prog_1_method_25_code
def yX10_worth : MethodName := ⟨RX10, "worth", "(III)I"⟩
abbrev cX10_image : ByteArray := prog_1_method_26_code
def yX10_image : MethodName := ⟨RX10, "image", "()I"⟩
abbrev cX10_restore : ByteArray := prog_1_method_27_code
def yX10_restore : MethodName := ⟨RX10, "restore", "()I"⟩
abbrev cX10_count : ByteArray := prog_1_method_28_code
def yX10_count : MethodName := ⟨RX10, "count", "(I)I"⟩
abbrev cX10_digest : ByteArray := prog_1_method_29_code
def yX10_digest : MethodName := ⟨RX10, "digest", "()J"⟩
abbrev cX10_byteOf : ByteArray := prog_1_method_30_code
def yX10_byteOf : MethodName := ⟨RX10, "byteOf", "(JI)I"⟩
abbrev cX10_lettersIn : ByteArray := prog_1_method_31_code
def yX10_lettersIn : MethodName := ⟨RX10, "lettersIn", "(J)I"⟩
abbrev cX10_isBridge : ByteArray := prog_1_method_32_code
def yX10_isBridge : MethodName := ⟨RX10, "isBridge", "(I)Z"⟩
abbrev cX10_isIslet : ByteArray := prog_1_method_33_code
def yX10_isIslet : MethodName := ⟨RX10, "isIslet", "(I)Z"⟩
abbrev cX10_isMinute : ByteArray := prog_1_method_34_code
def yX10_isMinute : MethodName := ⟨RX10, "isMinute", "(I)Z"⟩
abbrev cX10_isManyStarts : ByteArray := prog_1_method_35_code
def yX10_isManyStarts : MethodName := ⟨RX10, "isManyStarts", "(I)Z"⟩
abbrev cX10_isCarrier : ByteArray := prog_1_method_36_code
def yX10_isCarrier : MethodName := ⟨RX10, "isCarrier", "(II)Z"⟩
abbrev cX10_isOfKind : ByteArray := prog_1_method_37_code
def yX10_isOfKind : MethodName := ⟨RX10, "isOfKind", "(LNineBridges$Bridge;I)Z"⟩
abbrev cX10_told : ByteArray := prog_1_method_38_code
def yX10_told : MethodName := ⟨RX10, "told", "(LNineBridges$Bridge;I)I"⟩
abbrev cX10_openTable : ByteArray := prog_1_method_39_code
def yX10_openTable : MethodName := ⟨RX10, "openTable", "(IIII)V"⟩
abbrev cX10_sharedDivisor : ByteArray := prog_1_method_40_code
def yX10_sharedDivisor : MethodName := ⟨RX10, "sharedDivisor", "(JJ)J"⟩
abbrev cX10_minutesApart : ByteArray := prog_1_method_41_code
def yX10_minutesApart : MethodName := ⟨RX10, "minutesApart", "(III)I"⟩
abbrev cX10_isJoined : ByteArray := prog_1_method_42_code
def yX10_isJoined : MethodName := ⟨RX10, "isJoined", "(II)Z"⟩
abbrev cX10_allNotesHold : ByteArray := prog_1_method_43_code
def yX10_allNotesHold : MethodName := ⟨RX10, "allNotesHold", "()Z"⟩
abbrev cX10_waysTogether : ByteArray := prog_1_method_44_code
def yX10_waysTogether : MethodName := ⟨RX10, "waysTogether", "()I"⟩
abbrev cX10_turningBridges : ByteArray := prog_1_method_45_code
def yX10_turningBridges : MethodName := ⟨RX10, "turningBridges", "()I"⟩
abbrev cX10_with : ByteArray := prog_1_method_46_code
def yX10_with : MethodName := ⟨RX10, "with", "(JJ)J"⟩
abbrev cX10_withBridge : ByteArray := prog_1_method_47_code
def yX10_withBridge : MethodName := ⟨RX10, "withBridge", "(JLNineBridges$Bridge;)J"⟩
def RX11 : String := "NineBridgesModel"
def TX11 : u_T := fun k => match k with
  | 0 => ("NineBridgesModel", "page", "[I", true)
  | 1 => ("NineBridgesModel", "pageMany", "I", false)
  | 2 => ("NineBridgesModel", "state", "I", false)
  | 3 => ("NineBridgesModel", "readRow", "[I", true)
  | 4 => ("NineBridgesModel", "bridges", "I", false)
  | 5 => ("NineBridgesModel", "rows", "[I", true)
  | 6 => ("NineBridgesModel", "frostNow", "I", false)
  | 7 => ("NineBridgesModel", "without", "I", false)
  | 8 => ("NineBridgesModel", "stuck", "I", false)
  | 9 => ("NineBridgesModel", "stuckEnd", "I", false)
  | 10 => ("NineBridgesModel", "there", "[I", true)
  | 11 => ("NineBridgesModel", "waitSum", "I", false)
  | 12 => ("NineBridgesModel", "waitMost", "I", false)
  | 13 => ("NineBridgesModel", "waits", "[I", true)
  | 14 => ("NineBridgesModel", "goesOn", "[I", true)
  | 15 => ("NineBridgesModel", "goesBack", "[I", true)
  | 16 => ("NineBridgesModel", "cameFrom", "[I", true)
  | 17 => ("NineBridgesModel", "cameBy", "[I", true)
  | 18 => ("NineBridgesModel", "line", "[I", true)
  | 19 => ("NineBridgesModel", "lineMany", "I", false)
  | 20 => ("NineBridgesModel", "other", "[I", true)
  | 21 => ("NineBridgesModel", "notes", "I", false)
  | 22 => ("NineBridgesModel", "noteRows", "[I", true)
  | 23 => ("NineBridgesModel", "keptBridges", "I", false)
  | 24 => ("NineBridgesModel", "keptFrost", "I", false)
  | 25 => ("NineBridgesModel", "keptNotes", "I", false)
  | 26 => ("NineBridgesModel", "keptOffsets", "[I", true)
  | 27 => ("NineBridgesModel", "keptRows", "[I", true)
  | _ => ("NineBridgesModel", "hash", "J", false)
def tyX11 : Nat → FieldType := fun k => match k with
  | 0 => .array .int
  | 1 => .int
  | 2 => .int
  | 3 => .array .int
  | 4 => .int
  | 5 => .array .int
  | 6 => .int
  | 7 => .int
  | 8 => .int
  | 9 => .int
  | 10 => .array .int
  | 11 => .int
  | 12 => .int
  | 13 => .array .int
  | 14 => .array .int
  | 15 => .array .int
  | 16 => .array .int
  | 17 => .array .int
  | 18 => .array .int
  | 19 => .int
  | 20 => .array .int
  | 21 => .int
  | 22 => .array .int
  | 23 => .int
  | 24 => .int
  | 25 => .int
  | 26 => .array .int
  | 27 => .array .int
  | _ => .long
theorem nmX11 : ∀ a, a < 29 → ∀ b, b < 29 → a ≠ b → (TX11 a).2.1 ≠ (TX11 b).2.1 := by decide +kernel
theorem tyX11_ok : ∀ k, k < 29 → parseFieldDescriptor (TX11 k).2.2.1 = some (tyX11 k) := by decide +kernel
abbrev cX11_init : ByteArray := prog_13_method_1_code
def yX11_init : MethodName := ⟨RX11, "<init>", "()V"⟩
abbrev cX11_in : ByteArray := prog_13_method_2_code
def yX11_in : MethodName := ⟨RX11, "in", "(JJJ)Z"⟩
abbrev cX11_letters : ByteArray := prog_13_method_3_code
def yX11_letters : MethodName := ⟨RX11, "letters", "(J)I"⟩
abbrev cX11_blank : ByteArray := prog_13_method_4_code
def yX11_blank : MethodName := ⟨RX11, "blank", "()I"⟩
abbrev cX11_signOf : ByteArray := prog_13_method_5_code
def yX11_signOf : MethodName := ⟨RX11, "signOf", "(I)I"⟩
abbrev cX11_goDigit : ByteArray := prog_13_method_6_code
def yX11_goDigit : MethodName := ⟨RX11, "goDigit", "(III)Z"⟩
abbrev cX11_goPivot : ByteArray := prog_13_method_7_code
def yX11_goPivot : MethodName := ⟨RX11, "goPivot", "(I)Z"⟩
abbrev cX11_goEnd : ByteArray := prog_13_method_8_code
def yX11_goEnd : MethodName := ⟨RX11, "goEnd", "(I)Z"⟩
abbrev cX11_go : ByteArray := prog_13_method_9_code
def yX11_go : MethodName := ⟨RX11, "go", "(I)Z"⟩
abbrev cX11_faultOf : ByteArray := prog_13_method_10_code
def yX11_faultOf : MethodName := ⟨RX11, "faultOf", "()I"⟩
abbrev cX11_fault : ByteArray := prog_13_method_11_code
def yX11_fault : MethodName := ⟨RX11, "fault", "()I"⟩
abbrev cX11_bridge : ByteArray := prog_13_method_12_code
def yX11_bridge : MethodName := ⟨RX11, "bridge", "()I"⟩
abbrev cX11_isBridge : ByteArray := prog_13_method_13_code
def yX11_isBridge : MethodName := ⟨RX11, "isBridge", "(I)Z"⟩
abbrev cX11_isIslet : ByteArray := prog_13_method_14_code
def yX11_isIslet : MethodName := ⟨RX11, "isIslet", "(I)Z"⟩
abbrev cX11_as : ByteArray := prog_13_method_15_code
def yX11_as : MethodName := ⟨RX11, "as", "(II)I"⟩
abbrev cX11_placeOf : ByteArray := prog_13_method_16_code
def yX11_placeOf : MethodName := ⟨RX11, "placeOf", "(I)I"⟩
abbrev cX11_placesOf : ByteArray := prog_13_method_17_code
def yX11_placesOf : MethodName := ⟨RX11, "placesOf", "(I)I"⟩
abbrev cX11_roundOf : ByteArray := prog_13_method_18_code
def yX11_roundOf : MethodName := ⟨RX11, "roundOf", "(I)I"⟩
abbrev cX11_tellAbout : ByteArray := prog_13_method_19_code
def yX11_tellAbout : MethodName := ⟨RX11, "tellAbout", "(II)I"⟩
abbrev cX11_about : ByteArray := prog_13_method_20_code
def yX11_about : MethodName := ⟨RX11, "about", "(II)I"⟩
abbrev cX11_offset : ByteArray := prog_13_method_21_code
def yX11_offset : MethodName := ⟨RX11, "offset", "(II)I"⟩
abbrev cX11_frost : ByteArray := prog_13_method_22_code
def yX11_frost : MethodName := ⟨RX11, "frost", "(Z)I"⟩
abbrev cX11_whereIn : ByteArray := prog_13_method_23_code
def yX11_whereIn : MethodName := ⟨RX11, "whereIn", "(II)I"⟩
abbrev cX11_joinsNow : ByteArray := prog_13_method_24_code
def yX11_joinsNow : MethodName := ⟨RX11, "joinsNow", "(II)I"⟩
abbrev cX11_lastsNow : ByteArray := prog_13_method_25_code
def yX11_lastsNow : MethodName := ⟨RX11, "lastsNow", "(II)I"⟩
abbrev cX11_joins : ByteArray := prog_13_method_26_code
def yX11_joins : MethodName := ⟨RX11, "joins", "(II)I"⟩
abbrev cX11_lasts : ByteArray := prog_13_method_27_code
def yX11_lasts : MethodName := ⟨RX11, "lasts", "(II)I"⟩
abbrev cX11_mayGo : ByteArray := prog_13_method_28_code
def yX11_mayGo : MethodName := ⟨RX11, "mayGo", "(IIII)Z"⟩
abbrev cX11_layThere : ByteArray := prog_13_method_29_code
def yX11_layThere : MethodName := ⟨RX11, "layThere", "(IIII)V"⟩
abbrev cX11_soonestOf : ByteArray := prog_13_method_30_code
def yX11_soonestOf : MethodName := ⟨RX11, "soonestOf", "(IIIII)I"⟩
abbrev cX11_isCarrier : ByteArray := prog_13_method_31_code
def yX11_isCarrier : MethodName := ⟨RX11, "isCarrier", "(II)Z"⟩
abbrev cX11_isMinute : ByteArray := prog_13_method_32_code
def yX11_isMinute : MethodName := ⟨RX11, "isMinute", "(I)Z"⟩
abbrev cX11_soonest : ByteArray := prog_13_method_33_code
def yX11_soonest : MethodName := ⟨RX11, "soonest", "(IIIII)I"⟩
abbrev cX11_last : ByteArray := prog_13_method_34_code
def yX11_last : MethodName := ⟨RX11, "last", "(IIIIII)I"⟩
abbrev cX11_common : ByteArray := prog_13_method_35_code
def yX11_common : MethodName := ⟨RX11, "common", "(JJ)J"⟩
abbrev cX11_againOf : ByteArray := prog_13_method_36_code
def yX11_againOf : MethodName := ⟨RX11, "againOf", "()J"⟩
abbrev cX11_again : ByteArray := prog_13_method_37_code
def yX11_again : MethodName := ⟨RX11, "again", "()J"⟩
abbrev cX11_cutOf : ByteArray := prog_13_method_38_code
def yX11_cutOf : MethodName := ⟨RX11, "cutOf", "(III)I"⟩
abbrev cX11_cut : ByteArray := prog_13_method_39_code
def yX11_cut : MethodName := ⟨RX11, "cut", "(III)I"⟩
abbrev cX11_layWaits : ByteArray := prog_13_method_40_code
def yX11_layWaits : MethodName := ⟨RX11, "layWaits", "(IIIII)V"⟩
abbrev cX11_worst : ByteArray := prog_13_method_41_code
def yX11_worst : MethodName := ⟨RX11, "worst", "(IIIII)I"⟩
abbrev cX11_mean : ByteArray := prog_13_method_42_code
def yX11_mean : MethodName := ⟨RX11, "mean", "(IIIIII)I"⟩
abbrev cX11_set : ByteArray := prog_13_method_43_code
def yX11_set : MethodName := ⟨RX11, "set", "(III)I"⟩
abbrev cX11_comeTo : ByteArray := prog_13_method_44_code
def yX11_comeTo : MethodName := ⟨RX11, "comeTo", "(III)V"⟩
abbrev cX11_lookOn : ByteArray := prog_13_method_45_code
def yX11_lookOn : MethodName := ⟨RX11, "lookOn", "(IIIII)V"⟩
abbrev cX11_takeWay : ByteArray := prog_13_method_46_code
def yX11_takeWay : MethodName := ⟨RX11, "takeWay", "(II)V"⟩
abbrev cX11_oneMore : ByteArray := prog_13_method_47_code
def yX11_oneMore : MethodName := ⟨RX11, "oneMore", "(IIIIII)Z"⟩
abbrev cX11_crowd : ByteArray := prog_13_method_48_code
def yX11_crowd : MethodName := ⟨RX11, "crowd", "(IIIIII)I"⟩
abbrev cX11_stranded : ByteArray := prog_13_method_49_code
def yX11_stranded : MethodName := ⟨RX11, "stranded", "(III)I"⟩
abbrev cX11_meeting : ByteArray := prog_13_method_50_code
def yX11_meeting : MethodName := ⟨RX11, "meeting", "(IIIIII)I"⟩
abbrev cX11_note : ByteArray := prog_13_method_51_code
def yX11_note : MethodName := ⟨RX11, "note", "(IIII)I"⟩
abbrev cX11_forget : ByteArray := prog_13_method_52_code
def yX11_forget : MethodName := ⟨RX11, "forget", "()I"⟩
abbrev cX11_areSo : ByteArray := prog_13_method_53_code
def yX11_areSo : MethodName := ⟨RX11, "areSo", "()Z"⟩
abbrev cX11_lost : ByteArray := prog_13_method_54_code
def yX11_lost : MethodName := ⟨RX11, "lost", "(I)I"⟩
abbrev cX11_allSoonest : ByteArray := prog_13_method_55_code
def yX11_allSoonest : MethodName := ⟨RX11, "allSoonest", "(II)I"⟩
abbrev cX11_worth : ByteArray := prog_13_method_56_code
def yX11_worth : MethodName := ⟨RX11, "worth", "(III)I"⟩
abbrev cX11_image : ByteArray := prog_13_method_57_code
def yX11_image : MethodName := ⟨RX11, "image", "()I"⟩
abbrev cX11_restore : ByteArray := prog_13_method_58_code
def yX11_restore : MethodName := ⟨RX11, "restore", "()I"⟩
abbrev cX11_turning : ByteArray := prog_13_method_59_code
def yX11_turning : MethodName := ⟨RX11, "turning", "()I"⟩
abbrev cX11_countOf : ByteArray := prog_13_method_60_code
def yX11_countOf : MethodName := ⟨RX11, "countOf", "(I)I"⟩
abbrev cX11_count : ByteArray := prog_13_method_61_code
def yX11_count : MethodName := ⟨RX11, "count", "(I)I"⟩
abbrev cX11_say : ByteArray := prog_13_method_62_code
def yX11_say : MethodName := ⟨RX11, "say", "(J)V"⟩
abbrev cX11_sayBridge : ByteArray := prog_13_method_63_code
def yX11_sayBridge : MethodName := ⟨RX11, "sayBridge", "(I)V"⟩
abbrev cX11_digest : ByteArray := prog_13_method_64_code
def yX11_digest : MethodName := ⟨RX11, "digest", "()J"⟩
def RJx145de : String := "java/io/Serializable"
def TJx145de : u_T := fun k => match k with
  | _ => ("", "", "", false)
def tyJx145de : Nat → FieldType := fun k => match k with
  | _ => .int
theorem nmJx145de : ∀ a, a < 0 → ∀ b, b < 0 → a ≠ b → (TJx145de a).2.1 ≠ (TJx145de b).2.1 := by decide +kernel
theorem tyJx145de_ok : ∀ k, k < 0 → parseFieldDescriptor (TJx145de k).2.2.1 = some (tyJx145de k) := by decide +kernel
def RJx8e188 : String := "java/lang/Cloneable"
def TJx8e188 : u_T := fun k => match k with
  | _ => ("", "", "", false)
def tyJx8e188 : Nat → FieldType := fun k => match k with
  | _ => .int
theorem nmJx8e188 : ∀ a, a < 0 → ∀ b, b < 0 → a ≠ b → (TJx8e188 a).2.1 ≠ (TJx8e188 b).2.1 := by decide +kernel
theorem tyJx8e188_ok : ∀ k, k < 0 → parseFieldDescriptor (TJx8e188 k).2.2.1 = some (tyJx8e188 k) := by decide +kernel
def RJxab1ab : String := "java/lang/Iterable"
def TJxab1ab : u_T := fun k => match k with
  | _ => ("", "", "", false)
def tyJxab1ab : Nat → FieldType := fun k => match k with
  | _ => .int
theorem nmJxab1ab : ∀ a, a < 0 → ∀ b, b < 0 → a ≠ b → (TJxab1ab a).2.1 ≠ (TJxab1ab b).2.1 := by decide +kernel
theorem tyJxab1ab_ok : ∀ k, k < 0 → parseFieldDescriptor (TJxab1ab k).2.2.1 = some (tyJxab1ab k) := by decide +kernel
def RJ9 : String := "java/lang/Math"
def TJ9 : u_T := fun k => match k with
  | _ => ("", "", "", false)
def tyJ9 : Nat → FieldType := fun k => match k with
  | _ => .int
theorem nmJ9 : ∀ a, a < 0 → ∀ b, b < 0 → a ≠ b → (TJ9 a).2.1 ≠ (TJ9 b).2.1 := by decide +kernel
theorem tyJ9_ok : ∀ k, k < 0 → parseFieldDescriptor (TJ9 k).2.2.1 = some (tyJ9 k) := by decide +kernel
abbrev cJ9_floorMod_7cf53 : ByteArray := prog_17_method_50_code
def yJ9_floorMod_7cf53 : MethodName := ⟨RJ9, "floorMod", "(II)I"⟩
abbrev cJ9_max_7cf53 : ByteArray := prog_17_method_65_code
def yJ9_max_7cf53 : MethodName := ⟨RJ9, "max", "(II)I"⟩
abbrev cJ9_min_7cf53 : ByteArray := prog_17_method_69_code
def yJ9_min_7cf53 : MethodName := ⟨RJ9, "min", "(II)I"⟩
def RJ10 : String := "java/lang/System"
def TJ10 : u_T := fun k => match k with
  | _ => ("", "", "", false)
def tyJ10 : Nat → FieldType := fun k => match k with
  | _ => .int
theorem nmJ10 : ∀ a, a < 0 → ∀ b, b < 0 → a ≠ b → (TJ10 a).2.1 ≠ (TJ10 b).2.1 := by decide +kernel
theorem tyJ10_ok : ∀ k, k < 0 → parseFieldDescriptor (TJ10 k).2.2.1 = some (tyJ10 k) := by decide +kernel
def RJxa1e45 : String := "java/util/AbstractCollection"
def TJxa1e45 : u_T := fun k => match k with
  | _ => ("", "", "", false)
def tyJxa1e45 : Nat → FieldType := fun k => match k with
  | _ => .int
theorem nmJxa1e45 : ∀ a, a < 0 → ∀ b, b < 0 → a ≠ b → (TJxa1e45 a).2.1 ≠ (TJxa1e45 b).2.1 := by decide +kernel
theorem tyJxa1e45_ok : ∀ k, k < 0 → parseFieldDescriptor (TJxa1e45 k).2.2.1 = some (tyJxa1e45 k) := by decide +kernel
abbrev cJxa1e45_init_da8c8 : ByteArray := prog_19_method_1_code
def yJxa1e45_init_da8c8 : MethodName := ⟨RJxa1e45, "<init>", "()V"⟩
def RJxc12de : String := "java/util/AbstractList"
def TJxc12de : u_T := fun k => match k with
  | _ => ("", "", "", false)
def tyJxc12de : Nat → FieldType := fun k => match k with
  | _ => .int
theorem nmJxc12de : ∀ a, a < 0 → ∀ b, b < 0 → a ≠ b → (TJxc12de a).2.1 ≠ (TJxc12de b).2.1 := by decide +kernel
theorem tyJxc12de_ok : ∀ k, k < 0 → parseFieldDescriptor (TJxc12de k).2.2.1 = some (tyJxc12de k) := by decide +kernel
abbrev cJxc12de_init_da8c8 : ByteArray := prog_20_method_1_code
def yJxc12de_init_da8c8 : MethodName := ⟨RJxc12de, "<init>", "()V"⟩
def RJx4a65c : String := "java/util/ArrayList"
def TJx4a65c : u_T := fun k => match k with
  | 0 => ("java/util/AbstractList", "modCount", "I", false)
  | 1 => ("java/util/ArrayList", "elementData", "[Ljava/lang/Object;", false)
  | _ => ("java/util/ArrayList", "size", "I", false)
def tyJx4a65c : Nat → FieldType := fun k => match k with
  | 0 => .int
  | 1 => .array (.object "java/lang/Object")
  | _ => .int
theorem nmJx4a65c : ∀ a, a < 3 → ∀ b, b < 3 → a ≠ b → (TJx4a65c a).2.1 ≠ (TJx4a65c b).2.1 := by decide +kernel
theorem tyJx4a65c_ok : ∀ k, k < 3 → parseFieldDescriptor (TJx4a65c k).2.2.1 = some (tyJx4a65c k) := by decide +kernel
abbrev cJx4a65c_init_da8c8 : ByteArray := prog_21_method_2_code
def yJx4a65c_init_da8c8 : MethodName := ⟨RJx4a65c, "<init>", "()V"⟩
abbrev cJx4a65c_grow_92f84 : ByteArray := prog_21_method_6_code
def yJx4a65c_grow_92f84 : MethodName := ⟨RJx4a65c, "grow", "(I)[Ljava/lang/Object;"⟩
abbrev cJx4a65c_grow_d5877 : ByteArray := prog_21_method_7_code
def yJx4a65c_grow_d5877 : MethodName := ⟨RJx4a65c, "grow", "()[Ljava/lang/Object;"⟩
abbrev cJx4a65c_size_8abf5 : ByteArray := prog_21_method_8_code
def yJx4a65c_size_8abf5 : MethodName := ⟨RJx4a65c, "size", "()I"⟩
abbrev cJx4a65c_elementData_915e3 : ByteArray := prog_21_method_18_code
def yJx4a65c_elementData_915e3 : MethodName := ⟨RJx4a65c, "elementData", "(I)Ljava/lang/Object;"⟩
abbrev cJx4a65c_get_915e3 : ByteArray := prog_21_method_20_code
def yJx4a65c_get_915e3 : MethodName := ⟨RJx4a65c, "get", "(I)Ljava/lang/Object;"⟩
abbrev cJx4a65c_add_72be8 : ByteArray := prog_21_method_24_code
def yJx4a65c_add_72be8 : MethodName := ⟨RJx4a65c, "add", "(Ljava/lang/Object;[Ljava/lang/Object;I)V"⟩
abbrev cJx4a65c_add_9ea2d : ByteArray := prog_21_method_25_code
def yJx4a65c_add_9ea2d : MethodName := ⟨RJx4a65c, "add", "(Ljava/lang/Object;)Z"⟩
abbrev cJx4a65c_remove_915e3 : ByteArray := prog_21_method_29_code
def yJx4a65c_remove_915e3 : MethodName := ⟨RJx4a65c, "remove", "(I)Ljava/lang/Object;"⟩
abbrev cJx4a65c_fastRemove_b59b0 : ByteArray := prog_21_method_39_code
def yJx4a65c_fastRemove_b59b0 : MethodName := ⟨RJx4a65c, "fastRemove", "([Ljava/lang/Object;I)V"⟩
def RJ7 : String := "java/util/Arrays"
def TJ7 : u_T := fun k => match k with
  | _ => ("", "", "", false)
def tyJ7 : Nat → FieldType := fun k => match k with
  | _ => .int
theorem nmJ7 : ∀ a, a < 0 → ∀ b, b < 0 → a ≠ b → (TJ7 a).2.1 ≠ (TJ7 b).2.1 := by decide +kernel
theorem tyJ7_ok : ∀ k, k < 0 → parseFieldDescriptor (TJ7 k).2.2.1 = some (tyJ7 k) := by decide +kernel
abbrev cJ7_fill_53178 : ByteArray := prog_22_method_103_code
def yJ7_fill_53178 : MethodName := ⟨RJ7, "fill", "([II)V"⟩
abbrev cJ7_copyOf_1904c : ByteArray := prog_22_method_119_code
def yJ7_copyOf_1904c : MethodName := ⟨RJ7, "copyOf", "([Ljava/lang/Object;I)[Ljava/lang/Object;"⟩
abbrev cJ7_copyOf_6403c : ByteArray := prog_22_method_120_code
def yJ7_copyOf_6403c : MethodName := ⟨RJ7, "copyOf", "([Ljava/lang/Object;ILjava/lang/Class;)[Ljava/lang/Object;"⟩
abbrev cJ7_copyOf_59c91 : ByteArray := prog_22_method_123_code
def yJ7_copyOf_59c91 : MethodName := ⟨RJ7, "copyOf", "([II)[I"⟩
def RJx5ef63 : String := "java/util/Collection"
def TJx5ef63 : u_T := fun k => match k with
  | _ => ("", "", "", false)
def tyJx5ef63 : Nat → FieldType := fun k => match k with
  | _ => .int
theorem nmJx5ef63 : ∀ a, a < 0 → ∀ b, b < 0 → a ≠ b → (TJx5ef63 a).2.1 ≠ (TJx5ef63 b).2.1 := by decide +kernel
theorem tyJx5ef63_ok : ∀ k, k < 0 → parseFieldDescriptor (TJx5ef63 k).2.2.1 = some (tyJx5ef63 k) := by decide +kernel
def RJxbd725 : String := "java/util/List"
def TJxbd725 : u_T := fun k => match k with
  | _ => ("", "", "", false)
def tyJxbd725 : Nat → FieldType := fun k => match k with
  | _ => .int
theorem nmJxbd725 : ∀ a, a < 0 → ∀ b, b < 0 → a ≠ b → (TJxbd725 a).2.1 ≠ (TJxbd725 b).2.1 := by decide +kernel
theorem tyJxbd725_ok : ∀ k, k < 0 → parseFieldDescriptor (TJxbd725 k).2.2.1 = some (tyJxbd725 k) := by decide +kernel
def RJ15 : String := "java/util/Objects"
def TJ15 : u_T := fun k => match k with
  | _ => ("", "", "", false)
def tyJ15 : Nat → FieldType := fun k => match k with
  | _ => .int
theorem nmJ15 : ∀ a, a < 0 → ∀ b, b < 0 → a ≠ b → (TJ15 a).2.1 ≠ (TJ15 b).2.1 := by decide +kernel
theorem tyJ15_ok : ∀ k, k < 0 → parseFieldDescriptor (TJ15 k).2.2.1 = some (tyJ15 k) := by decide +kernel
abbrev cJ15_checkIndex_7cf53 : ByteArray := prog_25_method_17_code
def yJ15_checkIndex_7cf53 : MethodName := ⟨RJ15, "checkIndex", "(II)I"⟩
def RJxf0a74 : String := "java/util/RandomAccess"
def TJxf0a74 : u_T := fun k => match k with
  | _ => ("", "", "", false)
def tyJxf0a74 : Nat → FieldType := fun k => match k with
  | _ => .int
theorem nmJxf0a74 : ∀ a, a < 0 → ∀ b, b < 0 → a ≠ b → (TJxf0a74 a).2.1 ≠ (TJxf0a74 b).2.1 := by decide +kernel
theorem tyJxf0a74_ok : ∀ k, k < 0 → parseFieldDescriptor (TJxf0a74 k).2.2.1 = some (tyJxf0a74 k) := by decide +kernel
def RJxa66e6 : String := "java/util/SequencedCollection"
def TJxa66e6 : u_T := fun k => match k with
  | _ => ("", "", "", false)
def tyJxa66e6 : Nat → FieldType := fun k => match k with
  | _ => .int
theorem nmJxa66e6 : ∀ a, a < 0 → ∀ b, b < 0 → a ≠ b → (TJxa66e6 a).2.1 ≠ (TJxa66e6 b).2.1 := by decide +kernel
theorem tyJxa66e6_ok : ∀ k, k < 0 → parseFieldDescriptor (TJxa66e6 k).2.2.1 = some (tyJxa66e6 k) := by decide +kernel
def RJ8 : String := "jdk/internal/util/ArraysSupport"
def TJ8 : u_T := fun k => match k with
  | _ => ("", "", "", false)
def tyJ8 : Nat → FieldType := fun k => match k with
  | _ => .int
theorem nmJ8 : ∀ a, a < 0 → ∀ b, b < 0 → a ≠ b → (TJ8 a).2.1 ≠ (TJ8 b).2.1 := by decide +kernel
theorem tyJ8_ok : ∀ k, k < 0 → parseFieldDescriptor (TJ8 k).2.2.1 = some (tyJ8 k) := by decide +kernel
abbrev cJ8_newLength_cabcc : ByteArray := prog_28_method_27_code
def yJ8_newLength_cabcc : MethodName := ⟨RJ8, "newLength", "(III)I"⟩
abbrev cJ8_hugeLength_7cf53 : ByteArray := prog_28_method_28_code
def yJ8_hugeLength_7cf53 : MethodName := ⟨RJ8, "hugeLength", "(II)I"⟩
def RJ3 : String := "jdk/internal/util/Preconditions"
def TJ3 : u_T := fun k => match k with
  | _ => ("", "", "", false)
def tyJ3 : Nat → FieldType := fun k => match k with
  | _ => .int
theorem nmJ3 : ∀ a, a < 0 → ∀ b, b < 0 → a ≠ b → (TJ3 a).2.1 ≠ (TJ3 b).2.1 := by decide +kernel
theorem tyJ3_ok : ∀ k, k < 0 → parseFieldDescriptor (TJ3 k).2.2.1 = some (tyJ3 k) := by decide +kernel
abbrev cJ3_checkIndex_8e157 : ByteArray := prog_29_method_11_code
def yJ3_checkIndex_8e157 : MethodName := ⟨RJ3, "checkIndex", "(IILjava/util/function/BiFunction;)I"⟩
def RL : String := "NineBridgesLaw"
abbrev cL_law : ByteArray := code
def yL_law : MethodName := ⟨RL, "law", "([I)Z"⟩
abbrev vwCl : List vw_C := [(RJx4a65c, TJx4a65c, 3), (RX0, TX0, 6), (RX1, TX1, 5), (RX2, TX2, 6), (RX3, TX3, 6), (RX4, TX4, 4), (RX5, TX5, 2), (RX6, TX6, 2), (RX7, TX7, 9), (RX8, TX8, 6), (RX9, TX9, 9), (RX10, TX10, 10), (RX11, TX11, 29)]
end
section
theorem dX11_init_0 : decode cX11_init 0 = .ok (.aload_n 0, 1) := by decide +kernel
theorem dX11_init_1 : decode cX11_init 1 = .ok (.invokespecial 1, 3) := by decide +kernel
theorem dX11_init_4 : decode cX11_init 4 = .ok (.aload_n 0, 1) := by decide +kernel
theorem dX11_init_5 : decode cX11_init 5 = .ok (.bipush 20, 2) := by decide +kernel
theorem dX11_init_7 : decode cX11_init 7 = .ok (.newarray .int, 2) := by decide +kernel
theorem dX11_init_9 : decode cX11_init 9 = .ok (.putfield 7, 3) := by decide +kernel
theorem dX11_init_12 : decode cX11_init 12 = .ok (.aload_n 0, 1) := by decide +kernel
theorem dX11_init_13 : decode cX11_init 13 = .ok (.bipush 10, 2) := by decide +kernel
theorem dX11_init_15 : decode cX11_init 15 = .ok (.newarray .int, 2) := by decide +kernel
theorem dX11_init_17 : decode cX11_init 17 = .ok (.putfield 13, 3) := by decide +kernel
theorem dX11_init_20 : decode cX11_init 20 = .ok (.aload_n 0, 1) := by decide +kernel
theorem dX11_init_21 : decode cX11_init 21 = .ok (.bipush 100, 2) := by decide +kernel
theorem dX11_init_23 : decode cX11_init 23 = .ok (.newarray .int, 2) := by decide +kernel
theorem dX11_init_25 : decode cX11_init 25 = .ok (.putfield 16, 3) := by decide +kernel
theorem dX11_init_28 : decode cX11_init 28 = .ok (.aload_n 0, 1) := by decide +kernel
theorem dX11_init_29 : decode cX11_init 29 = .ok (.bipush 8, 2) := by decide +kernel
theorem dX11_init_31 : decode cX11_init 31 = .ok (.newarray .int, 2) := by decide +kernel
theorem dX11_init_33 : decode cX11_init 33 = .ok (.putfield 19, 3) := by decide +kernel
theorem dX11_init_36 : decode cX11_init 36 = .ok (.aload_n 0, 1) := by decide +kernel
theorem dX11_init_37 : decode cX11_init 37 = .ok (.sipush 488, 3) := by decide +kernel
theorem dX11_init_40 : decode cX11_init 40 = .ok (.newarray .int, 2) := by decide +kernel
theorem dX11_init_42 : decode cX11_init 42 = .ok (.putfield 22, 3) := by decide +kernel
theorem dX11_init_45 : decode cX11_init 45 = .ok (.aload_n 0, 1) := by decide +kernel
theorem dX11_init_46 : decode cX11_init 46 = .ok (.sipush 610, 3) := by decide +kernel
theorem dX11_init_49 : decode cX11_init 49 = .ok (.newarray .int, 2) := by decide +kernel
theorem dX11_init_51 : decode cX11_init 51 = .ok (.putfield 25, 3) := by decide +kernel
theorem dX11_init_54 : decode cX11_init 54 = .ok (.aload_n 0, 1) := by decide +kernel
theorem dX11_init_55 : decode cX11_init 55 = .ok (.sipush 610, 3) := by decide +kernel
theorem dX11_init_58 : decode cX11_init 58 = .ok (.newarray .int, 2) := by decide +kernel
theorem dX11_init_60 : decode cX11_init 60 = .ok (.putfield 28, 3) := by decide +kernel
theorem dX11_init_63 : decode cX11_init 63 = .ok (.aload_n 0, 1) := by decide +kernel
theorem dX11_init_64 : decode cX11_init 64 = .ok (.sipush 488, 3) := by decide +kernel
theorem dX11_init_67 : decode cX11_init 67 = .ok (.newarray .int, 2) := by decide +kernel
theorem dX11_init_69 : decode cX11_init 69 = .ok (.putfield 31, 3) := by decide +kernel
theorem dX11_init_72 : decode cX11_init 72 = .ok (.aload_n 0, 1) := by decide +kernel
theorem dX11_init_73 : decode cX11_init 73 = .ok (.sipush 488, 3) := by decide +kernel
theorem dX11_init_76 : decode cX11_init 76 = .ok (.newarray .int, 2) := by decide +kernel
theorem dX11_init_78 : decode cX11_init 78 = .ok (.putfield 34, 3) := by decide +kernel
theorem dX11_init_81 : decode cX11_init 81 = .ok (.aload_n 0, 1) := by decide +kernel
theorem dX11_init_82 : decode cX11_init 82 = .ok (.sipush 488, 3) := by decide +kernel
theorem dX11_init_85 : decode cX11_init 85 = .ok (.newarray .int, 2) := by decide +kernel
theorem dX11_init_87 : decode cX11_init 87 = .ok (.putfield 37, 3) := by decide +kernel
theorem dX11_init_90 : decode cX11_init 90 = .ok (.aload_n 0, 1) := by decide +kernel
theorem dX11_init_91 : decode cX11_init 91 = .ok (.bipush 8, 2) := by decide +kernel
theorem dX11_init_93 : decode cX11_init 93 = .ok (.newarray .int, 2) := by decide +kernel
theorem dX11_init_95 : decode cX11_init 95 = .ok (.putfield 40, 3) := by decide +kernel
theorem dX11_init_98 : decode cX11_init 98 = .ok (.aload_n 0, 1) := by decide +kernel
theorem dX11_init_99 : decode cX11_init 99 = .ok (.bipush 24, 2) := by decide +kernel
theorem dX11_init_101 : decode cX11_init 101 = .ok (.newarray .int, 2) := by decide +kernel
theorem dX11_init_103 : decode cX11_init 103 = .ok (.putfield 43, 3) := by decide +kernel
theorem dX11_init_106 : decode cX11_init 106 = .ok (.aload_n 0, 1) := by decide +kernel
theorem dX11_init_107 : decode cX11_init 107 = .ok (.bipush 10, 2) := by decide +kernel
theorem dX11_init_109 : decode cX11_init 109 = .ok (.newarray .int, 2) := by decide +kernel
theorem dX11_init_111 : decode cX11_init 111 = .ok (.putfield 46, 3) := by decide +kernel
theorem dX11_init_114 : decode cX11_init 114 = .ok (.aload_n 0, 1) := by decide +kernel
theorem dX11_init_115 : decode cX11_init 115 = .ok (.bipush 24, 2) := by decide +kernel
theorem dX11_init_117 : decode cX11_init 117 = .ok (.newarray .int, 2) := by decide +kernel
theorem dX11_init_119 : decode cX11_init 119 = .ok (.putfield 49, 3) := by decide +kernel
theorem dX11_init_122 : decode cX11_init 122 = .ok (.aload_n 0, 1) := by decide +kernel
theorem dX11_init_123 : decode cX11_init 123 = .ok (.iconst (-1), 1) := by decide +kernel
theorem dX11_init_124 : decode cX11_init 124 = .ok (.putfield 52, 3) := by decide +kernel
theorem dX11_init_127 : decode cX11_init 127 = .ok (.aload_n 0, 1) := by decide +kernel
theorem dX11_init_128 : decode cX11_init 128 = .ok (.iconst (-1), 1) := by decide +kernel
theorem dX11_init_129 : decode cX11_init 129 = .ok (.putfield 56, 3) := by decide +kernel
theorem dX11_init_132 : decode cX11_init 132 = .ok (.aload_n 0, 1) := by decide +kernel
theorem dX11_init_133 : decode cX11_init 133 = .ok (.iconst (-1), 1) := by decide +kernel
theorem dX11_init_134 : decode cX11_init 134 = .ok (.putfield 59, 3) := by decide +kernel
theorem dX11_init_137 : decode cX11_init 137 = .ok (.return_, 1) := by decide +kernel
theorem dX11_in_0 : decode cX11_in 0 = .ok (.lload_n 0, 1) := by decide +kernel
theorem dX11_in_1 : decode cX11_in 1 = .ok (.lload_n 2, 1) := by decide +kernel
theorem dX11_in_2 : decode cX11_in 2 = .ok (.lcmp, 1) := by decide +kernel
theorem dX11_in_3 : decode cX11_in 3 = .ok (.ifCond .lt 14, 3) := by decide +kernel
theorem dX11_in_6 : decode cX11_in 6 = .ok (.lload_n 0, 1) := by decide +kernel
theorem dX11_in_7 : decode cX11_in 7 = .ok (.lload 4, 2) := by decide +kernel
theorem dX11_in_9 : decode cX11_in 9 = .ok (.lcmp, 1) := by decide +kernel
theorem dX11_in_10 : decode cX11_in 10 = .ok (.ifCond .gt 7, 3) := by decide +kernel
theorem dX11_in_13 : decode cX11_in 13 = .ok (.iconst 1, 1) := by decide +kernel
theorem dX11_in_14 : decode cX11_in 14 = .ok (.goto 4, 3) := by decide +kernel
theorem dX11_in_17 : decode cX11_in 17 = .ok (.iconst 0, 1) := by decide +kernel
theorem dX11_in_18 : decode cX11_in 18 = .ok (.ireturn, 1) := by decide +kernel
theorem dX11_letters_0 : decode cX11_letters 0 = .ok (.iconst 0, 1) := by decide +kernel
theorem dX11_letters_1 : decode cX11_letters 1 = .ok (.istore_n 3, 1) := by decide +kernel
theorem dX11_letters_2 : decode cX11_letters 2 = .ok (.iconst 1, 1) := by decide +kernel
theorem dX11_letters_3 : decode cX11_letters 3 = .ok (.istore 4, 2) := by decide +kernel
theorem dX11_letters_5 : decode cX11_letters 5 = .ok (.lload_n 1, 1) := by decide +kernel
theorem dX11_letters_6 : decode cX11_letters 6 = .ok (.lstore 5, 2) := by decide +kernel
theorem dX11_letters_8 : decode cX11_letters 8 = .ok (.iconst 0, 1) := by decide +kernel
theorem dX11_letters_9 : decode cX11_letters 9 = .ok (.istore 7, 2) := by decide +kernel
theorem dX11_letters_11 : decode cX11_letters 11 = .ok (.iload 7, 2) := by decide +kernel
theorem dX11_letters_13 : decode cX11_letters 13 = .ok (.bipush 8, 2) := by decide +kernel
theorem dX11_letters_15 : decode cX11_letters 15 = .ok (.if_icmp .ge 68, 3) := by decide +kernel
theorem dX11_letters_18 : decode cX11_letters 18 = .ok (.lload 5, 2) := by decide +kernel
theorem dX11_letters_20 : decode cX11_letters 20 = .ok (.ldc2_w 62, 3) := by decide +kernel
theorem dX11_letters_23 : decode cX11_letters 23 = .ok (.land, 1) := by decide +kernel
theorem dX11_letters_24 : decode cX11_letters 24 = .ok (.l2i, 1) := by decide +kernel
theorem dX11_letters_25 : decode cX11_letters 25 = .ok (.istore 8, 2) := by decide +kernel
theorem dX11_letters_27 : decode cX11_letters 27 = .ok (.lload 5, 2) := by decide +kernel
theorem dX11_letters_29 : decode cX11_letters 29 = .ok (.bipush 8, 2) := by decide +kernel
theorem dX11_letters_31 : decode cX11_letters 31 = .ok (.lushr, 1) := by decide +kernel
theorem dX11_letters_32 : decode cX11_letters 32 = .ok (.lstore 5, 2) := by decide +kernel
theorem dX11_letters_34 : decode cX11_letters 34 = .ok (.iload 4, 2) := by decide +kernel
theorem dX11_letters_36 : decode cX11_letters 36 = .ok (.ifCond .eq 25, 3) := by decide +kernel
theorem dX11_letters_39 : decode cX11_letters 39 = .ok (.iload 8, 2) := by decide +kernel
theorem dX11_letters_41 : decode cX11_letters 41 = .ok (.bipush 126, 2) := by decide +kernel
theorem dX11_letters_43 : decode cX11_letters 43 = .ok (.if_icmp .gt 18, 3) := by decide +kernel
theorem dX11_letters_46 : decode cX11_letters 46 = .ok (.iload 8, 2) := by decide +kernel
theorem dX11_letters_48 : decode cX11_letters 48 = .ok (.ifCond .eq 9, 3) := by decide +kernel
theorem dX11_letters_51 : decode cX11_letters 51 = .ok (.iload_n 3, 1) := by decide +kernel
theorem dX11_letters_52 : decode cX11_letters 52 = .ok (.iload 7, 2) := by decide +kernel
theorem dX11_letters_54 : decode cX11_letters 54 = .ok (.if_icmp .ne 7, 3) := by decide +kernel
theorem dX11_letters_57 : decode cX11_letters 57 = .ok (.iconst 1, 1) := by decide +kernel
theorem dX11_letters_58 : decode cX11_letters 58 = .ok (.goto 4, 3) := by decide +kernel
theorem dX11_letters_61 : decode cX11_letters 61 = .ok (.iconst 0, 1) := by decide +kernel
theorem dX11_letters_62 : decode cX11_letters 62 = .ok (.istore 4, 2) := by decide +kernel
theorem dX11_letters_64 : decode cX11_letters 64 = .ok (.iload_n 3, 1) := by decide +kernel
theorem dX11_letters_65 : decode cX11_letters 65 = .ok (.iload 8, 2) := by decide +kernel
theorem dX11_letters_67 : decode cX11_letters 67 = .ok (.ifCond .le 7, 3) := by decide +kernel
theorem dX11_letters_70 : decode cX11_letters 70 = .ok (.iconst 1, 1) := by decide +kernel
theorem dX11_letters_71 : decode cX11_letters 71 = .ok (.goto 4, 3) := by decide +kernel
theorem dX11_letters_74 : decode cX11_letters 74 = .ok (.iconst 0, 1) := by decide +kernel
theorem dX11_letters_75 : decode cX11_letters 75 = .ok (.iadd, 1) := by decide +kernel
theorem dX11_letters_76 : decode cX11_letters 76 = .ok (.istore_n 3, 1) := by decide +kernel
theorem dX11_letters_77 : decode cX11_letters 77 = .ok (.iinc 7 1, 3) := by decide +kernel
theorem dX11_letters_80 : decode cX11_letters 80 = .ok (.goto (-69), 3) := by decide +kernel
theorem dX11_letters_83 : decode cX11_letters 83 = .ok (.iload 4, 2) := by decide +kernel
theorem dX11_letters_85 : decode cX11_letters 85 = .ok (.ifCond .ne 6, 3) := by decide +kernel
theorem dX11_letters_88 : decode cX11_letters 88 = .ok (.bipush (-102), 2) := by decide +kernel
theorem dX11_letters_90 : decode cX11_letters 90 = .ok (.ireturn, 1) := by decide +kernel
theorem dX11_letters_91 : decode cX11_letters 91 = .ok (.aload_n 0, 1) := by decide +kernel
theorem dX11_letters_92 : decode cX11_letters 92 = .ok (.getfield 64, 3) := by decide +kernel
theorem dX11_letters_95 : decode cX11_letters 95 = .ok (.iload_n 3, 1) := by decide +kernel
theorem dX11_letters_96 : decode cX11_letters 96 = .ok (.iadd, 1) := by decide +kernel
theorem dX11_letters_97 : decode cX11_letters 97 = .ok (.bipush 20, 2) := by decide +kernel
theorem dX11_letters_99 : decode cX11_letters 99 = .ok (.if_icmp .le 6, 3) := by decide +kernel
theorem dX11_letters_102 : decode cX11_letters 102 = .ok (.bipush (-104), 2) := by decide +kernel
theorem dX11_letters_104 : decode cX11_letters 104 = .ok (.ireturn, 1) := by decide +kernel
theorem dX11_letters_105 : decode cX11_letters 105 = .ok (.iconst 0, 1) := by decide +kernel
theorem dX11_letters_106 : decode cX11_letters 106 = .ok (.istore 7, 2) := by decide +kernel
theorem dX11_letters_108 : decode cX11_letters 108 = .ok (.iload 7, 2) := by decide +kernel
theorem dX11_letters_110 : decode cX11_letters 110 = .ok (.iload_n 3, 1) := by decide +kernel
theorem dX11_letters_111 : decode cX11_letters 111 = .ok (.if_icmp .ge 40, 3) := by decide +kernel
theorem dX11_letters_114 : decode cX11_letters 114 = .ok (.aload_n 0, 1) := by decide +kernel
theorem dX11_letters_115 : decode cX11_letters 115 = .ok (.getfield 7, 3) := by decide +kernel
theorem dX11_letters_118 : decode cX11_letters 118 = .ok (.aload_n 0, 1) := by decide +kernel
theorem dX11_letters_119 : decode cX11_letters 119 = .ok (.getfield 64, 3) := by decide +kernel
theorem dX11_letters_122 : decode cX11_letters 122 = .ok (.lload_n 1, 1) := by decide +kernel
theorem dX11_letters_123 : decode cX11_letters 123 = .ok (.bipush 8, 2) := by decide +kernel
theorem dX11_letters_125 : decode cX11_letters 125 = .ok (.iload 7, 2) := by decide +kernel
theorem dX11_letters_127 : decode cX11_letters 127 = .ok (.imul, 1) := by decide +kernel
theorem dX11_letters_128 : decode cX11_letters 128 = .ok (.lushr, 1) := by decide +kernel
theorem dX11_letters_129 : decode cX11_letters 129 = .ok (.ldc2_w 62, 3) := by decide +kernel
theorem dX11_letters_132 : decode cX11_letters 132 = .ok (.land, 1) := by decide +kernel
theorem dX11_letters_133 : decode cX11_letters 133 = .ok (.l2i, 1) := by decide +kernel
theorem dX11_letters_134 : decode cX11_letters 134 = .ok (.iastore, 1) := by decide +kernel
theorem dX11_letters_135 : decode cX11_letters 135 = .ok (.aload_n 0, 1) := by decide +kernel
theorem dX11_letters_136 : decode cX11_letters 136 = .ok (.dup, 1) := by decide +kernel
theorem dX11_letters_137 : decode cX11_letters 137 = .ok (.getfield 64, 3) := by decide +kernel
theorem dX11_letters_140 : decode cX11_letters 140 = .ok (.iconst 1, 1) := by decide +kernel
theorem dX11_letters_141 : decode cX11_letters 141 = .ok (.iadd, 1) := by decide +kernel
theorem dX11_letters_142 : decode cX11_letters 142 = .ok (.putfield 64, 3) := by decide +kernel
theorem dX11_letters_145 : decode cX11_letters 145 = .ok (.iinc 7 1, 3) := by decide +kernel
theorem dX11_letters_148 : decode cX11_letters 148 = .ok (.goto (-40), 3) := by decide +kernel
theorem dX11_letters_151 : decode cX11_letters 151 = .ok (.aload_n 0, 1) := by decide +kernel
theorem dX11_letters_152 : decode cX11_letters 152 = .ok (.getfield 64, 3) := by decide +kernel
theorem dX11_letters_155 : decode cX11_letters 155 = .ok (.ireturn, 1) := by decide +kernel
theorem dX11_blank_0 : decode cX11_blank 0 = .ok (.aload_n 0, 1) := by decide +kernel
theorem dX11_blank_1 : decode cX11_blank 1 = .ok (.getfield 64, 3) := by decide +kernel
theorem dX11_blank_4 : decode cX11_blank 4 = .ok (.istore_n 1, 1) := by decide +kernel
theorem dX11_blank_5 : decode cX11_blank 5 = .ok (.aload_n 0, 1) := by decide +kernel
theorem dX11_blank_6 : decode cX11_blank 6 = .ok (.iconst 0, 1) := by decide +kernel
theorem dX11_blank_7 : decode cX11_blank 7 = .ok (.putfield 64, 3) := by decide +kernel
theorem dX11_blank_10 : decode cX11_blank 10 = .ok (.iload_n 1, 1) := by decide +kernel
theorem dX11_blank_11 : decode cX11_blank 11 = .ok (.ireturn, 1) := by decide +kernel
theorem dX11_signOf_0 : decode cX11_signOf 0 = .ok (.iload_n 0, 1) := by decide +kernel
theorem dX11_signOf_1 : decode cX11_signOf 1 = .ok (.bipush 42, 2) := by decide +kernel
theorem dX11_signOf_3 : decode cX11_signOf 3 = .ok (.if_icmp .ne 7, 3) := by decide +kernel
theorem dX11_signOf_6 : decode cX11_signOf 6 = .ok (.iconst 1, 1) := by decide +kernel
theorem dX11_signOf_7 : decode cX11_signOf 7 = .ok (.goto 24, 3) := by decide +kernel
theorem dX11_signOf_10 : decode cX11_signOf 10 = .ok (.iload_n 0, 1) := by decide +kernel
theorem dX11_signOf_11 : decode cX11_signOf 11 = .ok (.bipush 126, 2) := by decide +kernel
theorem dX11_signOf_13 : decode cX11_signOf 13 = .ok (.if_icmp .ne 7, 3) := by decide +kernel
theorem dX11_signOf_16 : decode cX11_signOf 16 = .ok (.iconst 2, 1) := by decide +kernel
theorem dX11_signOf_17 : decode cX11_signOf 17 = .ok (.goto 14, 3) := by decide +kernel
theorem dX11_signOf_20 : decode cX11_signOf 20 = .ok (.iload_n 0, 1) := by decide +kernel
theorem dX11_signOf_21 : decode cX11_signOf 21 = .ok (.bipush 61, 2) := by decide +kernel
theorem dX11_signOf_23 : decode cX11_signOf 23 = .ok (.if_icmp .ne 7, 3) := by decide +kernel
theorem dX11_signOf_26 : decode cX11_signOf 26 = .ok (.iconst 3, 1) := by decide +kernel
theorem dX11_signOf_27 : decode cX11_signOf 27 = .ok (.goto 4, 3) := by decide +kernel
theorem dX11_signOf_30 : decode cX11_signOf 30 = .ok (.iconst 0, 1) := by decide +kernel
theorem dX11_signOf_31 : decode cX11_signOf 31 = .ok (.ireturn, 1) := by decide +kernel
theorem dX11_goDigit_0 : decode cX11_goDigit 0 = .ok (.aload_n 0, 1) := by decide +kernel
theorem dX11_goDigit_1 : decode cX11_goDigit 1 = .ok (.getfield 13, 3) := by decide +kernel
theorem dX11_goDigit_4 : decode cX11_goDigit 4 = .ok (.iload_n 2, 1) := by decide +kernel
theorem dX11_goDigit_5 : decode cX11_goDigit 5 = .ok (.iload_n 1, 1) := by decide +kernel
theorem dX11_goDigit_6 : decode cX11_goDigit 6 = .ok (.bipush 48, 2) := by decide +kernel
theorem dX11_goDigit_8 : decode cX11_goDigit 8 = .ok (.isub, 1) := by decide +kernel
theorem dX11_goDigit_9 : decode cX11_goDigit 9 = .ok (.iastore, 1) := by decide +kernel
theorem dX11_goDigit_10 : decode cX11_goDigit 10 = .ok (.iload_n 1, 1) := by decide +kernel
theorem dX11_goDigit_11 : decode cX11_goDigit 11 = .ok (.bipush 48, 2) := by decide +kernel
theorem dX11_goDigit_13 : decode cX11_goDigit 13 = .ok (.isub, 1) := by decide +kernel
theorem dX11_goDigit_14 : decode cX11_goDigit 14 = .ok (.i2l, 1) := by decide +kernel
theorem dX11_goDigit_15 : decode cX11_goDigit 15 = .ok (.iload_n 3, 1) := by decide +kernel
theorem dX11_goDigit_16 : decode cX11_goDigit 16 = .ok (.i2l, 1) := by decide +kernel
theorem dX11_goDigit_17 : decode cX11_goDigit 17 = .ok (.ldc2_w 67, 3) := by decide +kernel
theorem dX11_goDigit_20 : decode cX11_goDigit 20 = .ok (.invokestatic 69, 3) := by decide +kernel
theorem dX11_goDigit_23 : decode cX11_goDigit 23 = .ok (.ireturn, 1) := by decide +kernel
theorem dX11_goPivot_0 : decode cX11_goPivot 0 = .ok (.aload_n 0, 1) := by decide +kernel
theorem dX11_goPivot_1 : decode cX11_goPivot 1 = .ok (.getfield 13, 3) := by decide +kernel
theorem dX11_goPivot_4 : decode cX11_goPivot 4 = .ok (.iconst 1, 1) := by decide +kernel
theorem dX11_goPivot_5 : decode cX11_goPivot 5 = .ok (.iload_n 1, 1) := by decide +kernel
theorem dX11_goPivot_6 : decode cX11_goPivot 6 = .ok (.bipush 97, 2) := by decide +kernel
theorem dX11_goPivot_8 : decode cX11_goPivot 8 = .ok (.isub, 1) := by decide +kernel
theorem dX11_goPivot_9 : decode cX11_goPivot 9 = .ok (.iastore, 1) := by decide +kernel
theorem dX11_goPivot_10 : decode cX11_goPivot 10 = .ok (.aload_n 0, 1) := by decide +kernel
theorem dX11_goPivot_11 : decode cX11_goPivot 11 = .ok (.getfield 13, 3) := by decide +kernel
theorem dX11_goPivot_14 : decode cX11_goPivot 14 = .ok (.iconst 2, 1) := by decide +kernel
theorem dX11_goPivot_15 : decode cX11_goPivot 15 = .ok (.iconst 0, 1) := by decide +kernel
theorem dX11_goPivot_16 : decode cX11_goPivot 16 = .ok (.iastore, 1) := by decide +kernel
theorem dX11_goPivot_17 : decode cX11_goPivot 17 = .ok (.aload_n 0, 1) := by decide +kernel
theorem dX11_goPivot_18 : decode cX11_goPivot 18 = .ok (.iconst 2, 1) := by decide +kernel
theorem dX11_goPivot_19 : decode cX11_goPivot 19 = .ok (.putfield 73, 3) := by decide +kernel
theorem dX11_goPivot_22 : decode cX11_goPivot 22 = .ok (.iload_n 1, 1) := by decide +kernel
theorem dX11_goPivot_23 : decode cX11_goPivot 23 = .ok (.i2l, 1) := by decide +kernel
theorem dX11_goPivot_24 : decode cX11_goPivot 24 = .ok (.ldc2_w 76, 3) := by decide +kernel
theorem dX11_goPivot_27 : decode cX11_goPivot 27 = .ok (.ldc2_w 78, 3) := by decide +kernel
theorem dX11_goPivot_30 : decode cX11_goPivot 30 = .ok (.invokestatic 69, 3) := by decide +kernel
theorem dX11_goPivot_33 : decode cX11_goPivot 33 = .ok (.ireturn, 1) := by decide +kernel
theorem dX11_goEnd_0 : decode cX11_goEnd 0 = .ok (.iload_n 1, 1) := by decide +kernel
theorem dX11_goEnd_1 : decode cX11_goEnd 1 = .ok (.bipush 97, 2) := by decide +kernel
theorem dX11_goEnd_3 : decode cX11_goEnd 3 = .ok (.isub, 1) := by decide +kernel
theorem dX11_goEnd_4 : decode cX11_goEnd 4 = .ok (.istore_n 2, 1) := by decide +kernel
theorem dX11_goEnd_5 : decode cX11_goEnd 5 = .ok (.iload_n 2, 1) := by decide +kernel
theorem dX11_goEnd_6 : decode cX11_goEnd 6 = .ok (.i2l, 1) := by decide +kernel
theorem dX11_goEnd_7 : decode cX11_goEnd 7 = .ok (.lconst 0, 1) := by decide +kernel
theorem dX11_goEnd_8 : decode cX11_goEnd 8 = .ok (.ldc2_w 80, 3) := by decide +kernel
theorem dX11_goEnd_11 : decode cX11_goEnd 11 = .ok (.invokestatic 69, 3) := by decide +kernel
theorem dX11_goEnd_14 : decode cX11_goEnd 14 = .ok (.ifCond .eq 27, 3) := by decide +kernel
theorem dX11_goEnd_17 : decode cX11_goEnd 17 = .ok (.iload_n 2, 1) := by decide +kernel
theorem dX11_goEnd_18 : decode cX11_goEnd 18 = .ok (.aload_n 0, 1) := by decide +kernel
theorem dX11_goEnd_19 : decode cX11_goEnd 19 = .ok (.getfield 13, 3) := by decide +kernel
theorem dX11_goEnd_22 : decode cX11_goEnd 22 = .ok (.iconst 1, 1) := by decide +kernel
theorem dX11_goEnd_23 : decode cX11_goEnd 23 = .ok (.iaload, 1) := by decide +kernel
theorem dX11_goEnd_24 : decode cX11_goEnd 24 = .ok (.if_icmp .eq 17, 3) := by decide +kernel
theorem dX11_goEnd_27 : decode cX11_goEnd 27 = .ok (.aload_n 0, 1) := by decide +kernel
theorem dX11_goEnd_28 : decode cX11_goEnd 28 = .ok (.getfield 13, 3) := by decide +kernel
theorem dX11_goEnd_31 : decode cX11_goEnd 31 = .ok (.iconst 2, 1) := by decide +kernel
theorem dX11_goEnd_32 : decode cX11_goEnd 32 = .ok (.iaload, 1) := by decide +kernel
theorem dX11_goEnd_33 : decode cX11_goEnd 33 = .ok (.iconst 3, 1) := by decide +kernel
theorem dX11_goEnd_34 : decode cX11_goEnd 34 = .ok (.if_icmp .ge 7, 3) := by decide +kernel
theorem dX11_goEnd_37 : decode cX11_goEnd 37 = .ok (.iconst 1, 1) := by decide +kernel
theorem dX11_goEnd_38 : decode cX11_goEnd 38 = .ok (.goto 4, 3) := by decide +kernel
theorem dX11_goEnd_41 : decode cX11_goEnd 41 = .ok (.iconst 0, 1) := by decide +kernel
theorem dX11_goEnd_42 : decode cX11_goEnd 42 = .ok (.istore_n 3, 1) := by decide +kernel
theorem dX11_goEnd_43 : decode cX11_goEnd 43 = .ok (.iconst 0, 1) := by decide +kernel
theorem dX11_goEnd_44 : decode cX11_goEnd 44 = .ok (.istore 4, 2) := by decide +kernel
theorem dX11_goEnd_46 : decode cX11_goEnd 46 = .ok (.iload 4, 2) := by decide +kernel
theorem dX11_goEnd_48 : decode cX11_goEnd 48 = .ok (.aload_n 0, 1) := by decide +kernel
theorem dX11_goEnd_49 : decode cX11_goEnd 49 = .ok (.getfield 13, 3) := by decide +kernel
theorem dX11_goEnd_52 : decode cX11_goEnd 52 = .ok (.iconst 2, 1) := by decide +kernel
theorem dX11_goEnd_53 : decode cX11_goEnd 53 = .ok (.iaload, 1) := by decide +kernel
theorem dX11_goEnd_54 : decode cX11_goEnd 54 = .ok (.if_icmp .ge 32, 3) := by decide +kernel
theorem dX11_goEnd_57 : decode cX11_goEnd 57 = .ok (.iload_n 3, 1) := by decide +kernel
theorem dX11_goEnd_58 : decode cX11_goEnd 58 = .ok (.ifCond .eq 28, 3) := by decide +kernel
theorem dX11_goEnd_61 : decode cX11_goEnd 61 = .ok (.aload_n 0, 1) := by decide +kernel
theorem dX11_goEnd_62 : decode cX11_goEnd 62 = .ok (.getfield 13, 3) := by decide +kernel
theorem dX11_goEnd_65 : decode cX11_goEnd 65 = .ok (.iconst 3, 1) := by decide +kernel
theorem dX11_goEnd_66 : decode cX11_goEnd 66 = .ok (.iload 4, 2) := by decide +kernel
theorem dX11_goEnd_68 : decode cX11_goEnd 68 = .ok (.iadd, 1) := by decide +kernel
theorem dX11_goEnd_69 : decode cX11_goEnd 69 = .ok (.iaload, 1) := by decide +kernel
theorem dX11_goEnd_70 : decode cX11_goEnd 70 = .ok (.iload_n 2, 1) := by decide +kernel
theorem dX11_goEnd_71 : decode cX11_goEnd 71 = .ok (.if_icmp .eq 7, 3) := by decide +kernel
theorem dX11_goEnd_74 : decode cX11_goEnd 74 = .ok (.iconst 1, 1) := by decide +kernel
theorem dX11_goEnd_75 : decode cX11_goEnd 75 = .ok (.goto 4, 3) := by decide +kernel
theorem dX11_goEnd_78 : decode cX11_goEnd 78 = .ok (.iconst 0, 1) := by decide +kernel
theorem dX11_goEnd_79 : decode cX11_goEnd 79 = .ok (.istore_n 3, 1) := by decide +kernel
theorem dX11_goEnd_80 : decode cX11_goEnd 80 = .ok (.iinc 4 1, 3) := by decide +kernel
theorem dX11_goEnd_83 : decode cX11_goEnd 83 = .ok (.goto (-37), 3) := by decide +kernel
theorem dX11_goEnd_86 : decode cX11_goEnd 86 = .ok (.iload_n 3, 1) := by decide +kernel
theorem dX11_goEnd_87 : decode cX11_goEnd 87 = .ok (.ifCond .eq 27, 3) := by decide +kernel
theorem dX11_goEnd_90 : decode cX11_goEnd 90 = .ok (.aload_n 0, 1) := by decide +kernel
theorem dX11_goEnd_91 : decode cX11_goEnd 91 = .ok (.getfield 13, 3) := by decide +kernel
theorem dX11_goEnd_94 : decode cX11_goEnd 94 = .ok (.iconst 3, 1) := by decide +kernel
theorem dX11_goEnd_95 : decode cX11_goEnd 95 = .ok (.aload_n 0, 1) := by decide +kernel
theorem dX11_goEnd_96 : decode cX11_goEnd 96 = .ok (.getfield 13, 3) := by decide +kernel
theorem dX11_goEnd_99 : decode cX11_goEnd 99 = .ok (.iconst 2, 1) := by decide +kernel
theorem dX11_goEnd_100 : decode cX11_goEnd 100 = .ok (.iaload, 1) := by decide +kernel
theorem dX11_goEnd_101 : decode cX11_goEnd 101 = .ok (.iadd, 1) := by decide +kernel
theorem dX11_goEnd_102 : decode cX11_goEnd 102 = .ok (.iload_n 2, 1) := by decide +kernel
theorem dX11_goEnd_103 : decode cX11_goEnd 103 = .ok (.iastore, 1) := by decide +kernel
theorem dX11_goEnd_104 : decode cX11_goEnd 104 = .ok (.aload_n 0, 1) := by decide +kernel
theorem dX11_goEnd_105 : decode cX11_goEnd 105 = .ok (.getfield 13, 3) := by decide +kernel
theorem dX11_goEnd_108 : decode cX11_goEnd 108 = .ok (.iconst 2, 1) := by decide +kernel
theorem dX11_goEnd_109 : decode cX11_goEnd 109 = .ok (.dup2, 1) := by decide +kernel
theorem dX11_goEnd_110 : decode cX11_goEnd 110 = .ok (.iaload, 1) := by decide +kernel
theorem dX11_goEnd_111 : decode cX11_goEnd 111 = .ok (.iconst 1, 1) := by decide +kernel
theorem dX11_goEnd_112 : decode cX11_goEnd 112 = .ok (.iadd, 1) := by decide +kernel
theorem dX11_goEnd_113 : decode cX11_goEnd 113 = .ok (.iastore, 1) := by decide +kernel
theorem dX11_goEnd_114 : decode cX11_goEnd 114 = .ok (.aload_n 0, 1) := by decide +kernel
theorem dX11_goEnd_115 : decode cX11_goEnd 115 = .ok (.iconst 4, 1) := by decide +kernel
theorem dX11_goEnd_116 : decode cX11_goEnd 116 = .ok (.putfield 73, 3) := by decide +kernel
theorem dX11_goEnd_119 : decode cX11_goEnd 119 = .ok (.iload_n 3, 1) := by decide +kernel
theorem dX11_goEnd_120 : decode cX11_goEnd 120 = .ok (.ireturn, 1) := by decide +kernel
theorem dX11_go_0 : decode cX11_go 0 = .ok (.aload_n 0, 1) := by decide +kernel
theorem dX11_go_1 : decode cX11_go 1 = .ok (.getfield 73, 3) := by decide +kernel
theorem dX11_go_4 : decode cX11_go 4 = .ok (.istore_n 2, 1) := by decide +kernel
theorem dX11_go_5 : decode cX11_go 5 = .ok (.iload_n 2, 1) := by decide +kernel
theorem dX11_go_6 : decode cX11_go 6 = .ok (.tableswitch 110 0 4 #[34, 79, 110, 85, 91], 34) := by decide +kernel
theorem dX11_go_40 : decode cX11_go 40 = .ok (.aload_n 0, 1) := by decide +kernel
theorem dX11_go_41 : decode cX11_go 41 = .ok (.getfield 13, 3) := by decide +kernel
theorem dX11_go_44 : decode cX11_go 44 = .ok (.iconst 0, 1) := by decide +kernel
theorem dX11_go_45 : decode cX11_go 45 = .ok (.iload_n 1, 1) := by decide +kernel
theorem dX11_go_46 : decode cX11_go 46 = .ok (.invokestatic 82, 3) := by decide +kernel
theorem dX11_go_49 : decode cX11_go 49 = .ok (.iastore, 1) := by decide +kernel
theorem dX11_go_50 : decode cX11_go 50 = .ok (.aload_n 0, 1) := by decide +kernel
theorem dX11_go_51 : decode cX11_go 51 = .ok (.getfield 13, 3) := by decide +kernel
theorem dX11_go_54 : decode cX11_go 54 = .ok (.bipush 9, 2) := by decide +kernel
theorem dX11_go_56 : decode cX11_go 56 = .ok (.bipush 9, 2) := by decide +kernel
theorem dX11_go_58 : decode cX11_go 58 = .ok (.iastore, 1) := by decide +kernel
theorem dX11_go_59 : decode cX11_go 59 = .ok (.aload_n 0, 1) := by decide +kernel
theorem dX11_go_60 : decode cX11_go 60 = .ok (.iconst 1, 1) := by decide +kernel
theorem dX11_go_61 : decode cX11_go 61 = .ok (.putfield 73, 3) := by decide +kernel
theorem dX11_go_64 : decode cX11_go 64 = .ok (.iload_n 1, 1) := by decide +kernel
theorem dX11_go_65 : decode cX11_go 65 = .ok (.invokestatic 82, 3) := by decide +kernel
theorem dX11_go_68 : decode cX11_go 68 = .ok (.ifCond .gt 11, 3) := by decide +kernel
theorem dX11_go_71 : decode cX11_go 71 = .ok (.aload_n 0, 1) := by decide +kernel
theorem dX11_go_72 : decode cX11_go 72 = .ok (.iload_n 1, 1) := by decide +kernel
theorem dX11_go_73 : decode cX11_go 73 = .ok (.invokevirtual 86, 3) := by decide +kernel
theorem dX11_go_76 : decode cX11_go 76 = .ok (.ifCond .eq 7, 3) := by decide +kernel
theorem dX11_go_79 : decode cX11_go 79 = .ok (.iconst 1, 1) := by decide +kernel
theorem dX11_go_80 : decode cX11_go 80 = .ok (.goto 4, 3) := by decide +kernel
theorem dX11_go_83 : decode cX11_go 83 = .ok (.iconst 0, 1) := by decide +kernel
theorem dX11_go_84 : decode cX11_go 84 = .ok (.ireturn, 1) := by decide +kernel
theorem dX11_go_85 : decode cX11_go 85 = .ok (.aload_n 0, 1) := by decide +kernel
theorem dX11_go_86 : decode cX11_go 86 = .ok (.iload_n 1, 1) := by decide +kernel
theorem dX11_go_87 : decode cX11_go 87 = .ok (.invokevirtual 86, 3) := by decide +kernel
theorem dX11_go_90 : decode cX11_go 90 = .ok (.ireturn, 1) := by decide +kernel
theorem dX11_go_91 : decode cX11_go 91 = .ok (.aload_n 0, 1) := by decide +kernel
theorem dX11_go_92 : decode cX11_go 92 = .ok (.iload_n 1, 1) := by decide +kernel
theorem dX11_go_93 : decode cX11_go 93 = .ok (.invokevirtual 90, 3) := by decide +kernel
theorem dX11_go_96 : decode cX11_go 96 = .ok (.ireturn, 1) := by decide +kernel
theorem dX11_go_97 : decode cX11_go 97 = .ok (.iload_n 1, 1) := by decide +kernel
theorem dX11_go_98 : decode cX11_go 98 = .ok (.bipush 44, 2) := by decide +kernel
theorem dX11_go_100 : decode cX11_go 100 = .ok (.if_icmp .ne 10, 3) := by decide +kernel
theorem dX11_go_103 : decode cX11_go 103 = .ok (.aload_n 0, 1) := by decide +kernel
theorem dX11_go_104 : decode cX11_go 104 = .ok (.iconst 5, 1) := by decide +kernel
theorem dX11_go_105 : decode cX11_go 105 = .ok (.putfield 73, 3) := by decide +kernel
theorem dX11_go_108 : decode cX11_go 108 = .ok (.iconst 1, 1) := by decide +kernel
theorem dX11_go_109 : decode cX11_go 109 = .ok (.ireturn, 1) := by decide +kernel
theorem dX11_go_110 : decode cX11_go 110 = .ok (.aload_n 0, 1) := by decide +kernel
theorem dX11_go_111 : decode cX11_go 111 = .ok (.iload_n 1, 1) := by decide +kernel
theorem dX11_go_112 : decode cX11_go 112 = .ok (.invokevirtual 90, 3) := by decide +kernel
theorem dX11_go_115 : decode cX11_go 115 = .ok (.ireturn, 1) := by decide +kernel
theorem dX11_go_116 : decode cX11_go 116 = .ok (.aload_n 0, 1) := by decide +kernel
theorem dX11_go_117 : decode cX11_go 117 = .ok (.dup, 1) := by decide +kernel
theorem dX11_go_118 : decode cX11_go 118 = .ok (.getfield 73, 3) := by decide +kernel
theorem dX11_go_121 : decode cX11_go 121 = .ok (.iconst 1, 1) := by decide +kernel
theorem dX11_go_122 : decode cX11_go 122 = .ok (.iadd, 1) := by decide +kernel
theorem dX11_go_123 : decode cX11_go 123 = .ok (.putfield 73, 3) := by decide +kernel
theorem dX11_go_126 : decode cX11_go 126 = .ok (.iload_n 2, 1) := by decide +kernel
theorem dX11_go_127 : decode cX11_go 127 = .ok (.iconst 2, 1) := by decide +kernel
theorem dX11_go_128 : decode cX11_go 128 = .ok (.if_icmp .ne 17, 3) := by decide +kernel
theorem dX11_go_131 : decode cX11_go 131 = .ok (.iload_n 1, 1) := by decide +kernel
theorem dX11_go_132 : decode cX11_go 132 = .ok (.bipush 58, 2) := by decide +kernel
theorem dX11_go_134 : decode cX11_go 134 = .ok (.if_icmp .ne 7, 3) := by decide +kernel
theorem dX11_go_137 : decode cX11_go 137 = .ok (.iconst 1, 1) := by decide +kernel
theorem dX11_go_138 : decode cX11_go 138 = .ok (.goto 139, 3) := by decide +kernel
theorem dX11_go_141 : decode cX11_go 141 = .ok (.iconst 0, 1) := by decide +kernel
theorem dX11_go_142 : decode cX11_go 142 = .ok (.goto 135, 3) := by decide +kernel
theorem dX11_go_145 : decode cX11_go 145 = .ok (.iload_n 2, 1) := by decide +kernel
theorem dX11_go_146 : decode cX11_go 146 = .ok (.iconst 5, 1) := by decide +kernel
theorem dX11_go_147 : decode cX11_go 147 = .ok (.if_icmp .ne 14, 3) := by decide +kernel
theorem dX11_go_150 : decode cX11_go 150 = .ok (.aload_n 0, 1) := by decide +kernel
theorem dX11_go_151 : decode cX11_go 151 = .ok (.iload_n 1, 1) := by decide +kernel
theorem dX11_go_152 : decode cX11_go 152 = .ok (.bipush 6, 2) := by decide +kernel
theorem dX11_go_154 : decode cX11_go 154 = .ok (.iconst 1, 1) := by decide +kernel
theorem dX11_go_155 : decode cX11_go 155 = .ok (.invokevirtual 93, 3) := by decide +kernel
theorem dX11_go_158 : decode cX11_go 158 = .ok (.goto 119, 3) := by decide +kernel
theorem dX11_go_161 : decode cX11_go 161 = .ok (.iload_n 2, 1) := by decide +kernel
theorem dX11_go_162 : decode cX11_go 162 = .ok (.bipush 6, 2) := by decide +kernel
theorem dX11_go_164 : decode cX11_go 164 = .ok (.if_icmp .ne 17, 3) := by decide +kernel
theorem dX11_go_167 : decode cX11_go 167 = .ok (.iload_n 1, 1) := by decide +kernel
theorem dX11_go_168 : decode cX11_go 168 = .ok (.bipush 47, 2) := by decide +kernel
theorem dX11_go_170 : decode cX11_go 170 = .ok (.if_icmp .ne 7, 3) := by decide +kernel
theorem dX11_go_173 : decode cX11_go 173 = .ok (.iconst 1, 1) := by decide +kernel
theorem dX11_go_174 : decode cX11_go 174 = .ok (.goto 103, 3) := by decide +kernel
theorem dX11_go_177 : decode cX11_go 177 = .ok (.iconst 0, 1) := by decide +kernel
theorem dX11_go_178 : decode cX11_go 178 = .ok (.goto 99, 3) := by decide +kernel
theorem dX11_go_181 : decode cX11_go 181 = .ok (.iload_n 2, 1) := by decide +kernel
theorem dX11_go_182 : decode cX11_go 182 = .ok (.bipush 7, 2) := by decide +kernel
theorem dX11_go_184 : decode cX11_go 184 = .ok (.if_icmp .ne 14, 3) := by decide +kernel
theorem dX11_go_187 : decode cX11_go 187 = .ok (.aload_n 0, 1) := by decide +kernel
theorem dX11_go_188 : decode cX11_go 188 = .ok (.iload_n 1, 1) := by decide +kernel
theorem dX11_go_189 : decode cX11_go 189 = .ok (.bipush 7, 2) := by decide +kernel
theorem dX11_go_191 : decode cX11_go 191 = .ok (.iconst 1, 1) := by decide +kernel
theorem dX11_go_192 : decode cX11_go 192 = .ok (.invokevirtual 93, 3) := by decide +kernel
theorem dX11_go_195 : decode cX11_go 195 = .ok (.goto 82, 3) := by decide +kernel
theorem dX11_go_198 : decode cX11_go 198 = .ok (.iload_n 2, 1) := by decide +kernel
theorem dX11_go_199 : decode cX11_go 199 = .ok (.bipush 8, 2) := by decide +kernel
theorem dX11_go_201 : decode cX11_go 201 = .ok (.if_icmp .ne 17, 3) := by decide +kernel
theorem dX11_go_204 : decode cX11_go 204 = .ok (.iload_n 1, 1) := by decide +kernel
theorem dX11_go_205 : decode cX11_go 205 = .ok (.bipush 43, 2) := by decide +kernel
theorem dX11_go_207 : decode cX11_go 207 = .ok (.if_icmp .ne 7, 3) := by decide +kernel
theorem dX11_go_210 : decode cX11_go 210 = .ok (.iconst 1, 1) := by decide +kernel
theorem dX11_go_211 : decode cX11_go 211 = .ok (.goto 66, 3) := by decide +kernel
theorem dX11_go_214 : decode cX11_go 214 = .ok (.iconst 0, 1) := by decide +kernel
theorem dX11_go_215 : decode cX11_go 215 = .ok (.goto 62, 3) := by decide +kernel
theorem dX11_go_218 : decode cX11_go 218 = .ok (.iload_n 2, 1) := by decide +kernel
theorem dX11_go_219 : decode cX11_go 219 = .ok (.bipush 9, 2) := by decide +kernel
theorem dX11_go_221 : decode cX11_go 221 = .ok (.if_icmp .ne 14, 3) := by decide +kernel
theorem dX11_go_224 : decode cX11_go 224 = .ok (.aload_n 0, 1) := by decide +kernel
theorem dX11_go_225 : decode cX11_go 225 = .ok (.iload_n 1, 1) := by decide +kernel
theorem dX11_go_226 : decode cX11_go 226 = .ok (.bipush 8, 2) := by decide +kernel
theorem dX11_go_228 : decode cX11_go 228 = .ok (.iconst 0, 1) := by decide +kernel
theorem dX11_go_229 : decode cX11_go 229 = .ok (.invokevirtual 93, 3) := by decide +kernel
theorem dX11_go_232 : decode cX11_go 232 = .ok (.goto 45, 3) := by decide +kernel
theorem dX11_go_235 : decode cX11_go 235 = .ok (.iload_n 2, 1) := by decide +kernel
theorem dX11_go_236 : decode cX11_go 236 = .ok (.bipush 10, 2) := by decide +kernel
theorem dX11_go_238 : decode cX11_go 238 = .ok (.if_icmp .ne 17, 3) := by decide +kernel
theorem dX11_go_241 : decode cX11_go 241 = .ok (.iload_n 1, 1) := by decide +kernel
theorem dX11_go_242 : decode cX11_go 242 = .ok (.bipush 119, 2) := by decide +kernel
theorem dX11_go_244 : decode cX11_go 244 = .ok (.if_icmp .ne 7, 3) := by decide +kernel
theorem dX11_go_247 : decode cX11_go 247 = .ok (.iconst 1, 1) := by decide +kernel
theorem dX11_go_248 : decode cX11_go 248 = .ok (.goto 29, 3) := by decide +kernel
theorem dX11_go_251 : decode cX11_go 251 = .ok (.iconst 0, 1) := by decide +kernel
theorem dX11_go_252 : decode cX11_go 252 = .ok (.goto 25, 3) := by decide +kernel
theorem dX11_go_255 : decode cX11_go 255 = .ok (.iload_n 2, 1) := by decide +kernel
theorem dX11_go_256 : decode cX11_go 256 = .ok (.bipush 11, 2) := by decide +kernel
theorem dX11_go_258 : decode cX11_go 258 = .ok (.if_icmp .ne 18, 3) := by decide +kernel
theorem dX11_go_261 : decode cX11_go 261 = .ok (.aload_n 0, 1) := by decide +kernel
theorem dX11_go_262 : decode cX11_go 262 = .ok (.iload_n 1, 1) := by decide +kernel
theorem dX11_go_263 : decode cX11_go 263 = .ok (.bipush 9, 2) := by decide +kernel
theorem dX11_go_265 : decode cX11_go 265 = .ok (.iconst 1, 1) := by decide +kernel
theorem dX11_go_266 : decode cX11_go 266 = .ok (.invokevirtual 93, 3) := by decide +kernel
theorem dX11_go_269 : decode cX11_go 269 = .ok (.ifCond .eq 7, 3) := by decide +kernel
theorem dX11_go_272 : decode cX11_go 272 = .ok (.iconst 1, 1) := by decide +kernel
theorem dX11_go_273 : decode cX11_go 273 = .ok (.goto 4, 3) := by decide +kernel
theorem dX11_go_276 : decode cX11_go 276 = .ok (.iconst 0, 1) := by decide +kernel
theorem dX11_go_277 : decode cX11_go 277 = .ok (.ireturn, 1) := by decide +kernel
theorem dX11_faultOf_0 : decode cX11_faultOf 0 = .ok (.aload_n 0, 1) := by decide +kernel
theorem dX11_faultOf_1 : decode cX11_faultOf 1 = .ok (.iconst 0, 1) := by decide +kernel
theorem dX11_faultOf_2 : decode cX11_faultOf 2 = .ok (.putfield 73, 3) := by decide +kernel
theorem dX11_faultOf_5 : decode cX11_faultOf 5 = .ok (.iconst 0, 1) := by decide +kernel
theorem dX11_faultOf_6 : decode cX11_faultOf 6 = .ok (.istore_n 1, 1) := by decide +kernel
theorem dX11_faultOf_7 : decode cX11_faultOf 7 = .ok (.iload_n 1, 1) := by decide +kernel
theorem dX11_faultOf_8 : decode cX11_faultOf 8 = .ok (.aload_n 0, 1) := by decide +kernel
theorem dX11_faultOf_9 : decode cX11_faultOf 9 = .ok (.getfield 64, 3) := by decide +kernel
theorem dX11_faultOf_12 : decode cX11_faultOf 12 = .ok (.if_icmp .ge 22, 3) := by decide +kernel
theorem dX11_faultOf_15 : decode cX11_faultOf 15 = .ok (.aload_n 0, 1) := by decide +kernel
theorem dX11_faultOf_16 : decode cX11_faultOf 16 = .ok (.aload_n 0, 1) := by decide +kernel
theorem dX11_faultOf_17 : decode cX11_faultOf 17 = .ok (.getfield 7, 3) := by decide +kernel
theorem dX11_faultOf_20 : decode cX11_faultOf 20 = .ok (.iload_n 1, 1) := by decide +kernel
theorem dX11_faultOf_21 : decode cX11_faultOf 21 = .ok (.iaload, 1) := by decide +kernel
theorem dX11_faultOf_22 : decode cX11_faultOf 22 = .ok (.invokevirtual 97, 3) := by decide +kernel
theorem dX11_faultOf_25 : decode cX11_faultOf 25 = .ok (.ifCond .eq 9, 3) := by decide +kernel
theorem dX11_faultOf_28 : decode cX11_faultOf 28 = .ok (.iinc 1 1, 3) := by decide +kernel
theorem dX11_faultOf_31 : decode cX11_faultOf 31 = .ok (.goto (-24), 3) := by decide +kernel
theorem dX11_faultOf_34 : decode cX11_faultOf 34 = .ok (.iload_n 1, 1) := by decide +kernel
theorem dX11_faultOf_35 : decode cX11_faultOf 35 = .ok (.ireturn, 1) := by decide +kernel
theorem dX11_fault_0 : decode cX11_fault 0 = .ok (.aload_n 0, 1) := by decide +kernel
theorem dX11_fault_1 : decode cX11_fault 1 = .ok (.invokevirtual 100, 3) := by decide +kernel
theorem dX11_fault_4 : decode cX11_fault 4 = .ok (.ireturn, 1) := by decide +kernel
theorem dX11_bridge_0 : decode cX11_bridge 0 = .ok (.aload_n 0, 1) := by decide +kernel
theorem dX11_bridge_1 : decode cX11_bridge 1 = .ok (.invokevirtual 100, 3) := by decide +kernel
theorem dX11_bridge_4 : decode cX11_bridge 4 = .ok (.aload_n 0, 1) := by decide +kernel
theorem dX11_bridge_5 : decode cX11_bridge 5 = .ok (.getfield 64, 3) := by decide +kernel
theorem dX11_bridge_8 : decode cX11_bridge 8 = .ok (.if_icmp .lt 21, 3) := by decide +kernel
theorem dX11_bridge_11 : decode cX11_bridge 11 = .ok (.aload_n 0, 1) := by decide +kernel
theorem dX11_bridge_12 : decode cX11_bridge 12 = .ok (.getfield 73, 3) := by decide +kernel
theorem dX11_bridge_15 : decode cX11_bridge 15 = .ok (.bipush 10, 2) := by decide +kernel
theorem dX11_bridge_17 : decode cX11_bridge 17 = .ok (.if_icmp .eq 15, 3) := by decide +kernel
theorem dX11_bridge_20 : decode cX11_bridge 20 = .ok (.aload_n 0, 1) := by decide +kernel
theorem dX11_bridge_21 : decode cX11_bridge 21 = .ok (.getfield 73, 3) := by decide +kernel
theorem dX11_bridge_24 : decode cX11_bridge 24 = .ok (.bipush 12, 2) := by decide +kernel
theorem dX11_bridge_26 : decode cX11_bridge 26 = .ok (.if_icmp .eq 6, 3) := by decide +kernel
theorem dX11_bridge_29 : decode cX11_bridge 29 = .ok (.bipush (-103), 2) := by decide +kernel
theorem dX11_bridge_31 : decode cX11_bridge 31 = .ok (.ireturn, 1) := by decide +kernel
theorem dX11_bridge_32 : decode cX11_bridge 32 = .ok (.aload_n 0, 1) := by decide +kernel
theorem dX11_bridge_33 : decode cX11_bridge 33 = .ok (.getfield 104, 3) := by decide +kernel
theorem dX11_bridge_36 : decode cX11_bridge 36 = .ok (.bipush 10, 2) := by decide +kernel
theorem dX11_bridge_38 : decode cX11_bridge 38 = .ok (.if_icmp .ne 6, 3) := by decide +kernel
theorem dX11_bridge_41 : decode cX11_bridge 41 = .ok (.bipush (-104), 2) := by decide +kernel
theorem dX11_bridge_43 : decode cX11_bridge 43 = .ok (.ireturn, 1) := by decide +kernel
theorem dX11_bridge_44 : decode cX11_bridge 44 = .ok (.iconst 0, 1) := by decide +kernel
theorem dX11_bridge_45 : decode cX11_bridge 45 = .ok (.istore_n 1, 1) := by decide +kernel
theorem dX11_bridge_46 : decode cX11_bridge 46 = .ok (.iload_n 1, 1) := by decide +kernel
theorem dX11_bridge_47 : decode cX11_bridge 47 = .ok (.bipush 10, 2) := by decide +kernel
theorem dX11_bridge_49 : decode cX11_bridge 49 = .ok (.if_icmp .ge 29, 3) := by decide +kernel
theorem dX11_bridge_52 : decode cX11_bridge 52 = .ok (.aload_n 0, 1) := by decide +kernel
theorem dX11_bridge_53 : decode cX11_bridge 53 = .ok (.getfield 16, 3) := by decide +kernel
theorem dX11_bridge_56 : decode cX11_bridge 56 = .ok (.bipush 10, 2) := by decide +kernel
theorem dX11_bridge_58 : decode cX11_bridge 58 = .ok (.aload_n 0, 1) := by decide +kernel
theorem dX11_bridge_59 : decode cX11_bridge 59 = .ok (.getfield 104, 3) := by decide +kernel
theorem dX11_bridge_62 : decode cX11_bridge 62 = .ok (.imul, 1) := by decide +kernel
theorem dX11_bridge_63 : decode cX11_bridge 63 = .ok (.iload_n 1, 1) := by decide +kernel
theorem dX11_bridge_64 : decode cX11_bridge 64 = .ok (.iadd, 1) := by decide +kernel
theorem dX11_bridge_65 : decode cX11_bridge 65 = .ok (.aload_n 0, 1) := by decide +kernel
theorem dX11_bridge_66 : decode cX11_bridge 66 = .ok (.getfield 13, 3) := by decide +kernel
theorem dX11_bridge_69 : decode cX11_bridge 69 = .ok (.iload_n 1, 1) := by decide +kernel
theorem dX11_bridge_70 : decode cX11_bridge 70 = .ok (.iaload, 1) := by decide +kernel
theorem dX11_bridge_71 : decode cX11_bridge 71 = .ok (.iastore, 1) := by decide +kernel
theorem dX11_bridge_72 : decode cX11_bridge 72 = .ok (.iinc 1 1, 3) := by decide +kernel
theorem dX11_bridge_75 : decode cX11_bridge 75 = .ok (.goto (-29), 3) := by decide +kernel
theorem dX11_bridge_78 : decode cX11_bridge 78 = .ok (.aload_n 0, 1) := by decide +kernel
theorem dX11_bridge_79 : decode cX11_bridge 79 = .ok (.dup, 1) := by decide +kernel
theorem dX11_bridge_80 : decode cX11_bridge 80 = .ok (.getfield 104, 3) := by decide +kernel
theorem dX11_bridge_83 : decode cX11_bridge 83 = .ok (.iconst 1, 1) := by decide +kernel
theorem dX11_bridge_84 : decode cX11_bridge 84 = .ok (.iadd, 1) := by decide +kernel
theorem dX11_bridge_85 : decode cX11_bridge 85 = .ok (.putfield 104, 3) := by decide +kernel
theorem dX11_bridge_88 : decode cX11_bridge 88 = .ok (.aload_n 0, 1) := by decide +kernel
theorem dX11_bridge_89 : decode cX11_bridge 89 = .ok (.iconst 0, 1) := by decide +kernel
theorem dX11_bridge_90 : decode cX11_bridge 90 = .ok (.putfield 64, 3) := by decide +kernel
theorem dX11_bridge_93 : decode cX11_bridge 93 = .ok (.aload_n 0, 1) := by decide +kernel
theorem dX11_bridge_94 : decode cX11_bridge 94 = .ok (.getfield 104, 3) := by decide +kernel
theorem dX11_bridge_97 : decode cX11_bridge 97 = .ok (.iconst 1, 1) := by decide +kernel
theorem dX11_bridge_98 : decode cX11_bridge 98 = .ok (.isub, 1) := by decide +kernel
theorem dX11_bridge_99 : decode cX11_bridge 99 = .ok (.ireturn, 1) := by decide +kernel
theorem dX11_isBridge_0 : decode cX11_isBridge 0 = .ok (.iload_n 1, 1) := by decide +kernel
theorem dX11_isBridge_1 : decode cX11_isBridge 1 = .ok (.i2l, 1) := by decide +kernel
theorem dX11_isBridge_2 : decode cX11_isBridge 2 = .ok (.lconst 0, 1) := by decide +kernel
theorem dX11_isBridge_3 : decode cX11_isBridge 3 = .ok (.aload_n 0, 1) := by decide +kernel
theorem dX11_isBridge_4 : decode cX11_isBridge 4 = .ok (.getfield 104, 3) := by decide +kernel
theorem dX11_isBridge_7 : decode cX11_isBridge 7 = .ok (.iconst 1, 1) := by decide +kernel
theorem dX11_isBridge_8 : decode cX11_isBridge 8 = .ok (.isub, 1) := by decide +kernel
theorem dX11_isBridge_9 : decode cX11_isBridge 9 = .ok (.i2l, 1) := by decide +kernel
theorem dX11_isBridge_10 : decode cX11_isBridge 10 = .ok (.invokestatic 69, 3) := by decide +kernel
theorem dX11_isBridge_13 : decode cX11_isBridge 13 = .ok (.ireturn, 1) := by decide +kernel
theorem dX11_isIslet_0 : decode cX11_isIslet 0 = .ok (.iload_n 0, 1) := by decide +kernel
theorem dX11_isIslet_1 : decode cX11_isIslet 1 = .ok (.i2l, 1) := by decide +kernel
theorem dX11_isIslet_2 : decode cX11_isIslet 2 = .ok (.lconst 0, 1) := by decide +kernel
theorem dX11_isIslet_3 : decode cX11_isIslet 3 = .ok (.ldc2_w 80, 3) := by decide +kernel
theorem dX11_isIslet_6 : decode cX11_isIslet 6 = .ok (.invokestatic 69, 3) := by decide +kernel
theorem dX11_isIslet_9 : decode cX11_isIslet 9 = .ok (.ireturn, 1) := by decide +kernel
theorem dX11_as_0 : decode cX11_as 0 = .ok (.aload_n 0, 1) := by decide +kernel
theorem dX11_as_1 : decode cX11_as 1 = .ok (.iload_n 1, 1) := by decide +kernel
theorem dX11_as_2 : decode cX11_as 2 = .ok (.invokevirtual 107, 3) := by decide +kernel
theorem dX11_as_5 : decode cX11_as 5 = .ok (.ifCond .ne 6, 3) := by decide +kernel
theorem dX11_as_8 : decode cX11_as 8 = .ok (.bipush (-101), 2) := by decide +kernel
theorem dX11_as_10 : decode cX11_as 10 = .ok (.ireturn, 1) := by decide +kernel
theorem dX11_as_11 : decode cX11_as 11 = .ok (.iload_n 2, 1) := by decide +kernel
theorem dX11_as_12 : decode cX11_as 12 = .ok (.i2l, 1) := by decide +kernel
theorem dX11_as_13 : decode cX11_as 13 = .ok (.lconst 0, 1) := by decide +kernel
theorem dX11_as_14 : decode cX11_as 14 = .ok (.ldc2_w 110, 3) := by decide +kernel
theorem dX11_as_17 : decode cX11_as 17 = .ok (.invokestatic 69, 3) := by decide +kernel
theorem dX11_as_20 : decode cX11_as 20 = .ok (.ifCond .ne 6, 3) := by decide +kernel
theorem dX11_as_23 : decode cX11_as 23 = .ok (.bipush (-102), 2) := by decide +kernel
theorem dX11_as_25 : decode cX11_as 25 = .ok (.ireturn, 1) := by decide +kernel
theorem dX11_as_26 : decode cX11_as 26 = .ok (.aload_n 0, 1) := by decide +kernel
theorem dX11_as_27 : decode cX11_as 27 = .ok (.getfield 16, 3) := by decide +kernel
theorem dX11_as_30 : decode cX11_as 30 = .ok (.bipush 10, 2) := by decide +kernel
theorem dX11_as_32 : decode cX11_as 32 = .ok (.iload_n 1, 1) := by decide +kernel
theorem dX11_as_33 : decode cX11_as 33 = .ok (.imul, 1) := by decide +kernel
theorem dX11_as_34 : decode cX11_as 34 = .ok (.iaload, 1) := by decide +kernel
theorem dX11_as_35 : decode cX11_as 35 = .ok (.istore_n 3, 1) := by decide +kernel
theorem dX11_as_36 : decode cX11_as 36 = .ok (.iload_n 2, 1) := by decide +kernel
theorem dX11_as_37 : decode cX11_as 37 = .ok (.ifCond .eq 18, 3) := by decide +kernel
theorem dX11_as_40 : decode cX11_as 40 = .ok (.iload_n 2, 1) := by decide +kernel
theorem dX11_as_41 : decode cX11_as 41 = .ok (.iload_n 3, 1) := by decide +kernel
theorem dX11_as_42 : decode cX11_as 42 = .ok (.if_icmp .eq 13, 3) := by decide +kernel
theorem dX11_as_45 : decode cX11_as 45 = .ok (.iload_n 2, 1) := by decide +kernel
theorem dX11_as_46 : decode cX11_as 46 = .ok (.iconst 1, 1) := by decide +kernel
theorem dX11_as_47 : decode cX11_as 47 = .ok (.if_icmp .ne 12, 3) := by decide +kernel
theorem dX11_as_50 : decode cX11_as 50 = .ok (.iload_n 3, 1) := by decide +kernel
theorem dX11_as_51 : decode cX11_as 51 = .ok (.iconst 2, 1) := by decide +kernel
theorem dX11_as_52 : decode cX11_as 52 = .ok (.if_icmp .ne 7, 3) := by decide +kernel
theorem dX11_as_55 : decode cX11_as 55 = .ok (.iconst 1, 1) := by decide +kernel
theorem dX11_as_56 : decode cX11_as 56 = .ok (.goto 4, 3) := by decide +kernel
theorem dX11_as_59 : decode cX11_as 59 = .ok (.iconst 0, 1) := by decide +kernel
theorem dX11_as_60 : decode cX11_as 60 = .ok (.istore 4, 2) := by decide +kernel
theorem dX11_as_62 : decode cX11_as 62 = .ok (.iload 4, 2) := by decide +kernel
theorem dX11_as_64 : decode cX11_as 64 = .ok (.ifCond .eq 7, 3) := by decide +kernel
theorem dX11_as_67 : decode cX11_as 67 = .ok (.iload_n 1, 1) := by decide +kernel
theorem dX11_as_68 : decode cX11_as 68 = .ok (.goto 4, 3) := by decide +kernel
theorem dX11_as_71 : decode cX11_as 71 = .ok (.iconst (-1), 1) := by decide +kernel
theorem dX11_as_72 : decode cX11_as 72 = .ok (.ireturn, 1) := by decide +kernel
theorem dX11_placeOf_0 : decode cX11_placeOf 0 = .ok (.aload_n 0, 1) := by decide +kernel
theorem dX11_placeOf_1 : decode cX11_placeOf 1 = .ok (.getfield 16, 3) := by decide +kernel
theorem dX11_placeOf_4 : decode cX11_placeOf 4 = .ok (.bipush 10, 2) := by decide +kernel
theorem dX11_placeOf_6 : decode cX11_placeOf 6 = .ok (.iload_n 1, 1) := by decide +kernel
theorem dX11_placeOf_7 : decode cX11_placeOf 7 = .ok (.imul, 1) := by decide +kernel
theorem dX11_placeOf_8 : decode cX11_placeOf 8 = .ok (.iaload, 1) := by decide +kernel
theorem dX11_placeOf_9 : decode cX11_placeOf 9 = .ok (.istore_n 2, 1) := by decide +kernel
theorem dX11_placeOf_10 : decode cX11_placeOf 10 = .ok (.aload_n 0, 1) := by decide +kernel
theorem dX11_placeOf_11 : decode cX11_placeOf 11 = .ok (.getfield 16, 3) := by decide +kernel
theorem dX11_placeOf_14 : decode cX11_placeOf 14 = .ok (.bipush 10, 2) := by decide +kernel
theorem dX11_placeOf_16 : decode cX11_placeOf 16 = .ok (.iload_n 1, 1) := by decide +kernel
theorem dX11_placeOf_17 : decode cX11_placeOf 17 = .ok (.imul, 1) := by decide +kernel
theorem dX11_placeOf_18 : decode cX11_placeOf 18 = .ok (.bipush 7, 2) := by decide +kernel
theorem dX11_placeOf_20 : decode cX11_placeOf 20 = .ok (.iadd, 1) := by decide +kernel
theorem dX11_placeOf_21 : decode cX11_placeOf 21 = .ok (.iaload, 1) := by decide +kernel
theorem dX11_placeOf_22 : decode cX11_placeOf 22 = .ok (.istore_n 3, 1) := by decide +kernel
theorem dX11_placeOf_23 : decode cX11_placeOf 23 = .ok (.aload_n 0, 1) := by decide +kernel
theorem dX11_placeOf_24 : decode cX11_placeOf 24 = .ok (.getfield 16, 3) := by decide +kernel
theorem dX11_placeOf_27 : decode cX11_placeOf 27 = .ok (.bipush 10, 2) := by decide +kernel
theorem dX11_placeOf_29 : decode cX11_placeOf 29 = .ok (.iload_n 1, 1) := by decide +kernel
theorem dX11_placeOf_30 : decode cX11_placeOf 30 = .ok (.imul, 1) := by decide +kernel
theorem dX11_placeOf_31 : decode cX11_placeOf 31 = .ok (.bipush 6, 2) := by decide +kernel
theorem dX11_placeOf_33 : decode cX11_placeOf 33 = .ok (.iadd, 1) := by decide +kernel
theorem dX11_placeOf_34 : decode cX11_placeOf 34 = .ok (.iaload, 1) := by decide +kernel
theorem dX11_placeOf_35 : decode cX11_placeOf 35 = .ok (.aload_n 0, 1) := by decide +kernel
theorem dX11_placeOf_36 : decode cX11_placeOf 36 = .ok (.getfield 112, 3) := by decide +kernel
theorem dX11_placeOf_39 : decode cX11_placeOf 39 = .ok (.iconst 1, 1) := by decide +kernel
theorem dX11_placeOf_40 : decode cX11_placeOf 40 = .ok (.if_icmp .ne 19, 3) := by decide +kernel
theorem dX11_placeOf_43 : decode cX11_placeOf 43 = .ok (.iload_n 2, 1) := by decide +kernel
theorem dX11_placeOf_44 : decode cX11_placeOf 44 = .ok (.iconst 1, 1) := by decide +kernel
theorem dX11_placeOf_45 : decode cX11_placeOf 45 = .ok (.if_icmp .eq 8, 3) := by decide +kernel
theorem dX11_placeOf_48 : decode cX11_placeOf 48 = .ok (.iload_n 2, 1) := by decide +kernel
theorem dX11_placeOf_49 : decode cX11_placeOf 49 = .ok (.iconst 2, 1) := by decide +kernel
theorem dX11_placeOf_50 : decode cX11_placeOf 50 = .ok (.if_icmp .ne 9, 3) := by decide +kernel
theorem dX11_placeOf_53 : decode cX11_placeOf 53 = .ok (.iconst 2, 1) := by decide +kernel
theorem dX11_placeOf_54 : decode cX11_placeOf 54 = .ok (.iload_n 3, 1) := by decide +kernel
theorem dX11_placeOf_55 : decode cX11_placeOf 55 = .ok (.imul, 1) := by decide +kernel
theorem dX11_placeOf_56 : decode cX11_placeOf 56 = .ok (.goto 4, 3) := by decide +kernel
theorem dX11_placeOf_59 : decode cX11_placeOf 59 = .ok (.iload_n 3, 1) := by decide +kernel
theorem dX11_placeOf_60 : decode cX11_placeOf 60 = .ok (.iadd, 1) := by decide +kernel
theorem dX11_placeOf_61 : decode cX11_placeOf 61 = .ok (.ireturn, 1) := by decide +kernel
theorem dX11_placesOf_0 : decode cX11_placesOf 0 = .ok (.aload_n 0, 1) := by decide +kernel
theorem dX11_placesOf_1 : decode cX11_placesOf 1 = .ok (.getfield 16, 3) := by decide +kernel
theorem dX11_placesOf_4 : decode cX11_placesOf 4 = .ok (.bipush 10, 2) := by decide +kernel
theorem dX11_placesOf_6 : decode cX11_placesOf 6 = .ok (.iload_n 1, 1) := by decide +kernel
theorem dX11_placesOf_7 : decode cX11_placesOf 7 = .ok (.imul, 1) := by decide +kernel
theorem dX11_placesOf_8 : decode cX11_placesOf 8 = .ok (.iconst 2, 1) := by decide +kernel
theorem dX11_placesOf_9 : decode cX11_placesOf 9 = .ok (.iadd, 1) := by decide +kernel
theorem dX11_placesOf_10 : decode cX11_placesOf 10 = .ok (.iaload, 1) := by decide +kernel
theorem dX11_placesOf_11 : decode cX11_placesOf 11 = .ok (.istore_n 2, 1) := by decide +kernel
theorem dX11_placesOf_12 : decode cX11_placesOf 12 = .ok (.aload_n 0, 1) := by decide +kernel
theorem dX11_placesOf_13 : decode cX11_placesOf 13 = .ok (.getfield 16, 3) := by decide +kernel
theorem dX11_placesOf_16 : decode cX11_placesOf 16 = .ok (.bipush 10, 2) := by decide +kernel
theorem dX11_placesOf_18 : decode cX11_placesOf 18 = .ok (.iload_n 1, 1) := by decide +kernel
theorem dX11_placesOf_19 : decode cX11_placesOf 19 = .ok (.imul, 1) := by decide +kernel
theorem dX11_placesOf_20 : decode cX11_placesOf 20 = .ok (.iaload, 1) := by decide +kernel
theorem dX11_placesOf_21 : decode cX11_placesOf 21 = .ok (.iconst 2, 1) := by decide +kernel
theorem dX11_placesOf_22 : decode cX11_placesOf 22 = .ok (.if_icmp .ne 16, 3) := by decide +kernel
theorem dX11_placesOf_25 : decode cX11_placesOf 25 = .ok (.iload_n 2, 1) := by decide +kernel
theorem dX11_placesOf_26 : decode cX11_placesOf 26 = .ok (.iconst 1, 1) := by decide +kernel
theorem dX11_placesOf_27 : decode cX11_placesOf 27 = .ok (.if_icmp .le 11, 3) := by decide +kernel
theorem dX11_placesOf_30 : decode cX11_placesOf 30 = .ok (.iconst 2, 1) := by decide +kernel
theorem dX11_placesOf_31 : decode cX11_placesOf 31 = .ok (.iload_n 2, 1) := by decide +kernel
theorem dX11_placesOf_32 : decode cX11_placesOf 32 = .ok (.imul, 1) := by decide +kernel
theorem dX11_placesOf_33 : decode cX11_placesOf 33 = .ok (.iconst 2, 1) := by decide +kernel
theorem dX11_placesOf_34 : decode cX11_placesOf 34 = .ok (.isub, 1) := by decide +kernel
theorem dX11_placesOf_35 : decode cX11_placesOf 35 = .ok (.goto 4, 3) := by decide +kernel
theorem dX11_placesOf_38 : decode cX11_placesOf 38 = .ok (.iload_n 2, 1) := by decide +kernel
theorem dX11_placesOf_39 : decode cX11_placesOf 39 = .ok (.ireturn, 1) := by decide +kernel
theorem dX11_roundOf_0 : decode cX11_roundOf 0 = .ok (.aload_n 0, 1) := by decide +kernel
theorem dX11_roundOf_1 : decode cX11_roundOf 1 = .ok (.getfield 16, 3) := by decide +kernel
theorem dX11_roundOf_4 : decode cX11_roundOf 4 = .ok (.bipush 10, 2) := by decide +kernel
theorem dX11_roundOf_6 : decode cX11_roundOf 6 = .ok (.iload_n 1, 1) := by decide +kernel
theorem dX11_roundOf_7 : decode cX11_roundOf 7 = .ok (.imul, 1) := by decide +kernel
theorem dX11_roundOf_8 : decode cX11_roundOf 8 = .ok (.iaload, 1) := by decide +kernel
theorem dX11_roundOf_9 : decode cX11_roundOf 9 = .ok (.iconst 3, 1) := by decide +kernel
theorem dX11_roundOf_10 : decode cX11_roundOf 10 = .ok (.if_icmp .ne 7, 3) := by decide +kernel
theorem dX11_roundOf_13 : decode cX11_roundOf 13 = .ok (.iconst 1, 1) := by decide +kernel
theorem dX11_roundOf_14 : decode cX11_roundOf 14 = .ok (.goto 14, 3) := by decide +kernel
theorem dX11_roundOf_17 : decode cX11_roundOf 17 = .ok (.aload_n 0, 1) := by decide +kernel
theorem dX11_roundOf_18 : decode cX11_roundOf 18 = .ok (.iload_n 1, 1) := by decide +kernel
theorem dX11_roundOf_19 : decode cX11_roundOf 19 = .ok (.invokevirtual 115, 3) := by decide +kernel
theorem dX11_roundOf_22 : decode cX11_roundOf 22 = .ok (.aload_n 0, 1) := by decide +kernel
theorem dX11_roundOf_23 : decode cX11_roundOf 23 = .ok (.iload_n 1, 1) := by decide +kernel
theorem dX11_roundOf_24 : decode cX11_roundOf 24 = .ok (.invokevirtual 118, 3) := by decide +kernel
theorem dX11_roundOf_27 : decode cX11_roundOf 27 = .ok (.imul, 1) := by decide +kernel
theorem dX11_roundOf_28 : decode cX11_roundOf 28 = .ok (.ireturn, 1) := by decide +kernel
theorem dX11_tellAbout_0 : decode cX11_tellAbout 0 = .ok (.iload_n 2, 1) := by decide +kernel
theorem dX11_tellAbout_1 : decode cX11_tellAbout 1 = .ok (.tableswitch 136 0 12 #[67, 67, 67, 79, 79, 79, 79, 93, 136, 136, 99, 99, 99], 67) := by decide +kernel
theorem dX11_tellAbout_68 : decode cX11_tellAbout 68 = .ok (.aload_n 0, 1) := by decide +kernel
theorem dX11_tellAbout_69 : decode cX11_tellAbout 69 = .ok (.getfield 16, 3) := by decide +kernel
theorem dX11_tellAbout_72 : decode cX11_tellAbout 72 = .ok (.bipush 10, 2) := by decide +kernel
theorem dX11_tellAbout_74 : decode cX11_tellAbout 74 = .ok (.iload_n 1, 1) := by decide +kernel
theorem dX11_tellAbout_75 : decode cX11_tellAbout 75 = .ok (.imul, 1) := by decide +kernel
theorem dX11_tellAbout_76 : decode cX11_tellAbout 76 = .ok (.iload_n 2, 1) := by decide +kernel
theorem dX11_tellAbout_77 : decode cX11_tellAbout 77 = .ok (.iadd, 1) := by decide +kernel
theorem dX11_tellAbout_78 : decode cX11_tellAbout 78 = .ok (.iaload, 1) := by decide +kernel
theorem dX11_tellAbout_79 : decode cX11_tellAbout 79 = .ok (.ireturn, 1) := by decide +kernel
theorem dX11_tellAbout_80 : decode cX11_tellAbout 80 = .ok (.aload_n 0, 1) := by decide +kernel
theorem dX11_tellAbout_81 : decode cX11_tellAbout 81 = .ok (.getfield 16, 3) := by decide +kernel
theorem dX11_tellAbout_84 : decode cX11_tellAbout 84 = .ok (.bipush 10, 2) := by decide +kernel
theorem dX11_tellAbout_86 : decode cX11_tellAbout 86 = .ok (.iload_n 1, 1) := by decide +kernel
theorem dX11_tellAbout_87 : decode cX11_tellAbout 87 = .ok (.imul, 1) := by decide +kernel
theorem dX11_tellAbout_88 : decode cX11_tellAbout 88 = .ok (.iload_n 2, 1) := by decide +kernel
theorem dX11_tellAbout_89 : decode cX11_tellAbout 89 = .ok (.iadd, 1) := by decide +kernel
theorem dX11_tellAbout_90 : decode cX11_tellAbout 90 = .ok (.iconst 3, 1) := by decide +kernel
theorem dX11_tellAbout_91 : decode cX11_tellAbout 91 = .ok (.iadd, 1) := by decide +kernel
theorem dX11_tellAbout_92 : decode cX11_tellAbout 92 = .ok (.iaload, 1) := by decide +kernel
theorem dX11_tellAbout_93 : decode cX11_tellAbout 93 = .ok (.ireturn, 1) := by decide +kernel
theorem dX11_tellAbout_94 : decode cX11_tellAbout 94 = .ok (.aload_n 0, 1) := by decide +kernel
theorem dX11_tellAbout_95 : decode cX11_tellAbout 95 = .ok (.iload_n 1, 1) := by decide +kernel
theorem dX11_tellAbout_96 : decode cX11_tellAbout 96 = .ok (.invokevirtual 121, 3) := by decide +kernel
theorem dX11_tellAbout_99 : decode cX11_tellAbout 99 = .ok (.ireturn, 1) := by decide +kernel
theorem dX11_tellAbout_100 : decode cX11_tellAbout 100 = .ok (.iload_n 2, 1) := by decide +kernel
theorem dX11_tellAbout_101 : decode cX11_tellAbout 101 = .ok (.bipush 10, 2) := by decide +kernel
theorem dX11_tellAbout_103 : decode cX11_tellAbout 103 = .ok (.isub, 1) := by decide +kernel
theorem dX11_tellAbout_104 : decode cX11_tellAbout 104 = .ok (.aload_n 0, 1) := by decide +kernel
theorem dX11_tellAbout_105 : decode cX11_tellAbout 105 = .ok (.getfield 16, 3) := by decide +kernel
theorem dX11_tellAbout_108 : decode cX11_tellAbout 108 = .ok (.bipush 10, 2) := by decide +kernel
theorem dX11_tellAbout_110 : decode cX11_tellAbout 110 = .ok (.iload_n 1, 1) := by decide +kernel
theorem dX11_tellAbout_111 : decode cX11_tellAbout 111 = .ok (.imul, 1) := by decide +kernel
theorem dX11_tellAbout_112 : decode cX11_tellAbout 112 = .ok (.iconst 2, 1) := by decide +kernel
theorem dX11_tellAbout_113 : decode cX11_tellAbout 113 = .ok (.iadd, 1) := by decide +kernel
theorem dX11_tellAbout_114 : decode cX11_tellAbout 114 = .ok (.iaload, 1) := by decide +kernel
theorem dX11_tellAbout_115 : decode cX11_tellAbout 115 = .ok (.if_icmp .ge 20, 3) := by decide +kernel
theorem dX11_tellAbout_118 : decode cX11_tellAbout 118 = .ok (.aload_n 0, 1) := by decide +kernel
theorem dX11_tellAbout_119 : decode cX11_tellAbout 119 = .ok (.getfield 16, 3) := by decide +kernel
theorem dX11_tellAbout_122 : decode cX11_tellAbout 122 = .ok (.bipush 10, 2) := by decide +kernel
theorem dX11_tellAbout_124 : decode cX11_tellAbout 124 = .ok (.iload_n 1, 1) := by decide +kernel
theorem dX11_tellAbout_125 : decode cX11_tellAbout 125 = .ok (.imul, 1) := by decide +kernel
theorem dX11_tellAbout_126 : decode cX11_tellAbout 126 = .ok (.iload_n 2, 1) := by decide +kernel
theorem dX11_tellAbout_127 : decode cX11_tellAbout 127 = .ok (.iadd, 1) := by decide +kernel
theorem dX11_tellAbout_128 : decode cX11_tellAbout 128 = .ok (.bipush 7, 2) := by decide +kernel
theorem dX11_tellAbout_130 : decode cX11_tellAbout 130 = .ok (.isub, 1) := by decide +kernel
theorem dX11_tellAbout_131 : decode cX11_tellAbout 131 = .ok (.iaload, 1) := by decide +kernel
theorem dX11_tellAbout_132 : decode cX11_tellAbout 132 = .ok (.goto 4, 3) := by decide +kernel
theorem dX11_tellAbout_135 : decode cX11_tellAbout 135 = .ok (.iconst (-1), 1) := by decide +kernel
theorem dX11_tellAbout_136 : decode cX11_tellAbout 136 = .ok (.ireturn, 1) := by decide +kernel
theorem dX11_tellAbout_137 : decode cX11_tellAbout 137 = .ok (.bipush (-102), 2) := by decide +kernel
theorem dX11_tellAbout_139 : decode cX11_tellAbout 139 = .ok (.ireturn, 1) := by decide +kernel
theorem dX11_about_0 : decode cX11_about 0 = .ok (.aload_n 0, 1) := by decide +kernel
theorem dX11_about_1 : decode cX11_about 1 = .ok (.iload_n 1, 1) := by decide +kernel
theorem dX11_about_2 : decode cX11_about 2 = .ok (.invokevirtual 107, 3) := by decide +kernel
theorem dX11_about_5 : decode cX11_about 5 = .ok (.ifCond .eq 12, 3) := by decide +kernel
theorem dX11_about_8 : decode cX11_about 8 = .ok (.aload_n 0, 1) := by decide +kernel
theorem dX11_about_9 : decode cX11_about 9 = .ok (.iload_n 1, 1) := by decide +kernel
theorem dX11_about_10 : decode cX11_about 10 = .ok (.iload_n 2, 1) := by decide +kernel
theorem dX11_about_11 : decode cX11_about 11 = .ok (.invokevirtual 124, 3) := by decide +kernel
theorem dX11_about_14 : decode cX11_about 14 = .ok (.goto 5, 3) := by decide +kernel
theorem dX11_about_17 : decode cX11_about 17 = .ok (.bipush (-101), 2) := by decide +kernel
theorem dX11_about_19 : decode cX11_about 19 = .ok (.ireturn, 1) := by decide +kernel
theorem dX11_offset_0 : decode cX11_offset 0 = .ok (.aload_n 0, 1) := by decide +kernel
theorem dX11_offset_1 : decode cX11_offset 1 = .ok (.iload_n 1, 1) := by decide +kernel
theorem dX11_offset_2 : decode cX11_offset 2 = .ok (.invokevirtual 107, 3) := by decide +kernel
theorem dX11_offset_5 : decode cX11_offset 5 = .ok (.ifCond .ne 6, 3) := by decide +kernel
theorem dX11_offset_8 : decode cX11_offset 8 = .ok (.bipush (-101), 2) := by decide +kernel
theorem dX11_offset_10 : decode cX11_offset 10 = .ok (.ireturn, 1) := by decide +kernel
theorem dX11_offset_11 : decode cX11_offset 11 = .ok (.iload_n 2, 1) := by decide +kernel
theorem dX11_offset_12 : decode cX11_offset 12 = .ok (.i2l, 1) := by decide +kernel
theorem dX11_offset_13 : decode cX11_offset 13 = .ok (.lconst 0, 1) := by decide +kernel
theorem dX11_offset_14 : decode cX11_offset 14 = .ok (.ldc2_w 67, 3) := by decide +kernel
theorem dX11_offset_17 : decode cX11_offset 17 = .ok (.invokestatic 69, 3) := by decide +kernel
theorem dX11_offset_20 : decode cX11_offset 20 = .ok (.ifCond .ne 6, 3) := by decide +kernel
theorem dX11_offset_23 : decode cX11_offset 23 = .ok (.bipush (-102), 2) := by decide +kernel
theorem dX11_offset_25 : decode cX11_offset 25 = .ok (.ireturn, 1) := by decide +kernel
theorem dX11_offset_26 : decode cX11_offset 26 = .ok (.aload_n 0, 1) := by decide +kernel
theorem dX11_offset_27 : decode cX11_offset 27 = .ok (.getfield 16, 3) := by decide +kernel
theorem dX11_offset_30 : decode cX11_offset 30 = .ok (.bipush 10, 2) := by decide +kernel
theorem dX11_offset_32 : decode cX11_offset 32 = .ok (.iload_n 1, 1) := by decide +kernel
theorem dX11_offset_33 : decode cX11_offset 33 = .ok (.imul, 1) := by decide +kernel
theorem dX11_offset_34 : decode cX11_offset 34 = .ok (.bipush 8, 2) := by decide +kernel
theorem dX11_offset_36 : decode cX11_offset 36 = .ok (.iadd, 1) := by decide +kernel
theorem dX11_offset_37 : decode cX11_offset 37 = .ok (.iaload, 1) := by decide +kernel
theorem dX11_offset_38 : decode cX11_offset 38 = .ok (.istore_n 3, 1) := by decide +kernel
theorem dX11_offset_39 : decode cX11_offset 39 = .ok (.aload_n 0, 1) := by decide +kernel
theorem dX11_offset_40 : decode cX11_offset 40 = .ok (.getfield 16, 3) := by decide +kernel
theorem dX11_offset_43 : decode cX11_offset 43 = .ok (.bipush 10, 2) := by decide +kernel
theorem dX11_offset_45 : decode cX11_offset 45 = .ok (.iload_n 1, 1) := by decide +kernel
theorem dX11_offset_46 : decode cX11_offset 46 = .ok (.imul, 1) := by decide +kernel
theorem dX11_offset_47 : decode cX11_offset 47 = .ok (.bipush 8, 2) := by decide +kernel
theorem dX11_offset_49 : decode cX11_offset 49 = .ok (.iadd, 1) := by decide +kernel
theorem dX11_offset_50 : decode cX11_offset 50 = .ok (.iload_n 2, 1) := by decide +kernel
theorem dX11_offset_51 : decode cX11_offset 51 = .ok (.iastore, 1) := by decide +kernel
theorem dX11_offset_52 : decode cX11_offset 52 = .ok (.iload_n 3, 1) := by decide +kernel
theorem dX11_offset_53 : decode cX11_offset 53 = .ok (.ireturn, 1) := by decide +kernel
theorem dX11_frost_0 : decode cX11_frost 0 = .ok (.aload_n 0, 1) := by decide +kernel
theorem dX11_frost_1 : decode cX11_frost 1 = .ok (.getfield 112, 3) := by decide +kernel
theorem dX11_frost_4 : decode cX11_frost 4 = .ok (.istore_n 2, 1) := by decide +kernel
theorem dX11_frost_5 : decode cX11_frost 5 = .ok (.aload_n 0, 1) := by decide +kernel
theorem dX11_frost_6 : decode cX11_frost 6 = .ok (.iload_n 1, 1) := by decide +kernel
theorem dX11_frost_7 : decode cX11_frost 7 = .ok (.ifCond .eq 7, 3) := by decide +kernel
theorem dX11_frost_10 : decode cX11_frost 10 = .ok (.iconst 1, 1) := by decide +kernel
theorem dX11_frost_11 : decode cX11_frost 11 = .ok (.goto 4, 3) := by decide +kernel
theorem dX11_frost_14 : decode cX11_frost 14 = .ok (.iconst 0, 1) := by decide +kernel
theorem dX11_frost_15 : decode cX11_frost 15 = .ok (.putfield 112, 3) := by decide +kernel
theorem dX11_frost_18 : decode cX11_frost 18 = .ok (.iload_n 2, 1) := by decide +kernel
theorem dX11_frost_19 : decode cX11_frost 19 = .ok (.ireturn, 1) := by decide +kernel
theorem dX11_whereIn_0 : decode cX11_whereIn 0 = .ok (.aload_n 0, 1) := by decide +kernel
theorem dX11_whereIn_1 : decode cX11_whereIn 1 = .ok (.iload_n 1, 1) := by decide +kernel
theorem dX11_whereIn_2 : decode cX11_whereIn 2 = .ok (.invokevirtual 121, 3) := by decide +kernel
theorem dX11_whereIn_5 : decode cX11_whereIn 5 = .ok (.istore_n 3, 1) := by decide +kernel
theorem dX11_whereIn_6 : decode cX11_whereIn 6 = .ok (.iload_n 2, 1) := by decide +kernel
theorem dX11_whereIn_7 : decode cX11_whereIn 7 = .ok (.aload_n 0, 1) := by decide +kernel
theorem dX11_whereIn_8 : decode cX11_whereIn 8 = .ok (.getfield 16, 3) := by decide +kernel
theorem dX11_whereIn_11 : decode cX11_whereIn 11 = .ok (.bipush 10, 2) := by decide +kernel
theorem dX11_whereIn_13 : decode cX11_whereIn 13 = .ok (.iload_n 1, 1) := by decide +kernel
theorem dX11_whereIn_14 : decode cX11_whereIn 14 = .ok (.imul, 1) := by decide +kernel
theorem dX11_whereIn_15 : decode cX11_whereIn 15 = .ok (.bipush 8, 2) := by decide +kernel
theorem dX11_whereIn_17 : decode cX11_whereIn 17 = .ok (.iadd, 1) := by decide +kernel
theorem dX11_whereIn_18 : decode cX11_whereIn 18 = .ok (.iaload, 1) := by decide +kernel
theorem dX11_whereIn_19 : decode cX11_whereIn 19 = .ok (.iadd, 1) := by decide +kernel
theorem dX11_whereIn_20 : decode cX11_whereIn 20 = .ok (.iload_n 3, 1) := by decide +kernel
theorem dX11_whereIn_21 : decode cX11_whereIn 21 = .ok (.irem, 1) := by decide +kernel
theorem dX11_whereIn_22 : decode cX11_whereIn 22 = .ok (.iload_n 3, 1) := by decide +kernel
theorem dX11_whereIn_23 : decode cX11_whereIn 23 = .ok (.iadd, 1) := by decide +kernel
theorem dX11_whereIn_24 : decode cX11_whereIn 24 = .ok (.iload_n 3, 1) := by decide +kernel
theorem dX11_whereIn_25 : decode cX11_whereIn 25 = .ok (.irem, 1) := by decide +kernel
theorem dX11_whereIn_26 : decode cX11_whereIn 26 = .ok (.ireturn, 1) := by decide +kernel
theorem dX11_joinsNow_0 : decode cX11_joinsNow 0 = .ok (.iload_n 1, 1) := by decide +kernel
theorem dX11_joinsNow_1 : decode cX11_joinsNow 1 = .ok (.aload_n 0, 1) := by decide +kernel
theorem dX11_joinsNow_2 : decode cX11_joinsNow 2 = .ok (.getfield 56, 3) := by decide +kernel
theorem dX11_joinsNow_5 : decode cX11_joinsNow 5 = .ok (.if_icmp .ne 5, 3) := by decide +kernel
theorem dX11_joinsNow_8 : decode cX11_joinsNow 8 = .ok (.iconst (-1), 1) := by decide +kernel
theorem dX11_joinsNow_9 : decode cX11_joinsNow 9 = .ok (.ireturn, 1) := by decide +kernel
theorem dX11_joinsNow_10 : decode cX11_joinsNow 10 = .ok (.iload_n 1, 1) := by decide +kernel
theorem dX11_joinsNow_11 : decode cX11_joinsNow 11 = .ok (.aload_n 0, 1) := by decide +kernel
theorem dX11_joinsNow_12 : decode cX11_joinsNow 12 = .ok (.getfield 59, 3) := by decide +kernel
theorem dX11_joinsNow_15 : decode cX11_joinsNow 15 = .ok (.if_icmp .ne 20, 3) := by decide +kernel
theorem dX11_joinsNow_18 : decode cX11_joinsNow 18 = .ok (.aload_n 0, 1) := by decide +kernel
theorem dX11_joinsNow_19 : decode cX11_joinsNow 19 = .ok (.getfield 16, 3) := by decide +kernel
theorem dX11_joinsNow_22 : decode cX11_joinsNow 22 = .ok (.bipush 10, 2) := by decide +kernel
theorem dX11_joinsNow_24 : decode cX11_joinsNow 24 = .ok (.iload_n 1, 1) := by decide +kernel
theorem dX11_joinsNow_25 : decode cX11_joinsNow 25 = .ok (.imul, 1) := by decide +kernel
theorem dX11_joinsNow_26 : decode cX11_joinsNow 26 = .ok (.iconst 3, 1) := by decide +kernel
theorem dX11_joinsNow_27 : decode cX11_joinsNow 27 = .ok (.iadd, 1) := by decide +kernel
theorem dX11_joinsNow_28 : decode cX11_joinsNow 28 = .ok (.aload_n 0, 1) := by decide +kernel
theorem dX11_joinsNow_29 : decode cX11_joinsNow 29 = .ok (.getfield 128, 3) := by decide +kernel
theorem dX11_joinsNow_32 : decode cX11_joinsNow 32 = .ok (.iadd, 1) := by decide +kernel
theorem dX11_joinsNow_33 : decode cX11_joinsNow 33 = .ok (.iaload, 1) := by decide +kernel
theorem dX11_joinsNow_34 : decode cX11_joinsNow 34 = .ok (.ireturn, 1) := by decide +kernel
theorem dX11_joinsNow_35 : decode cX11_joinsNow 35 = .ok (.aload_n 0, 1) := by decide +kernel
theorem dX11_joinsNow_36 : decode cX11_joinsNow 36 = .ok (.getfield 16, 3) := by decide +kernel
theorem dX11_joinsNow_39 : decode cX11_joinsNow 39 = .ok (.bipush 10, 2) := by decide +kernel
theorem dX11_joinsNow_41 : decode cX11_joinsNow 41 = .ok (.iload_n 1, 1) := by decide +kernel
theorem dX11_joinsNow_42 : decode cX11_joinsNow 42 = .ok (.imul, 1) := by decide +kernel
theorem dX11_joinsNow_43 : decode cX11_joinsNow 43 = .ok (.iaload, 1) := by decide +kernel
theorem dX11_joinsNow_44 : decode cX11_joinsNow 44 = .ok (.iconst 3, 1) := by decide +kernel
theorem dX11_joinsNow_45 : decode cX11_joinsNow 45 = .ok (.if_icmp .ne 15, 3) := by decide +kernel
theorem dX11_joinsNow_48 : decode cX11_joinsNow 48 = .ok (.aload_n 0, 1) := by decide +kernel
theorem dX11_joinsNow_49 : decode cX11_joinsNow 49 = .ok (.getfield 16, 3) := by decide +kernel
theorem dX11_joinsNow_52 : decode cX11_joinsNow 52 = .ok (.bipush 10, 2) := by decide +kernel
theorem dX11_joinsNow_54 : decode cX11_joinsNow 54 = .ok (.iload_n 1, 1) := by decide +kernel
theorem dX11_joinsNow_55 : decode cX11_joinsNow 55 = .ok (.imul, 1) := by decide +kernel
theorem dX11_joinsNow_56 : decode cX11_joinsNow 56 = .ok (.iconst 3, 1) := by decide +kernel
theorem dX11_joinsNow_57 : decode cX11_joinsNow 57 = .ok (.iadd, 1) := by decide +kernel
theorem dX11_joinsNow_58 : decode cX11_joinsNow 58 = .ok (.iaload, 1) := by decide +kernel
theorem dX11_joinsNow_59 : decode cX11_joinsNow 59 = .ok (.ireturn, 1) := by decide +kernel
theorem dX11_joinsNow_60 : decode cX11_joinsNow 60 = .ok (.aload_n 0, 1) := by decide +kernel
theorem dX11_joinsNow_61 : decode cX11_joinsNow 61 = .ok (.iload_n 1, 1) := by decide +kernel
theorem dX11_joinsNow_62 : decode cX11_joinsNow 62 = .ok (.iload_n 2, 1) := by decide +kernel
theorem dX11_joinsNow_63 : decode cX11_joinsNow 63 = .ok (.invokevirtual 131, 3) := by decide +kernel
theorem dX11_joinsNow_66 : decode cX11_joinsNow 66 = .ok (.istore_n 3, 1) := by decide +kernel
theorem dX11_joinsNow_67 : decode cX11_joinsNow 67 = .ok (.iload_n 3, 1) := by decide +kernel
theorem dX11_joinsNow_68 : decode cX11_joinsNow 68 = .ok (.aload_n 0, 1) := by decide +kernel
theorem dX11_joinsNow_69 : decode cX11_joinsNow 69 = .ok (.iload_n 1, 1) := by decide +kernel
theorem dX11_joinsNow_70 : decode cX11_joinsNow 70 = .ok (.invokevirtual 118, 3) := by decide +kernel
theorem dX11_joinsNow_73 : decode cX11_joinsNow 73 = .ok (.idiv, 1) := by decide +kernel
theorem dX11_joinsNow_74 : decode cX11_joinsNow 74 = .ok (.istore 4, 2) := by decide +kernel
theorem dX11_joinsNow_76 : decode cX11_joinsNow 76 = .ok (.aload_n 0, 1) := by decide +kernel
theorem dX11_joinsNow_77 : decode cX11_joinsNow 77 = .ok (.getfield 16, 3) := by decide +kernel
theorem dX11_joinsNow_80 : decode cX11_joinsNow 80 = .ok (.bipush 10, 2) := by decide +kernel
theorem dX11_joinsNow_82 : decode cX11_joinsNow 82 = .ok (.iload_n 1, 1) := by decide +kernel
theorem dX11_joinsNow_83 : decode cX11_joinsNow 83 = .ok (.imul, 1) := by decide +kernel
theorem dX11_joinsNow_84 : decode cX11_joinsNow 84 = .ok (.iconst 2, 1) := by decide +kernel
theorem dX11_joinsNow_85 : decode cX11_joinsNow 85 = .ok (.iadd, 1) := by decide +kernel
theorem dX11_joinsNow_86 : decode cX11_joinsNow 86 = .ok (.iaload, 1) := by decide +kernel
theorem dX11_joinsNow_87 : decode cX11_joinsNow 87 = .ok (.istore 5, 2) := by decide +kernel
theorem dX11_joinsNow_89 : decode cX11_joinsNow 89 = .ok (.iload 4, 2) := by decide +kernel
theorem dX11_joinsNow_91 : decode cX11_joinsNow 91 = .ok (.iload 5, 2) := by decide +kernel
theorem dX11_joinsNow_93 : decode cX11_joinsNow 93 = .ok (.if_icmp .ge 8, 3) := by decide +kernel
theorem dX11_joinsNow_96 : decode cX11_joinsNow 96 = .ok (.iload 4, 2) := by decide +kernel
theorem dX11_joinsNow_98 : decode cX11_joinsNow 98 = .ok (.goto 12, 3) := by decide +kernel
theorem dX11_joinsNow_101 : decode cX11_joinsNow 101 = .ok (.iconst 2, 1) := by decide +kernel
theorem dX11_joinsNow_102 : decode cX11_joinsNow 102 = .ok (.iload 5, 2) := by decide +kernel
theorem dX11_joinsNow_104 : decode cX11_joinsNow 104 = .ok (.imul, 1) := by decide +kernel
theorem dX11_joinsNow_105 : decode cX11_joinsNow 105 = .ok (.iconst 2, 1) := by decide +kernel
theorem dX11_joinsNow_106 : decode cX11_joinsNow 106 = .ok (.isub, 1) := by decide +kernel
theorem dX11_joinsNow_107 : decode cX11_joinsNow 107 = .ok (.iload 4, 2) := by decide +kernel
theorem dX11_joinsNow_109 : decode cX11_joinsNow 109 = .ok (.isub, 1) := by decide +kernel
theorem dX11_joinsNow_110 : decode cX11_joinsNow 110 = .ok (.istore 6, 2) := by decide +kernel
theorem dX11_joinsNow_112 : decode cX11_joinsNow 112 = .ok (.iload_n 3, 1) := by decide +kernel
theorem dX11_joinsNow_113 : decode cX11_joinsNow 113 = .ok (.aload_n 0, 1) := by decide +kernel
theorem dX11_joinsNow_114 : decode cX11_joinsNow 114 = .ok (.iload_n 1, 1) := by decide +kernel
theorem dX11_joinsNow_115 : decode cX11_joinsNow 115 = .ok (.invokevirtual 118, 3) := by decide +kernel
theorem dX11_joinsNow_118 : decode cX11_joinsNow 118 = .ok (.irem, 1) := by decide +kernel
theorem dX11_joinsNow_119 : decode cX11_joinsNow 119 = .ok (.aload_n 0, 1) := by decide +kernel
theorem dX11_joinsNow_120 : decode cX11_joinsNow 120 = .ok (.getfield 16, 3) := by decide +kernel
theorem dX11_joinsNow_123 : decode cX11_joinsNow 123 = .ok (.bipush 10, 2) := by decide +kernel
theorem dX11_joinsNow_125 : decode cX11_joinsNow 125 = .ok (.iload_n 1, 1) := by decide +kernel
theorem dX11_joinsNow_126 : decode cX11_joinsNow 126 = .ok (.imul, 1) := by decide +kernel
theorem dX11_joinsNow_127 : decode cX11_joinsNow 127 = .ok (.bipush 6, 2) := by decide +kernel
theorem dX11_joinsNow_129 : decode cX11_joinsNow 129 = .ok (.iadd, 1) := by decide +kernel
theorem dX11_joinsNow_130 : decode cX11_joinsNow 130 = .ok (.iaload, 1) := by decide +kernel
theorem dX11_joinsNow_131 : decode cX11_joinsNow 131 = .ok (.if_icmp .ge 20, 3) := by decide +kernel
theorem dX11_joinsNow_134 : decode cX11_joinsNow 134 = .ok (.aload_n 0, 1) := by decide +kernel
theorem dX11_joinsNow_135 : decode cX11_joinsNow 135 = .ok (.getfield 16, 3) := by decide +kernel
theorem dX11_joinsNow_138 : decode cX11_joinsNow 138 = .ok (.bipush 10, 2) := by decide +kernel
theorem dX11_joinsNow_140 : decode cX11_joinsNow 140 = .ok (.iload_n 1, 1) := by decide +kernel
theorem dX11_joinsNow_141 : decode cX11_joinsNow 141 = .ok (.imul, 1) := by decide +kernel
theorem dX11_joinsNow_142 : decode cX11_joinsNow 142 = .ok (.iconst 3, 1) := by decide +kernel
theorem dX11_joinsNow_143 : decode cX11_joinsNow 143 = .ok (.iadd, 1) := by decide +kernel
theorem dX11_joinsNow_144 : decode cX11_joinsNow 144 = .ok (.iload 6, 2) := by decide +kernel
theorem dX11_joinsNow_146 : decode cX11_joinsNow 146 = .ok (.iadd, 1) := by decide +kernel
theorem dX11_joinsNow_147 : decode cX11_joinsNow 147 = .ok (.iaload, 1) := by decide +kernel
theorem dX11_joinsNow_148 : decode cX11_joinsNow 148 = .ok (.goto 4, 3) := by decide +kernel
theorem dX11_joinsNow_151 : decode cX11_joinsNow 151 = .ok (.iconst (-1), 1) := by decide +kernel
theorem dX11_joinsNow_152 : decode cX11_joinsNow 152 = .ok (.ireturn, 1) := by decide +kernel
theorem dX11_lastsNow_0 : decode cX11_lastsNow 0 = .ok (.aload_n 0, 1) := by decide +kernel
theorem dX11_lastsNow_1 : decode cX11_lastsNow 1 = .ok (.iload_n 1, 1) := by decide +kernel
theorem dX11_lastsNow_2 : decode cX11_lastsNow 2 = .ok (.iload_n 2, 1) := by decide +kernel
theorem dX11_lastsNow_3 : decode cX11_lastsNow 3 = .ok (.invokevirtual 134, 3) := by decide +kernel
theorem dX11_lastsNow_6 : decode cX11_lastsNow 6 = .ok (.iconst (-1), 1) := by decide +kernel
theorem dX11_lastsNow_7 : decode cX11_lastsNow 7 = .ok (.if_icmp .ne 5, 3) := by decide +kernel
theorem dX11_lastsNow_10 : decode cX11_lastsNow 10 = .ok (.iconst 0, 1) := by decide +kernel
theorem dX11_lastsNow_11 : decode cX11_lastsNow 11 = .ok (.ireturn, 1) := by decide +kernel
theorem dX11_lastsNow_12 : decode cX11_lastsNow 12 = .ok (.iload_n 1, 1) := by decide +kernel
theorem dX11_lastsNow_13 : decode cX11_lastsNow 13 = .ok (.aload_n 0, 1) := by decide +kernel
theorem dX11_lastsNow_14 : decode cX11_lastsNow 14 = .ok (.getfield 59, 3) := by decide +kernel
theorem dX11_lastsNow_17 : decode cX11_lastsNow 17 = .ok (.if_icmp .eq 16, 3) := by decide +kernel
theorem dX11_lastsNow_20 : decode cX11_lastsNow 20 = .ok (.aload_n 0, 1) := by decide +kernel
theorem dX11_lastsNow_21 : decode cX11_lastsNow 21 = .ok (.getfield 16, 3) := by decide +kernel
theorem dX11_lastsNow_24 : decode cX11_lastsNow 24 = .ok (.bipush 10, 2) := by decide +kernel
theorem dX11_lastsNow_26 : decode cX11_lastsNow 26 = .ok (.iload_n 1, 1) := by decide +kernel
theorem dX11_lastsNow_27 : decode cX11_lastsNow 27 = .ok (.imul, 1) := by decide +kernel
theorem dX11_lastsNow_28 : decode cX11_lastsNow 28 = .ok (.iaload, 1) := by decide +kernel
theorem dX11_lastsNow_29 : decode cX11_lastsNow 29 = .ok (.iconst 3, 1) := by decide +kernel
theorem dX11_lastsNow_30 : decode cX11_lastsNow 30 = .ok (.if_icmp .ne 7, 3) := by decide +kernel
theorem dX11_lastsNow_33 : decode cX11_lastsNow 33 = .ok (.sipush 999, 3) := by decide +kernel
theorem dX11_lastsNow_36 : decode cX11_lastsNow 36 = .ok (.ireturn, 1) := by decide +kernel
theorem dX11_lastsNow_37 : decode cX11_lastsNow 37 = .ok (.aload_n 0, 1) := by decide +kernel
theorem dX11_lastsNow_38 : decode cX11_lastsNow 38 = .ok (.getfield 16, 3) := by decide +kernel
theorem dX11_lastsNow_41 : decode cX11_lastsNow 41 = .ok (.bipush 10, 2) := by decide +kernel
theorem dX11_lastsNow_43 : decode cX11_lastsNow 43 = .ok (.iload_n 1, 1) := by decide +kernel
theorem dX11_lastsNow_44 : decode cX11_lastsNow 44 = .ok (.imul, 1) := by decide +kernel
theorem dX11_lastsNow_45 : decode cX11_lastsNow 45 = .ok (.bipush 6, 2) := by decide +kernel
theorem dX11_lastsNow_47 : decode cX11_lastsNow 47 = .ok (.iadd, 1) := by decide +kernel
theorem dX11_lastsNow_48 : decode cX11_lastsNow 48 = .ok (.iaload, 1) := by decide +kernel
theorem dX11_lastsNow_49 : decode cX11_lastsNow 49 = .ok (.aload_n 0, 1) := by decide +kernel
theorem dX11_lastsNow_50 : decode cX11_lastsNow 50 = .ok (.iload_n 1, 1) := by decide +kernel
theorem dX11_lastsNow_51 : decode cX11_lastsNow 51 = .ok (.iload_n 2, 1) := by decide +kernel
theorem dX11_lastsNow_52 : decode cX11_lastsNow 52 = .ok (.invokevirtual 131, 3) := by decide +kernel
theorem dX11_lastsNow_55 : decode cX11_lastsNow 55 = .ok (.aload_n 0, 1) := by decide +kernel
theorem dX11_lastsNow_56 : decode cX11_lastsNow 56 = .ok (.iload_n 1, 1) := by decide +kernel
theorem dX11_lastsNow_57 : decode cX11_lastsNow 57 = .ok (.invokevirtual 118, 3) := by decide +kernel
theorem dX11_lastsNow_60 : decode cX11_lastsNow 60 = .ok (.irem, 1) := by decide +kernel
theorem dX11_lastsNow_61 : decode cX11_lastsNow 61 = .ok (.isub, 1) := by decide +kernel
theorem dX11_lastsNow_62 : decode cX11_lastsNow 62 = .ok (.ireturn, 1) := by decide +kernel
theorem dX11_joins_0 : decode cX11_joins 0 = .ok (.aload_n 0, 1) := by decide +kernel
theorem dX11_joins_1 : decode cX11_joins 1 = .ok (.iload_n 1, 1) := by decide +kernel
theorem dX11_joins_2 : decode cX11_joins 2 = .ok (.invokevirtual 107, 3) := by decide +kernel
theorem dX11_joins_5 : decode cX11_joins 5 = .ok (.ifCond .ne 6, 3) := by decide +kernel
theorem dX11_joins_8 : decode cX11_joins 8 = .ok (.bipush (-101), 2) := by decide +kernel
theorem dX11_joins_10 : decode cX11_joins 10 = .ok (.ireturn, 1) := by decide +kernel
theorem dX11_joins_11 : decode cX11_joins 11 = .ok (.iload_n 2, 1) := by decide +kernel
theorem dX11_joins_12 : decode cX11_joins 12 = .ok (.i2l, 1) := by decide +kernel
theorem dX11_joins_13 : decode cX11_joins 13 = .ok (.lconst 0, 1) := by decide +kernel
theorem dX11_joins_14 : decode cX11_joins 14 = .ok (.ldc2_w 137, 3) := by decide +kernel
theorem dX11_joins_17 : decode cX11_joins 17 = .ok (.invokestatic 69, 3) := by decide +kernel
theorem dX11_joins_20 : decode cX11_joins 20 = .ok (.ifCond .eq 12, 3) := by decide +kernel
theorem dX11_joins_23 : decode cX11_joins 23 = .ok (.aload_n 0, 1) := by decide +kernel
theorem dX11_joins_24 : decode cX11_joins 24 = .ok (.iload_n 1, 1) := by decide +kernel
theorem dX11_joins_25 : decode cX11_joins 25 = .ok (.iload_n 2, 1) := by decide +kernel
theorem dX11_joins_26 : decode cX11_joins 26 = .ok (.invokevirtual 134, 3) := by decide +kernel
theorem dX11_joins_29 : decode cX11_joins 29 = .ok (.goto 5, 3) := by decide +kernel
theorem dX11_joins_32 : decode cX11_joins 32 = .ok (.bipush (-102), 2) := by decide +kernel
theorem dX11_joins_34 : decode cX11_joins 34 = .ok (.ireturn, 1) := by decide +kernel
theorem dX11_lasts_0 : decode cX11_lasts 0 = .ok (.aload_n 0, 1) := by decide +kernel
theorem dX11_lasts_1 : decode cX11_lasts 1 = .ok (.iload_n 1, 1) := by decide +kernel
theorem dX11_lasts_2 : decode cX11_lasts 2 = .ok (.invokevirtual 107, 3) := by decide +kernel
theorem dX11_lasts_5 : decode cX11_lasts 5 = .ok (.ifCond .ne 6, 3) := by decide +kernel
theorem dX11_lasts_8 : decode cX11_lasts 8 = .ok (.bipush (-101), 2) := by decide +kernel
theorem dX11_lasts_10 : decode cX11_lasts 10 = .ok (.ireturn, 1) := by decide +kernel
theorem dX11_lasts_11 : decode cX11_lasts 11 = .ok (.iload_n 2, 1) := by decide +kernel
theorem dX11_lasts_12 : decode cX11_lasts 12 = .ok (.i2l, 1) := by decide +kernel
theorem dX11_lasts_13 : decode cX11_lasts 13 = .ok (.lconst 0, 1) := by decide +kernel
theorem dX11_lasts_14 : decode cX11_lasts 14 = .ok (.ldc2_w 137, 3) := by decide +kernel
theorem dX11_lasts_17 : decode cX11_lasts 17 = .ok (.invokestatic 69, 3) := by decide +kernel
theorem dX11_lasts_20 : decode cX11_lasts 20 = .ok (.ifCond .eq 12, 3) := by decide +kernel
theorem dX11_lasts_23 : decode cX11_lasts 23 = .ok (.aload_n 0, 1) := by decide +kernel
theorem dX11_lasts_24 : decode cX11_lasts 24 = .ok (.iload_n 1, 1) := by decide +kernel
theorem dX11_lasts_25 : decode cX11_lasts 25 = .ok (.iload_n 2, 1) := by decide +kernel
theorem dX11_lasts_26 : decode cX11_lasts 26 = .ok (.invokevirtual 139, 3) := by decide +kernel
theorem dX11_lasts_29 : decode cX11_lasts 29 = .ok (.goto 5, 3) := by decide +kernel
theorem dX11_lasts_32 : decode cX11_lasts 32 = .ok (.bipush (-102), 2) := by decide +kernel
theorem dX11_lasts_34 : decode cX11_lasts 34 = .ok (.ireturn, 1) := by decide +kernel
theorem dX11_mayGo_0 : decode cX11_mayGo 0 = .ok (.aload_n 0, 1) := by decide +kernel
theorem dX11_mayGo_1 : decode cX11_mayGo 1 = .ok (.getfield 16, 3) := by decide +kernel
theorem dX11_mayGo_4 : decode cX11_mayGo 4 = .ok (.bipush 10, 2) := by decide +kernel
theorem dX11_mayGo_6 : decode cX11_mayGo 6 = .ok (.iload_n 1, 1) := by decide +kernel
theorem dX11_mayGo_7 : decode cX11_mayGo 7 = .ok (.imul, 1) := by decide +kernel
theorem dX11_mayGo_8 : decode cX11_mayGo 8 = .ok (.bipush 9, 2) := by decide +kernel
theorem dX11_mayGo_10 : decode cX11_mayGo 10 = .ok (.iadd, 1) := by decide +kernel
theorem dX11_mayGo_11 : decode cX11_mayGo 11 = .ok (.iaload, 1) := by decide +kernel
theorem dX11_mayGo_12 : decode cX11_mayGo 12 = .ok (.iload 4, 2) := by decide +kernel
theorem dX11_mayGo_14 : decode cX11_mayGo 14 = .ok (.if_icmp .lt 17, 3) := by decide +kernel
theorem dX11_mayGo_17 : decode cX11_mayGo 17 = .ok (.aload_n 0, 1) := by decide +kernel
theorem dX11_mayGo_18 : decode cX11_mayGo 18 = .ok (.iload_n 1, 1) := by decide +kernel
theorem dX11_mayGo_19 : decode cX11_mayGo 19 = .ok (.iload_n 2, 1) := by decide +kernel
theorem dX11_mayGo_20 : decode cX11_mayGo 20 = .ok (.invokevirtual 139, 3) := by decide +kernel
theorem dX11_mayGo_23 : decode cX11_mayGo 23 = .ok (.iload_n 3, 1) := by decide +kernel
theorem dX11_mayGo_24 : decode cX11_mayGo 24 = .ok (.if_icmp .lt 7, 3) := by decide +kernel
theorem dX11_mayGo_27 : decode cX11_mayGo 27 = .ok (.iconst 1, 1) := by decide +kernel
theorem dX11_mayGo_28 : decode cX11_mayGo 28 = .ok (.goto 4, 3) := by decide +kernel
theorem dX11_mayGo_31 : decode cX11_mayGo 31 = .ok (.iconst 0, 1) := by decide +kernel
theorem dX11_mayGo_32 : decode cX11_mayGo 32 = .ok (.ireturn, 1) := by decide +kernel
theorem dX11_layThere_0 : decode cX11_layThere 0 = .ok (.iconst 0, 1) := by decide +kernel
theorem dX11_layThere_1 : decode cX11_layThere 1 = .ok (.istore 5, 2) := by decide +kernel
theorem dX11_layThere_3 : decode cX11_layThere 3 = .ok (.iload 5, 2) := by decide +kernel
theorem dX11_layThere_5 : decode cX11_layThere 5 = .ok (.bipush 8, 2) := by decide +kernel
theorem dX11_layThere_7 : decode cX11_layThere 7 = .ok (.if_icmp .ge 28, 3) := by decide +kernel
theorem dX11_layThere_10 : decode cX11_layThere 10 = .ok (.aload_n 0, 1) := by decide +kernel
theorem dX11_layThere_11 : decode cX11_layThere 11 = .ok (.getfield 19, 3) := by decide +kernel
theorem dX11_layThere_14 : decode cX11_layThere 14 = .ok (.iload 5, 2) := by decide +kernel
theorem dX11_layThere_16 : decode cX11_layThere 16 = .ok (.iload 5, 2) := by decide +kernel
theorem dX11_layThere_18 : decode cX11_layThere 18 = .ok (.iload_n 1, 1) := by decide +kernel
theorem dX11_layThere_19 : decode cX11_layThere 19 = .ok (.if_icmp .ne 7, 3) := by decide +kernel
theorem dX11_layThere_22 : decode cX11_layThere 22 = .ok (.iload_n 2, 1) := by decide +kernel
theorem dX11_layThere_23 : decode cX11_layThere 23 = .ok (.goto 5, 3) := by decide +kernel
theorem dX11_layThere_26 : decode cX11_layThere 26 = .ok (.ldc 142, 2) := by decide +kernel
theorem dX11_layThere_28 : decode cX11_layThere 28 = .ok (.iastore, 1) := by decide +kernel
theorem dX11_layThere_29 : decode cX11_layThere 29 = .ok (.iinc 5 1, 3) := by decide +kernel
theorem dX11_layThere_32 : decode cX11_layThere 32 = .ok (.goto (-29), 3) := by decide +kernel
theorem dX11_layThere_35 : decode cX11_layThere 35 = .ok (.iload_n 2, 1) := by decide +kernel
theorem dX11_layThere_36 : decode cX11_layThere 36 = .ok (.istore 5, 2) := by decide +kernel
theorem dX11_layThere_38 : decode cX11_layThere 38 = .ok (.iload 5, 2) := by decide +kernel
theorem dX11_layThere_40 : decode cX11_layThere 40 = .ok (.iload_n 2, 1) := by decide +kernel
theorem dX11_layThere_41 : decode cX11_layThere 41 = .ok (.sipush 400, 3) := by decide +kernel
theorem dX11_layThere_44 : decode cX11_layThere 44 = .ok (.iadd, 1) := by decide +kernel
theorem dX11_layThere_45 : decode cX11_layThere 45 = .ok (.if_icmp .ge 201, 3) := by decide +kernel
theorem dX11_layThere_48 : decode cX11_layThere 48 = .ok (.iconst 0, 1) := by decide +kernel
theorem dX11_layThere_49 : decode cX11_layThere 49 = .ok (.istore 6, 2) := by decide +kernel
theorem dX11_layThere_51 : decode cX11_layThere 51 = .ok (.iload 6, 2) := by decide +kernel
theorem dX11_layThere_53 : decode cX11_layThere 53 = .ok (.aload_n 0, 1) := by decide +kernel
theorem dX11_layThere_54 : decode cX11_layThere 54 = .ok (.getfield 104, 3) := by decide +kernel
theorem dX11_layThere_57 : decode cX11_layThere 57 = .ok (.if_icmp .ge 183, 3) := by decide +kernel
theorem dX11_layThere_60 : decode cX11_layThere 60 = .ok (.aload_n 0, 1) := by decide +kernel
theorem dX11_layThere_61 : decode cX11_layThere 61 = .ok (.iload 6, 2) := by decide +kernel
theorem dX11_layThere_63 : decode cX11_layThere 63 = .ok (.iload 5, 2) := by decide +kernel
theorem dX11_layThere_65 : decode cX11_layThere 65 = .ok (.iload_n 3, 1) := by decide +kernel
theorem dX11_layThere_66 : decode cX11_layThere 66 = .ok (.iload 4, 2) := by decide +kernel
theorem dX11_layThere_68 : decode cX11_layThere 68 = .ok (.invokevirtual 143, 3) := by decide +kernel
theorem dX11_layThere_71 : decode cX11_layThere 71 = .ok (.ifCond .eq 163, 3) := by decide +kernel
theorem dX11_layThere_74 : decode cX11_layThere 74 = .ok (.aload_n 0, 1) := by decide +kernel
theorem dX11_layThere_75 : decode cX11_layThere 75 = .ok (.getfield 16, 3) := by decide +kernel
theorem dX11_layThere_78 : decode cX11_layThere 78 = .ok (.bipush 10, 2) := by decide +kernel
theorem dX11_layThere_80 : decode cX11_layThere 80 = .ok (.iload 6, 2) := by decide +kernel
theorem dX11_layThere_82 : decode cX11_layThere 82 = .ok (.imul, 1) := by decide +kernel
theorem dX11_layThere_83 : decode cX11_layThere 83 = .ok (.iconst 1, 1) := by decide +kernel
theorem dX11_layThere_84 : decode cX11_layThere 84 = .ok (.iadd, 1) := by decide +kernel
theorem dX11_layThere_85 : decode cX11_layThere 85 = .ok (.iaload, 1) := by decide +kernel
theorem dX11_layThere_86 : decode cX11_layThere 86 = .ok (.istore 7, 2) := by decide +kernel
theorem dX11_layThere_88 : decode cX11_layThere 88 = .ok (.aload_n 0, 1) := by decide +kernel
theorem dX11_layThere_89 : decode cX11_layThere 89 = .ok (.iload 6, 2) := by decide +kernel
theorem dX11_layThere_91 : decode cX11_layThere 91 = .ok (.iload 5, 2) := by decide +kernel
theorem dX11_layThere_93 : decode cX11_layThere 93 = .ok (.invokevirtual 134, 3) := by decide +kernel
theorem dX11_layThere_96 : decode cX11_layThere 96 = .ok (.istore 8, 2) := by decide +kernel
theorem dX11_layThere_98 : decode cX11_layThere 98 = .ok (.iload 5, 2) := by decide +kernel
theorem dX11_layThere_100 : decode cX11_layThere 100 = .ok (.iload_n 3, 1) := by decide +kernel
theorem dX11_layThere_101 : decode cX11_layThere 101 = .ok (.iadd, 1) := by decide +kernel
theorem dX11_layThere_102 : decode cX11_layThere 102 = .ok (.istore 9, 2) := by decide +kernel
theorem dX11_layThere_104 : decode cX11_layThere 104 = .ok (.aload_n 0, 1) := by decide +kernel
theorem dX11_layThere_105 : decode cX11_layThere 105 = .ok (.getfield 19, 3) := by decide +kernel
theorem dX11_layThere_108 : decode cX11_layThere 108 = .ok (.iload 7, 2) := by decide +kernel
theorem dX11_layThere_110 : decode cX11_layThere 110 = .ok (.iaload, 1) := by decide +kernel
theorem dX11_layThere_111 : decode cX11_layThere 111 = .ok (.iload 5, 2) := by decide +kernel
theorem dX11_layThere_113 : decode cX11_layThere 113 = .ok (.if_icmp .gt 29, 3) := by decide +kernel
theorem dX11_layThere_116 : decode cX11_layThere 116 = .ok (.iload 9, 2) := by decide +kernel
theorem dX11_layThere_118 : decode cX11_layThere 118 = .ok (.aload_n 0, 1) := by decide +kernel
theorem dX11_layThere_119 : decode cX11_layThere 119 = .ok (.getfield 19, 3) := by decide +kernel
theorem dX11_layThere_122 : decode cX11_layThere 122 = .ok (.iload 8, 2) := by decide +kernel
theorem dX11_layThere_124 : decode cX11_layThere 124 = .ok (.iaload, 1) := by decide +kernel
theorem dX11_layThere_125 : decode cX11_layThere 125 = .ok (.if_icmp .ge 17, 3) := by decide +kernel
theorem dX11_layThere_128 : decode cX11_layThere 128 = .ok (.iload 9, 2) := by decide +kernel
theorem dX11_layThere_130 : decode cX11_layThere 130 = .ok (.iload_n 2, 1) := by decide +kernel
theorem dX11_layThere_131 : decode cX11_layThere 131 = .ok (.sipush 400, 3) := by decide +kernel
theorem dX11_layThere_134 : decode cX11_layThere 134 = .ok (.iadd, 1) := by decide +kernel
theorem dX11_layThere_135 : decode cX11_layThere 135 = .ok (.if_icmp .gt 7, 3) := by decide +kernel
theorem dX11_layThere_138 : decode cX11_layThere 138 = .ok (.iconst 1, 1) := by decide +kernel
theorem dX11_layThere_139 : decode cX11_layThere 139 = .ok (.goto 4, 3) := by decide +kernel
theorem dX11_layThere_142 : decode cX11_layThere 142 = .ok (.iconst 0, 1) := by decide +kernel
theorem dX11_layThere_143 : decode cX11_layThere 143 = .ok (.istore 10, 2) := by decide +kernel
theorem dX11_layThere_145 : decode cX11_layThere 145 = .ok (.aload_n 0, 1) := by decide +kernel
theorem dX11_layThere_146 : decode cX11_layThere 146 = .ok (.getfield 19, 3) := by decide +kernel
theorem dX11_layThere_149 : decode cX11_layThere 149 = .ok (.iload 8, 2) := by decide +kernel
theorem dX11_layThere_151 : decode cX11_layThere 151 = .ok (.iaload, 1) := by decide +kernel
theorem dX11_layThere_152 : decode cX11_layThere 152 = .ok (.iload 5, 2) := by decide +kernel
theorem dX11_layThere_154 : decode cX11_layThere 154 = .ok (.if_icmp .gt 29, 3) := by decide +kernel
theorem dX11_layThere_157 : decode cX11_layThere 157 = .ok (.iload 9, 2) := by decide +kernel
theorem dX11_layThere_159 : decode cX11_layThere 159 = .ok (.aload_n 0, 1) := by decide +kernel
theorem dX11_layThere_160 : decode cX11_layThere 160 = .ok (.getfield 19, 3) := by decide +kernel
theorem dX11_layThere_163 : decode cX11_layThere 163 = .ok (.iload 7, 2) := by decide +kernel
theorem dX11_layThere_165 : decode cX11_layThere 165 = .ok (.iaload, 1) := by decide +kernel
theorem dX11_layThere_166 : decode cX11_layThere 166 = .ok (.if_icmp .ge 17, 3) := by decide +kernel
theorem dX11_layThere_169 : decode cX11_layThere 169 = .ok (.iload 9, 2) := by decide +kernel
theorem dX11_layThere_171 : decode cX11_layThere 171 = .ok (.iload_n 2, 1) := by decide +kernel
theorem dX11_layThere_172 : decode cX11_layThere 172 = .ok (.sipush 400, 3) := by decide +kernel
theorem dX11_layThere_175 : decode cX11_layThere 175 = .ok (.iadd, 1) := by decide +kernel
theorem dX11_layThere_176 : decode cX11_layThere 176 = .ok (.if_icmp .gt 7, 3) := by decide +kernel
theorem dX11_layThere_179 : decode cX11_layThere 179 = .ok (.iconst 1, 1) := by decide +kernel
theorem dX11_layThere_180 : decode cX11_layThere 180 = .ok (.goto 4, 3) := by decide +kernel
theorem dX11_layThere_183 : decode cX11_layThere 183 = .ok (.iconst 0, 1) := by decide +kernel
theorem dX11_layThere_184 : decode cX11_layThere 184 = .ok (.istore 11, 2) := by decide +kernel
theorem dX11_layThere_186 : decode cX11_layThere 186 = .ok (.aload_n 0, 1) := by decide +kernel
theorem dX11_layThere_187 : decode cX11_layThere 187 = .ok (.getfield 19, 3) := by decide +kernel
theorem dX11_layThere_190 : decode cX11_layThere 190 = .ok (.iload 8, 2) := by decide +kernel
theorem dX11_layThere_192 : decode cX11_layThere 192 = .ok (.iload 10, 2) := by decide +kernel
theorem dX11_layThere_194 : decode cX11_layThere 194 = .ok (.ifCond .eq 8, 3) := by decide +kernel
theorem dX11_layThere_197 : decode cX11_layThere 197 = .ok (.iload 9, 2) := by decide +kernel
theorem dX11_layThere_199 : decode cX11_layThere 199 = .ok (.goto 10, 3) := by decide +kernel
theorem dX11_layThere_202 : decode cX11_layThere 202 = .ok (.aload_n 0, 1) := by decide +kernel
theorem dX11_layThere_203 : decode cX11_layThere 203 = .ok (.getfield 19, 3) := by decide +kernel
theorem dX11_layThere_206 : decode cX11_layThere 206 = .ok (.iload 8, 2) := by decide +kernel
theorem dX11_layThere_208 : decode cX11_layThere 208 = .ok (.iaload, 1) := by decide +kernel
theorem dX11_layThere_209 : decode cX11_layThere 209 = .ok (.iastore, 1) := by decide +kernel
theorem dX11_layThere_210 : decode cX11_layThere 210 = .ok (.aload_n 0, 1) := by decide +kernel
theorem dX11_layThere_211 : decode cX11_layThere 211 = .ok (.getfield 19, 3) := by decide +kernel
theorem dX11_layThere_214 : decode cX11_layThere 214 = .ok (.iload 7, 2) := by decide +kernel
theorem dX11_layThere_216 : decode cX11_layThere 216 = .ok (.iload 11, 2) := by decide +kernel
theorem dX11_layThere_218 : decode cX11_layThere 218 = .ok (.ifCond .eq 8, 3) := by decide +kernel
theorem dX11_layThere_221 : decode cX11_layThere 221 = .ok (.iload 9, 2) := by decide +kernel
theorem dX11_layThere_223 : decode cX11_layThere 223 = .ok (.goto 10, 3) := by decide +kernel
theorem dX11_layThere_226 : decode cX11_layThere 226 = .ok (.aload_n 0, 1) := by decide +kernel
theorem dX11_layThere_227 : decode cX11_layThere 227 = .ok (.getfield 19, 3) := by decide +kernel
theorem dX11_layThere_230 : decode cX11_layThere 230 = .ok (.iload 7, 2) := by decide +kernel
theorem dX11_layThere_232 : decode cX11_layThere 232 = .ok (.iaload, 1) := by decide +kernel
theorem dX11_layThere_233 : decode cX11_layThere 233 = .ok (.iastore, 1) := by decide +kernel
theorem dX11_layThere_234 : decode cX11_layThere 234 = .ok (.iinc 6 1, 3) := by decide +kernel
theorem dX11_layThere_237 : decode cX11_layThere 237 = .ok (.goto (-186), 3) := by decide +kernel
theorem dX11_layThere_240 : decode cX11_layThere 240 = .ok (.iinc 5 1, 3) := by decide +kernel
theorem dX11_layThere_243 : decode cX11_layThere 243 = .ok (.goto (-205), 3) := by decide +kernel
theorem dX11_layThere_246 : decode cX11_layThere 246 = .ok (.return_, 1) := by decide +kernel
theorem dX11_soonestOf_0 : decode cX11_soonestOf 0 = .ok (.aload_n 0, 1) := by decide +kernel
theorem dX11_soonestOf_1 : decode cX11_soonestOf 1 = .ok (.iload_n 1, 1) := by decide +kernel
theorem dX11_soonestOf_2 : decode cX11_soonestOf 2 = .ok (.iload_n 3, 1) := by decide +kernel
theorem dX11_soonestOf_3 : decode cX11_soonestOf 3 = .ok (.iload 4, 2) := by decide +kernel
theorem dX11_soonestOf_5 : decode cX11_soonestOf 5 = .ok (.iload 5, 2) := by decide +kernel
theorem dX11_soonestOf_7 : decode cX11_soonestOf 7 = .ok (.invokevirtual 147, 3) := by decide +kernel
theorem dX11_soonestOf_10 : decode cX11_soonestOf 10 = .ok (.aload_n 0, 1) := by decide +kernel
theorem dX11_soonestOf_11 : decode cX11_soonestOf 11 = .ok (.getfield 19, 3) := by decide +kernel
theorem dX11_soonestOf_14 : decode cX11_soonestOf 14 = .ok (.iload_n 2, 1) := by decide +kernel
theorem dX11_soonestOf_15 : decode cX11_soonestOf 15 = .ok (.iaload, 1) := by decide +kernel
theorem dX11_soonestOf_16 : decode cX11_soonestOf 16 = .ok (.ldc 142, 2) := by decide +kernel
theorem dX11_soonestOf_18 : decode cX11_soonestOf 18 = .ok (.if_icmp .ne 7, 3) := by decide +kernel
theorem dX11_soonestOf_21 : decode cX11_soonestOf 21 = .ok (.iconst (-1), 1) := by decide +kernel
theorem dX11_soonestOf_22 : decode cX11_soonestOf 22 = .ok (.goto 9, 3) := by decide +kernel
theorem dX11_soonestOf_25 : decode cX11_soonestOf 25 = .ok (.aload_n 0, 1) := by decide +kernel
theorem dX11_soonestOf_26 : decode cX11_soonestOf 26 = .ok (.getfield 19, 3) := by decide +kernel
theorem dX11_soonestOf_29 : decode cX11_soonestOf 29 = .ok (.iload_n 2, 1) := by decide +kernel
theorem dX11_soonestOf_30 : decode cX11_soonestOf 30 = .ok (.iaload, 1) := by decide +kernel
theorem dX11_soonestOf_31 : decode cX11_soonestOf 31 = .ok (.ireturn, 1) := by decide +kernel
theorem dX11_isCarrier_0 : decode cX11_isCarrier 0 = .ok (.iload_n 0, 1) := by decide +kernel
theorem dX11_isCarrier_1 : decode cX11_isCarrier 1 = .ok (.i2l, 1) := by decide +kernel
theorem dX11_isCarrier_2 : decode cX11_isCarrier 2 = .ok (.lconst 1, 1) := by decide +kernel
theorem dX11_isCarrier_3 : decode cX11_isCarrier 3 = .ok (.ldc2_w 67, 3) := by decide +kernel
theorem dX11_isCarrier_6 : decode cX11_isCarrier 6 = .ok (.invokestatic 69, 3) := by decide +kernel
theorem dX11_isCarrier_9 : decode cX11_isCarrier 9 = .ok (.ifCond .eq 19, 3) := by decide +kernel
theorem dX11_isCarrier_12 : decode cX11_isCarrier 12 = .ok (.iload_n 1, 1) := by decide +kernel
theorem dX11_isCarrier_13 : decode cX11_isCarrier 13 = .ok (.i2l, 1) := by decide +kernel
theorem dX11_isCarrier_14 : decode cX11_isCarrier 14 = .ok (.lconst 1, 1) := by decide +kernel
theorem dX11_isCarrier_15 : decode cX11_isCarrier 15 = .ok (.ldc2_w 67, 3) := by decide +kernel
theorem dX11_isCarrier_18 : decode cX11_isCarrier 18 = .ok (.invokestatic 69, 3) := by decide +kernel
theorem dX11_isCarrier_21 : decode cX11_isCarrier 21 = .ok (.ifCond .eq 7, 3) := by decide +kernel
theorem dX11_isCarrier_24 : decode cX11_isCarrier 24 = .ok (.iconst 1, 1) := by decide +kernel
theorem dX11_isCarrier_25 : decode cX11_isCarrier 25 = .ok (.goto 4, 3) := by decide +kernel
theorem dX11_isCarrier_28 : decode cX11_isCarrier 28 = .ok (.iconst 0, 1) := by decide +kernel
theorem dX11_isCarrier_29 : decode cX11_isCarrier 29 = .ok (.ireturn, 1) := by decide +kernel
theorem dX11_isMinute_0 : decode cX11_isMinute 0 = .ok (.iload_n 0, 1) := by decide +kernel
theorem dX11_isMinute_1 : decode cX11_isMinute 1 = .ok (.i2l, 1) := by decide +kernel
theorem dX11_isMinute_2 : decode cX11_isMinute 2 = .ok (.lconst 0, 1) := by decide +kernel
theorem dX11_isMinute_3 : decode cX11_isMinute 3 = .ok (.ldc2_w 151, 3) := by decide +kernel
theorem dX11_isMinute_6 : decode cX11_isMinute 6 = .ok (.invokestatic 69, 3) := by decide +kernel
theorem dX11_isMinute_9 : decode cX11_isMinute 9 = .ok (.ireturn, 1) := by decide +kernel
theorem dX11_soonest_0 : decode cX11_soonest 0 = .ok (.iload_n 1, 1) := by decide +kernel
theorem dX11_soonest_1 : decode cX11_soonest 1 = .ok (.invokestatic 153, 3) := by decide +kernel
theorem dX11_soonest_4 : decode cX11_soonest 4 = .ok (.ifCond .eq 10, 3) := by decide +kernel
theorem dX11_soonest_7 : decode cX11_soonest 7 = .ok (.iload_n 2, 1) := by decide +kernel
theorem dX11_soonest_8 : decode cX11_soonest 8 = .ok (.invokestatic 153, 3) := by decide +kernel
theorem dX11_soonest_11 : decode cX11_soonest 11 = .ok (.ifCond .ne 6, 3) := by decide +kernel
theorem dX11_soonest_14 : decode cX11_soonest 14 = .ok (.bipush (-101), 2) := by decide +kernel
theorem dX11_soonest_16 : decode cX11_soonest 16 = .ok (.ireturn, 1) := by decide +kernel
theorem dX11_soonest_17 : decode cX11_soonest 17 = .ok (.iload_n 3, 1) := by decide +kernel
theorem dX11_soonest_18 : decode cX11_soonest 18 = .ok (.invokestatic 156, 3) := by decide +kernel
theorem dX11_soonest_21 : decode cX11_soonest 21 = .ok (.ifCond .eq 27, 3) := by decide +kernel
theorem dX11_soonest_24 : decode cX11_soonest 24 = .ok (.iload 4, 2) := by decide +kernel
theorem dX11_soonest_26 : decode cX11_soonest 26 = .ok (.iload 5, 2) := by decide +kernel
theorem dX11_soonest_28 : decode cX11_soonest 28 = .ok (.invokestatic 159, 3) := by decide +kernel
theorem dX11_soonest_31 : decode cX11_soonest 31 = .ok (.ifCond .eq 17, 3) := by decide +kernel
theorem dX11_soonest_34 : decode cX11_soonest 34 = .ok (.aload_n 0, 1) := by decide +kernel
theorem dX11_soonest_35 : decode cX11_soonest 35 = .ok (.iload_n 1, 1) := by decide +kernel
theorem dX11_soonest_36 : decode cX11_soonest 36 = .ok (.iload_n 2, 1) := by decide +kernel
theorem dX11_soonest_37 : decode cX11_soonest 37 = .ok (.iload_n 3, 1) := by decide +kernel
theorem dX11_soonest_38 : decode cX11_soonest 38 = .ok (.iload 4, 2) := by decide +kernel
theorem dX11_soonest_40 : decode cX11_soonest 40 = .ok (.iload 5, 2) := by decide +kernel
theorem dX11_soonest_42 : decode cX11_soonest 42 = .ok (.invokevirtual 163, 3) := by decide +kernel
theorem dX11_soonest_45 : decode cX11_soonest 45 = .ok (.goto 5, 3) := by decide +kernel
theorem dX11_soonest_48 : decode cX11_soonest 48 = .ok (.bipush (-102), 2) := by decide +kernel
theorem dX11_soonest_50 : decode cX11_soonest 50 = .ok (.ireturn, 1) := by decide +kernel
theorem dX11_last_0 : decode cX11_last 0 = .ok (.iload_n 1, 1) := by decide +kernel
theorem dX11_last_1 : decode cX11_last 1 = .ok (.invokestatic 153, 3) := by decide +kernel
theorem dX11_last_4 : decode cX11_last 4 = .ok (.ifCond .eq 10, 3) := by decide +kernel
theorem dX11_last_7 : decode cX11_last 7 = .ok (.iload_n 2, 1) := by decide +kernel
theorem dX11_last_8 : decode cX11_last 8 = .ok (.invokestatic 153, 3) := by decide +kernel
theorem dX11_last_11 : decode cX11_last 11 = .ok (.ifCond .ne 6, 3) := by decide +kernel
theorem dX11_last_14 : decode cX11_last 14 = .ok (.bipush (-101), 2) := by decide +kernel
theorem dX11_last_16 : decode cX11_last 16 = .ok (.ireturn, 1) := by decide +kernel
theorem dX11_last_17 : decode cX11_last 17 = .ok (.iload_n 3, 1) := by decide +kernel
theorem dX11_last_18 : decode cX11_last 18 = .ok (.invokestatic 156, 3) := by decide +kernel
theorem dX11_last_21 : decode cX11_last 21 = .ok (.ifCond .eq 27, 3) := by decide +kernel
theorem dX11_last_24 : decode cX11_last 24 = .ok (.iload 4, 2) := by decide +kernel
theorem dX11_last_26 : decode cX11_last 26 = .ok (.i2l, 1) := by decide +kernel
theorem dX11_last_27 : decode cX11_last 27 = .ok (.iload_n 3, 1) := by decide +kernel
theorem dX11_last_28 : decode cX11_last 28 = .ok (.i2l, 1) := by decide +kernel
theorem dX11_last_29 : decode cX11_last 29 = .ok (.ldc2_w 151, 3) := by decide +kernel
theorem dX11_last_32 : decode cX11_last 32 = .ok (.invokestatic 69, 3) := by decide +kernel
theorem dX11_last_35 : decode cX11_last 35 = .ok (.ifCond .eq 13, 3) := by decide +kernel
theorem dX11_last_38 : decode cX11_last 38 = .ok (.iload 5, 2) := by decide +kernel
theorem dX11_last_40 : decode cX11_last 40 = .ok (.iload 6, 2) := by decide +kernel
theorem dX11_last_42 : decode cX11_last 42 = .ok (.invokestatic 159, 3) := by decide +kernel
theorem dX11_last_45 : decode cX11_last 45 = .ok (.ifCond .ne 6, 3) := by decide +kernel
theorem dX11_last_48 : decode cX11_last 48 = .ok (.bipush (-102), 2) := by decide +kernel
theorem dX11_last_50 : decode cX11_last 50 = .ok (.ireturn, 1) := by decide +kernel
theorem dX11_last_51 : decode cX11_last 51 = .ok (.iconst 0, 1) := by decide +kernel
theorem dX11_last_52 : decode cX11_last 52 = .ok (.istore 7, 2) := by decide +kernel
theorem dX11_last_54 : decode cX11_last 54 = .ok (.iload 7, 2) := by decide +kernel
theorem dX11_last_56 : decode cX11_last 56 = .ok (.bipush 8, 2) := by decide +kernel
theorem dX11_last_58 : decode cX11_last 58 = .ok (.if_icmp .ge 28, 3) := by decide +kernel
theorem dX11_last_61 : decode cX11_last 61 = .ok (.aload_n 0, 1) := by decide +kernel
theorem dX11_last_62 : decode cX11_last 62 = .ok (.getfield 19, 3) := by decide +kernel
theorem dX11_last_65 : decode cX11_last 65 = .ok (.iload 7, 2) := by decide +kernel
theorem dX11_last_67 : decode cX11_last 67 = .ok (.iload 7, 2) := by decide +kernel
theorem dX11_last_69 : decode cX11_last 69 = .ok (.iload_n 2, 1) := by decide +kernel
theorem dX11_last_70 : decode cX11_last 70 = .ok (.if_icmp .ne 8, 3) := by decide +kernel
theorem dX11_last_73 : decode cX11_last 73 = .ok (.iload 4, 2) := by decide +kernel
theorem dX11_last_75 : decode cX11_last 75 = .ok (.goto 4, 3) := by decide +kernel
theorem dX11_last_78 : decode cX11_last 78 = .ok (.iconst (-1), 1) := by decide +kernel
theorem dX11_last_79 : decode cX11_last 79 = .ok (.iastore, 1) := by decide +kernel
theorem dX11_last_80 : decode cX11_last 80 = .ok (.iinc 7 1, 3) := by decide +kernel
theorem dX11_last_83 : decode cX11_last 83 = .ok (.goto (-29), 3) := by decide +kernel
theorem dX11_last_86 : decode cX11_last 86 = .ok (.iload 4, 2) := by decide +kernel
theorem dX11_last_88 : decode cX11_last 88 = .ok (.istore 7, 2) := by decide +kernel
theorem dX11_last_90 : decode cX11_last 90 = .ok (.iload 7, 2) := by decide +kernel
theorem dX11_last_92 : decode cX11_last 92 = .ok (.iload_n 3, 1) := by decide +kernel
theorem dX11_last_93 : decode cX11_last 93 = .ok (.if_icmp .lt 182, 3) := by decide +kernel
theorem dX11_last_96 : decode cX11_last 96 = .ok (.iconst 0, 1) := by decide +kernel
theorem dX11_last_97 : decode cX11_last 97 = .ok (.istore 8, 2) := by decide +kernel
theorem dX11_last_99 : decode cX11_last 99 = .ok (.iload 8, 2) := by decide +kernel
theorem dX11_last_101 : decode cX11_last 101 = .ok (.aload_n 0, 1) := by decide +kernel
theorem dX11_last_102 : decode cX11_last 102 = .ok (.getfield 104, 3) := by decide +kernel
theorem dX11_last_105 : decode cX11_last 105 = .ok (.if_icmp .ge 164, 3) := by decide +kernel
theorem dX11_last_108 : decode cX11_last 108 = .ok (.aload_n 0, 1) := by decide +kernel
theorem dX11_last_109 : decode cX11_last 109 = .ok (.iload 8, 2) := by decide +kernel
theorem dX11_last_111 : decode cX11_last 111 = .ok (.iload 7, 2) := by decide +kernel
theorem dX11_last_113 : decode cX11_last 113 = .ok (.iload 5, 2) := by decide +kernel
theorem dX11_last_115 : decode cX11_last 115 = .ok (.iload 6, 2) := by decide +kernel
theorem dX11_last_117 : decode cX11_last 117 = .ok (.invokevirtual 143, 3) := by decide +kernel
theorem dX11_last_120 : decode cX11_last 120 = .ok (.ifCond .eq 143, 3) := by decide +kernel
theorem dX11_last_123 : decode cX11_last 123 = .ok (.aload_n 0, 1) := by decide +kernel
theorem dX11_last_124 : decode cX11_last 124 = .ok (.getfield 16, 3) := by decide +kernel
theorem dX11_last_127 : decode cX11_last 127 = .ok (.bipush 10, 2) := by decide +kernel
theorem dX11_last_129 : decode cX11_last 129 = .ok (.iload 8, 2) := by decide +kernel
theorem dX11_last_131 : decode cX11_last 131 = .ok (.imul, 1) := by decide +kernel
theorem dX11_last_132 : decode cX11_last 132 = .ok (.iconst 1, 1) := by decide +kernel
theorem dX11_last_133 : decode cX11_last 133 = .ok (.iadd, 1) := by decide +kernel
theorem dX11_last_134 : decode cX11_last 134 = .ok (.iaload, 1) := by decide +kernel
theorem dX11_last_135 : decode cX11_last 135 = .ok (.istore 9, 2) := by decide +kernel
theorem dX11_last_137 : decode cX11_last 137 = .ok (.aload_n 0, 1) := by decide +kernel
theorem dX11_last_138 : decode cX11_last 138 = .ok (.iload 8, 2) := by decide +kernel
theorem dX11_last_140 : decode cX11_last 140 = .ok (.iload 7, 2) := by decide +kernel
theorem dX11_last_142 : decode cX11_last 142 = .ok (.invokevirtual 134, 3) := by decide +kernel
theorem dX11_last_145 : decode cX11_last 145 = .ok (.istore 10, 2) := by decide +kernel
theorem dX11_last_147 : decode cX11_last 147 = .ok (.iload 7, 2) := by decide +kernel
theorem dX11_last_149 : decode cX11_last 149 = .ok (.iload 5, 2) := by decide +kernel
theorem dX11_last_151 : decode cX11_last 151 = .ok (.iadd, 1) := by decide +kernel
theorem dX11_last_152 : decode cX11_last 152 = .ok (.aload_n 0, 1) := by decide +kernel
theorem dX11_last_153 : decode cX11_last 153 = .ok (.getfield 19, 3) := by decide +kernel
theorem dX11_last_156 : decode cX11_last 156 = .ok (.iload 10, 2) := by decide +kernel
theorem dX11_last_158 : decode cX11_last 158 = .ok (.iaload, 1) := by decide +kernel
theorem dX11_last_159 : decode cX11_last 159 = .ok (.if_icmp .gt 19, 3) := by decide +kernel
theorem dX11_last_162 : decode cX11_last 162 = .ok (.iload 7, 2) := by decide +kernel
theorem dX11_last_164 : decode cX11_last 164 = .ok (.aload_n 0, 1) := by decide +kernel
theorem dX11_last_165 : decode cX11_last 165 = .ok (.getfield 19, 3) := by decide +kernel
theorem dX11_last_168 : decode cX11_last 168 = .ok (.iload 9, 2) := by decide +kernel
theorem dX11_last_170 : decode cX11_last 170 = .ok (.iaload, 1) := by decide +kernel
theorem dX11_last_171 : decode cX11_last 171 = .ok (.if_icmp .le 7, 3) := by decide +kernel
theorem dX11_last_174 : decode cX11_last 174 = .ok (.iconst 1, 1) := by decide +kernel
theorem dX11_last_175 : decode cX11_last 175 = .ok (.goto 4, 3) := by decide +kernel
theorem dX11_last_178 : decode cX11_last 178 = .ok (.iconst 0, 1) := by decide +kernel
theorem dX11_last_179 : decode cX11_last 179 = .ok (.istore 11, 2) := by decide +kernel
theorem dX11_last_181 : decode cX11_last 181 = .ok (.iload 7, 2) := by decide +kernel
theorem dX11_last_183 : decode cX11_last 183 = .ok (.iload 5, 2) := by decide +kernel
theorem dX11_last_185 : decode cX11_last 185 = .ok (.iadd, 1) := by decide +kernel
theorem dX11_last_186 : decode cX11_last 186 = .ok (.aload_n 0, 1) := by decide +kernel
theorem dX11_last_187 : decode cX11_last 187 = .ok (.getfield 19, 3) := by decide +kernel
theorem dX11_last_190 : decode cX11_last 190 = .ok (.iload 9, 2) := by decide +kernel
theorem dX11_last_192 : decode cX11_last 192 = .ok (.iaload, 1) := by decide +kernel
theorem dX11_last_193 : decode cX11_last 193 = .ok (.if_icmp .gt 19, 3) := by decide +kernel
theorem dX11_last_196 : decode cX11_last 196 = .ok (.iload 7, 2) := by decide +kernel
theorem dX11_last_198 : decode cX11_last 198 = .ok (.aload_n 0, 1) := by decide +kernel
theorem dX11_last_199 : decode cX11_last 199 = .ok (.getfield 19, 3) := by decide +kernel
theorem dX11_last_202 : decode cX11_last 202 = .ok (.iload 10, 2) := by decide +kernel
theorem dX11_last_204 : decode cX11_last 204 = .ok (.iaload, 1) := by decide +kernel
theorem dX11_last_205 : decode cX11_last 205 = .ok (.if_icmp .le 7, 3) := by decide +kernel
theorem dX11_last_208 : decode cX11_last 208 = .ok (.iconst 1, 1) := by decide +kernel
theorem dX11_last_209 : decode cX11_last 209 = .ok (.goto 4, 3) := by decide +kernel
theorem dX11_last_212 : decode cX11_last 212 = .ok (.iconst 0, 1) := by decide +kernel
theorem dX11_last_213 : decode cX11_last 213 = .ok (.istore 12, 2) := by decide +kernel
theorem dX11_last_215 : decode cX11_last 215 = .ok (.aload_n 0, 1) := by decide +kernel
theorem dX11_last_216 : decode cX11_last 216 = .ok (.getfield 19, 3) := by decide +kernel
theorem dX11_last_219 : decode cX11_last 219 = .ok (.iload 9, 2) := by decide +kernel
theorem dX11_last_221 : decode cX11_last 221 = .ok (.iload 11, 2) := by decide +kernel
theorem dX11_last_223 : decode cX11_last 223 = .ok (.ifCond .eq 8, 3) := by decide +kernel
theorem dX11_last_226 : decode cX11_last 226 = .ok (.iload 7, 2) := by decide +kernel
theorem dX11_last_228 : decode cX11_last 228 = .ok (.goto 10, 3) := by decide +kernel
theorem dX11_last_231 : decode cX11_last 231 = .ok (.aload_n 0, 1) := by decide +kernel
theorem dX11_last_232 : decode cX11_last 232 = .ok (.getfield 19, 3) := by decide +kernel
theorem dX11_last_235 : decode cX11_last 235 = .ok (.iload 9, 2) := by decide +kernel
theorem dX11_last_237 : decode cX11_last 237 = .ok (.iaload, 1) := by decide +kernel
theorem dX11_last_238 : decode cX11_last 238 = .ok (.iastore, 1) := by decide +kernel
theorem dX11_last_239 : decode cX11_last 239 = .ok (.aload_n 0, 1) := by decide +kernel
theorem dX11_last_240 : decode cX11_last 240 = .ok (.getfield 19, 3) := by decide +kernel
theorem dX11_last_243 : decode cX11_last 243 = .ok (.iload 10, 2) := by decide +kernel
theorem dX11_last_245 : decode cX11_last 245 = .ok (.iload 12, 2) := by decide +kernel
theorem dX11_last_247 : decode cX11_last 247 = .ok (.ifCond .eq 8, 3) := by decide +kernel
theorem dX11_last_250 : decode cX11_last 250 = .ok (.iload 7, 2) := by decide +kernel
theorem dX11_last_252 : decode cX11_last 252 = .ok (.goto 10, 3) := by decide +kernel
theorem dX11_last_255 : decode cX11_last 255 = .ok (.aload_n 0, 1) := by decide +kernel
theorem dX11_last_256 : decode cX11_last 256 = .ok (.getfield 19, 3) := by decide +kernel
theorem dX11_last_259 : decode cX11_last 259 = .ok (.iload 10, 2) := by decide +kernel
theorem dX11_last_261 : decode cX11_last 261 = .ok (.iaload, 1) := by decide +kernel
theorem dX11_last_262 : decode cX11_last 262 = .ok (.iastore, 1) := by decide +kernel
theorem dX11_last_263 : decode cX11_last 263 = .ok (.iinc 8 1, 3) := by decide +kernel
theorem dX11_last_266 : decode cX11_last 266 = .ok (.goto (-167), 3) := by decide +kernel
theorem dX11_last_269 : decode cX11_last 269 = .ok (.iinc 7 (-1), 3) := by decide +kernel
theorem dX11_last_272 : decode cX11_last 272 = .ok (.goto (-182), 3) := by decide +kernel
theorem dX11_last_275 : decode cX11_last 275 = .ok (.aload_n 0, 1) := by decide +kernel
theorem dX11_last_276 : decode cX11_last 276 = .ok (.getfield 19, 3) := by decide +kernel
theorem dX11_last_279 : decode cX11_last 279 = .ok (.iload_n 1, 1) := by decide +kernel
theorem dX11_last_280 : decode cX11_last 280 = .ok (.iaload, 1) := by decide +kernel
theorem dX11_last_281 : decode cX11_last 281 = .ok (.ireturn, 1) := by decide +kernel
theorem dX11_common_0 : decode cX11_common 0 = .ok (.lload_n 0, 1) := by decide +kernel
theorem dX11_common_1 : decode cX11_common 1 = .ok (.lstore 4, 2) := by decide +kernel
theorem dX11_common_3 : decode cX11_common 3 = .ok (.lload_n 2, 1) := by decide +kernel
theorem dX11_common_4 : decode cX11_common 4 = .ok (.lstore 6, 2) := by decide +kernel
theorem dX11_common_6 : decode cX11_common 6 = .ok (.lload 4, 2) := by decide +kernel
theorem dX11_common_8 : decode cX11_common 8 = .ok (.lconst 0, 1) := by decide +kernel
theorem dX11_common_9 : decode cX11_common 9 = .ok (.lcmp, 1) := by decide +kernel
theorem dX11_common_10 : decode cX11_common 10 = .ok (.ifCond .eq 21, 3) := by decide +kernel
theorem dX11_common_13 : decode cX11_common 13 = .ok (.lload 6, 2) := by decide +kernel
theorem dX11_common_15 : decode cX11_common 15 = .ok (.lload 4, 2) := by decide +kernel
theorem dX11_common_17 : decode cX11_common 17 = .ok (.lrem, 1) := by decide +kernel
theorem dX11_common_18 : decode cX11_common 18 = .ok (.lstore 8, 2) := by decide +kernel
theorem dX11_common_20 : decode cX11_common 20 = .ok (.lload 4, 2) := by decide +kernel
theorem dX11_common_22 : decode cX11_common 22 = .ok (.lstore 6, 2) := by decide +kernel
theorem dX11_common_24 : decode cX11_common 24 = .ok (.lload 8, 2) := by decide +kernel
theorem dX11_common_26 : decode cX11_common 26 = .ok (.lstore 4, 2) := by decide +kernel
theorem dX11_common_28 : decode cX11_common 28 = .ok (.goto (-22), 3) := by decide +kernel
theorem dX11_common_31 : decode cX11_common 31 = .ok (.lload 6, 2) := by decide +kernel
theorem dX11_common_33 : decode cX11_common 33 = .ok (.lreturn, 1) := by decide +kernel
theorem dX11_againOf_0 : decode cX11_againOf 0 = .ok (.lconst 1, 1) := by decide +kernel
theorem dX11_againOf_1 : decode cX11_againOf 1 = .ok (.lstore_n 1, 1) := by decide +kernel
theorem dX11_againOf_2 : decode cX11_againOf 2 = .ok (.iconst 0, 1) := by decide +kernel
theorem dX11_againOf_3 : decode cX11_againOf 3 = .ok (.istore_n 3, 1) := by decide +kernel
theorem dX11_againOf_4 : decode cX11_againOf 4 = .ok (.iload_n 3, 1) := by decide +kernel
theorem dX11_againOf_5 : decode cX11_againOf 5 = .ok (.aload_n 0, 1) := by decide +kernel
theorem dX11_againOf_6 : decode cX11_againOf 6 = .ok (.getfield 104, 3) := by decide +kernel
theorem dX11_againOf_9 : decode cX11_againOf 9 = .ok (.if_icmp .ge 29, 3) := by decide +kernel
theorem dX11_againOf_12 : decode cX11_againOf 12 = .ok (.lload_n 1, 1) := by decide +kernel
theorem dX11_againOf_13 : decode cX11_againOf 13 = .ok (.lload_n 1, 1) := by decide +kernel
theorem dX11_againOf_14 : decode cX11_againOf 14 = .ok (.aload_n 0, 1) := by decide +kernel
theorem dX11_againOf_15 : decode cX11_againOf 15 = .ok (.iload_n 3, 1) := by decide +kernel
theorem dX11_againOf_16 : decode cX11_againOf 16 = .ok (.invokevirtual 121, 3) := by decide +kernel
theorem dX11_againOf_19 : decode cX11_againOf 19 = .ok (.i2l, 1) := by decide +kernel
theorem dX11_againOf_20 : decode cX11_againOf 20 = .ok (.invokestatic 167, 3) := by decide +kernel
theorem dX11_againOf_23 : decode cX11_againOf 23 = .ok (.ldiv, 1) := by decide +kernel
theorem dX11_againOf_24 : decode cX11_againOf 24 = .ok (.aload_n 0, 1) := by decide +kernel
theorem dX11_againOf_25 : decode cX11_againOf 25 = .ok (.iload_n 3, 1) := by decide +kernel
theorem dX11_againOf_26 : decode cX11_againOf 26 = .ok (.invokevirtual 121, 3) := by decide +kernel
theorem dX11_againOf_29 : decode cX11_againOf 29 = .ok (.i2l, 1) := by decide +kernel
theorem dX11_againOf_30 : decode cX11_againOf 30 = .ok (.lmul, 1) := by decide +kernel
theorem dX11_againOf_31 : decode cX11_againOf 31 = .ok (.lstore_n 1, 1) := by decide +kernel
theorem dX11_againOf_32 : decode cX11_againOf 32 = .ok (.iinc 3 1, 3) := by decide +kernel
theorem dX11_againOf_35 : decode cX11_againOf 35 = .ok (.goto (-31), 3) := by decide +kernel
theorem dX11_againOf_38 : decode cX11_againOf 38 = .ok (.lload_n 1, 1) := by decide +kernel
theorem dX11_againOf_39 : decode cX11_againOf 39 = .ok (.lreturn, 1) := by decide +kernel
theorem dX11_again_0 : decode cX11_again 0 = .ok (.aload_n 0, 1) := by decide +kernel
theorem dX11_again_1 : decode cX11_again 1 = .ok (.invokevirtual 171, 3) := by decide +kernel
theorem dX11_again_4 : decode cX11_again 4 = .ok (.lreturn, 1) := by decide +kernel
theorem dX11_cutOf_0 : decode cX11_cutOf 0 = .ok (.iconst 0, 1) := by decide +kernel
theorem dX11_cutOf_1 : decode cX11_cutOf 1 = .ok (.istore 4, 2) := by decide +kernel
theorem dX11_cutOf_3 : decode cX11_cutOf 3 = .ok (.iload_n 2, 1) := by decide +kernel
theorem dX11_cutOf_4 : decode cX11_cutOf 4 = .ok (.istore 5, 2) := by decide +kernel
theorem dX11_cutOf_6 : decode cX11_cutOf 6 = .ok (.iload 5, 2) := by decide +kernel
theorem dX11_cutOf_8 : decode cX11_cutOf 8 = .ok (.iload_n 2, 1) := by decide +kernel
theorem dX11_cutOf_9 : decode cX11_cutOf 9 = .ok (.iload_n 3, 1) := by decide +kernel
theorem dX11_cutOf_10 : decode cX11_cutOf 10 = .ok (.iadd, 1) := by decide +kernel
theorem dX11_cutOf_11 : decode cX11_cutOf 11 = .ok (.if_icmp .ge 95, 3) := by decide +kernel
theorem dX11_cutOf_14 : decode cX11_cutOf 14 = .ok (.iconst 0, 1) := by decide +kernel
theorem dX11_cutOf_15 : decode cX11_cutOf 15 = .ok (.istore 6, 2) := by decide +kernel
theorem dX11_cutOf_17 : decode cX11_cutOf 17 = .ok (.iconst 0, 1) := by decide +kernel
theorem dX11_cutOf_18 : decode cX11_cutOf 18 = .ok (.istore 7, 2) := by decide +kernel
theorem dX11_cutOf_20 : decode cX11_cutOf 20 = .ok (.iload 7, 2) := by decide +kernel
theorem dX11_cutOf_22 : decode cX11_cutOf 22 = .ok (.aload_n 0, 1) := by decide +kernel
theorem dX11_cutOf_23 : decode cX11_cutOf 23 = .ok (.getfield 104, 3) := by decide +kernel
theorem dX11_cutOf_26 : decode cX11_cutOf 26 = .ok (.if_icmp .ge 59, 3) := by decide +kernel
theorem dX11_cutOf_29 : decode cX11_cutOf 29 = .ok (.aload_n 0, 1) := by decide +kernel
theorem dX11_cutOf_30 : decode cX11_cutOf 30 = .ok (.iload 7, 2) := by decide +kernel
theorem dX11_cutOf_32 : decode cX11_cutOf 32 = .ok (.iload 5, 2) := by decide +kernel
theorem dX11_cutOf_34 : decode cX11_cutOf 34 = .ok (.invokevirtual 134, 3) := by decide +kernel
theorem dX11_cutOf_37 : decode cX11_cutOf 37 = .ok (.istore 8, 2) := by decide +kernel
theorem dX11_cutOf_39 : decode cX11_cutOf 39 = .ok (.iload 6, 2) := by decide +kernel
theorem dX11_cutOf_41 : decode cX11_cutOf 41 = .ok (.ifCond .ne 31, 3) := by decide +kernel
theorem dX11_cutOf_44 : decode cX11_cutOf 44 = .ok (.iload 8, 2) := by decide +kernel
theorem dX11_cutOf_46 : decode cX11_cutOf 46 = .ok (.iconst (-1), 1) := by decide +kernel
theorem dX11_cutOf_47 : decode cX11_cutOf 47 = .ok (.if_icmp .eq 29, 3) := by decide +kernel
theorem dX11_cutOf_50 : decode cX11_cutOf 50 = .ok (.iload 8, 2) := by decide +kernel
theorem dX11_cutOf_52 : decode cX11_cutOf 52 = .ok (.iload_n 1, 1) := by decide +kernel
theorem dX11_cutOf_53 : decode cX11_cutOf 53 = .ok (.if_icmp .eq 19, 3) := by decide +kernel
theorem dX11_cutOf_56 : decode cX11_cutOf 56 = .ok (.aload_n 0, 1) := by decide +kernel
theorem dX11_cutOf_57 : decode cX11_cutOf 57 = .ok (.getfield 16, 3) := by decide +kernel
theorem dX11_cutOf_60 : decode cX11_cutOf 60 = .ok (.bipush 10, 2) := by decide +kernel
theorem dX11_cutOf_62 : decode cX11_cutOf 62 = .ok (.iload 7, 2) := by decide +kernel
theorem dX11_cutOf_64 : decode cX11_cutOf 64 = .ok (.imul, 1) := by decide +kernel
theorem dX11_cutOf_65 : decode cX11_cutOf 65 = .ok (.iconst 1, 1) := by decide +kernel
theorem dX11_cutOf_66 : decode cX11_cutOf 66 = .ok (.iadd, 1) := by decide +kernel
theorem dX11_cutOf_67 : decode cX11_cutOf 67 = .ok (.iaload, 1) := by decide +kernel
theorem dX11_cutOf_68 : decode cX11_cutOf 68 = .ok (.iload_n 1, 1) := by decide +kernel
theorem dX11_cutOf_69 : decode cX11_cutOf 69 = .ok (.if_icmp .ne 7, 3) := by decide +kernel
theorem dX11_cutOf_72 : decode cX11_cutOf 72 = .ok (.iconst 1, 1) := by decide +kernel
theorem dX11_cutOf_73 : decode cX11_cutOf 73 = .ok (.goto 4, 3) := by decide +kernel
theorem dX11_cutOf_76 : decode cX11_cutOf 76 = .ok (.iconst 0, 1) := by decide +kernel
theorem dX11_cutOf_77 : decode cX11_cutOf 77 = .ok (.istore 6, 2) := by decide +kernel
theorem dX11_cutOf_79 : decode cX11_cutOf 79 = .ok (.iinc 7 1, 3) := by decide +kernel
theorem dX11_cutOf_82 : decode cX11_cutOf 82 = .ok (.goto (-62), 3) := by decide +kernel
theorem dX11_cutOf_85 : decode cX11_cutOf 85 = .ok (.iload 4, 2) := by decide +kernel
theorem dX11_cutOf_87 : decode cX11_cutOf 87 = .ok (.iload 6, 2) := by decide +kernel
theorem dX11_cutOf_89 : decode cX11_cutOf 89 = .ok (.ifCond .eq 7, 3) := by decide +kernel
theorem dX11_cutOf_92 : decode cX11_cutOf 92 = .ok (.iconst 0, 1) := by decide +kernel
theorem dX11_cutOf_93 : decode cX11_cutOf 93 = .ok (.goto 4, 3) := by decide +kernel
theorem dX11_cutOf_96 : decode cX11_cutOf 96 = .ok (.iconst 1, 1) := by decide +kernel
theorem dX11_cutOf_97 : decode cX11_cutOf 97 = .ok (.iadd, 1) := by decide +kernel
theorem dX11_cutOf_98 : decode cX11_cutOf 98 = .ok (.istore 4, 2) := by decide +kernel
theorem dX11_cutOf_100 : decode cX11_cutOf 100 = .ok (.iinc 5 1, 3) := by decide +kernel
theorem dX11_cutOf_103 : decode cX11_cutOf 103 = .ok (.goto (-97), 3) := by decide +kernel
theorem dX11_cutOf_106 : decode cX11_cutOf 106 = .ok (.iload 4, 2) := by decide +kernel
theorem dX11_cutOf_108 : decode cX11_cutOf 108 = .ok (.ireturn, 1) := by decide +kernel
theorem dX11_cut_0 : decode cX11_cut 0 = .ok (.iload_n 1, 1) := by decide +kernel
theorem dX11_cut_1 : decode cX11_cut 1 = .ok (.invokestatic 153, 3) := by decide +kernel
theorem dX11_cut_4 : decode cX11_cut 4 = .ok (.ifCond .ne 6, 3) := by decide +kernel
theorem dX11_cut_7 : decode cX11_cut 7 = .ok (.bipush (-101), 2) := by decide +kernel
theorem dX11_cut_9 : decode cX11_cut 9 = .ok (.ireturn, 1) := by decide +kernel
theorem dX11_cut_10 : decode cX11_cut 10 = .ok (.iload_n 2, 1) := by decide +kernel
theorem dX11_cut_11 : decode cX11_cut 11 = .ok (.invokestatic 156, 3) := by decide +kernel
theorem dX11_cut_14 : decode cX11_cut 14 = .ok (.ifCond .eq 25, 3) := by decide +kernel
theorem dX11_cut_17 : decode cX11_cut 17 = .ok (.iload_n 3, 1) := by decide +kernel
theorem dX11_cut_18 : decode cX11_cut 18 = .ok (.i2l, 1) := by decide +kernel
theorem dX11_cut_19 : decode cX11_cut 19 = .ok (.lconst 1, 1) := by decide +kernel
theorem dX11_cut_20 : decode cX11_cut 20 = .ok (.ldc2_w 175, 3) := by decide +kernel
theorem dX11_cut_23 : decode cX11_cut 23 = .ok (.invokestatic 69, 3) := by decide +kernel
theorem dX11_cut_26 : decode cX11_cut 26 = .ok (.ifCond .eq 13, 3) := by decide +kernel
theorem dX11_cut_29 : decode cX11_cut 29 = .ok (.aload_n 0, 1) := by decide +kernel
theorem dX11_cut_30 : decode cX11_cut 30 = .ok (.iload_n 1, 1) := by decide +kernel
theorem dX11_cut_31 : decode cX11_cut 31 = .ok (.iload_n 2, 1) := by decide +kernel
theorem dX11_cut_32 : decode cX11_cut 32 = .ok (.iload_n 3, 1) := by decide +kernel
theorem dX11_cut_33 : decode cX11_cut 33 = .ok (.invokevirtual 177, 3) := by decide +kernel
theorem dX11_cut_36 : decode cX11_cut 36 = .ok (.goto 5, 3) := by decide +kernel
theorem dX11_cut_39 : decode cX11_cut 39 = .ok (.bipush (-102), 2) := by decide +kernel
theorem dX11_cut_41 : decode cX11_cut 41 = .ok (.ireturn, 1) := by decide +kernel
theorem dX11_layWaits_0 : decode cX11_layWaits 0 = .ok (.aload_n 0, 1) := by decide +kernel
theorem dX11_layWaits_1 : decode cX11_layWaits 1 = .ok (.iconst 0, 1) := by decide +kernel
theorem dX11_layWaits_2 : decode cX11_layWaits 2 = .ok (.putfield 181, 3) := by decide +kernel
theorem dX11_layWaits_5 : decode cX11_layWaits 5 = .ok (.aload_n 0, 1) := by decide +kernel
theorem dX11_layWaits_6 : decode cX11_layWaits 6 = .ok (.iconst 0, 1) := by decide +kernel
theorem dX11_layWaits_7 : decode cX11_layWaits 7 = .ok (.putfield 184, 3) := by decide +kernel
theorem dX11_layWaits_10 : decode cX11_layWaits 10 = .ok (.iconst 0, 1) := by decide +kernel
theorem dX11_layWaits_11 : decode cX11_layWaits 11 = .ok (.istore 6, 2) := by decide +kernel
theorem dX11_layWaits_13 : decode cX11_layWaits 13 = .ok (.iload 6, 2) := by decide +kernel
theorem dX11_layWaits_15 : decode cX11_layWaits 15 = .ok (.iload_n 3, 1) := by decide +kernel
theorem dX11_layWaits_16 : decode cX11_layWaits 16 = .ok (.if_icmp .ge 83, 3) := by decide +kernel
theorem dX11_layWaits_19 : decode cX11_layWaits 19 = .ok (.aload_n 0, 1) := by decide +kernel
theorem dX11_layWaits_20 : decode cX11_layWaits 20 = .ok (.getfield 184, 3) := by decide +kernel
theorem dX11_layWaits_23 : decode cX11_layWaits 23 = .ok (.iconst (-1), 1) := by decide +kernel
theorem dX11_layWaits_24 : decode cX11_layWaits 24 = .ok (.if_icmp .eq 75, 3) := by decide +kernel
theorem dX11_layWaits_27 : decode cX11_layWaits 27 = .ok (.aload_n 0, 1) := by decide +kernel
theorem dX11_layWaits_28 : decode cX11_layWaits 28 = .ok (.iload_n 1, 1) := by decide +kernel
theorem dX11_layWaits_29 : decode cX11_layWaits 29 = .ok (.iload_n 2, 1) := by decide +kernel
theorem dX11_layWaits_30 : decode cX11_layWaits 30 = .ok (.iload 6, 2) := by decide +kernel
theorem dX11_layWaits_32 : decode cX11_layWaits 32 = .ok (.iload 4, 2) := by decide +kernel
theorem dX11_layWaits_34 : decode cX11_layWaits 34 = .ok (.iload 5, 2) := by decide +kernel
theorem dX11_layWaits_36 : decode cX11_layWaits 36 = .ok (.invokevirtual 163, 3) := by decide +kernel
theorem dX11_layWaits_39 : decode cX11_layWaits 39 = .ok (.istore 7, 2) := by decide +kernel
theorem dX11_layWaits_41 : decode cX11_layWaits 41 = .ok (.aload_n 0, 1) := by decide +kernel
theorem dX11_layWaits_42 : decode cX11_layWaits 42 = .ok (.dup, 1) := by decide +kernel
theorem dX11_layWaits_43 : decode cX11_layWaits 43 = .ok (.getfield 181, 3) := by decide +kernel
theorem dX11_layWaits_46 : decode cX11_layWaits 46 = .ok (.iload 7, 2) := by decide +kernel
theorem dX11_layWaits_48 : decode cX11_layWaits 48 = .ok (.iload 6, 2) := by decide +kernel
theorem dX11_layWaits_50 : decode cX11_layWaits 50 = .ok (.isub, 1) := by decide +kernel
theorem dX11_layWaits_51 : decode cX11_layWaits 51 = .ok (.iadd, 1) := by decide +kernel
theorem dX11_layWaits_52 : decode cX11_layWaits 52 = .ok (.putfield 181, 3) := by decide +kernel
theorem dX11_layWaits_55 : decode cX11_layWaits 55 = .ok (.aload_n 0, 1) := by decide +kernel
theorem dX11_layWaits_56 : decode cX11_layWaits 56 = .ok (.iload 7, 2) := by decide +kernel
theorem dX11_layWaits_58 : decode cX11_layWaits 58 = .ok (.iconst (-1), 1) := by decide +kernel
theorem dX11_layWaits_59 : decode cX11_layWaits 59 = .ok (.if_icmp .ne 7, 3) := by decide +kernel
theorem dX11_layWaits_62 : decode cX11_layWaits 62 = .ok (.iconst (-1), 1) := by decide +kernel
theorem dX11_layWaits_63 : decode cX11_layWaits 63 = .ok (.goto 27, 3) := by decide +kernel
theorem dX11_layWaits_66 : decode cX11_layWaits 66 = .ok (.iload 7, 2) := by decide +kernel
theorem dX11_layWaits_68 : decode cX11_layWaits 68 = .ok (.iload 6, 2) := by decide +kernel
theorem dX11_layWaits_70 : decode cX11_layWaits 70 = .ok (.isub, 1) := by decide +kernel
theorem dX11_layWaits_71 : decode cX11_layWaits 71 = .ok (.aload_n 0, 1) := by decide +kernel
theorem dX11_layWaits_72 : decode cX11_layWaits 72 = .ok (.getfield 184, 3) := by decide +kernel
theorem dX11_layWaits_75 : decode cX11_layWaits 75 = .ok (.if_icmp .le 11, 3) := by decide +kernel
theorem dX11_layWaits_78 : decode cX11_layWaits 78 = .ok (.iload 7, 2) := by decide +kernel
theorem dX11_layWaits_80 : decode cX11_layWaits 80 = .ok (.iload 6, 2) := by decide +kernel
theorem dX11_layWaits_82 : decode cX11_layWaits 82 = .ok (.isub, 1) := by decide +kernel
theorem dX11_layWaits_83 : decode cX11_layWaits 83 = .ok (.goto 7, 3) := by decide +kernel
theorem dX11_layWaits_86 : decode cX11_layWaits 86 = .ok (.aload_n 0, 1) := by decide +kernel
theorem dX11_layWaits_87 : decode cX11_layWaits 87 = .ok (.getfield 184, 3) := by decide +kernel
theorem dX11_layWaits_90 : decode cX11_layWaits 90 = .ok (.putfield 184, 3) := by decide +kernel
theorem dX11_layWaits_93 : decode cX11_layWaits 93 = .ok (.iinc 6 1, 3) := by decide +kernel
theorem dX11_layWaits_96 : decode cX11_layWaits 96 = .ok (.goto (-83), 3) := by decide +kernel
theorem dX11_layWaits_99 : decode cX11_layWaits 99 = .ok (.return_, 1) := by decide +kernel
theorem dX11_worst_0 : decode cX11_worst 0 = .ok (.iload_n 1, 1) := by decide +kernel
theorem dX11_worst_1 : decode cX11_worst 1 = .ok (.invokestatic 153, 3) := by decide +kernel
theorem dX11_worst_4 : decode cX11_worst 4 = .ok (.ifCond .eq 10, 3) := by decide +kernel
theorem dX11_worst_7 : decode cX11_worst 7 = .ok (.iload_n 2, 1) := by decide +kernel
theorem dX11_worst_8 : decode cX11_worst 8 = .ok (.invokestatic 153, 3) := by decide +kernel
theorem dX11_worst_11 : decode cX11_worst 11 = .ok (.ifCond .ne 6, 3) := by decide +kernel
theorem dX11_worst_14 : decode cX11_worst 14 = .ok (.bipush (-101), 2) := by decide +kernel
theorem dX11_worst_16 : decode cX11_worst 16 = .ok (.ireturn, 1) := by decide +kernel
theorem dX11_worst_17 : decode cX11_worst 17 = .ok (.iload_n 3, 1) := by decide +kernel
theorem dX11_worst_18 : decode cX11_worst 18 = .ok (.i2l, 1) := by decide +kernel
theorem dX11_worst_19 : decode cX11_worst 19 = .ok (.lconst 1, 1) := by decide +kernel
theorem dX11_worst_20 : decode cX11_worst 20 = .ok (.ldc2_w 187, 3) := by decide +kernel
theorem dX11_worst_23 : decode cX11_worst 23 = .ok (.invokestatic 69, 3) := by decide +kernel
theorem dX11_worst_26 : decode cX11_worst 26 = .ok (.ifCond .eq 13, 3) := by decide +kernel
theorem dX11_worst_29 : decode cX11_worst 29 = .ok (.iload 4, 2) := by decide +kernel
theorem dX11_worst_31 : decode cX11_worst 31 = .ok (.iload 5, 2) := by decide +kernel
theorem dX11_worst_33 : decode cX11_worst 33 = .ok (.invokestatic 159, 3) := by decide +kernel
theorem dX11_worst_36 : decode cX11_worst 36 = .ok (.ifCond .ne 6, 3) := by decide +kernel
theorem dX11_worst_39 : decode cX11_worst 39 = .ok (.bipush (-102), 2) := by decide +kernel
theorem dX11_worst_41 : decode cX11_worst 41 = .ok (.ireturn, 1) := by decide +kernel
theorem dX11_worst_42 : decode cX11_worst 42 = .ok (.aload_n 0, 1) := by decide +kernel
theorem dX11_worst_43 : decode cX11_worst 43 = .ok (.iload_n 1, 1) := by decide +kernel
theorem dX11_worst_44 : decode cX11_worst 44 = .ok (.iload_n 2, 1) := by decide +kernel
theorem dX11_worst_45 : decode cX11_worst 45 = .ok (.iload_n 3, 1) := by decide +kernel
theorem dX11_worst_46 : decode cX11_worst 46 = .ok (.iload 4, 2) := by decide +kernel
theorem dX11_worst_48 : decode cX11_worst 48 = .ok (.iload 5, 2) := by decide +kernel
theorem dX11_worst_50 : decode cX11_worst 50 = .ok (.invokevirtual 189, 3) := by decide +kernel
theorem dX11_worst_53 : decode cX11_worst 53 = .ok (.aload_n 0, 1) := by decide +kernel
theorem dX11_worst_54 : decode cX11_worst 54 = .ok (.getfield 184, 3) := by decide +kernel
theorem dX11_worst_57 : decode cX11_worst 57 = .ok (.ireturn, 1) := by decide +kernel
theorem dX11_mean_0 : decode cX11_mean 0 = .ok (.iload_n 1, 1) := by decide +kernel
theorem dX11_mean_1 : decode cX11_mean 1 = .ok (.invokestatic 153, 3) := by decide +kernel
theorem dX11_mean_4 : decode cX11_mean 4 = .ok (.ifCond .eq 10, 3) := by decide +kernel
theorem dX11_mean_7 : decode cX11_mean 7 = .ok (.iload_n 2, 1) := by decide +kernel
theorem dX11_mean_8 : decode cX11_mean 8 = .ok (.invokestatic 153, 3) := by decide +kernel
theorem dX11_mean_11 : decode cX11_mean 11 = .ok (.ifCond .ne 6, 3) := by decide +kernel
theorem dX11_mean_14 : decode cX11_mean 14 = .ok (.bipush (-101), 2) := by decide +kernel
theorem dX11_mean_16 : decode cX11_mean 16 = .ok (.ireturn, 1) := by decide +kernel
theorem dX11_mean_17 : decode cX11_mean 17 = .ok (.iload_n 3, 1) := by decide +kernel
theorem dX11_mean_18 : decode cX11_mean 18 = .ok (.i2l, 1) := by decide +kernel
theorem dX11_mean_19 : decode cX11_mean 19 = .ok (.lconst 1, 1) := by decide +kernel
theorem dX11_mean_20 : decode cX11_mean 20 = .ok (.ldc2_w 187, 3) := by decide +kernel
theorem dX11_mean_23 : decode cX11_mean 23 = .ok (.invokestatic 69, 3) := by decide +kernel
theorem dX11_mean_26 : decode cX11_mean 26 = .ok (.ifCond .eq 24, 3) := by decide +kernel
theorem dX11_mean_29 : decode cX11_mean 29 = .ok (.iload 4, 2) := by decide +kernel
theorem dX11_mean_31 : decode cX11_mean 31 = .ok (.iload 5, 2) := by decide +kernel
theorem dX11_mean_33 : decode cX11_mean 33 = .ok (.invokestatic 159, 3) := by decide +kernel
theorem dX11_mean_36 : decode cX11_mean 36 = .ok (.ifCond .eq 14, 3) := by decide +kernel
theorem dX11_mean_39 : decode cX11_mean 39 = .ok (.iload 6, 2) := by decide +kernel
theorem dX11_mean_41 : decode cX11_mean 41 = .ok (.i2l, 1) := by decide +kernel
theorem dX11_mean_42 : decode cX11_mean 42 = .ok (.lconst 0, 1) := by decide +kernel
theorem dX11_mean_43 : decode cX11_mean 43 = .ok (.lconst 1, 1) := by decide +kernel
theorem dX11_mean_44 : decode cX11_mean 44 = .ok (.invokestatic 69, 3) := by decide +kernel
theorem dX11_mean_47 : decode cX11_mean 47 = .ok (.ifCond .ne 6, 3) := by decide +kernel
theorem dX11_mean_50 : decode cX11_mean 50 = .ok (.bipush (-102), 2) := by decide +kernel
theorem dX11_mean_52 : decode cX11_mean 52 = .ok (.ireturn, 1) := by decide +kernel
theorem dX11_mean_53 : decode cX11_mean 53 = .ok (.aload_n 0, 1) := by decide +kernel
theorem dX11_mean_54 : decode cX11_mean 54 = .ok (.iload_n 1, 1) := by decide +kernel
theorem dX11_mean_55 : decode cX11_mean 55 = .ok (.iload_n 2, 1) := by decide +kernel
theorem dX11_mean_56 : decode cX11_mean 56 = .ok (.iload_n 3, 1) := by decide +kernel
theorem dX11_mean_57 : decode cX11_mean 57 = .ok (.iload 4, 2) := by decide +kernel
theorem dX11_mean_59 : decode cX11_mean 59 = .ok (.iload 5, 2) := by decide +kernel
theorem dX11_mean_61 : decode cX11_mean 61 = .ok (.invokevirtual 189, 3) := by decide +kernel
theorem dX11_mean_64 : decode cX11_mean 64 = .ok (.aload_n 0, 1) := by decide +kernel
theorem dX11_mean_65 : decode cX11_mean 65 = .ok (.getfield 184, 3) := by decide +kernel
theorem dX11_mean_68 : decode cX11_mean 68 = .ok (.iconst (-1), 1) := by decide +kernel
theorem dX11_mean_69 : decode cX11_mean 69 = .ok (.if_icmp .ne 5, 3) := by decide +kernel
theorem dX11_mean_72 : decode cX11_mean 72 = .ok (.iconst (-1), 1) := by decide +kernel
theorem dX11_mean_73 : decode cX11_mean 73 = .ok (.ireturn, 1) := by decide +kernel
theorem dX11_mean_74 : decode cX11_mean 74 = .ok (.aload_n 0, 1) := by decide +kernel
theorem dX11_mean_75 : decode cX11_mean 75 = .ok (.getfield 181, 3) := by decide +kernel
theorem dX11_mean_78 : decode cX11_mean 78 = .ok (.i2l, 1) := by decide +kernel
theorem dX11_mean_79 : decode cX11_mean 79 = .ok (.iload_n 3, 1) := by decide +kernel
theorem dX11_mean_80 : decode cX11_mean 80 = .ok (.i2l, 1) := by decide +kernel
theorem dX11_mean_81 : decode cX11_mean 81 = .ok (.invokestatic 167, 3) := by decide +kernel
theorem dX11_mean_84 : decode cX11_mean 84 = .ok (.l2i, 1) := by decide +kernel
theorem dX11_mean_85 : decode cX11_mean 85 = .ok (.istore 7, 2) := by decide +kernel
theorem dX11_mean_87 : decode cX11_mean 87 = .ok (.iload 6, 2) := by decide +kernel
theorem dX11_mean_89 : decode cX11_mean 89 = .ok (.ifCond .ne 13, 3) := by decide +kernel
theorem dX11_mean_92 : decode cX11_mean 92 = .ok (.aload_n 0, 1) := by decide +kernel
theorem dX11_mean_93 : decode cX11_mean 93 = .ok (.getfield 181, 3) := by decide +kernel
theorem dX11_mean_96 : decode cX11_mean 96 = .ok (.iload 7, 2) := by decide +kernel
theorem dX11_mean_98 : decode cX11_mean 98 = .ok (.idiv, 1) := by decide +kernel
theorem dX11_mean_99 : decode cX11_mean 99 = .ok (.goto 7, 3) := by decide +kernel
theorem dX11_mean_102 : decode cX11_mean 102 = .ok (.iload_n 3, 1) := by decide +kernel
theorem dX11_mean_103 : decode cX11_mean 103 = .ok (.iload 7, 2) := by decide +kernel
theorem dX11_mean_105 : decode cX11_mean 105 = .ok (.idiv, 1) := by decide +kernel
theorem dX11_mean_106 : decode cX11_mean 106 = .ok (.ireturn, 1) := by decide +kernel
theorem dX11_set_0 : decode cX11_set 0 = .ok (.aload_n 0, 1) := by decide +kernel
theorem dX11_set_1 : decode cX11_set 1 = .ok (.iload_n 1, 1) := by decide +kernel
theorem dX11_set_2 : decode cX11_set 2 = .ok (.invokevirtual 107, 3) := by decide +kernel
theorem dX11_set_5 : decode cX11_set 5 = .ok (.ifCond .eq 17, 3) := by decide +kernel
theorem dX11_set_8 : decode cX11_set 8 = .ok (.iload_n 2, 1) := by decide +kernel
theorem dX11_set_9 : decode cX11_set 9 = .ok (.invokestatic 153, 3) := by decide +kernel
theorem dX11_set_12 : decode cX11_set 12 = .ok (.ifCond .eq 10, 3) := by decide +kernel
theorem dX11_set_15 : decode cX11_set 15 = .ok (.iload_n 3, 1) := by decide +kernel
theorem dX11_set_16 : decode cX11_set 16 = .ok (.invokestatic 153, 3) := by decide +kernel
theorem dX11_set_19 : decode cX11_set 19 = .ok (.ifCond .ne 6, 3) := by decide +kernel
theorem dX11_set_22 : decode cX11_set 22 = .ok (.bipush (-101), 2) := by decide +kernel
theorem dX11_set_24 : decode cX11_set 24 = .ok (.ireturn, 1) := by decide +kernel
theorem dX11_set_25 : decode cX11_set 25 = .ok (.aload_n 0, 1) := by decide +kernel
theorem dX11_set_26 : decode cX11_set 26 = .ok (.getfield 16, 3) := by decide +kernel
theorem dX11_set_29 : decode cX11_set 29 = .ok (.bipush 10, 2) := by decide +kernel
theorem dX11_set_31 : decode cX11_set 31 = .ok (.iload_n 1, 1) := by decide +kernel
theorem dX11_set_32 : decode cX11_set 32 = .ok (.imul, 1) := by decide +kernel
theorem dX11_set_33 : decode cX11_set 33 = .ok (.iaload, 1) := by decide +kernel
theorem dX11_set_34 : decode cX11_set 34 = .ok (.iconst 3, 1) := by decide +kernel
theorem dX11_set_35 : decode cX11_set 35 = .ok (.if_icmp .ne 6, 3) := by decide +kernel
theorem dX11_set_38 : decode cX11_set 38 = .ok (.bipush (-103), 2) := by decide +kernel
theorem dX11_set_40 : decode cX11_set 40 = .ok (.ireturn, 1) := by decide +kernel
theorem dX11_set_41 : decode cX11_set 41 = .ok (.aload_n 0, 1) := by decide +kernel
theorem dX11_set_42 : decode cX11_set 42 = .ok (.getfield 16, 3) := by decide +kernel
theorem dX11_set_45 : decode cX11_set 45 = .ok (.bipush 10, 2) := by decide +kernel
theorem dX11_set_47 : decode cX11_set 47 = .ok (.iload_n 1, 1) := by decide +kernel
theorem dX11_set_48 : decode cX11_set 48 = .ok (.imul, 1) := by decide +kernel
theorem dX11_set_49 : decode cX11_set 49 = .ok (.bipush 8, 2) := by decide +kernel
theorem dX11_set_51 : decode cX11_set 51 = .ok (.iadd, 1) := by decide +kernel
theorem dX11_set_52 : decode cX11_set 52 = .ok (.iaload, 1) := by decide +kernel
theorem dX11_set_53 : decode cX11_set 53 = .ok (.istore 4, 2) := by decide +kernel
theorem dX11_set_55 : decode cX11_set 55 = .ok (.iconst (-1), 1) := by decide +kernel
theorem dX11_set_56 : decode cX11_set 56 = .ok (.istore 5, 2) := by decide +kernel
theorem dX11_set_58 : decode cX11_set 58 = .ok (.ldc 142, 2) := by decide +kernel
theorem dX11_set_60 : decode cX11_set 60 = .ok (.istore 6, 2) := by decide +kernel
theorem dX11_set_62 : decode cX11_set 62 = .ok (.iconst 0, 1) := by decide +kernel
theorem dX11_set_63 : decode cX11_set 63 = .ok (.istore 7, 2) := by decide +kernel
theorem dX11_set_65 : decode cX11_set 65 = .ok (.iload 7, 2) := by decide +kernel
theorem dX11_set_67 : decode cX11_set 67 = .ok (.bipush 10, 2) := by decide +kernel
theorem dX11_set_69 : decode cX11_set 69 = .ok (.if_icmp .ge 85, 3) := by decide +kernel
theorem dX11_set_72 : decode cX11_set 72 = .ok (.aload_n 0, 1) := by decide +kernel
theorem dX11_set_73 : decode cX11_set 73 = .ok (.getfield 16, 3) := by decide +kernel
theorem dX11_set_76 : decode cX11_set 76 = .ok (.bipush 10, 2) := by decide +kernel
theorem dX11_set_78 : decode cX11_set 78 = .ok (.iload_n 1, 1) := by decide +kernel
theorem dX11_set_79 : decode cX11_set 79 = .ok (.imul, 1) := by decide +kernel
theorem dX11_set_80 : decode cX11_set 80 = .ok (.bipush 8, 2) := by decide +kernel
theorem dX11_set_82 : decode cX11_set 82 = .ok (.iadd, 1) := by decide +kernel
theorem dX11_set_83 : decode cX11_set 83 = .ok (.iload 7, 2) := by decide +kernel
theorem dX11_set_85 : decode cX11_set 85 = .ok (.iastore, 1) := by decide +kernel
theorem dX11_set_86 : decode cX11_set 86 = .ok (.aload_n 0, 1) := by decide +kernel
theorem dX11_set_87 : decode cX11_set 87 = .ok (.iload_n 2, 1) := by decide +kernel
theorem dX11_set_88 : decode cX11_set 88 = .ok (.iload_n 3, 1) := by decide +kernel
theorem dX11_set_89 : decode cX11_set 89 = .ok (.bipush 60, 2) := by decide +kernel
theorem dX11_set_91 : decode cX11_set 91 = .ok (.iconst 1, 1) := by decide +kernel
theorem dX11_set_92 : decode cX11_set 92 = .ok (.iconst 1, 1) := by decide +kernel
theorem dX11_set_93 : decode cX11_set 93 = .ok (.invokevirtual 189, 3) := by decide +kernel
theorem dX11_set_96 : decode cX11_set 96 = .ok (.aload_n 0, 1) := by decide +kernel
theorem dX11_set_97 : decode cX11_set 97 = .ok (.getfield 184, 3) := by decide +kernel
theorem dX11_set_100 : decode cX11_set 100 = .ok (.iconst (-1), 1) := by decide +kernel
theorem dX11_set_101 : decode cX11_set 101 = .ok (.if_icmp .ne 9, 3) := by decide +kernel
theorem dX11_set_104 : decode cX11_set 104 = .ok (.sipush 1000, 3) := by decide +kernel
theorem dX11_set_107 : decode cX11_set 107 = .ok (.goto 7, 3) := by decide +kernel
theorem dX11_set_110 : decode cX11_set 110 = .ok (.aload_n 0, 1) := by decide +kernel
theorem dX11_set_111 : decode cX11_set 111 = .ok (.getfield 184, 3) := by decide +kernel
theorem dX11_set_114 : decode cX11_set 114 = .ok (.istore 8, 2) := by decide +kernel
theorem dX11_set_116 : decode cX11_set 116 = .ok (.iload 8, 2) := by decide +kernel
theorem dX11_set_118 : decode cX11_set 118 = .ok (.iload 6, 2) := by decide +kernel
theorem dX11_set_120 : decode cX11_set 120 = .ok (.if_icmp .ge 8, 3) := by decide +kernel
theorem dX11_set_123 : decode cX11_set 123 = .ok (.iload 7, 2) := by decide +kernel
theorem dX11_set_125 : decode cX11_set 125 = .ok (.goto 5, 3) := by decide +kernel
theorem dX11_set_128 : decode cX11_set 128 = .ok (.iload 5, 2) := by decide +kernel
theorem dX11_set_130 : decode cX11_set 130 = .ok (.istore 5, 2) := by decide +kernel
theorem dX11_set_132 : decode cX11_set 132 = .ok (.iload 8, 2) := by decide +kernel
theorem dX11_set_134 : decode cX11_set 134 = .ok (.iload 6, 2) := by decide +kernel
theorem dX11_set_136 : decode cX11_set 136 = .ok (.if_icmp .ge 8, 3) := by decide +kernel
theorem dX11_set_139 : decode cX11_set 139 = .ok (.iload 8, 2) := by decide +kernel
theorem dX11_set_141 : decode cX11_set 141 = .ok (.goto 5, 3) := by decide +kernel
theorem dX11_set_144 : decode cX11_set 144 = .ok (.iload 6, 2) := by decide +kernel
theorem dX11_set_146 : decode cX11_set 146 = .ok (.istore 6, 2) := by decide +kernel
theorem dX11_set_148 : decode cX11_set 148 = .ok (.iinc 7 1, 3) := by decide +kernel
theorem dX11_set_151 : decode cX11_set 151 = .ok (.goto (-86), 3) := by decide +kernel
theorem dX11_set_154 : decode cX11_set 154 = .ok (.aload_n 0, 1) := by decide +kernel
theorem dX11_set_155 : decode cX11_set 155 = .ok (.getfield 16, 3) := by decide +kernel
theorem dX11_set_158 : decode cX11_set 158 = .ok (.bipush 10, 2) := by decide +kernel
theorem dX11_set_160 : decode cX11_set 160 = .ok (.iload_n 1, 1) := by decide +kernel
theorem dX11_set_161 : decode cX11_set 161 = .ok (.imul, 1) := by decide +kernel
theorem dX11_set_162 : decode cX11_set 162 = .ok (.bipush 8, 2) := by decide +kernel
theorem dX11_set_164 : decode cX11_set 164 = .ok (.iadd, 1) := by decide +kernel
theorem dX11_set_165 : decode cX11_set 165 = .ok (.iload 4, 2) := by decide +kernel
theorem dX11_set_167 : decode cX11_set 167 = .ok (.iastore, 1) := by decide +kernel
theorem dX11_set_168 : decode cX11_set 168 = .ok (.iload 5, 2) := by decide +kernel
theorem dX11_set_170 : decode cX11_set 170 = .ok (.ireturn, 1) := by decide +kernel
theorem dX11_comeTo_0 : decode cX11_comeTo 0 = .ok (.aload_n 0, 1) := by decide +kernel
theorem dX11_comeTo_1 : decode cX11_comeTo 1 = .ok (.getfield 31, 3) := by decide +kernel
theorem dX11_comeTo_4 : decode cX11_comeTo 4 = .ok (.iload_n 1, 1) := by decide +kernel
theorem dX11_comeTo_5 : decode cX11_comeTo 5 = .ok (.iaload, 1) := by decide +kernel
theorem dX11_comeTo_6 : decode cX11_comeTo 6 = .ok (.iconst (-1), 1) := by decide +kernel
theorem dX11_comeTo_7 : decode cX11_comeTo 7 = .ok (.if_icmp .ne 37, 3) := by decide +kernel
theorem dX11_comeTo_10 : decode cX11_comeTo 10 = .ok (.aload_n 0, 1) := by decide +kernel
theorem dX11_comeTo_11 : decode cX11_comeTo 11 = .ok (.getfield 31, 3) := by decide +kernel
theorem dX11_comeTo_14 : decode cX11_comeTo 14 = .ok (.iload_n 1, 1) := by decide +kernel
theorem dX11_comeTo_15 : decode cX11_comeTo 15 = .ok (.iload_n 2, 1) := by decide +kernel
theorem dX11_comeTo_16 : decode cX11_comeTo 16 = .ok (.iastore, 1) := by decide +kernel
theorem dX11_comeTo_17 : decode cX11_comeTo 17 = .ok (.aload_n 0, 1) := by decide +kernel
theorem dX11_comeTo_18 : decode cX11_comeTo 18 = .ok (.getfield 34, 3) := by decide +kernel
theorem dX11_comeTo_21 : decode cX11_comeTo 21 = .ok (.iload_n 1, 1) := by decide +kernel
theorem dX11_comeTo_22 : decode cX11_comeTo 22 = .ok (.iload_n 3, 1) := by decide +kernel
theorem dX11_comeTo_23 : decode cX11_comeTo 23 = .ok (.iastore, 1) := by decide +kernel
theorem dX11_comeTo_24 : decode cX11_comeTo 24 = .ok (.aload_n 0, 1) := by decide +kernel
theorem dX11_comeTo_25 : decode cX11_comeTo 25 = .ok (.getfield 37, 3) := by decide +kernel
theorem dX11_comeTo_28 : decode cX11_comeTo 28 = .ok (.aload_n 0, 1) := by decide +kernel
theorem dX11_comeTo_29 : decode cX11_comeTo 29 = .ok (.getfield 193, 3) := by decide +kernel
theorem dX11_comeTo_32 : decode cX11_comeTo 32 = .ok (.iload_n 1, 1) := by decide +kernel
theorem dX11_comeTo_33 : decode cX11_comeTo 33 = .ok (.iastore, 1) := by decide +kernel
theorem dX11_comeTo_34 : decode cX11_comeTo 34 = .ok (.aload_n 0, 1) := by decide +kernel
theorem dX11_comeTo_35 : decode cX11_comeTo 35 = .ok (.dup, 1) := by decide +kernel
theorem dX11_comeTo_36 : decode cX11_comeTo 36 = .ok (.getfield 193, 3) := by decide +kernel
theorem dX11_comeTo_39 : decode cX11_comeTo 39 = .ok (.iconst 1, 1) := by decide +kernel
theorem dX11_comeTo_40 : decode cX11_comeTo 40 = .ok (.iadd, 1) := by decide +kernel
theorem dX11_comeTo_41 : decode cX11_comeTo 41 = .ok (.putfield 193, 3) := by decide +kernel
theorem dX11_comeTo_44 : decode cX11_comeTo 44 = .ok (.return_, 1) := by decide +kernel
theorem dX11_lookOn_0 : decode cX11_lookOn 0 = .ok (.iload_n 1, 1) := by decide +kernel
theorem dX11_lookOn_1 : decode cX11_lookOn 1 = .ok (.bipush 8, 2) := by decide +kernel
theorem dX11_lookOn_3 : decode cX11_lookOn 3 = .ok (.idiv, 1) := by decide +kernel
theorem dX11_lookOn_4 : decode cX11_lookOn 4 = .ok (.istore 6, 2) := by decide +kernel
theorem dX11_lookOn_6 : decode cX11_lookOn 6 = .ok (.iload_n 1, 1) := by decide +kernel
theorem dX11_lookOn_7 : decode cX11_lookOn 7 = .ok (.bipush 8, 2) := by decide +kernel
theorem dX11_lookOn_9 : decode cX11_lookOn 9 = .ok (.irem, 1) := by decide +kernel
theorem dX11_lookOn_10 : decode cX11_lookOn 10 = .ok (.istore 7, 2) := by decide +kernel
theorem dX11_lookOn_12 : decode cX11_lookOn 12 = .ok (.iload 6, 2) := by decide +kernel
theorem dX11_lookOn_14 : decode cX11_lookOn 14 = .ok (.iload_n 3, 1) := by decide +kernel
theorem dX11_lookOn_15 : decode cX11_lookOn 15 = .ok (.if_icmp .ge 13, 3) := by decide +kernel
theorem dX11_lookOn_18 : decode cX11_lookOn 18 = .ok (.aload_n 0, 1) := by decide +kernel
theorem dX11_lookOn_19 : decode cX11_lookOn 19 = .ok (.iload_n 1, 1) := by decide +kernel
theorem dX11_lookOn_20 : decode cX11_lookOn 20 = .ok (.bipush 8, 2) := by decide +kernel
theorem dX11_lookOn_22 : decode cX11_lookOn 22 = .ok (.iadd, 1) := by decide +kernel
theorem dX11_lookOn_23 : decode cX11_lookOn 23 = .ok (.iload_n 1, 1) := by decide +kernel
theorem dX11_lookOn_24 : decode cX11_lookOn 24 = .ok (.iconst 0, 1) := by decide +kernel
theorem dX11_lookOn_25 : decode cX11_lookOn 25 = .ok (.invokevirtual 196, 3) := by decide +kernel
theorem dX11_lookOn_28 : decode cX11_lookOn 28 = .ok (.iload 6, 2) := by decide +kernel
theorem dX11_lookOn_30 : decode cX11_lookOn 30 = .ok (.ifCond .le 25, 3) := by decide +kernel
theorem dX11_lookOn_33 : decode cX11_lookOn 33 = .ok (.aload_n 0, 1) := by decide +kernel
theorem dX11_lookOn_34 : decode cX11_lookOn 34 = .ok (.getfield 22, 3) := by decide +kernel
theorem dX11_lookOn_37 : decode cX11_lookOn 37 = .ok (.iload_n 1, 1) := by decide +kernel
theorem dX11_lookOn_38 : decode cX11_lookOn 38 = .ok (.bipush 8, 2) := by decide +kernel
theorem dX11_lookOn_40 : decode cX11_lookOn 40 = .ok (.isub, 1) := by decide +kernel
theorem dX11_lookOn_41 : decode cX11_lookOn 41 = .ok (.iaload, 1) := by decide +kernel
theorem dX11_lookOn_42 : decode cX11_lookOn 42 = .ok (.ifCond .le 13, 3) := by decide +kernel
theorem dX11_lookOn_45 : decode cX11_lookOn 45 = .ok (.aload_n 0, 1) := by decide +kernel
theorem dX11_lookOn_46 : decode cX11_lookOn 46 = .ok (.iload_n 1, 1) := by decide +kernel
theorem dX11_lookOn_47 : decode cX11_lookOn 47 = .ok (.bipush 8, 2) := by decide +kernel
theorem dX11_lookOn_49 : decode cX11_lookOn 49 = .ok (.isub, 1) := by decide +kernel
theorem dX11_lookOn_50 : decode cX11_lookOn 50 = .ok (.iload_n 1, 1) := by decide +kernel
theorem dX11_lookOn_51 : decode cX11_lookOn 51 = .ok (.iconst 1, 1) := by decide +kernel
theorem dX11_lookOn_52 : decode cX11_lookOn 52 = .ok (.invokevirtual 196, 3) := by decide +kernel
theorem dX11_lookOn_55 : decode cX11_lookOn 55 = .ok (.iconst 0, 1) := by decide +kernel
theorem dX11_lookOn_56 : decode cX11_lookOn 56 = .ok (.istore 8, 2) := by decide +kernel
theorem dX11_lookOn_58 : decode cX11_lookOn 58 = .ok (.iload 8, 2) := by decide +kernel
theorem dX11_lookOn_60 : decode cX11_lookOn 60 = .ok (.aload_n 0, 1) := by decide +kernel
theorem dX11_lookOn_61 : decode cX11_lookOn 61 = .ok (.getfield 104, 3) := by decide +kernel
theorem dX11_lookOn_64 : decode cX11_lookOn 64 = .ok (.if_icmp .ge 290, 3) := by decide +kernel
theorem dX11_lookOn_67 : decode cX11_lookOn 67 = .ok (.aload_n 0, 1) := by decide +kernel
theorem dX11_lookOn_68 : decode cX11_lookOn 68 = .ok (.getfield 16, 3) := by decide +kernel
theorem dX11_lookOn_71 : decode cX11_lookOn 71 = .ok (.bipush 10, 2) := by decide +kernel
theorem dX11_lookOn_73 : decode cX11_lookOn 73 = .ok (.iload 8, 2) := by decide +kernel
theorem dX11_lookOn_75 : decode cX11_lookOn 75 = .ok (.imul, 1) := by decide +kernel
theorem dX11_lookOn_76 : decode cX11_lookOn 76 = .ok (.iconst 1, 1) := by decide +kernel
theorem dX11_lookOn_77 : decode cX11_lookOn 77 = .ok (.iadd, 1) := by decide +kernel
theorem dX11_lookOn_78 : decode cX11_lookOn 78 = .ok (.iaload, 1) := by decide +kernel
theorem dX11_lookOn_79 : decode cX11_lookOn 79 = .ok (.istore 9, 2) := by decide +kernel
theorem dX11_lookOn_81 : decode cX11_lookOn 81 = .ok (.iload 6, 2) := by decide +kernel
theorem dX11_lookOn_83 : decode cX11_lookOn 83 = .ok (.iload 4, 2) := by decide +kernel
theorem dX11_lookOn_85 : decode cX11_lookOn 85 = .ok (.iadd, 1) := by decide +kernel
theorem dX11_lookOn_86 : decode cX11_lookOn 86 = .ok (.iload_n 3, 1) := by decide +kernel
theorem dX11_lookOn_87 : decode cX11_lookOn 87 = .ok (.if_icmp .gt 121, 3) := by decide +kernel
theorem dX11_lookOn_90 : decode cX11_lookOn 90 = .ok (.aload_n 0, 1) := by decide +kernel
theorem dX11_lookOn_91 : decode cX11_lookOn 91 = .ok (.iload 8, 2) := by decide +kernel
theorem dX11_lookOn_93 : decode cX11_lookOn 93 = .ok (.iload_n 2, 1) := by decide +kernel
theorem dX11_lookOn_94 : decode cX11_lookOn 94 = .ok (.iload 6, 2) := by decide +kernel
theorem dX11_lookOn_96 : decode cX11_lookOn 96 = .ok (.iadd, 1) := by decide +kernel
theorem dX11_lookOn_97 : decode cX11_lookOn 97 = .ok (.iload 4, 2) := by decide +kernel
theorem dX11_lookOn_99 : decode cX11_lookOn 99 = .ok (.iload 5, 2) := by decide +kernel
theorem dX11_lookOn_101 : decode cX11_lookOn 101 = .ok (.invokevirtual 143, 3) := by decide +kernel
theorem dX11_lookOn_104 : decode cX11_lookOn 104 = .ok (.ifCond .eq 104, 3) := by decide +kernel
theorem dX11_lookOn_107 : decode cX11_lookOn 107 = .ok (.aload_n 0, 1) := by decide +kernel
theorem dX11_lookOn_108 : decode cX11_lookOn 108 = .ok (.iload 8, 2) := by decide +kernel
theorem dX11_lookOn_110 : decode cX11_lookOn 110 = .ok (.iload_n 2, 1) := by decide +kernel
theorem dX11_lookOn_111 : decode cX11_lookOn 111 = .ok (.iload 6, 2) := by decide +kernel
theorem dX11_lookOn_113 : decode cX11_lookOn 113 = .ok (.iadd, 1) := by decide +kernel
theorem dX11_lookOn_114 : decode cX11_lookOn 114 = .ok (.invokevirtual 134, 3) := by decide +kernel
theorem dX11_lookOn_117 : decode cX11_lookOn 117 = .ok (.istore 10, 2) := by decide +kernel
theorem dX11_lookOn_119 : decode cX11_lookOn 119 = .ok (.iload 7, 2) := by decide +kernel
theorem dX11_lookOn_121 : decode cX11_lookOn 121 = .ok (.iload 9, 2) := by decide +kernel
theorem dX11_lookOn_123 : decode cX11_lookOn 123 = .ok (.if_icmp .ne 40, 3) := by decide +kernel
theorem dX11_lookOn_126 : decode cX11_lookOn 126 = .ok (.aload_n 0, 1) := by decide +kernel
theorem dX11_lookOn_127 : decode cX11_lookOn 127 = .ok (.getfield 25, 3) := by decide +kernel
theorem dX11_lookOn_130 : decode cX11_lookOn 130 = .ok (.bipush 10, 2) := by decide +kernel
theorem dX11_lookOn_132 : decode cX11_lookOn 132 = .ok (.iload 6, 2) := by decide +kernel
theorem dX11_lookOn_134 : decode cX11_lookOn 134 = .ok (.imul, 1) := by decide +kernel
theorem dX11_lookOn_135 : decode cX11_lookOn 135 = .ok (.iload 8, 2) := by decide +kernel
theorem dX11_lookOn_137 : decode cX11_lookOn 137 = .ok (.iadd, 1) := by decide +kernel
theorem dX11_lookOn_138 : decode cX11_lookOn 138 = .ok (.iaload, 1) := by decide +kernel
theorem dX11_lookOn_139 : decode cX11_lookOn 139 = .ok (.ifCond .ne 24, 3) := by decide +kernel
theorem dX11_lookOn_142 : decode cX11_lookOn 142 = .ok (.aload_n 0, 1) := by decide +kernel
theorem dX11_lookOn_143 : decode cX11_lookOn 143 = .ok (.bipush 8, 2) := by decide +kernel
theorem dX11_lookOn_145 : decode cX11_lookOn 145 = .ok (.iload 6, 2) := by decide +kernel
theorem dX11_lookOn_147 : decode cX11_lookOn 147 = .ok (.iload 4, 2) := by decide +kernel
theorem dX11_lookOn_149 : decode cX11_lookOn 149 = .ok (.iadd, 1) := by decide +kernel
theorem dX11_lookOn_150 : decode cX11_lookOn 150 = .ok (.imul, 1) := by decide +kernel
theorem dX11_lookOn_151 : decode cX11_lookOn 151 = .ok (.iload 10, 2) := by decide +kernel
theorem dX11_lookOn_153 : decode cX11_lookOn 153 = .ok (.iadd, 1) := by decide +kernel
theorem dX11_lookOn_154 : decode cX11_lookOn 154 = .ok (.iload_n 1, 1) := by decide +kernel
theorem dX11_lookOn_155 : decode cX11_lookOn 155 = .ok (.bipush 100, 2) := by decide +kernel
theorem dX11_lookOn_157 : decode cX11_lookOn 157 = .ok (.iload 8, 2) := by decide +kernel
theorem dX11_lookOn_159 : decode cX11_lookOn 159 = .ok (.iadd, 1) := by decide +kernel
theorem dX11_lookOn_160 : decode cX11_lookOn 160 = .ok (.invokevirtual 196, 3) := by decide +kernel
theorem dX11_lookOn_163 : decode cX11_lookOn 163 = .ok (.iload 7, 2) := by decide +kernel
theorem dX11_lookOn_165 : decode cX11_lookOn 165 = .ok (.iload 10, 2) := by decide +kernel
theorem dX11_lookOn_167 : decode cX11_lookOn 167 = .ok (.if_icmp .ne 41, 3) := by decide +kernel
theorem dX11_lookOn_170 : decode cX11_lookOn 170 = .ok (.aload_n 0, 1) := by decide +kernel
theorem dX11_lookOn_171 : decode cX11_lookOn 171 = .ok (.getfield 28, 3) := by decide +kernel
theorem dX11_lookOn_174 : decode cX11_lookOn 174 = .ok (.bipush 10, 2) := by decide +kernel
theorem dX11_lookOn_176 : decode cX11_lookOn 176 = .ok (.iload 6, 2) := by decide +kernel
theorem dX11_lookOn_178 : decode cX11_lookOn 178 = .ok (.imul, 1) := by decide +kernel
theorem dX11_lookOn_179 : decode cX11_lookOn 179 = .ok (.iload 8, 2) := by decide +kernel
theorem dX11_lookOn_181 : decode cX11_lookOn 181 = .ok (.iadd, 1) := by decide +kernel
theorem dX11_lookOn_182 : decode cX11_lookOn 182 = .ok (.iaload, 1) := by decide +kernel
theorem dX11_lookOn_183 : decode cX11_lookOn 183 = .ok (.ifCond .ne 25, 3) := by decide +kernel
theorem dX11_lookOn_186 : decode cX11_lookOn 186 = .ok (.aload_n 0, 1) := by decide +kernel
theorem dX11_lookOn_187 : decode cX11_lookOn 187 = .ok (.bipush 8, 2) := by decide +kernel
theorem dX11_lookOn_189 : decode cX11_lookOn 189 = .ok (.iload 6, 2) := by decide +kernel
theorem dX11_lookOn_191 : decode cX11_lookOn 191 = .ok (.iload 4, 2) := by decide +kernel
theorem dX11_lookOn_193 : decode cX11_lookOn 193 = .ok (.iadd, 1) := by decide +kernel
theorem dX11_lookOn_194 : decode cX11_lookOn 194 = .ok (.imul, 1) := by decide +kernel
theorem dX11_lookOn_195 : decode cX11_lookOn 195 = .ok (.iload 9, 2) := by decide +kernel
theorem dX11_lookOn_197 : decode cX11_lookOn 197 = .ok (.iadd, 1) := by decide +kernel
theorem dX11_lookOn_198 : decode cX11_lookOn 198 = .ok (.iload_n 1, 1) := by decide +kernel
theorem dX11_lookOn_199 : decode cX11_lookOn 199 = .ok (.sipush 200, 3) := by decide +kernel
theorem dX11_lookOn_202 : decode cX11_lookOn 202 = .ok (.iload 8, 2) := by decide +kernel
theorem dX11_lookOn_204 : decode cX11_lookOn 204 = .ok (.iadd, 1) := by decide +kernel
theorem dX11_lookOn_205 : decode cX11_lookOn 205 = .ok (.invokevirtual 196, 3) := by decide +kernel
theorem dX11_lookOn_208 : decode cX11_lookOn 208 = .ok (.iload 6, 2) := by decide +kernel
theorem dX11_lookOn_210 : decode cX11_lookOn 210 = .ok (.iload 4, 2) := by decide +kernel
theorem dX11_lookOn_212 : decode cX11_lookOn 212 = .ok (.if_icmp .lt 136, 3) := by decide +kernel
theorem dX11_lookOn_215 : decode cX11_lookOn 215 = .ok (.aload_n 0, 1) := by decide +kernel
theorem dX11_lookOn_216 : decode cX11_lookOn 216 = .ok (.iload 8, 2) := by decide +kernel
theorem dX11_lookOn_218 : decode cX11_lookOn 218 = .ok (.iload_n 2, 1) := by decide +kernel
theorem dX11_lookOn_219 : decode cX11_lookOn 219 = .ok (.iload 6, 2) := by decide +kernel
theorem dX11_lookOn_221 : decode cX11_lookOn 221 = .ok (.iadd, 1) := by decide +kernel
theorem dX11_lookOn_222 : decode cX11_lookOn 222 = .ok (.iload 4, 2) := by decide +kernel
theorem dX11_lookOn_224 : decode cX11_lookOn 224 = .ok (.isub, 1) := by decide +kernel
theorem dX11_lookOn_225 : decode cX11_lookOn 225 = .ok (.iload 4, 2) := by decide +kernel
theorem dX11_lookOn_227 : decode cX11_lookOn 227 = .ok (.iload 5, 2) := by decide +kernel
theorem dX11_lookOn_229 : decode cX11_lookOn 229 = .ok (.invokevirtual 143, 3) := by decide +kernel
theorem dX11_lookOn_232 : decode cX11_lookOn 232 = .ok (.ifCond .eq 116, 3) := by decide +kernel
theorem dX11_lookOn_235 : decode cX11_lookOn 235 = .ok (.aload_n 0, 1) := by decide +kernel
theorem dX11_lookOn_236 : decode cX11_lookOn 236 = .ok (.iload 8, 2) := by decide +kernel
theorem dX11_lookOn_238 : decode cX11_lookOn 238 = .ok (.iload_n 2, 1) := by decide +kernel
theorem dX11_lookOn_239 : decode cX11_lookOn 239 = .ok (.iload 6, 2) := by decide +kernel
theorem dX11_lookOn_241 : decode cX11_lookOn 241 = .ok (.iadd, 1) := by decide +kernel
theorem dX11_lookOn_242 : decode cX11_lookOn 242 = .ok (.iload 4, 2) := by decide +kernel
theorem dX11_lookOn_244 : decode cX11_lookOn 244 = .ok (.isub, 1) := by decide +kernel
theorem dX11_lookOn_245 : decode cX11_lookOn 245 = .ok (.invokevirtual 134, 3) := by decide +kernel
theorem dX11_lookOn_248 : decode cX11_lookOn 248 = .ok (.istore 10, 2) := by decide +kernel
theorem dX11_lookOn_250 : decode cX11_lookOn 250 = .ok (.iload 7, 2) := by decide +kernel
theorem dX11_lookOn_252 : decode cX11_lookOn 252 = .ok (.iload 10, 2) := by decide +kernel
theorem dX11_lookOn_254 : decode cX11_lookOn 254 = .ok (.if_icmp .ne 45, 3) := by decide +kernel
theorem dX11_lookOn_257 : decode cX11_lookOn 257 = .ok (.aload_n 0, 1) := by decide +kernel
theorem dX11_lookOn_258 : decode cX11_lookOn 258 = .ok (.getfield 25, 3) := by decide +kernel
theorem dX11_lookOn_261 : decode cX11_lookOn 261 = .ok (.bipush 10, 2) := by decide +kernel
theorem dX11_lookOn_263 : decode cX11_lookOn 263 = .ok (.iload 6, 2) := by decide +kernel
theorem dX11_lookOn_265 : decode cX11_lookOn 265 = .ok (.iload 4, 2) := by decide +kernel
theorem dX11_lookOn_267 : decode cX11_lookOn 267 = .ok (.isub, 1) := by decide +kernel
theorem dX11_lookOn_268 : decode cX11_lookOn 268 = .ok (.imul, 1) := by decide +kernel
theorem dX11_lookOn_269 : decode cX11_lookOn 269 = .ok (.iload 8, 2) := by decide +kernel
theorem dX11_lookOn_271 : decode cX11_lookOn 271 = .ok (.iadd, 1) := by decide +kernel
theorem dX11_lookOn_272 : decode cX11_lookOn 272 = .ok (.iaload, 1) := by decide +kernel
theorem dX11_lookOn_273 : decode cX11_lookOn 273 = .ok (.iconst 1, 1) := by decide +kernel
theorem dX11_lookOn_274 : decode cX11_lookOn 274 = .ok (.if_icmp .ne 25, 3) := by decide +kernel
theorem dX11_lookOn_277 : decode cX11_lookOn 277 = .ok (.aload_n 0, 1) := by decide +kernel
theorem dX11_lookOn_278 : decode cX11_lookOn 278 = .ok (.bipush 8, 2) := by decide +kernel
theorem dX11_lookOn_280 : decode cX11_lookOn 280 = .ok (.iload 6, 2) := by decide +kernel
theorem dX11_lookOn_282 : decode cX11_lookOn 282 = .ok (.iload 4, 2) := by decide +kernel
theorem dX11_lookOn_284 : decode cX11_lookOn 284 = .ok (.isub, 1) := by decide +kernel
theorem dX11_lookOn_285 : decode cX11_lookOn 285 = .ok (.imul, 1) := by decide +kernel
theorem dX11_lookOn_286 : decode cX11_lookOn 286 = .ok (.iload 9, 2) := by decide +kernel
theorem dX11_lookOn_288 : decode cX11_lookOn 288 = .ok (.iadd, 1) := by decide +kernel
theorem dX11_lookOn_289 : decode cX11_lookOn 289 = .ok (.iload_n 1, 1) := by decide +kernel
theorem dX11_lookOn_290 : decode cX11_lookOn 290 = .ok (.sipush 300, 3) := by decide +kernel
theorem dX11_lookOn_293 : decode cX11_lookOn 293 = .ok (.iload 8, 2) := by decide +kernel
theorem dX11_lookOn_295 : decode cX11_lookOn 295 = .ok (.iadd, 1) := by decide +kernel
theorem dX11_lookOn_296 : decode cX11_lookOn 296 = .ok (.invokevirtual 196, 3) := by decide +kernel
theorem dX11_lookOn_299 : decode cX11_lookOn 299 = .ok (.iload 7, 2) := by decide +kernel
theorem dX11_lookOn_301 : decode cX11_lookOn 301 = .ok (.iload 9, 2) := by decide +kernel
theorem dX11_lookOn_303 : decode cX11_lookOn 303 = .ok (.if_icmp .ne 45, 3) := by decide +kernel
theorem dX11_lookOn_306 : decode cX11_lookOn 306 = .ok (.aload_n 0, 1) := by decide +kernel
theorem dX11_lookOn_307 : decode cX11_lookOn 307 = .ok (.getfield 28, 3) := by decide +kernel
theorem dX11_lookOn_310 : decode cX11_lookOn 310 = .ok (.bipush 10, 2) := by decide +kernel
theorem dX11_lookOn_312 : decode cX11_lookOn 312 = .ok (.iload 6, 2) := by decide +kernel
theorem dX11_lookOn_314 : decode cX11_lookOn 314 = .ok (.iload 4, 2) := by decide +kernel
theorem dX11_lookOn_316 : decode cX11_lookOn 316 = .ok (.isub, 1) := by decide +kernel
theorem dX11_lookOn_317 : decode cX11_lookOn 317 = .ok (.imul, 1) := by decide +kernel
theorem dX11_lookOn_318 : decode cX11_lookOn 318 = .ok (.iload 8, 2) := by decide +kernel
theorem dX11_lookOn_320 : decode cX11_lookOn 320 = .ok (.iadd, 1) := by decide +kernel
theorem dX11_lookOn_321 : decode cX11_lookOn 321 = .ok (.iaload, 1) := by decide +kernel
theorem dX11_lookOn_322 : decode cX11_lookOn 322 = .ok (.iconst 1, 1) := by decide +kernel
theorem dX11_lookOn_323 : decode cX11_lookOn 323 = .ok (.if_icmp .ne 25, 3) := by decide +kernel
theorem dX11_lookOn_326 : decode cX11_lookOn 326 = .ok (.aload_n 0, 1) := by decide +kernel
theorem dX11_lookOn_327 : decode cX11_lookOn 327 = .ok (.bipush 8, 2) := by decide +kernel
theorem dX11_lookOn_329 : decode cX11_lookOn 329 = .ok (.iload 6, 2) := by decide +kernel
theorem dX11_lookOn_331 : decode cX11_lookOn 331 = .ok (.iload 4, 2) := by decide +kernel
theorem dX11_lookOn_333 : decode cX11_lookOn 333 = .ok (.isub, 1) := by decide +kernel
theorem dX11_lookOn_334 : decode cX11_lookOn 334 = .ok (.imul, 1) := by decide +kernel
theorem dX11_lookOn_335 : decode cX11_lookOn 335 = .ok (.iload 10, 2) := by decide +kernel
theorem dX11_lookOn_337 : decode cX11_lookOn 337 = .ok (.iadd, 1) := by decide +kernel
theorem dX11_lookOn_338 : decode cX11_lookOn 338 = .ok (.iload_n 1, 1) := by decide +kernel
theorem dX11_lookOn_339 : decode cX11_lookOn 339 = .ok (.sipush 400, 3) := by decide +kernel
theorem dX11_lookOn_342 : decode cX11_lookOn 342 = .ok (.iload 8, 2) := by decide +kernel
theorem dX11_lookOn_344 : decode cX11_lookOn 344 = .ok (.iadd, 1) := by decide +kernel
theorem dX11_lookOn_345 : decode cX11_lookOn 345 = .ok (.invokevirtual 196, 3) := by decide +kernel
theorem dX11_lookOn_348 : decode cX11_lookOn 348 = .ok (.iinc 8 1, 3) := by decide +kernel
theorem dX11_lookOn_351 : decode cX11_lookOn 351 = .ok (.goto (-293), 3) := by decide +kernel
theorem dX11_lookOn_354 : decode cX11_lookOn 354 = .ok (.return_, 1) := by decide +kernel
theorem dX11_takeWay_0 : decode cX11_takeWay 0 = .ok (.iload_n 2, 1) := by decide +kernel
theorem dX11_takeWay_1 : decode cX11_takeWay 1 = .ok (.istore_n 3, 1) := by decide +kernel
theorem dX11_takeWay_2 : decode cX11_takeWay 2 = .ok (.iload_n 3, 1) := by decide +kernel
theorem dX11_takeWay_3 : decode cX11_takeWay 3 = .ok (.iload_n 1, 1) := by decide +kernel
theorem dX11_takeWay_4 : decode cX11_takeWay 4 = .ok (.if_icmp .eq 169, 3) := by decide +kernel
theorem dX11_takeWay_7 : decode cX11_takeWay 7 = .ok (.aload_n 0, 1) := by decide +kernel
theorem dX11_takeWay_8 : decode cX11_takeWay 8 = .ok (.getfield 31, 3) := by decide +kernel
theorem dX11_takeWay_11 : decode cX11_takeWay 11 = .ok (.iload_n 3, 1) := by decide +kernel
theorem dX11_takeWay_12 : decode cX11_takeWay 12 = .ok (.iaload, 1) := by decide +kernel
theorem dX11_takeWay_13 : decode cX11_takeWay 13 = .ok (.istore 4, 2) := by decide +kernel
theorem dX11_takeWay_15 : decode cX11_takeWay 15 = .ok (.aload_n 0, 1) := by decide +kernel
theorem dX11_takeWay_16 : decode cX11_takeWay 16 = .ok (.getfield 34, 3) := by decide +kernel
theorem dX11_takeWay_19 : decode cX11_takeWay 19 = .ok (.iload_n 3, 1) := by decide +kernel
theorem dX11_takeWay_20 : decode cX11_takeWay 20 = .ok (.iaload, 1) := by decide +kernel
theorem dX11_takeWay_21 : decode cX11_takeWay 21 = .ok (.istore 5, 2) := by decide +kernel
theorem dX11_takeWay_23 : decode cX11_takeWay 23 = .ok (.iload 5, 2) := by decide +kernel
theorem dX11_takeWay_25 : decode cX11_takeWay 25 = .ok (.bipush 100, 2) := by decide +kernel
theorem dX11_takeWay_27 : decode cX11_takeWay 27 = .ok (.irem, 1) := by decide +kernel
theorem dX11_takeWay_28 : decode cX11_takeWay 28 = .ok (.istore 6, 2) := by decide +kernel
theorem dX11_takeWay_30 : decode cX11_takeWay 30 = .ok (.iload 5, 2) := by decide +kernel
theorem dX11_takeWay_32 : decode cX11_takeWay 32 = .ok (.ifCond .ne 17, 3) := by decide +kernel
theorem dX11_takeWay_35 : decode cX11_takeWay 35 = .ok (.aload_n 0, 1) := by decide +kernel
theorem dX11_takeWay_36 : decode cX11_takeWay 36 = .ok (.getfield 22, 3) := by decide +kernel
theorem dX11_takeWay_39 : decode cX11_takeWay 39 = .ok (.iload 4, 2) := by decide +kernel
theorem dX11_takeWay_41 : decode cX11_takeWay 41 = .ok (.dup2, 1) := by decide +kernel
theorem dX11_takeWay_42 : decode cX11_takeWay 42 = .ok (.iaload, 1) := by decide +kernel
theorem dX11_takeWay_43 : decode cX11_takeWay 43 = .ok (.iconst 1, 1) := by decide +kernel
theorem dX11_takeWay_44 : decode cX11_takeWay 44 = .ok (.iadd, 1) := by decide +kernel
theorem dX11_takeWay_45 : decode cX11_takeWay 45 = .ok (.iastore, 1) := by decide +kernel
theorem dX11_takeWay_46 : decode cX11_takeWay 46 = .ok (.goto 121, 3) := by decide +kernel
theorem dX11_takeWay_49 : decode cX11_takeWay 49 = .ok (.iload 5, 2) := by decide +kernel
theorem dX11_takeWay_51 : decode cX11_takeWay 51 = .ok (.iconst 1, 1) := by decide +kernel
theorem dX11_takeWay_52 : decode cX11_takeWay 52 = .ok (.if_icmp .ne 16, 3) := by decide +kernel
theorem dX11_takeWay_55 : decode cX11_takeWay 55 = .ok (.aload_n 0, 1) := by decide +kernel
theorem dX11_takeWay_56 : decode cX11_takeWay 56 = .ok (.getfield 22, 3) := by decide +kernel
theorem dX11_takeWay_59 : decode cX11_takeWay 59 = .ok (.iload_n 3, 1) := by decide +kernel
theorem dX11_takeWay_60 : decode cX11_takeWay 60 = .ok (.dup2, 1) := by decide +kernel
theorem dX11_takeWay_61 : decode cX11_takeWay 61 = .ok (.iaload, 1) := by decide +kernel
theorem dX11_takeWay_62 : decode cX11_takeWay 62 = .ok (.iconst 1, 1) := by decide +kernel
theorem dX11_takeWay_63 : decode cX11_takeWay 63 = .ok (.isub, 1) := by decide +kernel
theorem dX11_takeWay_64 : decode cX11_takeWay 64 = .ok (.iastore, 1) := by decide +kernel
theorem dX11_takeWay_65 : decode cX11_takeWay 65 = .ok (.goto 102, 3) := by decide +kernel
theorem dX11_takeWay_68 : decode cX11_takeWay 68 = .ok (.iload 5, 2) := by decide +kernel
theorem dX11_takeWay_70 : decode cX11_takeWay 70 = .ok (.sipush 200, 3) := by decide +kernel
theorem dX11_takeWay_73 : decode cX11_takeWay 73 = .ok (.if_icmp .ge 23, 3) := by decide +kernel
theorem dX11_takeWay_76 : decode cX11_takeWay 76 = .ok (.aload_n 0, 1) := by decide +kernel
theorem dX11_takeWay_77 : decode cX11_takeWay 77 = .ok (.getfield 25, 3) := by decide +kernel
theorem dX11_takeWay_80 : decode cX11_takeWay 80 = .ok (.bipush 10, 2) := by decide +kernel
theorem dX11_takeWay_82 : decode cX11_takeWay 82 = .ok (.iload 4, 2) := by decide +kernel
theorem dX11_takeWay_84 : decode cX11_takeWay 84 = .ok (.bipush 8, 2) := by decide +kernel
theorem dX11_takeWay_86 : decode cX11_takeWay 86 = .ok (.idiv, 1) := by decide +kernel
theorem dX11_takeWay_87 : decode cX11_takeWay 87 = .ok (.imul, 1) := by decide +kernel
theorem dX11_takeWay_88 : decode cX11_takeWay 88 = .ok (.iload 6, 2) := by decide +kernel
theorem dX11_takeWay_90 : decode cX11_takeWay 90 = .ok (.iadd, 1) := by decide +kernel
theorem dX11_takeWay_91 : decode cX11_takeWay 91 = .ok (.iconst 1, 1) := by decide +kernel
theorem dX11_takeWay_92 : decode cX11_takeWay 92 = .ok (.iastore, 1) := by decide +kernel
theorem dX11_takeWay_93 : decode cX11_takeWay 93 = .ok (.goto 74, 3) := by decide +kernel
theorem dX11_takeWay_96 : decode cX11_takeWay 96 = .ok (.iload 5, 2) := by decide +kernel
theorem dX11_takeWay_98 : decode cX11_takeWay 98 = .ok (.sipush 300, 3) := by decide +kernel
theorem dX11_takeWay_101 : decode cX11_takeWay 101 = .ok (.if_icmp .ge 23, 3) := by decide +kernel
theorem dX11_takeWay_104 : decode cX11_takeWay 104 = .ok (.aload_n 0, 1) := by decide +kernel
theorem dX11_takeWay_105 : decode cX11_takeWay 105 = .ok (.getfield 28, 3) := by decide +kernel
theorem dX11_takeWay_108 : decode cX11_takeWay 108 = .ok (.bipush 10, 2) := by decide +kernel
theorem dX11_takeWay_110 : decode cX11_takeWay 110 = .ok (.iload 4, 2) := by decide +kernel
theorem dX11_takeWay_112 : decode cX11_takeWay 112 = .ok (.bipush 8, 2) := by decide +kernel
theorem dX11_takeWay_114 : decode cX11_takeWay 114 = .ok (.idiv, 1) := by decide +kernel
theorem dX11_takeWay_115 : decode cX11_takeWay 115 = .ok (.imul, 1) := by decide +kernel
theorem dX11_takeWay_116 : decode cX11_takeWay 116 = .ok (.iload 6, 2) := by decide +kernel
theorem dX11_takeWay_118 : decode cX11_takeWay 118 = .ok (.iadd, 1) := by decide +kernel
theorem dX11_takeWay_119 : decode cX11_takeWay 119 = .ok (.iconst 1, 1) := by decide +kernel
theorem dX11_takeWay_120 : decode cX11_takeWay 120 = .ok (.iastore, 1) := by decide +kernel
theorem dX11_takeWay_121 : decode cX11_takeWay 121 = .ok (.goto 46, 3) := by decide +kernel
theorem dX11_takeWay_124 : decode cX11_takeWay 124 = .ok (.iload 5, 2) := by decide +kernel
theorem dX11_takeWay_126 : decode cX11_takeWay 126 = .ok (.sipush 400, 3) := by decide +kernel
theorem dX11_takeWay_129 : decode cX11_takeWay 129 = .ok (.if_icmp .ge 22, 3) := by decide +kernel
theorem dX11_takeWay_132 : decode cX11_takeWay 132 = .ok (.aload_n 0, 1) := by decide +kernel
theorem dX11_takeWay_133 : decode cX11_takeWay 133 = .ok (.getfield 25, 3) := by decide +kernel
theorem dX11_takeWay_136 : decode cX11_takeWay 136 = .ok (.bipush 10, 2) := by decide +kernel
theorem dX11_takeWay_138 : decode cX11_takeWay 138 = .ok (.iload_n 3, 1) := by decide +kernel
theorem dX11_takeWay_139 : decode cX11_takeWay 139 = .ok (.bipush 8, 2) := by decide +kernel
theorem dX11_takeWay_141 : decode cX11_takeWay 141 = .ok (.idiv, 1) := by decide +kernel
theorem dX11_takeWay_142 : decode cX11_takeWay 142 = .ok (.imul, 1) := by decide +kernel
theorem dX11_takeWay_143 : decode cX11_takeWay 143 = .ok (.iload 6, 2) := by decide +kernel
theorem dX11_takeWay_145 : decode cX11_takeWay 145 = .ok (.iadd, 1) := by decide +kernel
theorem dX11_takeWay_146 : decode cX11_takeWay 146 = .ok (.iconst 0, 1) := by decide +kernel
theorem dX11_takeWay_147 : decode cX11_takeWay 147 = .ok (.iastore, 1) := by decide +kernel
theorem dX11_takeWay_148 : decode cX11_takeWay 148 = .ok (.goto 19, 3) := by decide +kernel
theorem dX11_takeWay_151 : decode cX11_takeWay 151 = .ok (.aload_n 0, 1) := by decide +kernel
theorem dX11_takeWay_152 : decode cX11_takeWay 152 = .ok (.getfield 28, 3) := by decide +kernel
theorem dX11_takeWay_155 : decode cX11_takeWay 155 = .ok (.bipush 10, 2) := by decide +kernel
theorem dX11_takeWay_157 : decode cX11_takeWay 157 = .ok (.iload_n 3, 1) := by decide +kernel
theorem dX11_takeWay_158 : decode cX11_takeWay 158 = .ok (.bipush 8, 2) := by decide +kernel
theorem dX11_takeWay_160 : decode cX11_takeWay 160 = .ok (.idiv, 1) := by decide +kernel
theorem dX11_takeWay_161 : decode cX11_takeWay 161 = .ok (.imul, 1) := by decide +kernel
theorem dX11_takeWay_162 : decode cX11_takeWay 162 = .ok (.iload 6, 2) := by decide +kernel
theorem dX11_takeWay_164 : decode cX11_takeWay 164 = .ok (.iadd, 1) := by decide +kernel
theorem dX11_takeWay_165 : decode cX11_takeWay 165 = .ok (.iconst 0, 1) := by decide +kernel
theorem dX11_takeWay_166 : decode cX11_takeWay 166 = .ok (.iastore, 1) := by decide +kernel
theorem dX11_takeWay_167 : decode cX11_takeWay 167 = .ok (.iload 4, 2) := by decide +kernel
theorem dX11_takeWay_169 : decode cX11_takeWay 169 = .ok (.istore_n 3, 1) := by decide +kernel
theorem dX11_takeWay_170 : decode cX11_takeWay 170 = .ok (.goto (-168), 3) := by decide +kernel
theorem dX11_takeWay_173 : decode cX11_takeWay 173 = .ok (.return_, 1) := by decide +kernel
theorem dX11_oneMore_0 : decode cX11_oneMore 0 = .ok (.iconst 0, 1) := by decide +kernel
theorem dX11_oneMore_1 : decode cX11_oneMore 1 = .ok (.istore 7, 2) := by decide +kernel
theorem dX11_oneMore_3 : decode cX11_oneMore 3 = .ok (.iload 7, 2) := by decide +kernel
theorem dX11_oneMore_5 : decode cX11_oneMore 5 = .ok (.sipush 488, 3) := by decide +kernel
theorem dX11_oneMore_8 : decode cX11_oneMore 8 = .ok (.if_icmp .ge 17, 3) := by decide +kernel
theorem dX11_oneMore_11 : decode cX11_oneMore 11 = .ok (.aload_n 0, 1) := by decide +kernel
theorem dX11_oneMore_12 : decode cX11_oneMore 12 = .ok (.getfield 31, 3) := by decide +kernel
theorem dX11_oneMore_15 : decode cX11_oneMore 15 = .ok (.iload 7, 2) := by decide +kernel
theorem dX11_oneMore_17 : decode cX11_oneMore 17 = .ok (.iconst (-1), 1) := by decide +kernel
theorem dX11_oneMore_18 : decode cX11_oneMore 18 = .ok (.iastore, 1) := by decide +kernel
theorem dX11_oneMore_19 : decode cX11_oneMore 19 = .ok (.iinc 7 1, 3) := by decide +kernel
theorem dX11_oneMore_22 : decode cX11_oneMore 22 = .ok (.goto (-19), 3) := by decide +kernel
theorem dX11_oneMore_25 : decode cX11_oneMore 25 = .ok (.aload_n 0, 1) := by decide +kernel
theorem dX11_oneMore_26 : decode cX11_oneMore 26 = .ok (.iconst 0, 1) := by decide +kernel
theorem dX11_oneMore_27 : decode cX11_oneMore 27 = .ok (.putfield 193, 3) := by decide +kernel
theorem dX11_oneMore_30 : decode cX11_oneMore 30 = .ok (.bipush 8, 2) := by decide +kernel
theorem dX11_oneMore_32 : decode cX11_oneMore 32 = .ok (.iload 4, 2) := by decide +kernel
theorem dX11_oneMore_34 : decode cX11_oneMore 34 = .ok (.imul, 1) := by decide +kernel
theorem dX11_oneMore_35 : decode cX11_oneMore 35 = .ok (.iload_n 2, 1) := by decide +kernel
theorem dX11_oneMore_36 : decode cX11_oneMore 36 = .ok (.iadd, 1) := by decide +kernel
theorem dX11_oneMore_37 : decode cX11_oneMore 37 = .ok (.istore 7, 2) := by decide +kernel
theorem dX11_oneMore_39 : decode cX11_oneMore 39 = .ok (.aload_n 0, 1) := by decide +kernel
theorem dX11_oneMore_40 : decode cX11_oneMore 40 = .ok (.iload_n 1, 1) := by decide +kernel
theorem dX11_oneMore_41 : decode cX11_oneMore 41 = .ok (.iload_n 1, 1) := by decide +kernel
theorem dX11_oneMore_42 : decode cX11_oneMore 42 = .ok (.iconst 0, 1) := by decide +kernel
theorem dX11_oneMore_43 : decode cX11_oneMore 43 = .ok (.invokevirtual 196, 3) := by decide +kernel
theorem dX11_oneMore_46 : decode cX11_oneMore 46 = .ok (.iconst 0, 1) := by decide +kernel
theorem dX11_oneMore_47 : decode cX11_oneMore 47 = .ok (.istore 8, 2) := by decide +kernel
theorem dX11_oneMore_49 : decode cX11_oneMore 49 = .ok (.iload 8, 2) := by decide +kernel
theorem dX11_oneMore_51 : decode cX11_oneMore 51 = .ok (.aload_n 0, 1) := by decide +kernel
theorem dX11_oneMore_52 : decode cX11_oneMore 52 = .ok (.getfield 193, 3) := by decide +kernel
theorem dX11_oneMore_55 : decode cX11_oneMore 55 = .ok (.if_icmp .ge 38, 3) := by decide +kernel
theorem dX11_oneMore_58 : decode cX11_oneMore 58 = .ok (.aload_n 0, 1) := by decide +kernel
theorem dX11_oneMore_59 : decode cX11_oneMore 59 = .ok (.getfield 31, 3) := by decide +kernel
theorem dX11_oneMore_62 : decode cX11_oneMore 62 = .ok (.iload 7, 2) := by decide +kernel
theorem dX11_oneMore_64 : decode cX11_oneMore 64 = .ok (.iaload, 1) := by decide +kernel
theorem dX11_oneMore_65 : decode cX11_oneMore 65 = .ok (.iconst (-1), 1) := by decide +kernel
theorem dX11_oneMore_66 : decode cX11_oneMore 66 = .ok (.if_icmp .ne 27, 3) := by decide +kernel
theorem dX11_oneMore_69 : decode cX11_oneMore 69 = .ok (.aload_n 0, 1) := by decide +kernel
theorem dX11_oneMore_70 : decode cX11_oneMore 70 = .ok (.aload_n 0, 1) := by decide +kernel
theorem dX11_oneMore_71 : decode cX11_oneMore 71 = .ok (.getfield 37, 3) := by decide +kernel
theorem dX11_oneMore_74 : decode cX11_oneMore 74 = .ok (.iload 8, 2) := by decide +kernel
theorem dX11_oneMore_76 : decode cX11_oneMore 76 = .ok (.iaload, 1) := by decide +kernel
theorem dX11_oneMore_77 : decode cX11_oneMore 77 = .ok (.iload_n 3, 1) := by decide +kernel
theorem dX11_oneMore_78 : decode cX11_oneMore 78 = .ok (.iload 4, 2) := by decide +kernel
theorem dX11_oneMore_80 : decode cX11_oneMore 80 = .ok (.iload 5, 2) := by decide +kernel
theorem dX11_oneMore_82 : decode cX11_oneMore 82 = .ok (.iload 6, 2) := by decide +kernel
theorem dX11_oneMore_84 : decode cX11_oneMore 84 = .ok (.invokevirtual 200, 3) := by decide +kernel
theorem dX11_oneMore_87 : decode cX11_oneMore 87 = .ok (.iinc 8 1, 3) := by decide +kernel
theorem dX11_oneMore_90 : decode cX11_oneMore 90 = .ok (.goto (-41), 3) := by decide +kernel
theorem dX11_oneMore_93 : decode cX11_oneMore 93 = .ok (.aload_n 0, 1) := by decide +kernel
theorem dX11_oneMore_94 : decode cX11_oneMore 94 = .ok (.getfield 31, 3) := by decide +kernel
theorem dX11_oneMore_97 : decode cX11_oneMore 97 = .ok (.iload 7, 2) := by decide +kernel
theorem dX11_oneMore_99 : decode cX11_oneMore 99 = .ok (.iaload, 1) := by decide +kernel
theorem dX11_oneMore_100 : decode cX11_oneMore 100 = .ok (.iconst (-1), 1) := by decide +kernel
theorem dX11_oneMore_101 : decode cX11_oneMore 101 = .ok (.if_icmp .ne 5, 3) := by decide +kernel
theorem dX11_oneMore_104 : decode cX11_oneMore 104 = .ok (.iconst 0, 1) := by decide +kernel
theorem dX11_oneMore_105 : decode cX11_oneMore 105 = .ok (.ireturn, 1) := by decide +kernel
theorem dX11_oneMore_106 : decode cX11_oneMore 106 = .ok (.aload_n 0, 1) := by decide +kernel
theorem dX11_oneMore_107 : decode cX11_oneMore 107 = .ok (.iload_n 1, 1) := by decide +kernel
theorem dX11_oneMore_108 : decode cX11_oneMore 108 = .ok (.iload 7, 2) := by decide +kernel
theorem dX11_oneMore_110 : decode cX11_oneMore 110 = .ok (.invokevirtual 203, 3) := by decide +kernel
theorem dX11_oneMore_113 : decode cX11_oneMore 113 = .ok (.iconst 1, 1) := by decide +kernel
theorem dX11_oneMore_114 : decode cX11_oneMore 114 = .ok (.ireturn, 1) := by decide +kernel
theorem dX11_crowd_0 : decode cX11_crowd 0 = .ok (.iload_n 1, 1) := by decide +kernel
theorem dX11_crowd_1 : decode cX11_crowd 1 = .ok (.invokestatic 153, 3) := by decide +kernel
theorem dX11_crowd_4 : decode cX11_crowd 4 = .ok (.ifCond .eq 10, 3) := by decide +kernel
theorem dX11_crowd_7 : decode cX11_crowd 7 = .ok (.iload_n 2, 1) := by decide +kernel
theorem dX11_crowd_8 : decode cX11_crowd 8 = .ok (.invokestatic 153, 3) := by decide +kernel
theorem dX11_crowd_11 : decode cX11_crowd 11 = .ok (.ifCond .ne 6, 3) := by decide +kernel
theorem dX11_crowd_14 : decode cX11_crowd 14 = .ok (.bipush (-101), 2) := by decide +kernel
theorem dX11_crowd_16 : decode cX11_crowd 16 = .ok (.ireturn, 1) := by decide +kernel
theorem dX11_crowd_17 : decode cX11_crowd 17 = .ok (.iload_n 3, 1) := by decide +kernel
theorem dX11_crowd_18 : decode cX11_crowd 18 = .ok (.invokestatic 156, 3) := by decide +kernel
theorem dX11_crowd_21 : decode cX11_crowd 21 = .ok (.ifCond .eq 29, 3) := by decide +kernel
theorem dX11_crowd_24 : decode cX11_crowd 24 = .ok (.iload 4, 2) := by decide +kernel
theorem dX11_crowd_26 : decode cX11_crowd 26 = .ok (.i2l, 1) := by decide +kernel
theorem dX11_crowd_27 : decode cX11_crowd 27 = .ok (.iload_n 3, 1) := by decide +kernel
theorem dX11_crowd_28 : decode cX11_crowd 28 = .ok (.i2l, 1) := by decide +kernel
theorem dX11_crowd_29 : decode cX11_crowd 29 = .ok (.iload_n 3, 1) := by decide +kernel
theorem dX11_crowd_30 : decode cX11_crowd 30 = .ok (.bipush 60, 2) := by decide +kernel
theorem dX11_crowd_32 : decode cX11_crowd 32 = .ok (.iadd, 1) := by decide +kernel
theorem dX11_crowd_33 : decode cX11_crowd 33 = .ok (.i2l, 1) := by decide +kernel
theorem dX11_crowd_34 : decode cX11_crowd 34 = .ok (.invokestatic 69, 3) := by decide +kernel
theorem dX11_crowd_37 : decode cX11_crowd 37 = .ok (.ifCond .eq 13, 3) := by decide +kernel
theorem dX11_crowd_40 : decode cX11_crowd 40 = .ok (.iload 5, 2) := by decide +kernel
theorem dX11_crowd_42 : decode cX11_crowd 42 = .ok (.iload 6, 2) := by decide +kernel
theorem dX11_crowd_44 : decode cX11_crowd 44 = .ok (.invokestatic 159, 3) := by decide +kernel
theorem dX11_crowd_47 : decode cX11_crowd 47 = .ok (.ifCond .ne 6, 3) := by decide +kernel
theorem dX11_crowd_50 : decode cX11_crowd 50 = .ok (.bipush (-102), 2) := by decide +kernel
theorem dX11_crowd_52 : decode cX11_crowd 52 = .ok (.ireturn, 1) := by decide +kernel
theorem dX11_crowd_53 : decode cX11_crowd 53 = .ok (.iload_n 1, 1) := by decide +kernel
theorem dX11_crowd_54 : decode cX11_crowd 54 = .ok (.iload_n 2, 1) := by decide +kernel
theorem dX11_crowd_55 : decode cX11_crowd 55 = .ok (.if_icmp .ne 6, 3) := by decide +kernel
theorem dX11_crowd_58 : decode cX11_crowd 58 = .ok (.bipush (-103), 2) := by decide +kernel
theorem dX11_crowd_60 : decode cX11_crowd 60 = .ok (.ireturn, 1) := by decide +kernel
theorem dX11_crowd_61 : decode cX11_crowd 61 = .ok (.iconst 0, 1) := by decide +kernel
theorem dX11_crowd_62 : decode cX11_crowd 62 = .ok (.istore 7, 2) := by decide +kernel
theorem dX11_crowd_64 : decode cX11_crowd 64 = .ok (.iload 7, 2) := by decide +kernel
theorem dX11_crowd_66 : decode cX11_crowd 66 = .ok (.sipush 488, 3) := by decide +kernel
theorem dX11_crowd_69 : decode cX11_crowd 69 = .ok (.if_icmp .ge 17, 3) := by decide +kernel
theorem dX11_crowd_72 : decode cX11_crowd 72 = .ok (.aload_n 0, 1) := by decide +kernel
theorem dX11_crowd_73 : decode cX11_crowd 73 = .ok (.getfield 22, 3) := by decide +kernel
theorem dX11_crowd_76 : decode cX11_crowd 76 = .ok (.iload 7, 2) := by decide +kernel
theorem dX11_crowd_78 : decode cX11_crowd 78 = .ok (.iconst 0, 1) := by decide +kernel
theorem dX11_crowd_79 : decode cX11_crowd 79 = .ok (.iastore, 1) := by decide +kernel
theorem dX11_crowd_80 : decode cX11_crowd 80 = .ok (.iinc 7 1, 3) := by decide +kernel
theorem dX11_crowd_83 : decode cX11_crowd 83 = .ok (.goto (-19), 3) := by decide +kernel
theorem dX11_crowd_86 : decode cX11_crowd 86 = .ok (.iconst 0, 1) := by decide +kernel
theorem dX11_crowd_87 : decode cX11_crowd 87 = .ok (.istore 7, 2) := by decide +kernel
theorem dX11_crowd_89 : decode cX11_crowd 89 = .ok (.iload 7, 2) := by decide +kernel
theorem dX11_crowd_91 : decode cX11_crowd 91 = .ok (.sipush 610, 3) := by decide +kernel
theorem dX11_crowd_94 : decode cX11_crowd 94 = .ok (.if_icmp .ge 25, 3) := by decide +kernel
theorem dX11_crowd_97 : decode cX11_crowd 97 = .ok (.aload_n 0, 1) := by decide +kernel
theorem dX11_crowd_98 : decode cX11_crowd 98 = .ok (.getfield 25, 3) := by decide +kernel
theorem dX11_crowd_101 : decode cX11_crowd 101 = .ok (.iload 7, 2) := by decide +kernel
theorem dX11_crowd_103 : decode cX11_crowd 103 = .ok (.iconst 0, 1) := by decide +kernel
theorem dX11_crowd_104 : decode cX11_crowd 104 = .ok (.iastore, 1) := by decide +kernel
theorem dX11_crowd_105 : decode cX11_crowd 105 = .ok (.aload_n 0, 1) := by decide +kernel
theorem dX11_crowd_106 : decode cX11_crowd 106 = .ok (.getfield 28, 3) := by decide +kernel
theorem dX11_crowd_109 : decode cX11_crowd 109 = .ok (.iload 7, 2) := by decide +kernel
theorem dX11_crowd_111 : decode cX11_crowd 111 = .ok (.iconst 0, 1) := by decide +kernel
theorem dX11_crowd_112 : decode cX11_crowd 112 = .ok (.iastore, 1) := by decide +kernel
theorem dX11_crowd_113 : decode cX11_crowd 113 = .ok (.iinc 7 1, 3) := by decide +kernel
theorem dX11_crowd_116 : decode cX11_crowd 116 = .ok (.goto (-27), 3) := by decide +kernel
theorem dX11_crowd_119 : decode cX11_crowd 119 = .ok (.iconst 0, 1) := by decide +kernel
theorem dX11_crowd_120 : decode cX11_crowd 120 = .ok (.istore 7, 2) := by decide +kernel
theorem dX11_crowd_122 : decode cX11_crowd 122 = .ok (.aload_n 0, 1) := by decide +kernel
theorem dX11_crowd_123 : decode cX11_crowd 123 = .ok (.iload_n 1, 1) := by decide +kernel
theorem dX11_crowd_124 : decode cX11_crowd 124 = .ok (.iload_n 2, 1) := by decide +kernel
theorem dX11_crowd_125 : decode cX11_crowd 125 = .ok (.iload_n 3, 1) := by decide +kernel
theorem dX11_crowd_126 : decode cX11_crowd 126 = .ok (.iload 4, 2) := by decide +kernel
theorem dX11_crowd_128 : decode cX11_crowd 128 = .ok (.iload_n 3, 1) := by decide +kernel
theorem dX11_crowd_129 : decode cX11_crowd 129 = .ok (.isub, 1) := by decide +kernel
theorem dX11_crowd_130 : decode cX11_crowd 130 = .ok (.iload 5, 2) := by decide +kernel
theorem dX11_crowd_132 : decode cX11_crowd 132 = .ok (.iload 6, 2) := by decide +kernel
theorem dX11_crowd_134 : decode cX11_crowd 134 = .ok (.invokevirtual 207, 3) := by decide +kernel
theorem dX11_crowd_137 : decode cX11_crowd 137 = .ok (.ifCond .eq 9, 3) := by decide +kernel
theorem dX11_crowd_140 : decode cX11_crowd 140 = .ok (.iinc 7 1, 3) := by decide +kernel
theorem dX11_crowd_143 : decode cX11_crowd 143 = .ok (.goto (-21), 3) := by decide +kernel
theorem dX11_crowd_146 : decode cX11_crowd 146 = .ok (.iload 7, 2) := by decide +kernel
theorem dX11_crowd_148 : decode cX11_crowd 148 = .ok (.ireturn, 1) := by decide +kernel
theorem dX11_stranded_0 : decode cX11_stranded 0 = .ok (.aload_n 0, 1) := by decide +kernel
theorem dX11_stranded_1 : decode cX11_stranded 1 = .ok (.iload_n 1, 1) := by decide +kernel
theorem dX11_stranded_2 : decode cX11_stranded 2 = .ok (.invokevirtual 107, 3) := by decide +kernel
theorem dX11_stranded_5 : decode cX11_stranded 5 = .ok (.ifCond .eq 10, 3) := by decide +kernel
theorem dX11_stranded_8 : decode cX11_stranded 8 = .ok (.iload_n 3, 1) := by decide +kernel
theorem dX11_stranded_9 : decode cX11_stranded 9 = .ok (.invokestatic 153, 3) := by decide +kernel
theorem dX11_stranded_12 : decode cX11_stranded 12 = .ok (.ifCond .ne 6, 3) := by decide +kernel
theorem dX11_stranded_15 : decode cX11_stranded 15 = .ok (.bipush (-101), 2) := by decide +kernel
theorem dX11_stranded_17 : decode cX11_stranded 17 = .ok (.ireturn, 1) := by decide +kernel
theorem dX11_stranded_18 : decode cX11_stranded 18 = .ok (.iload_n 2, 1) := by decide +kernel
theorem dX11_stranded_19 : decode cX11_stranded 19 = .ok (.i2l, 1) := by decide +kernel
theorem dX11_stranded_20 : decode cX11_stranded 20 = .ok (.lconst 0, 1) := by decide +kernel
theorem dX11_stranded_21 : decode cX11_stranded 21 = .ok (.aload_n 0, 1) := by decide +kernel
theorem dX11_stranded_22 : decode cX11_stranded 22 = .ok (.getfield 16, 3) := by decide +kernel
theorem dX11_stranded_25 : decode cX11_stranded 25 = .ok (.bipush 10, 2) := by decide +kernel
theorem dX11_stranded_27 : decode cX11_stranded 27 = .ok (.iload_n 1, 1) := by decide +kernel
theorem dX11_stranded_28 : decode cX11_stranded 28 = .ok (.imul, 1) := by decide +kernel
theorem dX11_stranded_29 : decode cX11_stranded 29 = .ok (.iconst 2, 1) := by decide +kernel
theorem dX11_stranded_30 : decode cX11_stranded 30 = .ok (.iadd, 1) := by decide +kernel
theorem dX11_stranded_31 : decode cX11_stranded 31 = .ok (.iaload, 1) := by decide +kernel
theorem dX11_stranded_32 : decode cX11_stranded 32 = .ok (.iconst 1, 1) := by decide +kernel
theorem dX11_stranded_33 : decode cX11_stranded 33 = .ok (.isub, 1) := by decide +kernel
theorem dX11_stranded_34 : decode cX11_stranded 34 = .ok (.i2l, 1) := by decide +kernel
theorem dX11_stranded_35 : decode cX11_stranded 35 = .ok (.invokestatic 69, 3) := by decide +kernel
theorem dX11_stranded_38 : decode cX11_stranded 38 = .ok (.ifCond .ne 6, 3) := by decide +kernel
theorem dX11_stranded_41 : decode cX11_stranded 41 = .ok (.bipush (-102), 2) := by decide +kernel
theorem dX11_stranded_43 : decode cX11_stranded 43 = .ok (.ireturn, 1) := by decide +kernel
theorem dX11_stranded_44 : decode cX11_stranded 44 = .ok (.aload_n 0, 1) := by decide +kernel
theorem dX11_stranded_45 : decode cX11_stranded 45 = .ok (.iload_n 1, 1) := by decide +kernel
theorem dX11_stranded_46 : decode cX11_stranded 46 = .ok (.putfield 59, 3) := by decide +kernel
theorem dX11_stranded_49 : decode cX11_stranded 49 = .ok (.aload_n 0, 1) := by decide +kernel
theorem dX11_stranded_50 : decode cX11_stranded 50 = .ok (.iload_n 2, 1) := by decide +kernel
theorem dX11_stranded_51 : decode cX11_stranded 51 = .ok (.putfield 128, 3) := by decide +kernel
theorem dX11_stranded_54 : decode cX11_stranded 54 = .ok (.aload_n 0, 1) := by decide +kernel
theorem dX11_stranded_55 : decode cX11_stranded 55 = .ok (.iload_n 3, 1) := by decide +kernel
theorem dX11_stranded_56 : decode cX11_stranded 56 = .ok (.iconst 0, 1) := by decide +kernel
theorem dX11_stranded_57 : decode cX11_stranded 57 = .ok (.iconst 1, 1) := by decide +kernel
theorem dX11_stranded_58 : decode cX11_stranded 58 = .ok (.iconst 1, 1) := by decide +kernel
theorem dX11_stranded_59 : decode cX11_stranded 59 = .ok (.invokevirtual 147, 3) := by decide +kernel
theorem dX11_stranded_62 : decode cX11_stranded 62 = .ok (.aload_n 0, 1) := by decide +kernel
theorem dX11_stranded_63 : decode cX11_stranded 63 = .ok (.iconst (-1), 1) := by decide +kernel
theorem dX11_stranded_64 : decode cX11_stranded 64 = .ok (.putfield 59, 3) := by decide +kernel
theorem dX11_stranded_67 : decode cX11_stranded 67 = .ok (.iconst 0, 1) := by decide +kernel
theorem dX11_stranded_68 : decode cX11_stranded 68 = .ok (.istore 4, 2) := by decide +kernel
theorem dX11_stranded_70 : decode cX11_stranded 70 = .ok (.iconst 0, 1) := by decide +kernel
theorem dX11_stranded_71 : decode cX11_stranded 71 = .ok (.istore 5, 2) := by decide +kernel
theorem dX11_stranded_73 : decode cX11_stranded 73 = .ok (.iload 5, 2) := by decide +kernel
theorem dX11_stranded_75 : decode cX11_stranded 75 = .ok (.bipush 8, 2) := by decide +kernel
theorem dX11_stranded_77 : decode cX11_stranded 77 = .ok (.if_icmp .ge 34, 3) := by decide +kernel
theorem dX11_stranded_80 : decode cX11_stranded 80 = .ok (.iload 4, 2) := by decide +kernel
theorem dX11_stranded_82 : decode cX11_stranded 82 = .ok (.aload_n 0, 1) := by decide +kernel
theorem dX11_stranded_83 : decode cX11_stranded 83 = .ok (.getfield 19, 3) := by decide +kernel
theorem dX11_stranded_86 : decode cX11_stranded 86 = .ok (.iload 5, 2) := by decide +kernel
theorem dX11_stranded_88 : decode cX11_stranded 88 = .ok (.iaload, 1) := by decide +kernel
theorem dX11_stranded_89 : decode cX11_stranded 89 = .ok (.ldc 142, 2) := by decide +kernel
theorem dX11_stranded_91 : decode cX11_stranded 91 = .ok (.if_icmp .ne 10, 3) := by decide +kernel
theorem dX11_stranded_94 : decode cX11_stranded 94 = .ok (.iconst 1, 1) := by decide +kernel
theorem dX11_stranded_95 : decode cX11_stranded 95 = .ok (.iload 5, 2) := by decide +kernel
theorem dX11_stranded_97 : decode cX11_stranded 97 = .ok (.ishl, 1) := by decide +kernel
theorem dX11_stranded_98 : decode cX11_stranded 98 = .ok (.goto 4, 3) := by decide +kernel
theorem dX11_stranded_101 : decode cX11_stranded 101 = .ok (.iconst 0, 1) := by decide +kernel
theorem dX11_stranded_102 : decode cX11_stranded 102 = .ok (.ior, 1) := by decide +kernel
theorem dX11_stranded_103 : decode cX11_stranded 103 = .ok (.istore 4, 2) := by decide +kernel
theorem dX11_stranded_105 : decode cX11_stranded 105 = .ok (.iinc 5 1, 3) := by decide +kernel
theorem dX11_stranded_108 : decode cX11_stranded 108 = .ok (.goto (-35), 3) := by decide +kernel
theorem dX11_stranded_111 : decode cX11_stranded 111 = .ok (.iload 4, 2) := by decide +kernel
theorem dX11_stranded_113 : decode cX11_stranded 113 = .ok (.ireturn, 1) := by decide +kernel
theorem dX11_meeting_0 : decode cX11_meeting 0 = .ok (.iload_n 1, 1) := by decide +kernel
theorem dX11_meeting_1 : decode cX11_meeting 1 = .ok (.invokestatic 153, 3) := by decide +kernel
theorem dX11_meeting_4 : decode cX11_meeting 4 = .ok (.ifCond .eq 10, 3) := by decide +kernel
theorem dX11_meeting_7 : decode cX11_meeting 7 = .ok (.iload_n 2, 1) := by decide +kernel
theorem dX11_meeting_8 : decode cX11_meeting 8 = .ok (.invokestatic 153, 3) := by decide +kernel
theorem dX11_meeting_11 : decode cX11_meeting 11 = .ok (.ifCond .ne 6, 3) := by decide +kernel
theorem dX11_meeting_14 : decode cX11_meeting 14 = .ok (.bipush (-101), 2) := by decide +kernel
theorem dX11_meeting_16 : decode cX11_meeting 16 = .ok (.ireturn, 1) := by decide +kernel
theorem dX11_meeting_17 : decode cX11_meeting 17 = .ok (.iload_n 3, 1) := by decide +kernel
theorem dX11_meeting_18 : decode cX11_meeting 18 = .ok (.invokestatic 156, 3) := by decide +kernel
theorem dX11_meeting_21 : decode cX11_meeting 21 = .ok (.ifCond .eq 24, 3) := by decide +kernel
theorem dX11_meeting_24 : decode cX11_meeting 24 = .ok (.iload 4, 2) := by decide +kernel
theorem dX11_meeting_26 : decode cX11_meeting 26 = .ok (.iload 5, 2) := by decide +kernel
theorem dX11_meeting_28 : decode cX11_meeting 28 = .ok (.invokestatic 159, 3) := by decide +kernel
theorem dX11_meeting_31 : decode cX11_meeting 31 = .ok (.ifCond .eq 14, 3) := by decide +kernel
theorem dX11_meeting_34 : decode cX11_meeting 34 = .ok (.iload 6, 2) := by decide +kernel
theorem dX11_meeting_36 : decode cX11_meeting 36 = .ok (.i2l, 1) := by decide +kernel
theorem dX11_meeting_37 : decode cX11_meeting 37 = .ok (.lconst 0, 1) := by decide +kernel
theorem dX11_meeting_38 : decode cX11_meeting 38 = .ok (.lconst 1, 1) := by decide +kernel
theorem dX11_meeting_39 : decode cX11_meeting 39 = .ok (.invokestatic 69, 3) := by decide +kernel
theorem dX11_meeting_42 : decode cX11_meeting 42 = .ok (.ifCond .ne 6, 3) := by decide +kernel
theorem dX11_meeting_45 : decode cX11_meeting 45 = .ok (.bipush (-102), 2) := by decide +kernel
theorem dX11_meeting_47 : decode cX11_meeting 47 = .ok (.ireturn, 1) := by decide +kernel
theorem dX11_meeting_48 : decode cX11_meeting 48 = .ok (.aload_n 0, 1) := by decide +kernel
theorem dX11_meeting_49 : decode cX11_meeting 49 = .ok (.iload_n 1, 1) := by decide +kernel
theorem dX11_meeting_50 : decode cX11_meeting 50 = .ok (.iload_n 3, 1) := by decide +kernel
theorem dX11_meeting_51 : decode cX11_meeting 51 = .ok (.iload 4, 2) := by decide +kernel
theorem dX11_meeting_53 : decode cX11_meeting 53 = .ok (.iload 5, 2) := by decide +kernel
theorem dX11_meeting_55 : decode cX11_meeting 55 = .ok (.invokevirtual 147, 3) := by decide +kernel
theorem dX11_meeting_58 : decode cX11_meeting 58 = .ok (.iconst 0, 1) := by decide +kernel
theorem dX11_meeting_59 : decode cX11_meeting 59 = .ok (.istore 7, 2) := by decide +kernel
theorem dX11_meeting_61 : decode cX11_meeting 61 = .ok (.iload 7, 2) := by decide +kernel
theorem dX11_meeting_63 : decode cX11_meeting 63 = .ok (.bipush 8, 2) := by decide +kernel
theorem dX11_meeting_65 : decode cX11_meeting 65 = .ok (.if_icmp .ge 23, 3) := by decide +kernel
theorem dX11_meeting_68 : decode cX11_meeting 68 = .ok (.aload_n 0, 1) := by decide +kernel
theorem dX11_meeting_69 : decode cX11_meeting 69 = .ok (.getfield 40, 3) := by decide +kernel
theorem dX11_meeting_72 : decode cX11_meeting 72 = .ok (.iload 7, 2) := by decide +kernel
theorem dX11_meeting_74 : decode cX11_meeting 74 = .ok (.aload_n 0, 1) := by decide +kernel
theorem dX11_meeting_75 : decode cX11_meeting 75 = .ok (.getfield 19, 3) := by decide +kernel
theorem dX11_meeting_78 : decode cX11_meeting 78 = .ok (.iload 7, 2) := by decide +kernel
theorem dX11_meeting_80 : decode cX11_meeting 80 = .ok (.iaload, 1) := by decide +kernel
theorem dX11_meeting_81 : decode cX11_meeting 81 = .ok (.iastore, 1) := by decide +kernel
theorem dX11_meeting_82 : decode cX11_meeting 82 = .ok (.iinc 7 1, 3) := by decide +kernel
theorem dX11_meeting_85 : decode cX11_meeting 85 = .ok (.goto (-24), 3) := by decide +kernel
theorem dX11_meeting_88 : decode cX11_meeting 88 = .ok (.aload_n 0, 1) := by decide +kernel
theorem dX11_meeting_89 : decode cX11_meeting 89 = .ok (.iload_n 2, 1) := by decide +kernel
theorem dX11_meeting_90 : decode cX11_meeting 90 = .ok (.iload_n 3, 1) := by decide +kernel
theorem dX11_meeting_91 : decode cX11_meeting 91 = .ok (.iload 4, 2) := by decide +kernel
theorem dX11_meeting_93 : decode cX11_meeting 93 = .ok (.iload 5, 2) := by decide +kernel
theorem dX11_meeting_95 : decode cX11_meeting 95 = .ok (.invokevirtual 147, 3) := by decide +kernel
theorem dX11_meeting_98 : decode cX11_meeting 98 = .ok (.iconst (-1), 1) := by decide +kernel
theorem dX11_meeting_99 : decode cX11_meeting 99 = .ok (.istore 7, 2) := by decide +kernel
theorem dX11_meeting_101 : decode cX11_meeting 101 = .ok (.ldc 142, 2) := by decide +kernel
theorem dX11_meeting_103 : decode cX11_meeting 103 = .ok (.istore 8, 2) := by decide +kernel
theorem dX11_meeting_105 : decode cX11_meeting 105 = .ok (.iconst 0, 1) := by decide +kernel
theorem dX11_meeting_106 : decode cX11_meeting 106 = .ok (.istore 9, 2) := by decide +kernel
theorem dX11_meeting_108 : decode cX11_meeting 108 = .ok (.iload 9, 2) := by decide +kernel
theorem dX11_meeting_110 : decode cX11_meeting 110 = .ok (.bipush 8, 2) := by decide +kernel
theorem dX11_meeting_112 : decode cX11_meeting 112 = .ok (.if_icmp .ge 77, 3) := by decide +kernel
theorem dX11_meeting_115 : decode cX11_meeting 115 = .ok (.aload_n 0, 1) := by decide +kernel
theorem dX11_meeting_116 : decode cX11_meeting 116 = .ok (.getfield 19, 3) := by decide +kernel
theorem dX11_meeting_119 : decode cX11_meeting 119 = .ok (.iload 9, 2) := by decide +kernel
theorem dX11_meeting_121 : decode cX11_meeting 121 = .ok (.iaload, 1) := by decide +kernel
theorem dX11_meeting_122 : decode cX11_meeting 122 = .ok (.aload_n 0, 1) := by decide +kernel
theorem dX11_meeting_123 : decode cX11_meeting 123 = .ok (.getfield 40, 3) := by decide +kernel
theorem dX11_meeting_126 : decode cX11_meeting 126 = .ok (.iload 9, 2) := by decide +kernel
theorem dX11_meeting_128 : decode cX11_meeting 128 = .ok (.iaload, 1) := by decide +kernel
theorem dX11_meeting_129 : decode cX11_meeting 129 = .ok (.if_icmp .le 13, 3) := by decide +kernel
theorem dX11_meeting_132 : decode cX11_meeting 132 = .ok (.aload_n 0, 1) := by decide +kernel
theorem dX11_meeting_133 : decode cX11_meeting 133 = .ok (.getfield 19, 3) := by decide +kernel
theorem dX11_meeting_136 : decode cX11_meeting 136 = .ok (.iload 9, 2) := by decide +kernel
theorem dX11_meeting_138 : decode cX11_meeting 138 = .ok (.iaload, 1) := by decide +kernel
theorem dX11_meeting_139 : decode cX11_meeting 139 = .ok (.goto 10, 3) := by decide +kernel
theorem dX11_meeting_142 : decode cX11_meeting 142 = .ok (.aload_n 0, 1) := by decide +kernel
theorem dX11_meeting_143 : decode cX11_meeting 143 = .ok (.getfield 40, 3) := by decide +kernel
theorem dX11_meeting_146 : decode cX11_meeting 146 = .ok (.iload 9, 2) := by decide +kernel
theorem dX11_meeting_148 : decode cX11_meeting 148 = .ok (.iaload, 1) := by decide +kernel
theorem dX11_meeting_149 : decode cX11_meeting 149 = .ok (.istore 10, 2) := by decide +kernel
theorem dX11_meeting_151 : decode cX11_meeting 151 = .ok (.iload 10, 2) := by decide +kernel
theorem dX11_meeting_153 : decode cX11_meeting 153 = .ok (.iload 8, 2) := by decide +kernel
theorem dX11_meeting_155 : decode cX11_meeting 155 = .ok (.if_icmp .ge 8, 3) := by decide +kernel
theorem dX11_meeting_158 : decode cX11_meeting 158 = .ok (.iload 9, 2) := by decide +kernel
theorem dX11_meeting_160 : decode cX11_meeting 160 = .ok (.goto 5, 3) := by decide +kernel
theorem dX11_meeting_163 : decode cX11_meeting 163 = .ok (.iload 7, 2) := by decide +kernel
theorem dX11_meeting_165 : decode cX11_meeting 165 = .ok (.istore 7, 2) := by decide +kernel
theorem dX11_meeting_167 : decode cX11_meeting 167 = .ok (.iload 10, 2) := by decide +kernel
theorem dX11_meeting_169 : decode cX11_meeting 169 = .ok (.iload 8, 2) := by decide +kernel
theorem dX11_meeting_171 : decode cX11_meeting 171 = .ok (.if_icmp .ge 8, 3) := by decide +kernel
theorem dX11_meeting_174 : decode cX11_meeting 174 = .ok (.iload 10, 2) := by decide +kernel
theorem dX11_meeting_176 : decode cX11_meeting 176 = .ok (.goto 5, 3) := by decide +kernel
theorem dX11_meeting_179 : decode cX11_meeting 179 = .ok (.iload 8, 2) := by decide +kernel
theorem dX11_meeting_181 : decode cX11_meeting 181 = .ok (.istore 8, 2) := by decide +kernel
theorem dX11_meeting_183 : decode cX11_meeting 183 = .ok (.iinc 9 1, 3) := by decide +kernel
theorem dX11_meeting_186 : decode cX11_meeting 186 = .ok (.goto (-78), 3) := by decide +kernel
theorem dX11_meeting_189 : decode cX11_meeting 189 = .ok (.iload 7, 2) := by decide +kernel
theorem dX11_meeting_191 : decode cX11_meeting 191 = .ok (.iconst (-1), 1) := by decide +kernel
theorem dX11_meeting_192 : decode cX11_meeting 192 = .ok (.if_icmp .eq 8, 3) := by decide +kernel
theorem dX11_meeting_195 : decode cX11_meeting 195 = .ok (.iload 6, 2) := by decide +kernel
theorem dX11_meeting_197 : decode cX11_meeting 197 = .ok (.ifCond .ne 8, 3) := by decide +kernel
theorem dX11_meeting_200 : decode cX11_meeting 200 = .ok (.iload 7, 2) := by decide +kernel
theorem dX11_meeting_202 : decode cX11_meeting 202 = .ok (.goto 5, 3) := by decide +kernel
theorem dX11_meeting_205 : decode cX11_meeting 205 = .ok (.iload 8, 2) := by decide +kernel
theorem dX11_meeting_207 : decode cX11_meeting 207 = .ok (.ireturn, 1) := by decide +kernel
theorem dX11_note_0 : decode cX11_note 0 = .ok (.iload_n 1, 1) := by decide +kernel
theorem dX11_note_1 : decode cX11_note 1 = .ok (.invokestatic 153, 3) := by decide +kernel
theorem dX11_note_4 : decode cX11_note 4 = .ok (.ifCond .eq 10, 3) := by decide +kernel
theorem dX11_note_7 : decode cX11_note 7 = .ok (.iload_n 3, 1) := by decide +kernel
theorem dX11_note_8 : decode cX11_note 8 = .ok (.invokestatic 153, 3) := by decide +kernel
theorem dX11_note_11 : decode cX11_note 11 = .ok (.ifCond .ne 6, 3) := by decide +kernel
theorem dX11_note_14 : decode cX11_note 14 = .ok (.bipush (-101), 2) := by decide +kernel
theorem dX11_note_16 : decode cX11_note 16 = .ok (.ireturn, 1) := by decide +kernel
theorem dX11_note_17 : decode cX11_note 17 = .ok (.iload_n 2, 1) := by decide +kernel
theorem dX11_note_18 : decode cX11_note 18 = .ok (.i2l, 1) := by decide +kernel
theorem dX11_note_19 : decode cX11_note 19 = .ok (.lconst 0, 1) := by decide +kernel
theorem dX11_note_20 : decode cX11_note 20 = .ok (.ldc2_w 211, 3) := by decide +kernel
theorem dX11_note_23 : decode cX11_note 23 = .ok (.invokestatic 69, 3) := by decide +kernel
theorem dX11_note_26 : decode cX11_note 26 = .ok (.ifCond .eq 20, 3) := by decide +kernel
theorem dX11_note_29 : decode cX11_note 29 = .ok (.iload 4, 2) := by decide +kernel
theorem dX11_note_31 : decode cX11_note 31 = .ok (.i2l, 1) := by decide +kernel
theorem dX11_note_32 : decode cX11_note 32 = .ok (.iload_n 2, 1) := by decide +kernel
theorem dX11_note_33 : decode cX11_note 33 = .ok (.i2l, 1) := by decide +kernel
theorem dX11_note_34 : decode cX11_note 34 = .ok (.iload_n 2, 1) := by decide +kernel
theorem dX11_note_35 : decode cX11_note 35 = .ok (.sipush 400, 3) := by decide +kernel
theorem dX11_note_38 : decode cX11_note 38 = .ok (.iadd, 1) := by decide +kernel
theorem dX11_note_39 : decode cX11_note 39 = .ok (.i2l, 1) := by decide +kernel
theorem dX11_note_40 : decode cX11_note 40 = .ok (.invokestatic 69, 3) := by decide +kernel
theorem dX11_note_43 : decode cX11_note 43 = .ok (.ifCond .ne 6, 3) := by decide +kernel
theorem dX11_note_46 : decode cX11_note 46 = .ok (.bipush (-102), 2) := by decide +kernel
theorem dX11_note_48 : decode cX11_note 48 = .ok (.ireturn, 1) := by decide +kernel
theorem dX11_note_49 : decode cX11_note 49 = .ok (.aload_n 0, 1) := by decide +kernel
theorem dX11_note_50 : decode cX11_note 50 = .ok (.getfield 213, 3) := by decide +kernel
theorem dX11_note_53 : decode cX11_note 53 = .ok (.bipush 6, 2) := by decide +kernel
theorem dX11_note_55 : decode cX11_note 55 = .ok (.if_icmp .ne 6, 3) := by decide +kernel
theorem dX11_note_58 : decode cX11_note 58 = .ok (.bipush (-104), 2) := by decide +kernel
theorem dX11_note_60 : decode cX11_note 60 = .ok (.ireturn, 1) := by decide +kernel
theorem dX11_note_61 : decode cX11_note 61 = .ok (.aload_n 0, 1) := by decide +kernel
theorem dX11_note_62 : decode cX11_note 62 = .ok (.getfield 43, 3) := by decide +kernel
theorem dX11_note_65 : decode cX11_note 65 = .ok (.iconst 4, 1) := by decide +kernel
theorem dX11_note_66 : decode cX11_note 66 = .ok (.aload_n 0, 1) := by decide +kernel
theorem dX11_note_67 : decode cX11_note 67 = .ok (.getfield 213, 3) := by decide +kernel
theorem dX11_note_70 : decode cX11_note 70 = .ok (.imul, 1) := by decide +kernel
theorem dX11_note_71 : decode cX11_note 71 = .ok (.iload_n 1, 1) := by decide +kernel
theorem dX11_note_72 : decode cX11_note 72 = .ok (.iastore, 1) := by decide +kernel
theorem dX11_note_73 : decode cX11_note 73 = .ok (.aload_n 0, 1) := by decide +kernel
theorem dX11_note_74 : decode cX11_note 74 = .ok (.getfield 43, 3) := by decide +kernel
theorem dX11_note_77 : decode cX11_note 77 = .ok (.iconst 4, 1) := by decide +kernel
theorem dX11_note_78 : decode cX11_note 78 = .ok (.aload_n 0, 1) := by decide +kernel
theorem dX11_note_79 : decode cX11_note 79 = .ok (.getfield 213, 3) := by decide +kernel
theorem dX11_note_82 : decode cX11_note 82 = .ok (.imul, 1) := by decide +kernel
theorem dX11_note_83 : decode cX11_note 83 = .ok (.iconst 1, 1) := by decide +kernel
theorem dX11_note_84 : decode cX11_note 84 = .ok (.iadd, 1) := by decide +kernel
theorem dX11_note_85 : decode cX11_note 85 = .ok (.iload_n 2, 1) := by decide +kernel
theorem dX11_note_86 : decode cX11_note 86 = .ok (.iastore, 1) := by decide +kernel
theorem dX11_note_87 : decode cX11_note 87 = .ok (.aload_n 0, 1) := by decide +kernel
theorem dX11_note_88 : decode cX11_note 88 = .ok (.getfield 43, 3) := by decide +kernel
theorem dX11_note_91 : decode cX11_note 91 = .ok (.iconst 4, 1) := by decide +kernel
theorem dX11_note_92 : decode cX11_note 92 = .ok (.aload_n 0, 1) := by decide +kernel
theorem dX11_note_93 : decode cX11_note 93 = .ok (.getfield 213, 3) := by decide +kernel
theorem dX11_note_96 : decode cX11_note 96 = .ok (.imul, 1) := by decide +kernel
theorem dX11_note_97 : decode cX11_note 97 = .ok (.iconst 2, 1) := by decide +kernel
theorem dX11_note_98 : decode cX11_note 98 = .ok (.iadd, 1) := by decide +kernel
theorem dX11_note_99 : decode cX11_note 99 = .ok (.iload_n 3, 1) := by decide +kernel
theorem dX11_note_100 : decode cX11_note 100 = .ok (.iastore, 1) := by decide +kernel
theorem dX11_note_101 : decode cX11_note 101 = .ok (.aload_n 0, 1) := by decide +kernel
theorem dX11_note_102 : decode cX11_note 102 = .ok (.getfield 43, 3) := by decide +kernel
theorem dX11_note_105 : decode cX11_note 105 = .ok (.iconst 4, 1) := by decide +kernel
theorem dX11_note_106 : decode cX11_note 106 = .ok (.aload_n 0, 1) := by decide +kernel
theorem dX11_note_107 : decode cX11_note 107 = .ok (.getfield 213, 3) := by decide +kernel
theorem dX11_note_110 : decode cX11_note 110 = .ok (.imul, 1) := by decide +kernel
theorem dX11_note_111 : decode cX11_note 111 = .ok (.iconst 3, 1) := by decide +kernel
theorem dX11_note_112 : decode cX11_note 112 = .ok (.iadd, 1) := by decide +kernel
theorem dX11_note_113 : decode cX11_note 113 = .ok (.iload 4, 2) := by decide +kernel
theorem dX11_note_115 : decode cX11_note 115 = .ok (.iastore, 1) := by decide +kernel
theorem dX11_note_116 : decode cX11_note 116 = .ok (.aload_n 0, 1) := by decide +kernel
theorem dX11_note_117 : decode cX11_note 117 = .ok (.dup, 1) := by decide +kernel
theorem dX11_note_118 : decode cX11_note 118 = .ok (.getfield 213, 3) := by decide +kernel
theorem dX11_note_121 : decode cX11_note 121 = .ok (.iconst 1, 1) := by decide +kernel
theorem dX11_note_122 : decode cX11_note 122 = .ok (.iadd, 1) := by decide +kernel
theorem dX11_note_123 : decode cX11_note 123 = .ok (.putfield 213, 3) := by decide +kernel
theorem dX11_note_126 : decode cX11_note 126 = .ok (.aload_n 0, 1) := by decide +kernel
theorem dX11_note_127 : decode cX11_note 127 = .ok (.getfield 213, 3) := by decide +kernel
theorem dX11_note_130 : decode cX11_note 130 = .ok (.ireturn, 1) := by decide +kernel
theorem dX11_forget_0 : decode cX11_forget 0 = .ok (.aload_n 0, 1) := by decide +kernel
theorem dX11_forget_1 : decode cX11_forget 1 = .ok (.getfield 213, 3) := by decide +kernel
theorem dX11_forget_4 : decode cX11_forget 4 = .ok (.istore_n 1, 1) := by decide +kernel
theorem dX11_forget_5 : decode cX11_forget 5 = .ok (.aload_n 0, 1) := by decide +kernel
theorem dX11_forget_6 : decode cX11_forget 6 = .ok (.iconst 0, 1) := by decide +kernel
theorem dX11_forget_7 : decode cX11_forget 7 = .ok (.putfield 213, 3) := by decide +kernel
theorem dX11_forget_10 : decode cX11_forget 10 = .ok (.iload_n 1, 1) := by decide +kernel
theorem dX11_forget_11 : decode cX11_forget 11 = .ok (.ireturn, 1) := by decide +kernel
theorem dX11_areSo_0 : decode cX11_areSo 0 = .ok (.iconst 1, 1) := by decide +kernel
theorem dX11_areSo_1 : decode cX11_areSo 1 = .ok (.istore_n 1, 1) := by decide +kernel
theorem dX11_areSo_2 : decode cX11_areSo 2 = .ok (.iconst 0, 1) := by decide +kernel
theorem dX11_areSo_3 : decode cX11_areSo 3 = .ok (.istore_n 2, 1) := by decide +kernel
theorem dX11_areSo_4 : decode cX11_areSo 4 = .ok (.iload_n 2, 1) := by decide +kernel
theorem dX11_areSo_5 : decode cX11_areSo 5 = .ok (.aload_n 0, 1) := by decide +kernel
theorem dX11_areSo_6 : decode cX11_areSo 6 = .ok (.getfield 213, 3) := by decide +kernel
theorem dX11_areSo_9 : decode cX11_areSo 9 = .ok (.if_icmp .ge 66, 3) := by decide +kernel
theorem dX11_areSo_12 : decode cX11_areSo 12 = .ok (.iload_n 1, 1) := by decide +kernel
theorem dX11_areSo_13 : decode cX11_areSo 13 = .ok (.ifCond .eq 62, 3) := by decide +kernel
theorem dX11_areSo_16 : decode cX11_areSo 16 = .ok (.aload_n 0, 1) := by decide +kernel
theorem dX11_areSo_17 : decode cX11_areSo 17 = .ok (.aload_n 0, 1) := by decide +kernel
theorem dX11_areSo_18 : decode cX11_areSo 18 = .ok (.getfield 43, 3) := by decide +kernel
theorem dX11_areSo_21 : decode cX11_areSo 21 = .ok (.iconst 4, 1) := by decide +kernel
theorem dX11_areSo_22 : decode cX11_areSo 22 = .ok (.iload_n 2, 1) := by decide +kernel
theorem dX11_areSo_23 : decode cX11_areSo 23 = .ok (.imul, 1) := by decide +kernel
theorem dX11_areSo_24 : decode cX11_areSo 24 = .ok (.iaload, 1) := by decide +kernel
theorem dX11_areSo_25 : decode cX11_areSo 25 = .ok (.aload_n 0, 1) := by decide +kernel
theorem dX11_areSo_26 : decode cX11_areSo 26 = .ok (.getfield 43, 3) := by decide +kernel
theorem dX11_areSo_29 : decode cX11_areSo 29 = .ok (.iconst 4, 1) := by decide +kernel
theorem dX11_areSo_30 : decode cX11_areSo 30 = .ok (.iload_n 2, 1) := by decide +kernel
theorem dX11_areSo_31 : decode cX11_areSo 31 = .ok (.imul, 1) := by decide +kernel
theorem dX11_areSo_32 : decode cX11_areSo 32 = .ok (.iconst 2, 1) := by decide +kernel
theorem dX11_areSo_33 : decode cX11_areSo 33 = .ok (.iadd, 1) := by decide +kernel
theorem dX11_areSo_34 : decode cX11_areSo 34 = .ok (.iaload, 1) := by decide +kernel
theorem dX11_areSo_35 : decode cX11_areSo 35 = .ok (.aload_n 0, 1) := by decide +kernel
theorem dX11_areSo_36 : decode cX11_areSo 36 = .ok (.getfield 43, 3) := by decide +kernel
theorem dX11_areSo_39 : decode cX11_areSo 39 = .ok (.iconst 4, 1) := by decide +kernel
theorem dX11_areSo_40 : decode cX11_areSo 40 = .ok (.iload_n 2, 1) := by decide +kernel
theorem dX11_areSo_41 : decode cX11_areSo 41 = .ok (.imul, 1) := by decide +kernel
theorem dX11_areSo_42 : decode cX11_areSo 42 = .ok (.iconst 1, 1) := by decide +kernel
theorem dX11_areSo_43 : decode cX11_areSo 43 = .ok (.iadd, 1) := by decide +kernel
theorem dX11_areSo_44 : decode cX11_areSo 44 = .ok (.iaload, 1) := by decide +kernel
theorem dX11_areSo_45 : decode cX11_areSo 45 = .ok (.iconst 1, 1) := by decide +kernel
theorem dX11_areSo_46 : decode cX11_areSo 46 = .ok (.iconst 1, 1) := by decide +kernel
theorem dX11_areSo_47 : decode cX11_areSo 47 = .ok (.invokevirtual 163, 3) := by decide +kernel
theorem dX11_areSo_50 : decode cX11_areSo 50 = .ok (.aload_n 0, 1) := by decide +kernel
theorem dX11_areSo_51 : decode cX11_areSo 51 = .ok (.getfield 43, 3) := by decide +kernel
theorem dX11_areSo_54 : decode cX11_areSo 54 = .ok (.iconst 4, 1) := by decide +kernel
theorem dX11_areSo_55 : decode cX11_areSo 55 = .ok (.iload_n 2, 1) := by decide +kernel
theorem dX11_areSo_56 : decode cX11_areSo 56 = .ok (.imul, 1) := by decide +kernel
theorem dX11_areSo_57 : decode cX11_areSo 57 = .ok (.iconst 3, 1) := by decide +kernel
theorem dX11_areSo_58 : decode cX11_areSo 58 = .ok (.iadd, 1) := by decide +kernel
theorem dX11_areSo_59 : decode cX11_areSo 59 = .ok (.iaload, 1) := by decide +kernel
theorem dX11_areSo_60 : decode cX11_areSo 60 = .ok (.if_icmp .ne 7, 3) := by decide +kernel
theorem dX11_areSo_63 : decode cX11_areSo 63 = .ok (.iconst 1, 1) := by decide +kernel
theorem dX11_areSo_64 : decode cX11_areSo 64 = .ok (.goto 4, 3) := by decide +kernel
theorem dX11_areSo_67 : decode cX11_areSo 67 = .ok (.iconst 0, 1) := by decide +kernel
theorem dX11_areSo_68 : decode cX11_areSo 68 = .ok (.istore_n 1, 1) := by decide +kernel
theorem dX11_areSo_69 : decode cX11_areSo 69 = .ok (.iinc 2 1, 3) := by decide +kernel
theorem dX11_areSo_72 : decode cX11_areSo 72 = .ok (.goto (-68), 3) := by decide +kernel
theorem dX11_areSo_75 : decode cX11_areSo 75 = .ok (.iload_n 1, 1) := by decide +kernel
theorem dX11_areSo_76 : decode cX11_areSo 76 = .ok (.ireturn, 1) := by decide +kernel
theorem dX11_lost_0 : decode cX11_lost 0 = .ok (.aload_n 0, 1) := by decide +kernel
theorem dX11_lost_1 : decode cX11_lost 1 = .ok (.iload_n 1, 1) := by decide +kernel
theorem dX11_lost_2 : decode cX11_lost 2 = .ok (.invokevirtual 107, 3) := by decide +kernel
theorem dX11_lost_5 : decode cX11_lost 5 = .ok (.ifCond .ne 6, 3) := by decide +kernel
theorem dX11_lost_8 : decode cX11_lost 8 = .ok (.bipush (-101), 2) := by decide +kernel
theorem dX11_lost_10 : decode cX11_lost 10 = .ok (.ireturn, 1) := by decide +kernel
theorem dX11_lost_11 : decode cX11_lost 11 = .ok (.aload_n 0, 1) := by decide +kernel
theorem dX11_lost_12 : decode cX11_lost 12 = .ok (.getfield 16, 3) := by decide +kernel
theorem dX11_lost_15 : decode cX11_lost 15 = .ok (.bipush 10, 2) := by decide +kernel
theorem dX11_lost_17 : decode cX11_lost 17 = .ok (.iload_n 1, 1) := by decide +kernel
theorem dX11_lost_18 : decode cX11_lost 18 = .ok (.imul, 1) := by decide +kernel
theorem dX11_lost_19 : decode cX11_lost 19 = .ok (.bipush 8, 2) := by decide +kernel
theorem dX11_lost_21 : decode cX11_lost 21 = .ok (.iadd, 1) := by decide +kernel
theorem dX11_lost_22 : decode cX11_lost 22 = .ok (.iaload, 1) := by decide +kernel
theorem dX11_lost_23 : decode cX11_lost 23 = .ok (.istore_n 2, 1) := by decide +kernel
theorem dX11_lost_24 : decode cX11_lost 24 = .ok (.iconst 0, 1) := by decide +kernel
theorem dX11_lost_25 : decode cX11_lost 25 = .ok (.istore_n 3, 1) := by decide +kernel
theorem dX11_lost_26 : decode cX11_lost 26 = .ok (.iconst 0, 1) := by decide +kernel
theorem dX11_lost_27 : decode cX11_lost 27 = .ok (.istore 4, 2) := by decide +kernel
theorem dX11_lost_29 : decode cX11_lost 29 = .ok (.iload 4, 2) := by decide +kernel
theorem dX11_lost_31 : decode cX11_lost 31 = .ok (.bipush 10, 2) := by decide +kernel
theorem dX11_lost_33 : decode cX11_lost 33 = .ok (.if_icmp .ge 61, 3) := by decide +kernel
theorem dX11_lost_36 : decode cX11_lost 36 = .ok (.iload 4, 2) := by decide +kernel
theorem dX11_lost_38 : decode cX11_lost 38 = .ok (.ifCond .eq 16, 3) := by decide +kernel
theorem dX11_lost_41 : decode cX11_lost 41 = .ok (.aload_n 0, 1) := by decide +kernel
theorem dX11_lost_42 : decode cX11_lost 42 = .ok (.getfield 16, 3) := by decide +kernel
theorem dX11_lost_45 : decode cX11_lost 45 = .ok (.bipush 10, 2) := by decide +kernel
theorem dX11_lost_47 : decode cX11_lost 47 = .ok (.iload_n 1, 1) := by decide +kernel
theorem dX11_lost_48 : decode cX11_lost 48 = .ok (.imul, 1) := by decide +kernel
theorem dX11_lost_49 : decode cX11_lost 49 = .ok (.iaload, 1) := by decide +kernel
theorem dX11_lost_50 : decode cX11_lost 50 = .ok (.iconst 3, 1) := by decide +kernel
theorem dX11_lost_51 : decode cX11_lost 51 = .ok (.if_icmp .eq 43, 3) := by decide +kernel
theorem dX11_lost_54 : decode cX11_lost 54 = .ok (.aload_n 0, 1) := by decide +kernel
theorem dX11_lost_55 : decode cX11_lost 55 = .ok (.getfield 16, 3) := by decide +kernel
theorem dX11_lost_58 : decode cX11_lost 58 = .ok (.bipush 10, 2) := by decide +kernel
theorem dX11_lost_60 : decode cX11_lost 60 = .ok (.iload_n 1, 1) := by decide +kernel
theorem dX11_lost_61 : decode cX11_lost 61 = .ok (.imul, 1) := by decide +kernel
theorem dX11_lost_62 : decode cX11_lost 62 = .ok (.bipush 8, 2) := by decide +kernel
theorem dX11_lost_64 : decode cX11_lost 64 = .ok (.iadd, 1) := by decide +kernel
theorem dX11_lost_65 : decode cX11_lost 65 = .ok (.iload_n 2, 1) := by decide +kernel
theorem dX11_lost_66 : decode cX11_lost 66 = .ok (.iload 4, 2) := by decide +kernel
theorem dX11_lost_68 : decode cX11_lost 68 = .ok (.isub, 1) := by decide +kernel
theorem dX11_lost_69 : decode cX11_lost 69 = .ok (.iastore, 1) := by decide +kernel
theorem dX11_lost_70 : decode cX11_lost 70 = .ok (.iload_n 3, 1) := by decide +kernel
theorem dX11_lost_71 : decode cX11_lost 71 = .ok (.aload_n 0, 1) := by decide +kernel
theorem dX11_lost_72 : decode cX11_lost 72 = .ok (.invokevirtual 216, 3) := by decide +kernel
theorem dX11_lost_75 : decode cX11_lost 75 = .ok (.ifCond .eq 10, 3) := by decide +kernel
theorem dX11_lost_78 : decode cX11_lost 78 = .ok (.iconst 1, 1) := by decide +kernel
theorem dX11_lost_79 : decode cX11_lost 79 = .ok (.iload 4, 2) := by decide +kernel
theorem dX11_lost_81 : decode cX11_lost 81 = .ok (.ishl, 1) := by decide +kernel
theorem dX11_lost_82 : decode cX11_lost 82 = .ok (.goto 4, 3) := by decide +kernel
theorem dX11_lost_85 : decode cX11_lost 85 = .ok (.iconst 0, 1) := by decide +kernel
theorem dX11_lost_86 : decode cX11_lost 86 = .ok (.ior, 1) := by decide +kernel
theorem dX11_lost_87 : decode cX11_lost 87 = .ok (.istore_n 3, 1) := by decide +kernel
theorem dX11_lost_88 : decode cX11_lost 88 = .ok (.iinc 4 1, 3) := by decide +kernel
theorem dX11_lost_91 : decode cX11_lost 91 = .ok (.goto (-62), 3) := by decide +kernel
theorem dX11_lost_94 : decode cX11_lost 94 = .ok (.aload_n 0, 1) := by decide +kernel
theorem dX11_lost_95 : decode cX11_lost 95 = .ok (.getfield 16, 3) := by decide +kernel
theorem dX11_lost_98 : decode cX11_lost 98 = .ok (.bipush 10, 2) := by decide +kernel
theorem dX11_lost_100 : decode cX11_lost 100 = .ok (.iload_n 1, 1) := by decide +kernel
theorem dX11_lost_101 : decode cX11_lost 101 = .ok (.imul, 1) := by decide +kernel
theorem dX11_lost_102 : decode cX11_lost 102 = .ok (.bipush 8, 2) := by decide +kernel
theorem dX11_lost_104 : decode cX11_lost 104 = .ok (.iadd, 1) := by decide +kernel
theorem dX11_lost_105 : decode cX11_lost 105 = .ok (.iload_n 2, 1) := by decide +kernel
theorem dX11_lost_106 : decode cX11_lost 106 = .ok (.iastore, 1) := by decide +kernel
theorem dX11_lost_107 : decode cX11_lost 107 = .ok (.iload_n 3, 1) := by decide +kernel
theorem dX11_lost_108 : decode cX11_lost 108 = .ok (.ireturn, 1) := by decide +kernel
theorem dX11_allSoonest_0 : decode cX11_allSoonest 0 = .ok (.iconst 0, 1) := by decide +kernel
theorem dX11_allSoonest_1 : decode cX11_allSoonest 1 = .ok (.istore_n 3, 1) := by decide +kernel
theorem dX11_allSoonest_2 : decode cX11_allSoonest 2 = .ok (.iconst 0, 1) := by decide +kernel
theorem dX11_allSoonest_3 : decode cX11_allSoonest 3 = .ok (.istore 4, 2) := by decide +kernel
theorem dX11_allSoonest_5 : decode cX11_allSoonest 5 = .ok (.iload 4, 2) := by decide +kernel
theorem dX11_allSoonest_7 : decode cX11_allSoonest 7 = .ok (.bipush 8, 2) := by decide +kernel
theorem dX11_allSoonest_9 : decode cX11_allSoonest 9 = .ok (.if_icmp .ge 62, 3) := by decide +kernel
theorem dX11_allSoonest_12 : decode cX11_allSoonest 12 = .ok (.aload_n 0, 1) := by decide +kernel
theorem dX11_allSoonest_13 : decode cX11_allSoonest 13 = .ok (.iload 4, 2) := by decide +kernel
theorem dX11_allSoonest_15 : decode cX11_allSoonest 15 = .ok (.iconst 0, 1) := by decide +kernel
theorem dX11_allSoonest_16 : decode cX11_allSoonest 16 = .ok (.iload_n 1, 1) := by decide +kernel
theorem dX11_allSoonest_17 : decode cX11_allSoonest 17 = .ok (.iload_n 2, 1) := by decide +kernel
theorem dX11_allSoonest_18 : decode cX11_allSoonest 18 = .ok (.invokevirtual 147, 3) := by decide +kernel
theorem dX11_allSoonest_21 : decode cX11_allSoonest 21 = .ok (.iconst 0, 1) := by decide +kernel
theorem dX11_allSoonest_22 : decode cX11_allSoonest 22 = .ok (.istore 5, 2) := by decide +kernel
theorem dX11_allSoonest_24 : decode cX11_allSoonest 24 = .ok (.iload 5, 2) := by decide +kernel
theorem dX11_allSoonest_26 : decode cX11_allSoonest 26 = .ok (.bipush 8, 2) := by decide +kernel
theorem dX11_allSoonest_28 : decode cX11_allSoonest 28 = .ok (.if_icmp .ge 37, 3) := by decide +kernel
theorem dX11_allSoonest_31 : decode cX11_allSoonest 31 = .ok (.iload_n 3, 1) := by decide +kernel
theorem dX11_allSoonest_32 : decode cX11_allSoonest 32 = .ok (.aload_n 0, 1) := by decide +kernel
theorem dX11_allSoonest_33 : decode cX11_allSoonest 33 = .ok (.getfield 19, 3) := by decide +kernel
theorem dX11_allSoonest_36 : decode cX11_allSoonest 36 = .ok (.iload 5, 2) := by decide +kernel
theorem dX11_allSoonest_38 : decode cX11_allSoonest 38 = .ok (.iaload, 1) := by decide +kernel
theorem dX11_allSoonest_39 : decode cX11_allSoonest 39 = .ok (.ldc 142, 2) := by decide +kernel
theorem dX11_allSoonest_41 : decode cX11_allSoonest 41 = .ok (.if_icmp .ne 9, 3) := by decide +kernel
theorem dX11_allSoonest_44 : decode cX11_allSoonest 44 = .ok (.sipush 1000, 3) := by decide +kernel
theorem dX11_allSoonest_47 : decode cX11_allSoonest 47 = .ok (.goto 10, 3) := by decide +kernel
theorem dX11_allSoonest_50 : decode cX11_allSoonest 50 = .ok (.aload_n 0, 1) := by decide +kernel
theorem dX11_allSoonest_51 : decode cX11_allSoonest 51 = .ok (.getfield 19, 3) := by decide +kernel
theorem dX11_allSoonest_54 : decode cX11_allSoonest 54 = .ok (.iload 5, 2) := by decide +kernel
theorem dX11_allSoonest_56 : decode cX11_allSoonest 56 = .ok (.iaload, 1) := by decide +kernel
theorem dX11_allSoonest_57 : decode cX11_allSoonest 57 = .ok (.iadd, 1) := by decide +kernel
theorem dX11_allSoonest_58 : decode cX11_allSoonest 58 = .ok (.istore_n 3, 1) := by decide +kernel
theorem dX11_allSoonest_59 : decode cX11_allSoonest 59 = .ok (.iinc 5 1, 3) := by decide +kernel
theorem dX11_allSoonest_62 : decode cX11_allSoonest 62 = .ok (.goto (-38), 3) := by decide +kernel
theorem dX11_allSoonest_65 : decode cX11_allSoonest 65 = .ok (.iinc 4 1, 3) := by decide +kernel
theorem dX11_allSoonest_68 : decode cX11_allSoonest 68 = .ok (.goto (-63), 3) := by decide +kernel
theorem dX11_allSoonest_71 : decode cX11_allSoonest 71 = .ok (.iload_n 3, 1) := by decide +kernel
theorem dX11_allSoonest_72 : decode cX11_allSoonest 72 = .ok (.ireturn, 1) := by decide +kernel
theorem dX11_worth_0 : decode cX11_worth 0 = .ok (.aload_n 0, 1) := by decide +kernel
theorem dX11_worth_1 : decode cX11_worth 1 = .ok (.iload_n 1, 1) := by decide +kernel
theorem dX11_worth_2 : decode cX11_worth 2 = .ok (.invokevirtual 107, 3) := by decide +kernel
theorem dX11_worth_5 : decode cX11_worth 5 = .ok (.ifCond .ne 6, 3) := by decide +kernel
theorem dX11_worth_8 : decode cX11_worth 8 = .ok (.bipush (-101), 2) := by decide +kernel
theorem dX11_worth_10 : decode cX11_worth 10 = .ok (.ireturn, 1) := by decide +kernel
theorem dX11_worth_11 : decode cX11_worth 11 = .ok (.iload_n 2, 1) := by decide +kernel
theorem dX11_worth_12 : decode cX11_worth 12 = .ok (.iload_n 3, 1) := by decide +kernel
theorem dX11_worth_13 : decode cX11_worth 13 = .ok (.invokestatic 159, 3) := by decide +kernel
theorem dX11_worth_16 : decode cX11_worth 16 = .ok (.ifCond .ne 6, 3) := by decide +kernel
theorem dX11_worth_19 : decode cX11_worth 19 = .ok (.bipush (-102), 2) := by decide +kernel
theorem dX11_worth_21 : decode cX11_worth 21 = .ok (.ireturn, 1) := by decide +kernel
theorem dX11_worth_22 : decode cX11_worth 22 = .ok (.aload_n 0, 1) := by decide +kernel
theorem dX11_worth_23 : decode cX11_worth 23 = .ok (.iload_n 2, 1) := by decide +kernel
theorem dX11_worth_24 : decode cX11_worth 24 = .ok (.iload_n 3, 1) := by decide +kernel
theorem dX11_worth_25 : decode cX11_worth 25 = .ok (.invokevirtual 220, 3) := by decide +kernel
theorem dX11_worth_28 : decode cX11_worth 28 = .ok (.istore 4, 2) := by decide +kernel
theorem dX11_worth_30 : decode cX11_worth 30 = .ok (.aload_n 0, 1) := by decide +kernel
theorem dX11_worth_31 : decode cX11_worth 31 = .ok (.iload_n 1, 1) := by decide +kernel
theorem dX11_worth_32 : decode cX11_worth 32 = .ok (.putfield 56, 3) := by decide +kernel
theorem dX11_worth_35 : decode cX11_worth 35 = .ok (.aload_n 0, 1) := by decide +kernel
theorem dX11_worth_36 : decode cX11_worth 36 = .ok (.iload_n 2, 1) := by decide +kernel
theorem dX11_worth_37 : decode cX11_worth 37 = .ok (.iload_n 3, 1) := by decide +kernel
theorem dX11_worth_38 : decode cX11_worth 38 = .ok (.invokevirtual 220, 3) := by decide +kernel
theorem dX11_worth_41 : decode cX11_worth 41 = .ok (.istore 5, 2) := by decide +kernel
theorem dX11_worth_43 : decode cX11_worth 43 = .ok (.aload_n 0, 1) := by decide +kernel
theorem dX11_worth_44 : decode cX11_worth 44 = .ok (.iconst (-1), 1) := by decide +kernel
theorem dX11_worth_45 : decode cX11_worth 45 = .ok (.putfield 56, 3) := by decide +kernel
theorem dX11_worth_48 : decode cX11_worth 48 = .ok (.iload 5, 2) := by decide +kernel
theorem dX11_worth_50 : decode cX11_worth 50 = .ok (.iload 4, 2) := by decide +kernel
theorem dX11_worth_52 : decode cX11_worth 52 = .ok (.isub, 1) := by decide +kernel
theorem dX11_worth_53 : decode cX11_worth 53 = .ok (.ireturn, 1) := by decide +kernel
theorem dX11_image_0 : decode cX11_image 0 = .ok (.iconst 0, 1) := by decide +kernel
theorem dX11_image_1 : decode cX11_image 1 = .ok (.istore_n 1, 1) := by decide +kernel
theorem dX11_image_2 : decode cX11_image 2 = .ok (.iload_n 1, 1) := by decide +kernel
theorem dX11_image_3 : decode cX11_image 3 = .ok (.aload_n 0, 1) := by decide +kernel
theorem dX11_image_4 : decode cX11_image 4 = .ok (.getfield 104, 3) := by decide +kernel
theorem dX11_image_7 : decode cX11_image 7 = .ok (.if_icmp .ge 27, 3) := by decide +kernel
theorem dX11_image_10 : decode cX11_image 10 = .ok (.aload_n 0, 1) := by decide +kernel
theorem dX11_image_11 : decode cX11_image 11 = .ok (.getfield 46, 3) := by decide +kernel
theorem dX11_image_14 : decode cX11_image 14 = .ok (.iload_n 1, 1) := by decide +kernel
theorem dX11_image_15 : decode cX11_image 15 = .ok (.aload_n 0, 1) := by decide +kernel
theorem dX11_image_16 : decode cX11_image 16 = .ok (.getfield 16, 3) := by decide +kernel
theorem dX11_image_19 : decode cX11_image 19 = .ok (.bipush 10, 2) := by decide +kernel
theorem dX11_image_21 : decode cX11_image 21 = .ok (.iload_n 1, 1) := by decide +kernel
theorem dX11_image_22 : decode cX11_image 22 = .ok (.imul, 1) := by decide +kernel
theorem dX11_image_23 : decode cX11_image 23 = .ok (.bipush 8, 2) := by decide +kernel
theorem dX11_image_25 : decode cX11_image 25 = .ok (.iadd, 1) := by decide +kernel
theorem dX11_image_26 : decode cX11_image 26 = .ok (.iaload, 1) := by decide +kernel
theorem dX11_image_27 : decode cX11_image 27 = .ok (.iastore, 1) := by decide +kernel
theorem dX11_image_28 : decode cX11_image 28 = .ok (.iinc 1 1, 3) := by decide +kernel
theorem dX11_image_31 : decode cX11_image 31 = .ok (.goto (-29), 3) := by decide +kernel
theorem dX11_image_34 : decode cX11_image 34 = .ok (.iconst 0, 1) := by decide +kernel
theorem dX11_image_35 : decode cX11_image 35 = .ok (.istore_n 1, 1) := by decide +kernel
theorem dX11_image_36 : decode cX11_image 36 = .ok (.iload_n 1, 1) := by decide +kernel
theorem dX11_image_37 : decode cX11_image 37 = .ok (.bipush 24, 2) := by decide +kernel
theorem dX11_image_39 : decode cX11_image 39 = .ok (.if_icmp .ge 21, 3) := by decide +kernel
theorem dX11_image_42 : decode cX11_image 42 = .ok (.aload_n 0, 1) := by decide +kernel
theorem dX11_image_43 : decode cX11_image 43 = .ok (.getfield 49, 3) := by decide +kernel
theorem dX11_image_46 : decode cX11_image 46 = .ok (.iload_n 1, 1) := by decide +kernel
theorem dX11_image_47 : decode cX11_image 47 = .ok (.aload_n 0, 1) := by decide +kernel
theorem dX11_image_48 : decode cX11_image 48 = .ok (.getfield 43, 3) := by decide +kernel
theorem dX11_image_51 : decode cX11_image 51 = .ok (.iload_n 1, 1) := by decide +kernel
theorem dX11_image_52 : decode cX11_image 52 = .ok (.iaload, 1) := by decide +kernel
theorem dX11_image_53 : decode cX11_image 53 = .ok (.iastore, 1) := by decide +kernel
theorem dX11_image_54 : decode cX11_image 54 = .ok (.iinc 1 1, 3) := by decide +kernel
theorem dX11_image_57 : decode cX11_image 57 = .ok (.goto (-21), 3) := by decide +kernel
theorem dX11_image_60 : decode cX11_image 60 = .ok (.aload_n 0, 1) := by decide +kernel
theorem dX11_image_61 : decode cX11_image 61 = .ok (.aload_n 0, 1) := by decide +kernel
theorem dX11_image_62 : decode cX11_image 62 = .ok (.getfield 104, 3) := by decide +kernel
theorem dX11_image_65 : decode cX11_image 65 = .ok (.putfield 52, 3) := by decide +kernel
theorem dX11_image_68 : decode cX11_image 68 = .ok (.aload_n 0, 1) := by decide +kernel
theorem dX11_image_69 : decode cX11_image 69 = .ok (.aload_n 0, 1) := by decide +kernel
theorem dX11_image_70 : decode cX11_image 70 = .ok (.getfield 112, 3) := by decide +kernel
theorem dX11_image_73 : decode cX11_image 73 = .ok (.putfield 223, 3) := by decide +kernel
theorem dX11_image_76 : decode cX11_image 76 = .ok (.aload_n 0, 1) := by decide +kernel
theorem dX11_image_77 : decode cX11_image 77 = .ok (.aload_n 0, 1) := by decide +kernel
theorem dX11_image_78 : decode cX11_image 78 = .ok (.getfield 213, 3) := by decide +kernel
theorem dX11_image_81 : decode cX11_image 81 = .ok (.putfield 226, 3) := by decide +kernel
theorem dX11_image_84 : decode cX11_image 84 = .ok (.aload_n 0, 1) := by decide +kernel
theorem dX11_image_85 : decode cX11_image 85 = .ok (.getfield 104, 3) := by decide +kernel
theorem dX11_image_88 : decode cX11_image 88 = .ok (.ireturn, 1) := by decide +kernel
theorem dX11_restore_0 : decode cX11_restore 0 = .ok (.aload_n 0, 1) := by decide +kernel
theorem dX11_restore_1 : decode cX11_restore 1 = .ok (.getfield 52, 3) := by decide +kernel
theorem dX11_restore_4 : decode cX11_restore 4 = .ok (.iconst (-1), 1) := by decide +kernel
theorem dX11_restore_5 : decode cX11_restore 5 = .ok (.if_icmp .ne 6, 3) := by decide +kernel
theorem dX11_restore_8 : decode cX11_restore 8 = .ok (.bipush (-103), 2) := by decide +kernel
theorem dX11_restore_10 : decode cX11_restore 10 = .ok (.ireturn, 1) := by decide +kernel
theorem dX11_restore_11 : decode cX11_restore 11 = .ok (.aload_n 0, 1) := by decide +kernel
theorem dX11_restore_12 : decode cX11_restore 12 = .ok (.aload_n 0, 1) := by decide +kernel
theorem dX11_restore_13 : decode cX11_restore 13 = .ok (.getfield 52, 3) := by decide +kernel
theorem dX11_restore_16 : decode cX11_restore 16 = .ok (.putfield 104, 3) := by decide +kernel
theorem dX11_restore_19 : decode cX11_restore 19 = .ok (.iconst 0, 1) := by decide +kernel
theorem dX11_restore_20 : decode cX11_restore 20 = .ok (.istore_n 1, 1) := by decide +kernel
theorem dX11_restore_21 : decode cX11_restore 21 = .ok (.iload_n 1, 1) := by decide +kernel
theorem dX11_restore_22 : decode cX11_restore 22 = .ok (.aload_n 0, 1) := by decide +kernel
theorem dX11_restore_23 : decode cX11_restore 23 = .ok (.getfield 104, 3) := by decide +kernel
theorem dX11_restore_26 : decode cX11_restore 26 = .ok (.if_icmp .ge 27, 3) := by decide +kernel
theorem dX11_restore_29 : decode cX11_restore 29 = .ok (.aload_n 0, 1) := by decide +kernel
theorem dX11_restore_30 : decode cX11_restore 30 = .ok (.getfield 16, 3) := by decide +kernel
theorem dX11_restore_33 : decode cX11_restore 33 = .ok (.bipush 10, 2) := by decide +kernel
theorem dX11_restore_35 : decode cX11_restore 35 = .ok (.iload_n 1, 1) := by decide +kernel
theorem dX11_restore_36 : decode cX11_restore 36 = .ok (.imul, 1) := by decide +kernel
theorem dX11_restore_37 : decode cX11_restore 37 = .ok (.bipush 8, 2) := by decide +kernel
theorem dX11_restore_39 : decode cX11_restore 39 = .ok (.iadd, 1) := by decide +kernel
theorem dX11_restore_40 : decode cX11_restore 40 = .ok (.aload_n 0, 1) := by decide +kernel
theorem dX11_restore_41 : decode cX11_restore 41 = .ok (.getfield 46, 3) := by decide +kernel
theorem dX11_restore_44 : decode cX11_restore 44 = .ok (.iload_n 1, 1) := by decide +kernel
theorem dX11_restore_45 : decode cX11_restore 45 = .ok (.iaload, 1) := by decide +kernel
theorem dX11_restore_46 : decode cX11_restore 46 = .ok (.iastore, 1) := by decide +kernel
theorem dX11_restore_47 : decode cX11_restore 47 = .ok (.iinc 1 1, 3) := by decide +kernel
theorem dX11_restore_50 : decode cX11_restore 50 = .ok (.goto (-29), 3) := by decide +kernel
theorem dX11_restore_53 : decode cX11_restore 53 = .ok (.iconst 0, 1) := by decide +kernel
theorem dX11_restore_54 : decode cX11_restore 54 = .ok (.istore_n 1, 1) := by decide +kernel
theorem dX11_restore_55 : decode cX11_restore 55 = .ok (.iload_n 1, 1) := by decide +kernel
theorem dX11_restore_56 : decode cX11_restore 56 = .ok (.bipush 24, 2) := by decide +kernel
theorem dX11_restore_58 : decode cX11_restore 58 = .ok (.if_icmp .ge 21, 3) := by decide +kernel
theorem dX11_restore_61 : decode cX11_restore 61 = .ok (.aload_n 0, 1) := by decide +kernel
theorem dX11_restore_62 : decode cX11_restore 62 = .ok (.getfield 43, 3) := by decide +kernel
theorem dX11_restore_65 : decode cX11_restore 65 = .ok (.iload_n 1, 1) := by decide +kernel
theorem dX11_restore_66 : decode cX11_restore 66 = .ok (.aload_n 0, 1) := by decide +kernel
theorem dX11_restore_67 : decode cX11_restore 67 = .ok (.getfield 49, 3) := by decide +kernel
theorem dX11_restore_70 : decode cX11_restore 70 = .ok (.iload_n 1, 1) := by decide +kernel
theorem dX11_restore_71 : decode cX11_restore 71 = .ok (.iaload, 1) := by decide +kernel
theorem dX11_restore_72 : decode cX11_restore 72 = .ok (.iastore, 1) := by decide +kernel
theorem dX11_restore_73 : decode cX11_restore 73 = .ok (.iinc 1 1, 3) := by decide +kernel
theorem dX11_restore_76 : decode cX11_restore 76 = .ok (.goto (-21), 3) := by decide +kernel
theorem dX11_restore_79 : decode cX11_restore 79 = .ok (.aload_n 0, 1) := by decide +kernel
theorem dX11_restore_80 : decode cX11_restore 80 = .ok (.aload_n 0, 1) := by decide +kernel
theorem dX11_restore_81 : decode cX11_restore 81 = .ok (.getfield 223, 3) := by decide +kernel
theorem dX11_restore_84 : decode cX11_restore 84 = .ok (.putfield 112, 3) := by decide +kernel
theorem dX11_restore_87 : decode cX11_restore 87 = .ok (.aload_n 0, 1) := by decide +kernel
theorem dX11_restore_88 : decode cX11_restore 88 = .ok (.aload_n 0, 1) := by decide +kernel
theorem dX11_restore_89 : decode cX11_restore 89 = .ok (.getfield 226, 3) := by decide +kernel
theorem dX11_restore_92 : decode cX11_restore 92 = .ok (.putfield 213, 3) := by decide +kernel
theorem dX11_restore_95 : decode cX11_restore 95 = .ok (.aload_n 0, 1) := by decide +kernel
theorem dX11_restore_96 : decode cX11_restore 96 = .ok (.getfield 104, 3) := by decide +kernel
theorem dX11_restore_99 : decode cX11_restore 99 = .ok (.ireturn, 1) := by decide +kernel
theorem dX11_turning_0 : decode cX11_turning 0 = .ok (.iconst 0, 1) := by decide +kernel
theorem dX11_turning_1 : decode cX11_turning 1 = .ok (.istore_n 1, 1) := by decide +kernel
theorem dX11_turning_2 : decode cX11_turning 2 = .ok (.iconst 0, 1) := by decide +kernel
theorem dX11_turning_3 : decode cX11_turning 3 = .ok (.istore_n 2, 1) := by decide +kernel
theorem dX11_turning_4 : decode cX11_turning 4 = .ok (.iload_n 2, 1) := by decide +kernel
theorem dX11_turning_5 : decode cX11_turning 5 = .ok (.aload_n 0, 1) := by decide +kernel
theorem dX11_turning_6 : decode cX11_turning 6 = .ok (.getfield 104, 3) := by decide +kernel
theorem dX11_turning_9 : decode cX11_turning 9 = .ok (.if_icmp .ge 30, 3) := by decide +kernel
theorem dX11_turning_12 : decode cX11_turning 12 = .ok (.iload_n 1, 1) := by decide +kernel
theorem dX11_turning_13 : decode cX11_turning 13 = .ok (.aload_n 0, 1) := by decide +kernel
theorem dX11_turning_14 : decode cX11_turning 14 = .ok (.getfield 16, 3) := by decide +kernel
theorem dX11_turning_17 : decode cX11_turning 17 = .ok (.bipush 10, 2) := by decide +kernel
theorem dX11_turning_19 : decode cX11_turning 19 = .ok (.iload_n 2, 1) := by decide +kernel
theorem dX11_turning_20 : decode cX11_turning 20 = .ok (.imul, 1) := by decide +kernel
theorem dX11_turning_21 : decode cX11_turning 21 = .ok (.iaload, 1) := by decide +kernel
theorem dX11_turning_22 : decode cX11_turning 22 = .ok (.iconst 3, 1) := by decide +kernel
theorem dX11_turning_23 : decode cX11_turning 23 = .ok (.if_icmp .ne 7, 3) := by decide +kernel
theorem dX11_turning_26 : decode cX11_turning 26 = .ok (.iconst 0, 1) := by decide +kernel
theorem dX11_turning_27 : decode cX11_turning 27 = .ok (.goto 4, 3) := by decide +kernel
theorem dX11_turning_30 : decode cX11_turning 30 = .ok (.iconst 1, 1) := by decide +kernel
theorem dX11_turning_31 : decode cX11_turning 31 = .ok (.iadd, 1) := by decide +kernel
theorem dX11_turning_32 : decode cX11_turning 32 = .ok (.istore_n 1, 1) := by decide +kernel
theorem dX11_turning_33 : decode cX11_turning 33 = .ok (.iinc 2 1, 3) := by decide +kernel
theorem dX11_turning_36 : decode cX11_turning 36 = .ok (.goto (-32), 3) := by decide +kernel
theorem dX11_turning_39 : decode cX11_turning 39 = .ok (.iload_n 1, 1) := by decide +kernel
theorem dX11_turning_40 : decode cX11_turning 40 = .ok (.ireturn, 1) := by decide +kernel
theorem dX11_countOf_0 : decode cX11_countOf 0 = .ok (.iload_n 1, 1) := by decide +kernel
theorem dX11_countOf_1 : decode cX11_countOf 1 = .ok (.tableswitch 60 0 4 #[35, 40, 45, 50, 55], 35) := by decide +kernel
theorem dX11_countOf_36 : decode cX11_countOf 36 = .ok (.aload_n 0, 1) := by decide +kernel
theorem dX11_countOf_37 : decode cX11_countOf 37 = .ok (.getfield 104, 3) := by decide +kernel
theorem dX11_countOf_40 : decode cX11_countOf 40 = .ok (.ireturn, 1) := by decide +kernel
theorem dX11_countOf_41 : decode cX11_countOf 41 = .ok (.aload_n 0, 1) := by decide +kernel
theorem dX11_countOf_42 : decode cX11_countOf 42 = .ok (.getfield 112, 3) := by decide +kernel
theorem dX11_countOf_45 : decode cX11_countOf 45 = .ok (.ireturn, 1) := by decide +kernel
theorem dX11_countOf_46 : decode cX11_countOf 46 = .ok (.aload_n 0, 1) := by decide +kernel
theorem dX11_countOf_47 : decode cX11_countOf 47 = .ok (.getfield 213, 3) := by decide +kernel
theorem dX11_countOf_50 : decode cX11_countOf 50 = .ok (.ireturn, 1) := by decide +kernel
theorem dX11_countOf_51 : decode cX11_countOf 51 = .ok (.aload_n 0, 1) := by decide +kernel
theorem dX11_countOf_52 : decode cX11_countOf 52 = .ok (.getfield 64, 3) := by decide +kernel
theorem dX11_countOf_55 : decode cX11_countOf 55 = .ok (.ireturn, 1) := by decide +kernel
theorem dX11_countOf_56 : decode cX11_countOf 56 = .ok (.aload_n 0, 1) := by decide +kernel
theorem dX11_countOf_57 : decode cX11_countOf 57 = .ok (.invokevirtual 229, 3) := by decide +kernel
theorem dX11_countOf_60 : decode cX11_countOf 60 = .ok (.ireturn, 1) := by decide +kernel
theorem dX11_countOf_61 : decode cX11_countOf 61 = .ok (.bipush (-102), 2) := by decide +kernel
theorem dX11_countOf_63 : decode cX11_countOf 63 = .ok (.ireturn, 1) := by decide +kernel
theorem dX11_count_0 : decode cX11_count 0 = .ok (.aload_n 0, 1) := by decide +kernel
theorem dX11_count_1 : decode cX11_count 1 = .ok (.iload_n 1, 1) := by decide +kernel
theorem dX11_count_2 : decode cX11_count 2 = .ok (.invokevirtual 232, 3) := by decide +kernel
theorem dX11_count_5 : decode cX11_count 5 = .ok (.ireturn, 1) := by decide +kernel
theorem dX11_say_0 : decode cX11_say 0 = .ok (.aload_n 0, 1) := by decide +kernel
theorem dX11_say_1 : decode cX11_say 1 = .ok (.ldc2_w 235, 3) := by decide +kernel
theorem dX11_say_4 : decode cX11_say 4 = .ok (.aload_n 0, 1) := by decide +kernel
theorem dX11_say_5 : decode cX11_say 5 = .ok (.getfield 237, 3) := by decide +kernel
theorem dX11_say_8 : decode cX11_say 8 = .ok (.lmul, 1) := by decide +kernel
theorem dX11_say_9 : decode cX11_say 9 = .ok (.lload_n 1, 1) := by decide +kernel
theorem dX11_say_10 : decode cX11_say 10 = .ok (.ladd, 1) := by decide +kernel
theorem dX11_say_11 : decode cX11_say 11 = .ok (.putfield 237, 3) := by decide +kernel
theorem dX11_say_14 : decode cX11_say 14 = .ok (.return_, 1) := by decide +kernel
theorem dX11_sayBridge_0 : decode cX11_sayBridge 0 = .ok (.iconst 0, 1) := by decide +kernel
theorem dX11_sayBridge_1 : decode cX11_sayBridge 1 = .ok (.istore_n 2, 1) := by decide +kernel
theorem dX11_sayBridge_2 : decode cX11_sayBridge 2 = .ok (.iload_n 2, 1) := by decide +kernel
theorem dX11_sayBridge_3 : decode cX11_sayBridge 3 = .ok (.bipush 13, 2) := by decide +kernel
theorem dX11_sayBridge_5 : decode cX11_sayBridge 5 = .ok (.if_icmp .ge 32, 3) := by decide +kernel
theorem dX11_sayBridge_8 : decode cX11_sayBridge 8 = .ok (.iload_n 2, 1) := by decide +kernel
theorem dX11_sayBridge_9 : decode cX11_sayBridge 9 = .ok (.bipush 8, 2) := by decide +kernel
theorem dX11_sayBridge_11 : decode cX11_sayBridge 11 = .ok (.if_icmp .lt 9, 3) := by decide +kernel
theorem dX11_sayBridge_14 : decode cX11_sayBridge 14 = .ok (.iload_n 2, 1) := by decide +kernel
theorem dX11_sayBridge_15 : decode cX11_sayBridge 15 = .ok (.bipush 9, 2) := by decide +kernel
theorem dX11_sayBridge_17 : decode cX11_sayBridge 17 = .ok (.if_icmp .le 14, 3) := by decide +kernel
theorem dX11_sayBridge_20 : decode cX11_sayBridge 20 = .ok (.aload_n 0, 1) := by decide +kernel
theorem dX11_sayBridge_21 : decode cX11_sayBridge 21 = .ok (.aload_n 0, 1) := by decide +kernel
theorem dX11_sayBridge_22 : decode cX11_sayBridge 22 = .ok (.iload_n 1, 1) := by decide +kernel
theorem dX11_sayBridge_23 : decode cX11_sayBridge 23 = .ok (.iload_n 2, 1) := by decide +kernel
theorem dX11_sayBridge_24 : decode cX11_sayBridge 24 = .ok (.invokevirtual 124, 3) := by decide +kernel
theorem dX11_sayBridge_27 : decode cX11_sayBridge 27 = .ok (.i2l, 1) := by decide +kernel
theorem dX11_sayBridge_28 : decode cX11_sayBridge 28 = .ok (.invokevirtual 241, 3) := by decide +kernel
theorem dX11_sayBridge_31 : decode cX11_sayBridge 31 = .ok (.iinc 2 1, 3) := by decide +kernel
theorem dX11_sayBridge_34 : decode cX11_sayBridge 34 = .ok (.goto (-32), 3) := by decide +kernel
theorem dX11_sayBridge_37 : decode cX11_sayBridge 37 = .ok (.iconst 0, 1) := by decide +kernel
theorem dX11_sayBridge_38 : decode cX11_sayBridge 38 = .ok (.istore_n 2, 1) := by decide +kernel
theorem dX11_sayBridge_39 : decode cX11_sayBridge 39 = .ok (.iload_n 2, 1) := by decide +kernel
theorem dX11_sayBridge_40 : decode cX11_sayBridge 40 = .ok (.bipush 8, 2) := by decide +kernel
theorem dX11_sayBridge_42 : decode cX11_sayBridge 42 = .ok (.if_icmp .ge 31, 3) := by decide +kernel
theorem dX11_sayBridge_45 : decode cX11_sayBridge 45 = .ok (.aload_n 0, 1) := by decide +kernel
theorem dX11_sayBridge_46 : decode cX11_sayBridge 46 = .ok (.aload_n 0, 1) := by decide +kernel
theorem dX11_sayBridge_47 : decode cX11_sayBridge 47 = .ok (.iload_n 1, 1) := by decide +kernel
theorem dX11_sayBridge_48 : decode cX11_sayBridge 48 = .ok (.iload_n 2, 1) := by decide +kernel
theorem dX11_sayBridge_49 : decode cX11_sayBridge 49 = .ok (.invokevirtual 134, 3) := by decide +kernel
theorem dX11_sayBridge_52 : decode cX11_sayBridge 52 = .ok (.i2l, 1) := by decide +kernel
theorem dX11_sayBridge_53 : decode cX11_sayBridge 53 = .ok (.invokevirtual 241, 3) := by decide +kernel
theorem dX11_sayBridge_56 : decode cX11_sayBridge 56 = .ok (.aload_n 0, 1) := by decide +kernel
theorem dX11_sayBridge_57 : decode cX11_sayBridge 57 = .ok (.aload_n 0, 1) := by decide +kernel
theorem dX11_sayBridge_58 : decode cX11_sayBridge 58 = .ok (.iload_n 1, 1) := by decide +kernel
theorem dX11_sayBridge_59 : decode cX11_sayBridge 59 = .ok (.iload_n 2, 1) := by decide +kernel
theorem dX11_sayBridge_60 : decode cX11_sayBridge 60 = .ok (.invokevirtual 139, 3) := by decide +kernel
theorem dX11_sayBridge_63 : decode cX11_sayBridge 63 = .ok (.i2l, 1) := by decide +kernel
theorem dX11_sayBridge_64 : decode cX11_sayBridge 64 = .ok (.invokevirtual 241, 3) := by decide +kernel
theorem dX11_sayBridge_67 : decode cX11_sayBridge 67 = .ok (.iinc 2 7, 3) := by decide +kernel
theorem dX11_sayBridge_70 : decode cX11_sayBridge 70 = .ok (.goto (-31), 3) := by decide +kernel
theorem dX11_sayBridge_73 : decode cX11_sayBridge 73 = .ok (.return_, 1) := by decide +kernel
theorem dX11_digest_0 : decode cX11_digest 0 = .ok (.aload_n 0, 1) := by decide +kernel
theorem dX11_digest_1 : decode cX11_digest 1 = .ok (.ldc2_w 245, 3) := by decide +kernel
theorem dX11_digest_4 : decode cX11_digest 4 = .ok (.putfield 237, 3) := by decide +kernel
theorem dX11_digest_7 : decode cX11_digest 7 = .ok (.iconst 0, 1) := by decide +kernel
theorem dX11_digest_8 : decode cX11_digest 8 = .ok (.istore_n 1, 1) := by decide +kernel
theorem dX11_digest_9 : decode cX11_digest 9 = .ok (.iload_n 1, 1) := by decide +kernel
theorem dX11_digest_10 : decode cX11_digest 10 = .ok (.aload_n 0, 1) := by decide +kernel
theorem dX11_digest_11 : decode cX11_digest 11 = .ok (.getfield 104, 3) := by decide +kernel
theorem dX11_digest_14 : decode cX11_digest 14 = .ok (.if_icmp .ge 14, 3) := by decide +kernel
theorem dX11_digest_17 : decode cX11_digest 17 = .ok (.aload_n 0, 1) := by decide +kernel
theorem dX11_digest_18 : decode cX11_digest 18 = .ok (.iload_n 1, 1) := by decide +kernel
theorem dX11_digest_19 : decode cX11_digest 19 = .ok (.invokevirtual 247, 3) := by decide +kernel
theorem dX11_digest_22 : decode cX11_digest 22 = .ok (.iinc 1 1, 3) := by decide +kernel
theorem dX11_digest_25 : decode cX11_digest 25 = .ok (.goto (-16), 3) := by decide +kernel
theorem dX11_digest_28 : decode cX11_digest 28 = .ok (.aload_n 0, 1) := by decide +kernel
theorem dX11_digest_29 : decode cX11_digest 29 = .ok (.aload_n 0, 1) := by decide +kernel
theorem dX11_digest_30 : decode cX11_digest 30 = .ok (.invokevirtual 171, 3) := by decide +kernel
theorem dX11_digest_33 : decode cX11_digest 33 = .ok (.invokevirtual 241, 3) := by decide +kernel
theorem dX11_digest_36 : decode cX11_digest 36 = .ok (.iconst 0, 1) := by decide +kernel
theorem dX11_digest_37 : decode cX11_digest 37 = .ok (.istore_n 1, 1) := by decide +kernel
theorem dX11_digest_38 : decode cX11_digest 38 = .ok (.iload_n 1, 1) := by decide +kernel
theorem dX11_digest_39 : decode cX11_digest 39 = .ok (.bipush 8, 2) := by decide +kernel
theorem dX11_digest_41 : decode cX11_digest 41 = .ok (.if_icmp .ge 36, 3) := by decide +kernel
theorem dX11_digest_44 : decode cX11_digest 44 = .ok (.aload_n 0, 1) := by decide +kernel
theorem dX11_digest_45 : decode cX11_digest 45 = .ok (.aload_n 0, 1) := by decide +kernel
theorem dX11_digest_46 : decode cX11_digest 46 = .ok (.iconst 0, 1) := by decide +kernel
theorem dX11_digest_47 : decode cX11_digest 47 = .ok (.iload_n 1, 1) := by decide +kernel
theorem dX11_digest_48 : decode cX11_digest 48 = .ok (.iconst 0, 1) := by decide +kernel
theorem dX11_digest_49 : decode cX11_digest 49 = .ok (.iconst 1, 1) := by decide +kernel
theorem dX11_digest_50 : decode cX11_digest 50 = .ok (.iconst 1, 1) := by decide +kernel
theorem dX11_digest_51 : decode cX11_digest 51 = .ok (.invokevirtual 163, 3) := by decide +kernel
theorem dX11_digest_54 : decode cX11_digest 54 = .ok (.i2l, 1) := by decide +kernel
theorem dX11_digest_55 : decode cX11_digest 55 = .ok (.invokevirtual 241, 3) := by decide +kernel
theorem dX11_digest_58 : decode cX11_digest 58 = .ok (.aload_n 0, 1) := by decide +kernel
theorem dX11_digest_59 : decode cX11_digest 59 = .ok (.aload_n 0, 1) := by decide +kernel
theorem dX11_digest_60 : decode cX11_digest 60 = .ok (.iload_n 1, 1) := by decide +kernel
theorem dX11_digest_61 : decode cX11_digest 61 = .ok (.iconst 0, 1) := by decide +kernel
theorem dX11_digest_62 : decode cX11_digest 62 = .ok (.bipush 60, 2) := by decide +kernel
theorem dX11_digest_64 : decode cX11_digest 64 = .ok (.invokevirtual 177, 3) := by decide +kernel
theorem dX11_digest_67 : decode cX11_digest 67 = .ok (.i2l, 1) := by decide +kernel
theorem dX11_digest_68 : decode cX11_digest 68 = .ok (.invokevirtual 241, 3) := by decide +kernel
theorem dX11_digest_71 : decode cX11_digest 71 = .ok (.iinc 1 1, 3) := by decide +kernel
theorem dX11_digest_74 : decode cX11_digest 74 = .ok (.goto (-36), 3) := by decide +kernel
theorem dX11_digest_77 : decode cX11_digest 77 = .ok (.iconst 0, 1) := by decide +kernel
theorem dX11_digest_78 : decode cX11_digest 78 = .ok (.istore_n 1, 1) := by decide +kernel
theorem dX11_digest_79 : decode cX11_digest 79 = .ok (.iload_n 1, 1) := by decide +kernel
theorem dX11_digest_80 : decode cX11_digest 80 = .ok (.iconst 4, 1) := by decide +kernel
theorem dX11_digest_81 : decode cX11_digest 81 = .ok (.aload_n 0, 1) := by decide +kernel
theorem dX11_digest_82 : decode cX11_digest 82 = .ok (.getfield 213, 3) := by decide +kernel
theorem dX11_digest_85 : decode cX11_digest 85 = .ok (.imul, 1) := by decide +kernel
theorem dX11_digest_86 : decode cX11_digest 86 = .ok (.if_icmp .ge 20, 3) := by decide +kernel
theorem dX11_digest_89 : decode cX11_digest 89 = .ok (.aload_n 0, 1) := by decide +kernel
theorem dX11_digest_90 : decode cX11_digest 90 = .ok (.aload_n 0, 1) := by decide +kernel
theorem dX11_digest_91 : decode cX11_digest 91 = .ok (.getfield 43, 3) := by decide +kernel
theorem dX11_digest_94 : decode cX11_digest 94 = .ok (.iload_n 1, 1) := by decide +kernel
theorem dX11_digest_95 : decode cX11_digest 95 = .ok (.iaload, 1) := by decide +kernel
theorem dX11_digest_96 : decode cX11_digest 96 = .ok (.i2l, 1) := by decide +kernel
theorem dX11_digest_97 : decode cX11_digest 97 = .ok (.invokevirtual 241, 3) := by decide +kernel
theorem dX11_digest_100 : decode cX11_digest 100 = .ok (.iinc 1 1, 3) := by decide +kernel
theorem dX11_digest_103 : decode cX11_digest 103 = .ok (.goto (-24), 3) := by decide +kernel
theorem dX11_digest_106 : decode cX11_digest 106 = .ok (.iconst 0, 1) := by decide +kernel
theorem dX11_digest_107 : decode cX11_digest 107 = .ok (.istore_n 1, 1) := by decide +kernel
theorem dX11_digest_108 : decode cX11_digest 108 = .ok (.iload_n 1, 1) := by decide +kernel
theorem dX11_digest_109 : decode cX11_digest 109 = .ok (.aload_n 0, 1) := by decide +kernel
theorem dX11_digest_110 : decode cX11_digest 110 = .ok (.getfield 64, 3) := by decide +kernel
theorem dX11_digest_113 : decode cX11_digest 113 = .ok (.if_icmp .ge 20, 3) := by decide +kernel
theorem dX11_digest_116 : decode cX11_digest 116 = .ok (.aload_n 0, 1) := by decide +kernel
theorem dX11_digest_117 : decode cX11_digest 117 = .ok (.aload_n 0, 1) := by decide +kernel
theorem dX11_digest_118 : decode cX11_digest 118 = .ok (.getfield 7, 3) := by decide +kernel
theorem dX11_digest_121 : decode cX11_digest 121 = .ok (.iload_n 1, 1) := by decide +kernel
theorem dX11_digest_122 : decode cX11_digest 122 = .ok (.iaload, 1) := by decide +kernel
theorem dX11_digest_123 : decode cX11_digest 123 = .ok (.i2l, 1) := by decide +kernel
theorem dX11_digest_124 : decode cX11_digest 124 = .ok (.invokevirtual 241, 3) := by decide +kernel
theorem dX11_digest_127 : decode cX11_digest 127 = .ok (.iinc 1 1, 3) := by decide +kernel
theorem dX11_digest_130 : decode cX11_digest 130 = .ok (.goto (-22), 3) := by decide +kernel
theorem dX11_digest_133 : decode cX11_digest 133 = .ok (.iconst 0, 1) := by decide +kernel
theorem dX11_digest_134 : decode cX11_digest 134 = .ok (.istore_n 1, 1) := by decide +kernel
theorem dX11_digest_135 : decode cX11_digest 135 = .ok (.iload_n 1, 1) := by decide +kernel
theorem dX11_digest_136 : decode cX11_digest 136 = .ok (.iconst 5, 1) := by decide +kernel
theorem dX11_digest_137 : decode cX11_digest 137 = .ok (.if_icmp .ge 19, 3) := by decide +kernel
theorem dX11_digest_140 : decode cX11_digest 140 = .ok (.aload_n 0, 1) := by decide +kernel
theorem dX11_digest_141 : decode cX11_digest 141 = .ok (.aload_n 0, 1) := by decide +kernel
theorem dX11_digest_142 : decode cX11_digest 142 = .ok (.iload_n 1, 1) := by decide +kernel
theorem dX11_digest_143 : decode cX11_digest 143 = .ok (.invokevirtual 232, 3) := by decide +kernel
theorem dX11_digest_146 : decode cX11_digest 146 = .ok (.i2l, 1) := by decide +kernel
theorem dX11_digest_147 : decode cX11_digest 147 = .ok (.invokevirtual 241, 3) := by decide +kernel
theorem dX11_digest_150 : decode cX11_digest 150 = .ok (.iinc 1 1, 3) := by decide +kernel
theorem dX11_digest_153 : decode cX11_digest 153 = .ok (.goto (-18), 3) := by decide +kernel
theorem dX11_digest_156 : decode cX11_digest 156 = .ok (.aload_n 0, 1) := by decide +kernel
theorem dX11_digest_157 : decode cX11_digest 157 = .ok (.getfield 237, 3) := by decide +kernel
theorem dX11_digest_160 : decode cX11_digest 160 = .ok (.lreturn, 1) := by decide +kernel
end
section
theorem dL_law_0 : decode cL_law 0 = .ok (.new 7, 3) := by decide +kernel
theorem dL_law_3 : decode cL_law 3 = .ok (.dup, 1) := by decide +kernel
theorem dL_law_4 : decode cL_law 4 = .ok (.invokespecial 9, 3) := by decide +kernel
theorem dL_law_7 : decode cL_law 7 = .ok (.astore_n 1, 1) := by decide +kernel
theorem dL_law_8 : decode cL_law 8 = .ok (.new 10, 3) := by decide +kernel
theorem dL_law_11 : decode cL_law 11 = .ok (.dup, 1) := by decide +kernel
theorem dL_law_12 : decode cL_law 12 = .ok (.invokespecial 12, 3) := by decide +kernel
theorem dL_law_15 : decode cL_law 15 = .ok (.astore_n 2, 1) := by decide +kernel
theorem dL_law_16 : decode cL_law 16 = .ok (.iconst 0, 1) := by decide +kernel
theorem dL_law_17 : decode cL_law 17 = .ok (.istore_n 3, 1) := by decide +kernel
theorem dL_law_18 : decode cL_law 18 = .ok (.iload_n 3, 1) := by decide +kernel
theorem dL_law_19 : decode cL_law 19 = .ok (.aload_n 0, 1) := by decide +kernel
theorem dL_law_20 : decode cL_law 20 = .ok (.arraylength, 1) := by decide +kernel
theorem dL_law_21 : decode cL_law 21 = .ok (.bipush 7, 2) := by decide +kernel
theorem dL_law_23 : decode cL_law 23 = .ok (.isub, 1) := by decide +kernel
theorem dL_law_24 : decode cL_law 24 = .ok (.if_icmp .gt 1202, 3) := by decide +kernel
theorem dL_law_27 : decode cL_law 27 = .ok (.aload_n 0, 1) := by decide +kernel
theorem dL_law_28 : decode cL_law 28 = .ok (.iload_n 3, 1) := by decide +kernel
theorem dL_law_29 : decode cL_law 29 = .ok (.iaload, 1) := by decide +kernel
theorem dL_law_30 : decode cL_law 30 = .ok (.bipush 31, 2) := by decide +kernel
theorem dL_law_32 : decode cL_law 32 = .ok (.iand, 1) := by decide +kernel
theorem dL_law_33 : decode cL_law 33 = .ok (.tableswitch 1187 0 27 #[127, 180, 193, 206, 219, 252, 285, 318, 357, 390, 423, 486, 561, 575, 618, 681, 756, 799, 874, 917, 992, 1045, 1058, 1081, 1124, 1137, 1150, 1173], 127) := by decide +kernel
theorem dL_law_160 : decode cL_law 160 = .ok (.aload_n 1, 1) := by decide +kernel
theorem dL_law_161 : decode cL_law 161 = .ok (.aload_n 0, 1) := by decide +kernel
theorem dL_law_162 : decode cL_law 162 = .ok (.iload_n 3, 1) := by decide +kernel
theorem dL_law_163 : decode cL_law 163 = .ok (.iconst 1, 1) := by decide +kernel
theorem dL_law_164 : decode cL_law 164 = .ok (.iadd, 1) := by decide +kernel
theorem dL_law_165 : decode cL_law 165 = .ok (.iaload, 1) := by decide +kernel
theorem dL_law_166 : decode cL_law 166 = .ok (.i2l, 1) := by decide +kernel
theorem dL_law_167 : decode cL_law 167 = .ok (.bipush 32, 2) := by decide +kernel
theorem dL_law_169 : decode cL_law 169 = .ok (.lshl, 1) := by decide +kernel
theorem dL_law_170 : decode cL_law 170 = .ok (.aload_n 0, 1) := by decide +kernel
theorem dL_law_171 : decode cL_law 171 = .ok (.iload_n 3, 1) := by decide +kernel
theorem dL_law_172 : decode cL_law 172 = .ok (.iconst 2, 1) := by decide +kernel
theorem dL_law_173 : decode cL_law 173 = .ok (.iadd, 1) := by decide +kernel
theorem dL_law_174 : decode cL_law 174 = .ok (.iaload, 1) := by decide +kernel
theorem dL_law_175 : decode cL_law 175 = .ok (.i2l, 1) := by decide +kernel
theorem dL_law_176 : decode cL_law 176 = .ok (.ldc2_w 13, 3) := by decide +kernel
theorem dL_law_179 : decode cL_law 179 = .ok (.land, 1) := by decide +kernel
theorem dL_law_180 : decode cL_law 180 = .ok (.lor, 1) := by decide +kernel
theorem dL_law_181 : decode cL_law 181 = .ok (.invokevirtual 15, 3) := by decide +kernel
theorem dL_law_184 : decode cL_law 184 = .ok (.aload_n 2, 1) := by decide +kernel
theorem dL_law_185 : decode cL_law 185 = .ok (.aload_n 0, 1) := by decide +kernel
theorem dL_law_186 : decode cL_law 186 = .ok (.iload_n 3, 1) := by decide +kernel
theorem dL_law_187 : decode cL_law 187 = .ok (.iconst 1, 1) := by decide +kernel
theorem dL_law_188 : decode cL_law 188 = .ok (.iadd, 1) := by decide +kernel
theorem dL_law_189 : decode cL_law 189 = .ok (.iaload, 1) := by decide +kernel
theorem dL_law_190 : decode cL_law 190 = .ok (.i2l, 1) := by decide +kernel
theorem dL_law_191 : decode cL_law 191 = .ok (.bipush 32, 2) := by decide +kernel
theorem dL_law_193 : decode cL_law 193 = .ok (.lshl, 1) := by decide +kernel
theorem dL_law_194 : decode cL_law 194 = .ok (.aload_n 0, 1) := by decide +kernel
theorem dL_law_195 : decode cL_law 195 = .ok (.iload_n 3, 1) := by decide +kernel
theorem dL_law_196 : decode cL_law 196 = .ok (.iconst 2, 1) := by decide +kernel
theorem dL_law_197 : decode cL_law 197 = .ok (.iadd, 1) := by decide +kernel
theorem dL_law_198 : decode cL_law 198 = .ok (.iaload, 1) := by decide +kernel
theorem dL_law_199 : decode cL_law 199 = .ok (.i2l, 1) := by decide +kernel
theorem dL_law_200 : decode cL_law 200 = .ok (.ldc2_w 13, 3) := by decide +kernel
theorem dL_law_203 : decode cL_law 203 = .ok (.land, 1) := by decide +kernel
theorem dL_law_204 : decode cL_law 204 = .ok (.lor, 1) := by decide +kernel
theorem dL_law_205 : decode cL_law 205 = .ok (.invokevirtual 19, 3) := by decide +kernel
theorem dL_law_208 : decode cL_law 208 = .ok (.if_icmp .eq 1012, 3) := by decide +kernel
theorem dL_law_211 : decode cL_law 211 = .ok (.iconst 0, 1) := by decide +kernel
theorem dL_law_212 : decode cL_law 212 = .ok (.ireturn, 1) := by decide +kernel
theorem dL_law_213 : decode cL_law 213 = .ok (.aload_n 1, 1) := by decide +kernel
theorem dL_law_214 : decode cL_law 214 = .ok (.invokevirtual 20, 3) := by decide +kernel
theorem dL_law_217 : decode cL_law 217 = .ok (.aload_n 2, 1) := by decide +kernel
theorem dL_law_218 : decode cL_law 218 = .ok (.invokevirtual 24, 3) := by decide +kernel
theorem dL_law_221 : decode cL_law 221 = .ok (.if_icmp .eq 999, 3) := by decide +kernel
theorem dL_law_224 : decode cL_law 224 = .ok (.iconst 0, 1) := by decide +kernel
theorem dL_law_225 : decode cL_law 225 = .ok (.ireturn, 1) := by decide +kernel
theorem dL_law_226 : decode cL_law 226 = .ok (.aload_n 1, 1) := by decide +kernel
theorem dL_law_227 : decode cL_law 227 = .ok (.invokevirtual 25, 3) := by decide +kernel
theorem dL_law_230 : decode cL_law 230 = .ok (.aload_n 2, 1) := by decide +kernel
theorem dL_law_231 : decode cL_law 231 = .ok (.invokevirtual 28, 3) := by decide +kernel
theorem dL_law_234 : decode cL_law 234 = .ok (.if_icmp .eq 986, 3) := by decide +kernel
theorem dL_law_237 : decode cL_law 237 = .ok (.iconst 0, 1) := by decide +kernel
theorem dL_law_238 : decode cL_law 238 = .ok (.ireturn, 1) := by decide +kernel
theorem dL_law_239 : decode cL_law 239 = .ok (.aload_n 1, 1) := by decide +kernel
theorem dL_law_240 : decode cL_law 240 = .ok (.invokevirtual 29, 3) := by decide +kernel
theorem dL_law_243 : decode cL_law 243 = .ok (.aload_n 2, 1) := by decide +kernel
theorem dL_law_244 : decode cL_law 244 = .ok (.invokevirtual 32, 3) := by decide +kernel
theorem dL_law_247 : decode cL_law 247 = .ok (.if_icmp .eq 973, 3) := by decide +kernel
theorem dL_law_250 : decode cL_law 250 = .ok (.iconst 0, 1) := by decide +kernel
theorem dL_law_251 : decode cL_law 251 = .ok (.ireturn, 1) := by decide +kernel
theorem dL_law_252 : decode cL_law 252 = .ok (.aload_n 1, 1) := by decide +kernel
theorem dL_law_253 : decode cL_law 253 = .ok (.aload_n 0, 1) := by decide +kernel
theorem dL_law_254 : decode cL_law 254 = .ok (.iload_n 3, 1) := by decide +kernel
theorem dL_law_255 : decode cL_law 255 = .ok (.iconst 1, 1) := by decide +kernel
theorem dL_law_256 : decode cL_law 256 = .ok (.iadd, 1) := by decide +kernel
theorem dL_law_257 : decode cL_law 257 = .ok (.iaload, 1) := by decide +kernel
theorem dL_law_258 : decode cL_law 258 = .ok (.aload_n 0, 1) := by decide +kernel
theorem dL_law_259 : decode cL_law 259 = .ok (.iload_n 3, 1) := by decide +kernel
theorem dL_law_260 : decode cL_law 260 = .ok (.iconst 2, 1) := by decide +kernel
theorem dL_law_261 : decode cL_law 261 = .ok (.iadd, 1) := by decide +kernel
theorem dL_law_262 : decode cL_law 262 = .ok (.iaload, 1) := by decide +kernel
theorem dL_law_263 : decode cL_law 263 = .ok (.invokevirtual 33, 3) := by decide +kernel
theorem dL_law_266 : decode cL_law 266 = .ok (.aload_n 2, 1) := by decide +kernel
theorem dL_law_267 : decode cL_law 267 = .ok (.aload_n 0, 1) := by decide +kernel
theorem dL_law_268 : decode cL_law 268 = .ok (.iload_n 3, 1) := by decide +kernel
theorem dL_law_269 : decode cL_law 269 = .ok (.iconst 1, 1) := by decide +kernel
theorem dL_law_270 : decode cL_law 270 = .ok (.iadd, 1) := by decide +kernel
theorem dL_law_271 : decode cL_law 271 = .ok (.iaload, 1) := by decide +kernel
theorem dL_law_272 : decode cL_law 272 = .ok (.aload_n 0, 1) := by decide +kernel
theorem dL_law_273 : decode cL_law 273 = .ok (.iload_n 3, 1) := by decide +kernel
theorem dL_law_274 : decode cL_law 274 = .ok (.iconst 2, 1) := by decide +kernel
theorem dL_law_275 : decode cL_law 275 = .ok (.iadd, 1) := by decide +kernel
theorem dL_law_276 : decode cL_law 276 = .ok (.iaload, 1) := by decide +kernel
theorem dL_law_277 : decode cL_law 277 = .ok (.invokevirtual 37, 3) := by decide +kernel
theorem dL_law_280 : decode cL_law 280 = .ok (.if_icmp .eq 940, 3) := by decide +kernel
theorem dL_law_283 : decode cL_law 283 = .ok (.iconst 0, 1) := by decide +kernel
theorem dL_law_284 : decode cL_law 284 = .ok (.ireturn, 1) := by decide +kernel
theorem dL_law_285 : decode cL_law 285 = .ok (.aload_n 1, 1) := by decide +kernel
theorem dL_law_286 : decode cL_law 286 = .ok (.aload_n 0, 1) := by decide +kernel
theorem dL_law_287 : decode cL_law 287 = .ok (.iload_n 3, 1) := by decide +kernel
theorem dL_law_288 : decode cL_law 288 = .ok (.iconst 1, 1) := by decide +kernel
theorem dL_law_289 : decode cL_law 289 = .ok (.iadd, 1) := by decide +kernel
theorem dL_law_290 : decode cL_law 290 = .ok (.iaload, 1) := by decide +kernel
theorem dL_law_291 : decode cL_law 291 = .ok (.aload_n 0, 1) := by decide +kernel
theorem dL_law_292 : decode cL_law 292 = .ok (.iload_n 3, 1) := by decide +kernel
theorem dL_law_293 : decode cL_law 293 = .ok (.iconst 2, 1) := by decide +kernel
theorem dL_law_294 : decode cL_law 294 = .ok (.iadd, 1) := by decide +kernel
theorem dL_law_295 : decode cL_law 295 = .ok (.iaload, 1) := by decide +kernel
theorem dL_law_296 : decode cL_law 296 = .ok (.invokevirtual 38, 3) := by decide +kernel
theorem dL_law_299 : decode cL_law 299 = .ok (.aload_n 2, 1) := by decide +kernel
theorem dL_law_300 : decode cL_law 300 = .ok (.aload_n 0, 1) := by decide +kernel
theorem dL_law_301 : decode cL_law 301 = .ok (.iload_n 3, 1) := by decide +kernel
theorem dL_law_302 : decode cL_law 302 = .ok (.iconst 1, 1) := by decide +kernel
theorem dL_law_303 : decode cL_law 303 = .ok (.iadd, 1) := by decide +kernel
theorem dL_law_304 : decode cL_law 304 = .ok (.iaload, 1) := by decide +kernel
theorem dL_law_305 : decode cL_law 305 = .ok (.aload_n 0, 1) := by decide +kernel
theorem dL_law_306 : decode cL_law 306 = .ok (.iload_n 3, 1) := by decide +kernel
theorem dL_law_307 : decode cL_law 307 = .ok (.iconst 2, 1) := by decide +kernel
theorem dL_law_308 : decode cL_law 308 = .ok (.iadd, 1) := by decide +kernel
theorem dL_law_309 : decode cL_law 309 = .ok (.iaload, 1) := by decide +kernel
theorem dL_law_310 : decode cL_law 310 = .ok (.invokevirtual 41, 3) := by decide +kernel
theorem dL_law_313 : decode cL_law 313 = .ok (.if_icmp .eq 907, 3) := by decide +kernel
theorem dL_law_316 : decode cL_law 316 = .ok (.iconst 0, 1) := by decide +kernel
theorem dL_law_317 : decode cL_law 317 = .ok (.ireturn, 1) := by decide +kernel
theorem dL_law_318 : decode cL_law 318 = .ok (.aload_n 1, 1) := by decide +kernel
theorem dL_law_319 : decode cL_law 319 = .ok (.aload_n 0, 1) := by decide +kernel
theorem dL_law_320 : decode cL_law 320 = .ok (.iload_n 3, 1) := by decide +kernel
theorem dL_law_321 : decode cL_law 321 = .ok (.iconst 1, 1) := by decide +kernel
theorem dL_law_322 : decode cL_law 322 = .ok (.iadd, 1) := by decide +kernel
theorem dL_law_323 : decode cL_law 323 = .ok (.iaload, 1) := by decide +kernel
theorem dL_law_324 : decode cL_law 324 = .ok (.aload_n 0, 1) := by decide +kernel
theorem dL_law_325 : decode cL_law 325 = .ok (.iload_n 3, 1) := by decide +kernel
theorem dL_law_326 : decode cL_law 326 = .ok (.iconst 2, 1) := by decide +kernel
theorem dL_law_327 : decode cL_law 327 = .ok (.iadd, 1) := by decide +kernel
theorem dL_law_328 : decode cL_law 328 = .ok (.iaload, 1) := by decide +kernel
theorem dL_law_329 : decode cL_law 329 = .ok (.invokevirtual 42, 3) := by decide +kernel
theorem dL_law_332 : decode cL_law 332 = .ok (.aload_n 2, 1) := by decide +kernel
theorem dL_law_333 : decode cL_law 333 = .ok (.aload_n 0, 1) := by decide +kernel
theorem dL_law_334 : decode cL_law 334 = .ok (.iload_n 3, 1) := by decide +kernel
theorem dL_law_335 : decode cL_law 335 = .ok (.iconst 1, 1) := by decide +kernel
theorem dL_law_336 : decode cL_law 336 = .ok (.iadd, 1) := by decide +kernel
theorem dL_law_337 : decode cL_law 337 = .ok (.iaload, 1) := by decide +kernel
theorem dL_law_338 : decode cL_law 338 = .ok (.aload_n 0, 1) := by decide +kernel
theorem dL_law_339 : decode cL_law 339 = .ok (.iload_n 3, 1) := by decide +kernel
theorem dL_law_340 : decode cL_law 340 = .ok (.iconst 2, 1) := by decide +kernel
theorem dL_law_341 : decode cL_law 341 = .ok (.iadd, 1) := by decide +kernel
theorem dL_law_342 : decode cL_law 342 = .ok (.iaload, 1) := by decide +kernel
theorem dL_law_343 : decode cL_law 343 = .ok (.invokevirtual 45, 3) := by decide +kernel
theorem dL_law_346 : decode cL_law 346 = .ok (.if_icmp .eq 874, 3) := by decide +kernel
theorem dL_law_349 : decode cL_law 349 = .ok (.iconst 0, 1) := by decide +kernel
theorem dL_law_350 : decode cL_law 350 = .ok (.ireturn, 1) := by decide +kernel
theorem dL_law_351 : decode cL_law 351 = .ok (.aload_n 1, 1) := by decide +kernel
theorem dL_law_352 : decode cL_law 352 = .ok (.aload_n 0, 1) := by decide +kernel
theorem dL_law_353 : decode cL_law 353 = .ok (.iload_n 3, 1) := by decide +kernel
theorem dL_law_354 : decode cL_law 354 = .ok (.iconst 1, 1) := by decide +kernel
theorem dL_law_355 : decode cL_law 355 = .ok (.iadd, 1) := by decide +kernel
theorem dL_law_356 : decode cL_law 356 = .ok (.iaload, 1) := by decide +kernel
theorem dL_law_357 : decode cL_law 357 = .ok (.ifCond .eq 7, 3) := by decide +kernel
theorem dL_law_360 : decode cL_law 360 = .ok (.iconst 1, 1) := by decide +kernel
theorem dL_law_361 : decode cL_law 361 = .ok (.goto 4, 3) := by decide +kernel
theorem dL_law_364 : decode cL_law 364 = .ok (.iconst 0, 1) := by decide +kernel
theorem dL_law_365 : decode cL_law 365 = .ok (.invokevirtual 46, 3) := by decide +kernel
theorem dL_law_368 : decode cL_law 368 = .ok (.aload_n 2, 1) := by decide +kernel
theorem dL_law_369 : decode cL_law 369 = .ok (.aload_n 0, 1) := by decide +kernel
theorem dL_law_370 : decode cL_law 370 = .ok (.iload_n 3, 1) := by decide +kernel
theorem dL_law_371 : decode cL_law 371 = .ok (.iconst 1, 1) := by decide +kernel
theorem dL_law_372 : decode cL_law 372 = .ok (.iadd, 1) := by decide +kernel
theorem dL_law_373 : decode cL_law 373 = .ok (.iaload, 1) := by decide +kernel
theorem dL_law_374 : decode cL_law 374 = .ok (.ifCond .eq 7, 3) := by decide +kernel
theorem dL_law_377 : decode cL_law 377 = .ok (.iconst 1, 1) := by decide +kernel
theorem dL_law_378 : decode cL_law 378 = .ok (.goto 4, 3) := by decide +kernel
theorem dL_law_381 : decode cL_law 381 = .ok (.iconst 0, 1) := by decide +kernel
theorem dL_law_382 : decode cL_law 382 = .ok (.invokevirtual 50, 3) := by decide +kernel
theorem dL_law_385 : decode cL_law 385 = .ok (.if_icmp .eq 835, 3) := by decide +kernel
theorem dL_law_388 : decode cL_law 388 = .ok (.iconst 0, 1) := by decide +kernel
theorem dL_law_389 : decode cL_law 389 = .ok (.ireturn, 1) := by decide +kernel
theorem dL_law_390 : decode cL_law 390 = .ok (.aload_n 1, 1) := by decide +kernel
theorem dL_law_391 : decode cL_law 391 = .ok (.aload_n 0, 1) := by decide +kernel
theorem dL_law_392 : decode cL_law 392 = .ok (.iload_n 3, 1) := by decide +kernel
theorem dL_law_393 : decode cL_law 393 = .ok (.iconst 1, 1) := by decide +kernel
theorem dL_law_394 : decode cL_law 394 = .ok (.iadd, 1) := by decide +kernel
theorem dL_law_395 : decode cL_law 395 = .ok (.iaload, 1) := by decide +kernel
theorem dL_law_396 : decode cL_law 396 = .ok (.aload_n 0, 1) := by decide +kernel
theorem dL_law_397 : decode cL_law 397 = .ok (.iload_n 3, 1) := by decide +kernel
theorem dL_law_398 : decode cL_law 398 = .ok (.iconst 2, 1) := by decide +kernel
theorem dL_law_399 : decode cL_law 399 = .ok (.iadd, 1) := by decide +kernel
theorem dL_law_400 : decode cL_law 400 = .ok (.iaload, 1) := by decide +kernel
theorem dL_law_401 : decode cL_law 401 = .ok (.invokevirtual 51, 3) := by decide +kernel
theorem dL_law_404 : decode cL_law 404 = .ok (.aload_n 2, 1) := by decide +kernel
theorem dL_law_405 : decode cL_law 405 = .ok (.aload_n 0, 1) := by decide +kernel
theorem dL_law_406 : decode cL_law 406 = .ok (.iload_n 3, 1) := by decide +kernel
theorem dL_law_407 : decode cL_law 407 = .ok (.iconst 1, 1) := by decide +kernel
theorem dL_law_408 : decode cL_law 408 = .ok (.iadd, 1) := by decide +kernel
theorem dL_law_409 : decode cL_law 409 = .ok (.iaload, 1) := by decide +kernel
theorem dL_law_410 : decode cL_law 410 = .ok (.aload_n 0, 1) := by decide +kernel
theorem dL_law_411 : decode cL_law 411 = .ok (.iload_n 3, 1) := by decide +kernel
theorem dL_law_412 : decode cL_law 412 = .ok (.iconst 2, 1) := by decide +kernel
theorem dL_law_413 : decode cL_law 413 = .ok (.iadd, 1) := by decide +kernel
theorem dL_law_414 : decode cL_law 414 = .ok (.iaload, 1) := by decide +kernel
theorem dL_law_415 : decode cL_law 415 = .ok (.invokevirtual 54, 3) := by decide +kernel
theorem dL_law_418 : decode cL_law 418 = .ok (.if_icmp .eq 802, 3) := by decide +kernel
theorem dL_law_421 : decode cL_law 421 = .ok (.iconst 0, 1) := by decide +kernel
theorem dL_law_422 : decode cL_law 422 = .ok (.ireturn, 1) := by decide +kernel
theorem dL_law_423 : decode cL_law 423 = .ok (.aload_n 1, 1) := by decide +kernel
theorem dL_law_424 : decode cL_law 424 = .ok (.aload_n 0, 1) := by decide +kernel
theorem dL_law_425 : decode cL_law 425 = .ok (.iload_n 3, 1) := by decide +kernel
theorem dL_law_426 : decode cL_law 426 = .ok (.iconst 1, 1) := by decide +kernel
theorem dL_law_427 : decode cL_law 427 = .ok (.iadd, 1) := by decide +kernel
theorem dL_law_428 : decode cL_law 428 = .ok (.iaload, 1) := by decide +kernel
theorem dL_law_429 : decode cL_law 429 = .ok (.aload_n 0, 1) := by decide +kernel
theorem dL_law_430 : decode cL_law 430 = .ok (.iload_n 3, 1) := by decide +kernel
theorem dL_law_431 : decode cL_law 431 = .ok (.iconst 2, 1) := by decide +kernel
theorem dL_law_432 : decode cL_law 432 = .ok (.iadd, 1) := by decide +kernel
theorem dL_law_433 : decode cL_law 433 = .ok (.iaload, 1) := by decide +kernel
theorem dL_law_434 : decode cL_law 434 = .ok (.invokevirtual 55, 3) := by decide +kernel
theorem dL_law_437 : decode cL_law 437 = .ok (.aload_n 2, 1) := by decide +kernel
theorem dL_law_438 : decode cL_law 438 = .ok (.aload_n 0, 1) := by decide +kernel
theorem dL_law_439 : decode cL_law 439 = .ok (.iload_n 3, 1) := by decide +kernel
theorem dL_law_440 : decode cL_law 440 = .ok (.iconst 1, 1) := by decide +kernel
theorem dL_law_441 : decode cL_law 441 = .ok (.iadd, 1) := by decide +kernel
theorem dL_law_442 : decode cL_law 442 = .ok (.iaload, 1) := by decide +kernel
theorem dL_law_443 : decode cL_law 443 = .ok (.aload_n 0, 1) := by decide +kernel
theorem dL_law_444 : decode cL_law 444 = .ok (.iload_n 3, 1) := by decide +kernel
theorem dL_law_445 : decode cL_law 445 = .ok (.iconst 2, 1) := by decide +kernel
theorem dL_law_446 : decode cL_law 446 = .ok (.iadd, 1) := by decide +kernel
theorem dL_law_447 : decode cL_law 447 = .ok (.iaload, 1) := by decide +kernel
theorem dL_law_448 : decode cL_law 448 = .ok (.invokevirtual 58, 3) := by decide +kernel
theorem dL_law_451 : decode cL_law 451 = .ok (.if_icmp .eq 769, 3) := by decide +kernel
theorem dL_law_454 : decode cL_law 454 = .ok (.iconst 0, 1) := by decide +kernel
theorem dL_law_455 : decode cL_law 455 = .ok (.ireturn, 1) := by decide +kernel
theorem dL_law_456 : decode cL_law 456 = .ok (.aload_n 1, 1) := by decide +kernel
theorem dL_law_457 : decode cL_law 457 = .ok (.aload_n 0, 1) := by decide +kernel
theorem dL_law_458 : decode cL_law 458 = .ok (.iload_n 3, 1) := by decide +kernel
theorem dL_law_459 : decode cL_law 459 = .ok (.iconst 1, 1) := by decide +kernel
theorem dL_law_460 : decode cL_law 460 = .ok (.iadd, 1) := by decide +kernel
theorem dL_law_461 : decode cL_law 461 = .ok (.iaload, 1) := by decide +kernel
theorem dL_law_462 : decode cL_law 462 = .ok (.aload_n 0, 1) := by decide +kernel
theorem dL_law_463 : decode cL_law 463 = .ok (.iload_n 3, 1) := by decide +kernel
theorem dL_law_464 : decode cL_law 464 = .ok (.iconst 2, 1) := by decide +kernel
theorem dL_law_465 : decode cL_law 465 = .ok (.iadd, 1) := by decide +kernel
theorem dL_law_466 : decode cL_law 466 = .ok (.iaload, 1) := by decide +kernel
theorem dL_law_467 : decode cL_law 467 = .ok (.aload_n 0, 1) := by decide +kernel
theorem dL_law_468 : decode cL_law 468 = .ok (.iload_n 3, 1) := by decide +kernel
theorem dL_law_469 : decode cL_law 469 = .ok (.iconst 3, 1) := by decide +kernel
theorem dL_law_470 : decode cL_law 470 = .ok (.iadd, 1) := by decide +kernel
theorem dL_law_471 : decode cL_law 471 = .ok (.iaload, 1) := by decide +kernel
theorem dL_law_472 : decode cL_law 472 = .ok (.aload_n 0, 1) := by decide +kernel
theorem dL_law_473 : decode cL_law 473 = .ok (.iload_n 3, 1) := by decide +kernel
theorem dL_law_474 : decode cL_law 474 = .ok (.iconst 4, 1) := by decide +kernel
theorem dL_law_475 : decode cL_law 475 = .ok (.iadd, 1) := by decide +kernel
theorem dL_law_476 : decode cL_law 476 = .ok (.iaload, 1) := by decide +kernel
theorem dL_law_477 : decode cL_law 477 = .ok (.aload_n 0, 1) := by decide +kernel
theorem dL_law_478 : decode cL_law 478 = .ok (.iload_n 3, 1) := by decide +kernel
theorem dL_law_479 : decode cL_law 479 = .ok (.iconst 5, 1) := by decide +kernel
theorem dL_law_480 : decode cL_law 480 = .ok (.iadd, 1) := by decide +kernel
theorem dL_law_481 : decode cL_law 481 = .ok (.iaload, 1) := by decide +kernel
theorem dL_law_482 : decode cL_law 482 = .ok (.invokevirtual 59, 3) := by decide +kernel
theorem dL_law_485 : decode cL_law 485 = .ok (.aload_n 2, 1) := by decide +kernel
theorem dL_law_486 : decode cL_law 486 = .ok (.aload_n 0, 1) := by decide +kernel
theorem dL_law_487 : decode cL_law 487 = .ok (.iload_n 3, 1) := by decide +kernel
theorem dL_law_488 : decode cL_law 488 = .ok (.iconst 1, 1) := by decide +kernel
theorem dL_law_489 : decode cL_law 489 = .ok (.iadd, 1) := by decide +kernel
theorem dL_law_490 : decode cL_law 490 = .ok (.iaload, 1) := by decide +kernel
theorem dL_law_491 : decode cL_law 491 = .ok (.aload_n 0, 1) := by decide +kernel
theorem dL_law_492 : decode cL_law 492 = .ok (.iload_n 3, 1) := by decide +kernel
theorem dL_law_493 : decode cL_law 493 = .ok (.iconst 2, 1) := by decide +kernel
theorem dL_law_494 : decode cL_law 494 = .ok (.iadd, 1) := by decide +kernel
theorem dL_law_495 : decode cL_law 495 = .ok (.iaload, 1) := by decide +kernel
theorem dL_law_496 : decode cL_law 496 = .ok (.aload_n 0, 1) := by decide +kernel
theorem dL_law_497 : decode cL_law 497 = .ok (.iload_n 3, 1) := by decide +kernel
theorem dL_law_498 : decode cL_law 498 = .ok (.iconst 3, 1) := by decide +kernel
theorem dL_law_499 : decode cL_law 499 = .ok (.iadd, 1) := by decide +kernel
theorem dL_law_500 : decode cL_law 500 = .ok (.iaload, 1) := by decide +kernel
theorem dL_law_501 : decode cL_law 501 = .ok (.aload_n 0, 1) := by decide +kernel
theorem dL_law_502 : decode cL_law 502 = .ok (.iload_n 3, 1) := by decide +kernel
theorem dL_law_503 : decode cL_law 503 = .ok (.iconst 4, 1) := by decide +kernel
theorem dL_law_504 : decode cL_law 504 = .ok (.iadd, 1) := by decide +kernel
theorem dL_law_505 : decode cL_law 505 = .ok (.iaload, 1) := by decide +kernel
theorem dL_law_506 : decode cL_law 506 = .ok (.aload_n 0, 1) := by decide +kernel
theorem dL_law_507 : decode cL_law 507 = .ok (.iload_n 3, 1) := by decide +kernel
theorem dL_law_508 : decode cL_law 508 = .ok (.iconst 5, 1) := by decide +kernel
theorem dL_law_509 : decode cL_law 509 = .ok (.iadd, 1) := by decide +kernel
theorem dL_law_510 : decode cL_law 510 = .ok (.iaload, 1) := by decide +kernel
theorem dL_law_511 : decode cL_law 511 = .ok (.invokevirtual 63, 3) := by decide +kernel
theorem dL_law_514 : decode cL_law 514 = .ok (.if_icmp .eq 706, 3) := by decide +kernel
theorem dL_law_517 : decode cL_law 517 = .ok (.iconst 0, 1) := by decide +kernel
theorem dL_law_518 : decode cL_law 518 = .ok (.ireturn, 1) := by decide +kernel
theorem dL_law_519 : decode cL_law 519 = .ok (.aload_n 1, 1) := by decide +kernel
theorem dL_law_520 : decode cL_law 520 = .ok (.aload_n 0, 1) := by decide +kernel
theorem dL_law_521 : decode cL_law 521 = .ok (.iload_n 3, 1) := by decide +kernel
theorem dL_law_522 : decode cL_law 522 = .ok (.iconst 1, 1) := by decide +kernel
theorem dL_law_523 : decode cL_law 523 = .ok (.iadd, 1) := by decide +kernel
theorem dL_law_524 : decode cL_law 524 = .ok (.iaload, 1) := by decide +kernel
theorem dL_law_525 : decode cL_law 525 = .ok (.aload_n 0, 1) := by decide +kernel
theorem dL_law_526 : decode cL_law 526 = .ok (.iload_n 3, 1) := by decide +kernel
theorem dL_law_527 : decode cL_law 527 = .ok (.iconst 2, 1) := by decide +kernel
theorem dL_law_528 : decode cL_law 528 = .ok (.iadd, 1) := by decide +kernel
theorem dL_law_529 : decode cL_law 529 = .ok (.iaload, 1) := by decide +kernel
theorem dL_law_530 : decode cL_law 530 = .ok (.aload_n 0, 1) := by decide +kernel
theorem dL_law_531 : decode cL_law 531 = .ok (.iload_n 3, 1) := by decide +kernel
theorem dL_law_532 : decode cL_law 532 = .ok (.iconst 3, 1) := by decide +kernel
theorem dL_law_533 : decode cL_law 533 = .ok (.iadd, 1) := by decide +kernel
theorem dL_law_534 : decode cL_law 534 = .ok (.iaload, 1) := by decide +kernel
theorem dL_law_535 : decode cL_law 535 = .ok (.aload_n 0, 1) := by decide +kernel
theorem dL_law_536 : decode cL_law 536 = .ok (.iload_n 3, 1) := by decide +kernel
theorem dL_law_537 : decode cL_law 537 = .ok (.iconst 4, 1) := by decide +kernel
theorem dL_law_538 : decode cL_law 538 = .ok (.iadd, 1) := by decide +kernel
theorem dL_law_539 : decode cL_law 539 = .ok (.iaload, 1) := by decide +kernel
theorem dL_law_540 : decode cL_law 540 = .ok (.aload_n 0, 1) := by decide +kernel
theorem dL_law_541 : decode cL_law 541 = .ok (.iload_n 3, 1) := by decide +kernel
theorem dL_law_542 : decode cL_law 542 = .ok (.iconst 5, 1) := by decide +kernel
theorem dL_law_543 : decode cL_law 543 = .ok (.iadd, 1) := by decide +kernel
theorem dL_law_544 : decode cL_law 544 = .ok (.iaload, 1) := by decide +kernel
theorem dL_law_545 : decode cL_law 545 = .ok (.aload_n 0, 1) := by decide +kernel
theorem dL_law_546 : decode cL_law 546 = .ok (.iload_n 3, 1) := by decide +kernel
theorem dL_law_547 : decode cL_law 547 = .ok (.bipush 6, 2) := by decide +kernel
theorem dL_law_549 : decode cL_law 549 = .ok (.iadd, 1) := by decide +kernel
theorem dL_law_550 : decode cL_law 550 = .ok (.iaload, 1) := by decide +kernel
theorem dL_law_551 : decode cL_law 551 = .ok (.invokevirtual 64, 3) := by decide +kernel
theorem dL_law_554 : decode cL_law 554 = .ok (.aload_n 2, 1) := by decide +kernel
theorem dL_law_555 : decode cL_law 555 = .ok (.aload_n 0, 1) := by decide +kernel
theorem dL_law_556 : decode cL_law 556 = .ok (.iload_n 3, 1) := by decide +kernel
theorem dL_law_557 : decode cL_law 557 = .ok (.iconst 1, 1) := by decide +kernel
theorem dL_law_558 : decode cL_law 558 = .ok (.iadd, 1) := by decide +kernel
theorem dL_law_559 : decode cL_law 559 = .ok (.iaload, 1) := by decide +kernel
theorem dL_law_560 : decode cL_law 560 = .ok (.aload_n 0, 1) := by decide +kernel
theorem dL_law_561 : decode cL_law 561 = .ok (.iload_n 3, 1) := by decide +kernel
theorem dL_law_562 : decode cL_law 562 = .ok (.iconst 2, 1) := by decide +kernel
theorem dL_law_563 : decode cL_law 563 = .ok (.iadd, 1) := by decide +kernel
theorem dL_law_564 : decode cL_law 564 = .ok (.iaload, 1) := by decide +kernel
theorem dL_law_565 : decode cL_law 565 = .ok (.aload_n 0, 1) := by decide +kernel
theorem dL_law_566 : decode cL_law 566 = .ok (.iload_n 3, 1) := by decide +kernel
theorem dL_law_567 : decode cL_law 567 = .ok (.iconst 3, 1) := by decide +kernel
theorem dL_law_568 : decode cL_law 568 = .ok (.iadd, 1) := by decide +kernel
theorem dL_law_569 : decode cL_law 569 = .ok (.iaload, 1) := by decide +kernel
theorem dL_law_570 : decode cL_law 570 = .ok (.aload_n 0, 1) := by decide +kernel
theorem dL_law_571 : decode cL_law 571 = .ok (.iload_n 3, 1) := by decide +kernel
theorem dL_law_572 : decode cL_law 572 = .ok (.iconst 4, 1) := by decide +kernel
theorem dL_law_573 : decode cL_law 573 = .ok (.iadd, 1) := by decide +kernel
theorem dL_law_574 : decode cL_law 574 = .ok (.iaload, 1) := by decide +kernel
theorem dL_law_575 : decode cL_law 575 = .ok (.aload_n 0, 1) := by decide +kernel
theorem dL_law_576 : decode cL_law 576 = .ok (.iload_n 3, 1) := by decide +kernel
theorem dL_law_577 : decode cL_law 577 = .ok (.iconst 5, 1) := by decide +kernel
theorem dL_law_578 : decode cL_law 578 = .ok (.iadd, 1) := by decide +kernel
theorem dL_law_579 : decode cL_law 579 = .ok (.iaload, 1) := by decide +kernel
theorem dL_law_580 : decode cL_law 580 = .ok (.aload_n 0, 1) := by decide +kernel
theorem dL_law_581 : decode cL_law 581 = .ok (.iload_n 3, 1) := by decide +kernel
theorem dL_law_582 : decode cL_law 582 = .ok (.bipush 6, 2) := by decide +kernel
theorem dL_law_584 : decode cL_law 584 = .ok (.iadd, 1) := by decide +kernel
theorem dL_law_585 : decode cL_law 585 = .ok (.iaload, 1) := by decide +kernel
theorem dL_law_586 : decode cL_law 586 = .ok (.invokevirtual 68, 3) := by decide +kernel
theorem dL_law_589 : decode cL_law 589 = .ok (.if_icmp .eq 631, 3) := by decide +kernel
theorem dL_law_592 : decode cL_law 592 = .ok (.iconst 0, 1) := by decide +kernel
theorem dL_law_593 : decode cL_law 593 = .ok (.ireturn, 1) := by decide +kernel
theorem dL_law_594 : decode cL_law 594 = .ok (.aload_n 1, 1) := by decide +kernel
theorem dL_law_595 : decode cL_law 595 = .ok (.invokevirtual 69, 3) := by decide +kernel
theorem dL_law_598 : decode cL_law 598 = .ok (.aload_n 2, 1) := by decide +kernel
theorem dL_law_599 : decode cL_law 599 = .ok (.invokevirtual 73, 3) := by decide +kernel
theorem dL_law_602 : decode cL_law 602 = .ok (.lcmp, 1) := by decide +kernel
theorem dL_law_603 : decode cL_law 603 = .ok (.ifCond .eq 617, 3) := by decide +kernel
theorem dL_law_606 : decode cL_law 606 = .ok (.iconst 0, 1) := by decide +kernel
theorem dL_law_607 : decode cL_law 607 = .ok (.ireturn, 1) := by decide +kernel
theorem dL_law_608 : decode cL_law 608 = .ok (.aload_n 1, 1) := by decide +kernel
theorem dL_law_609 : decode cL_law 609 = .ok (.aload_n 0, 1) := by decide +kernel
theorem dL_law_610 : decode cL_law 610 = .ok (.iload_n 3, 1) := by decide +kernel
theorem dL_law_611 : decode cL_law 611 = .ok (.iconst 1, 1) := by decide +kernel
theorem dL_law_612 : decode cL_law 612 = .ok (.iadd, 1) := by decide +kernel
theorem dL_law_613 : decode cL_law 613 = .ok (.iaload, 1) := by decide +kernel
theorem dL_law_614 : decode cL_law 614 = .ok (.aload_n 0, 1) := by decide +kernel
theorem dL_law_615 : decode cL_law 615 = .ok (.iload_n 3, 1) := by decide +kernel
theorem dL_law_616 : decode cL_law 616 = .ok (.iconst 2, 1) := by decide +kernel
theorem dL_law_617 : decode cL_law 617 = .ok (.iadd, 1) := by decide +kernel
theorem dL_law_618 : decode cL_law 618 = .ok (.iaload, 1) := by decide +kernel
theorem dL_law_619 : decode cL_law 619 = .ok (.aload_n 0, 1) := by decide +kernel
theorem dL_law_620 : decode cL_law 620 = .ok (.iload_n 3, 1) := by decide +kernel
theorem dL_law_621 : decode cL_law 621 = .ok (.iconst 3, 1) := by decide +kernel
theorem dL_law_622 : decode cL_law 622 = .ok (.iadd, 1) := by decide +kernel
theorem dL_law_623 : decode cL_law 623 = .ok (.iaload, 1) := by decide +kernel
theorem dL_law_624 : decode cL_law 624 = .ok (.invokevirtual 74, 3) := by decide +kernel
theorem dL_law_627 : decode cL_law 627 = .ok (.aload_n 2, 1) := by decide +kernel
theorem dL_law_628 : decode cL_law 628 = .ok (.aload_n 0, 1) := by decide +kernel
theorem dL_law_629 : decode cL_law 629 = .ok (.iload_n 3, 1) := by decide +kernel
theorem dL_law_630 : decode cL_law 630 = .ok (.iconst 1, 1) := by decide +kernel
theorem dL_law_631 : decode cL_law 631 = .ok (.iadd, 1) := by decide +kernel
theorem dL_law_632 : decode cL_law 632 = .ok (.iaload, 1) := by decide +kernel
theorem dL_law_633 : decode cL_law 633 = .ok (.aload_n 0, 1) := by decide +kernel
theorem dL_law_634 : decode cL_law 634 = .ok (.iload_n 3, 1) := by decide +kernel
theorem dL_law_635 : decode cL_law 635 = .ok (.iconst 2, 1) := by decide +kernel
theorem dL_law_636 : decode cL_law 636 = .ok (.iadd, 1) := by decide +kernel
theorem dL_law_637 : decode cL_law 637 = .ok (.iaload, 1) := by decide +kernel
theorem dL_law_638 : decode cL_law 638 = .ok (.aload_n 0, 1) := by decide +kernel
theorem dL_law_639 : decode cL_law 639 = .ok (.iload_n 3, 1) := by decide +kernel
theorem dL_law_640 : decode cL_law 640 = .ok (.iconst 3, 1) := by decide +kernel
theorem dL_law_641 : decode cL_law 641 = .ok (.iadd, 1) := by decide +kernel
theorem dL_law_642 : decode cL_law 642 = .ok (.iaload, 1) := by decide +kernel
theorem dL_law_643 : decode cL_law 643 = .ok (.invokevirtual 78, 3) := by decide +kernel
theorem dL_law_646 : decode cL_law 646 = .ok (.if_icmp .eq 574, 3) := by decide +kernel
theorem dL_law_649 : decode cL_law 649 = .ok (.iconst 0, 1) := by decide +kernel
theorem dL_law_650 : decode cL_law 650 = .ok (.ireturn, 1) := by decide +kernel
theorem dL_law_651 : decode cL_law 651 = .ok (.aload_n 1, 1) := by decide +kernel
theorem dL_law_652 : decode cL_law 652 = .ok (.aload_n 0, 1) := by decide +kernel
theorem dL_law_653 : decode cL_law 653 = .ok (.iload_n 3, 1) := by decide +kernel
theorem dL_law_654 : decode cL_law 654 = .ok (.iconst 1, 1) := by decide +kernel
theorem dL_law_655 : decode cL_law 655 = .ok (.iadd, 1) := by decide +kernel
theorem dL_law_656 : decode cL_law 656 = .ok (.iaload, 1) := by decide +kernel
theorem dL_law_657 : decode cL_law 657 = .ok (.aload_n 0, 1) := by decide +kernel
theorem dL_law_658 : decode cL_law 658 = .ok (.iload_n 3, 1) := by decide +kernel
theorem dL_law_659 : decode cL_law 659 = .ok (.iconst 2, 1) := by decide +kernel
theorem dL_law_660 : decode cL_law 660 = .ok (.iadd, 1) := by decide +kernel
theorem dL_law_661 : decode cL_law 661 = .ok (.iaload, 1) := by decide +kernel
theorem dL_law_662 : decode cL_law 662 = .ok (.aload_n 0, 1) := by decide +kernel
theorem dL_law_663 : decode cL_law 663 = .ok (.iload_n 3, 1) := by decide +kernel
theorem dL_law_664 : decode cL_law 664 = .ok (.iconst 3, 1) := by decide +kernel
theorem dL_law_665 : decode cL_law 665 = .ok (.iadd, 1) := by decide +kernel
theorem dL_law_666 : decode cL_law 666 = .ok (.iaload, 1) := by decide +kernel
theorem dL_law_667 : decode cL_law 667 = .ok (.aload_n 0, 1) := by decide +kernel
theorem dL_law_668 : decode cL_law 668 = .ok (.iload_n 3, 1) := by decide +kernel
theorem dL_law_669 : decode cL_law 669 = .ok (.iconst 4, 1) := by decide +kernel
theorem dL_law_670 : decode cL_law 670 = .ok (.iadd, 1) := by decide +kernel
theorem dL_law_671 : decode cL_law 671 = .ok (.iaload, 1) := by decide +kernel
theorem dL_law_672 : decode cL_law 672 = .ok (.aload_n 0, 1) := by decide +kernel
theorem dL_law_673 : decode cL_law 673 = .ok (.iload_n 3, 1) := by decide +kernel
theorem dL_law_674 : decode cL_law 674 = .ok (.iconst 5, 1) := by decide +kernel
theorem dL_law_675 : decode cL_law 675 = .ok (.iadd, 1) := by decide +kernel
theorem dL_law_676 : decode cL_law 676 = .ok (.iaload, 1) := by decide +kernel
theorem dL_law_677 : decode cL_law 677 = .ok (.invokevirtual 79, 3) := by decide +kernel
theorem dL_law_680 : decode cL_law 680 = .ok (.aload_n 2, 1) := by decide +kernel
theorem dL_law_681 : decode cL_law 681 = .ok (.aload_n 0, 1) := by decide +kernel
theorem dL_law_682 : decode cL_law 682 = .ok (.iload_n 3, 1) := by decide +kernel
theorem dL_law_683 : decode cL_law 683 = .ok (.iconst 1, 1) := by decide +kernel
theorem dL_law_684 : decode cL_law 684 = .ok (.iadd, 1) := by decide +kernel
theorem dL_law_685 : decode cL_law 685 = .ok (.iaload, 1) := by decide +kernel
theorem dL_law_686 : decode cL_law 686 = .ok (.aload_n 0, 1) := by decide +kernel
theorem dL_law_687 : decode cL_law 687 = .ok (.iload_n 3, 1) := by decide +kernel
theorem dL_law_688 : decode cL_law 688 = .ok (.iconst 2, 1) := by decide +kernel
theorem dL_law_689 : decode cL_law 689 = .ok (.iadd, 1) := by decide +kernel
theorem dL_law_690 : decode cL_law 690 = .ok (.iaload, 1) := by decide +kernel
theorem dL_law_691 : decode cL_law 691 = .ok (.aload_n 0, 1) := by decide +kernel
theorem dL_law_692 : decode cL_law 692 = .ok (.iload_n 3, 1) := by decide +kernel
theorem dL_law_693 : decode cL_law 693 = .ok (.iconst 3, 1) := by decide +kernel
theorem dL_law_694 : decode cL_law 694 = .ok (.iadd, 1) := by decide +kernel
theorem dL_law_695 : decode cL_law 695 = .ok (.iaload, 1) := by decide +kernel
theorem dL_law_696 : decode cL_law 696 = .ok (.aload_n 0, 1) := by decide +kernel
theorem dL_law_697 : decode cL_law 697 = .ok (.iload_n 3, 1) := by decide +kernel
theorem dL_law_698 : decode cL_law 698 = .ok (.iconst 4, 1) := by decide +kernel
theorem dL_law_699 : decode cL_law 699 = .ok (.iadd, 1) := by decide +kernel
theorem dL_law_700 : decode cL_law 700 = .ok (.iaload, 1) := by decide +kernel
theorem dL_law_701 : decode cL_law 701 = .ok (.aload_n 0, 1) := by decide +kernel
theorem dL_law_702 : decode cL_law 702 = .ok (.iload_n 3, 1) := by decide +kernel
theorem dL_law_703 : decode cL_law 703 = .ok (.iconst 5, 1) := by decide +kernel
theorem dL_law_704 : decode cL_law 704 = .ok (.iadd, 1) := by decide +kernel
theorem dL_law_705 : decode cL_law 705 = .ok (.iaload, 1) := by decide +kernel
theorem dL_law_706 : decode cL_law 706 = .ok (.invokevirtual 82, 3) := by decide +kernel
theorem dL_law_709 : decode cL_law 709 = .ok (.if_icmp .eq 511, 3) := by decide +kernel
theorem dL_law_712 : decode cL_law 712 = .ok (.iconst 0, 1) := by decide +kernel
theorem dL_law_713 : decode cL_law 713 = .ok (.ireturn, 1) := by decide +kernel
theorem dL_law_714 : decode cL_law 714 = .ok (.aload_n 1, 1) := by decide +kernel
theorem dL_law_715 : decode cL_law 715 = .ok (.aload_n 0, 1) := by decide +kernel
theorem dL_law_716 : decode cL_law 716 = .ok (.iload_n 3, 1) := by decide +kernel
theorem dL_law_717 : decode cL_law 717 = .ok (.iconst 1, 1) := by decide +kernel
theorem dL_law_718 : decode cL_law 718 = .ok (.iadd, 1) := by decide +kernel
theorem dL_law_719 : decode cL_law 719 = .ok (.iaload, 1) := by decide +kernel
theorem dL_law_720 : decode cL_law 720 = .ok (.aload_n 0, 1) := by decide +kernel
theorem dL_law_721 : decode cL_law 721 = .ok (.iload_n 3, 1) := by decide +kernel
theorem dL_law_722 : decode cL_law 722 = .ok (.iconst 2, 1) := by decide +kernel
theorem dL_law_723 : decode cL_law 723 = .ok (.iadd, 1) := by decide +kernel
theorem dL_law_724 : decode cL_law 724 = .ok (.iaload, 1) := by decide +kernel
theorem dL_law_725 : decode cL_law 725 = .ok (.aload_n 0, 1) := by decide +kernel
theorem dL_law_726 : decode cL_law 726 = .ok (.iload_n 3, 1) := by decide +kernel
theorem dL_law_727 : decode cL_law 727 = .ok (.iconst 3, 1) := by decide +kernel
theorem dL_law_728 : decode cL_law 728 = .ok (.iadd, 1) := by decide +kernel
theorem dL_law_729 : decode cL_law 729 = .ok (.iaload, 1) := by decide +kernel
theorem dL_law_730 : decode cL_law 730 = .ok (.aload_n 0, 1) := by decide +kernel
theorem dL_law_731 : decode cL_law 731 = .ok (.iload_n 3, 1) := by decide +kernel
theorem dL_law_732 : decode cL_law 732 = .ok (.iconst 4, 1) := by decide +kernel
theorem dL_law_733 : decode cL_law 733 = .ok (.iadd, 1) := by decide +kernel
theorem dL_law_734 : decode cL_law 734 = .ok (.iaload, 1) := by decide +kernel
theorem dL_law_735 : decode cL_law 735 = .ok (.aload_n 0, 1) := by decide +kernel
theorem dL_law_736 : decode cL_law 736 = .ok (.iload_n 3, 1) := by decide +kernel
theorem dL_law_737 : decode cL_law 737 = .ok (.iconst 5, 1) := by decide +kernel
theorem dL_law_738 : decode cL_law 738 = .ok (.iadd, 1) := by decide +kernel
theorem dL_law_739 : decode cL_law 739 = .ok (.iaload, 1) := by decide +kernel
theorem dL_law_740 : decode cL_law 740 = .ok (.aload_n 0, 1) := by decide +kernel
theorem dL_law_741 : decode cL_law 741 = .ok (.iload_n 3, 1) := by decide +kernel
theorem dL_law_742 : decode cL_law 742 = .ok (.bipush 6, 2) := by decide +kernel
theorem dL_law_744 : decode cL_law 744 = .ok (.iadd, 1) := by decide +kernel
theorem dL_law_745 : decode cL_law 745 = .ok (.iaload, 1) := by decide +kernel
theorem dL_law_746 : decode cL_law 746 = .ok (.invokevirtual 83, 3) := by decide +kernel
theorem dL_law_749 : decode cL_law 749 = .ok (.aload_n 2, 1) := by decide +kernel
theorem dL_law_750 : decode cL_law 750 = .ok (.aload_n 0, 1) := by decide +kernel
theorem dL_law_751 : decode cL_law 751 = .ok (.iload_n 3, 1) := by decide +kernel
theorem dL_law_752 : decode cL_law 752 = .ok (.iconst 1, 1) := by decide +kernel
theorem dL_law_753 : decode cL_law 753 = .ok (.iadd, 1) := by decide +kernel
theorem dL_law_754 : decode cL_law 754 = .ok (.iaload, 1) := by decide +kernel
theorem dL_law_755 : decode cL_law 755 = .ok (.aload_n 0, 1) := by decide +kernel
theorem dL_law_756 : decode cL_law 756 = .ok (.iload_n 3, 1) := by decide +kernel
theorem dL_law_757 : decode cL_law 757 = .ok (.iconst 2, 1) := by decide +kernel
theorem dL_law_758 : decode cL_law 758 = .ok (.iadd, 1) := by decide +kernel
theorem dL_law_759 : decode cL_law 759 = .ok (.iaload, 1) := by decide +kernel
theorem dL_law_760 : decode cL_law 760 = .ok (.aload_n 0, 1) := by decide +kernel
theorem dL_law_761 : decode cL_law 761 = .ok (.iload_n 3, 1) := by decide +kernel
theorem dL_law_762 : decode cL_law 762 = .ok (.iconst 3, 1) := by decide +kernel
theorem dL_law_763 : decode cL_law 763 = .ok (.iadd, 1) := by decide +kernel
theorem dL_law_764 : decode cL_law 764 = .ok (.iaload, 1) := by decide +kernel
theorem dL_law_765 : decode cL_law 765 = .ok (.aload_n 0, 1) := by decide +kernel
theorem dL_law_766 : decode cL_law 766 = .ok (.iload_n 3, 1) := by decide +kernel
theorem dL_law_767 : decode cL_law 767 = .ok (.iconst 4, 1) := by decide +kernel
theorem dL_law_768 : decode cL_law 768 = .ok (.iadd, 1) := by decide +kernel
theorem dL_law_769 : decode cL_law 769 = .ok (.iaload, 1) := by decide +kernel
theorem dL_law_770 : decode cL_law 770 = .ok (.aload_n 0, 1) := by decide +kernel
theorem dL_law_771 : decode cL_law 771 = .ok (.iload_n 3, 1) := by decide +kernel
theorem dL_law_772 : decode cL_law 772 = .ok (.iconst 5, 1) := by decide +kernel
theorem dL_law_773 : decode cL_law 773 = .ok (.iadd, 1) := by decide +kernel
theorem dL_law_774 : decode cL_law 774 = .ok (.iaload, 1) := by decide +kernel
theorem dL_law_775 : decode cL_law 775 = .ok (.aload_n 0, 1) := by decide +kernel
theorem dL_law_776 : decode cL_law 776 = .ok (.iload_n 3, 1) := by decide +kernel
theorem dL_law_777 : decode cL_law 777 = .ok (.bipush 6, 2) := by decide +kernel
theorem dL_law_779 : decode cL_law 779 = .ok (.iadd, 1) := by decide +kernel
theorem dL_law_780 : decode cL_law 780 = .ok (.iaload, 1) := by decide +kernel
theorem dL_law_781 : decode cL_law 781 = .ok (.invokevirtual 86, 3) := by decide +kernel
theorem dL_law_784 : decode cL_law 784 = .ok (.if_icmp .eq 436, 3) := by decide +kernel
theorem dL_law_787 : decode cL_law 787 = .ok (.iconst 0, 1) := by decide +kernel
theorem dL_law_788 : decode cL_law 788 = .ok (.ireturn, 1) := by decide +kernel
theorem dL_law_789 : decode cL_law 789 = .ok (.aload_n 1, 1) := by decide +kernel
theorem dL_law_790 : decode cL_law 790 = .ok (.aload_n 0, 1) := by decide +kernel
theorem dL_law_791 : decode cL_law 791 = .ok (.iload_n 3, 1) := by decide +kernel
theorem dL_law_792 : decode cL_law 792 = .ok (.iconst 1, 1) := by decide +kernel
theorem dL_law_793 : decode cL_law 793 = .ok (.iadd, 1) := by decide +kernel
theorem dL_law_794 : decode cL_law 794 = .ok (.iaload, 1) := by decide +kernel
theorem dL_law_795 : decode cL_law 795 = .ok (.aload_n 0, 1) := by decide +kernel
theorem dL_law_796 : decode cL_law 796 = .ok (.iload_n 3, 1) := by decide +kernel
theorem dL_law_797 : decode cL_law 797 = .ok (.iconst 2, 1) := by decide +kernel
theorem dL_law_798 : decode cL_law 798 = .ok (.iadd, 1) := by decide +kernel
theorem dL_law_799 : decode cL_law 799 = .ok (.iaload, 1) := by decide +kernel
theorem dL_law_800 : decode cL_law 800 = .ok (.aload_n 0, 1) := by decide +kernel
theorem dL_law_801 : decode cL_law 801 = .ok (.iload_n 3, 1) := by decide +kernel
theorem dL_law_802 : decode cL_law 802 = .ok (.iconst 3, 1) := by decide +kernel
theorem dL_law_803 : decode cL_law 803 = .ok (.iadd, 1) := by decide +kernel
theorem dL_law_804 : decode cL_law 804 = .ok (.iaload, 1) := by decide +kernel
theorem dL_law_805 : decode cL_law 805 = .ok (.invokevirtual 87, 3) := by decide +kernel
theorem dL_law_808 : decode cL_law 808 = .ok (.aload_n 2, 1) := by decide +kernel
theorem dL_law_809 : decode cL_law 809 = .ok (.aload_n 0, 1) := by decide +kernel
theorem dL_law_810 : decode cL_law 810 = .ok (.iload_n 3, 1) := by decide +kernel
theorem dL_law_811 : decode cL_law 811 = .ok (.iconst 1, 1) := by decide +kernel
theorem dL_law_812 : decode cL_law 812 = .ok (.iadd, 1) := by decide +kernel
theorem dL_law_813 : decode cL_law 813 = .ok (.iaload, 1) := by decide +kernel
theorem dL_law_814 : decode cL_law 814 = .ok (.aload_n 0, 1) := by decide +kernel
theorem dL_law_815 : decode cL_law 815 = .ok (.iload_n 3, 1) := by decide +kernel
theorem dL_law_816 : decode cL_law 816 = .ok (.iconst 2, 1) := by decide +kernel
theorem dL_law_817 : decode cL_law 817 = .ok (.iadd, 1) := by decide +kernel
theorem dL_law_818 : decode cL_law 818 = .ok (.iaload, 1) := by decide +kernel
theorem dL_law_819 : decode cL_law 819 = .ok (.aload_n 0, 1) := by decide +kernel
theorem dL_law_820 : decode cL_law 820 = .ok (.iload_n 3, 1) := by decide +kernel
theorem dL_law_821 : decode cL_law 821 = .ok (.iconst 3, 1) := by decide +kernel
theorem dL_law_822 : decode cL_law 822 = .ok (.iadd, 1) := by decide +kernel
theorem dL_law_823 : decode cL_law 823 = .ok (.iaload, 1) := by decide +kernel
theorem dL_law_824 : decode cL_law 824 = .ok (.invokevirtual 90, 3) := by decide +kernel
theorem dL_law_827 : decode cL_law 827 = .ok (.if_icmp .eq 393, 3) := by decide +kernel
theorem dL_law_830 : decode cL_law 830 = .ok (.iconst 0, 1) := by decide +kernel
theorem dL_law_831 : decode cL_law 831 = .ok (.ireturn, 1) := by decide +kernel
theorem dL_law_832 : decode cL_law 832 = .ok (.aload_n 1, 1) := by decide +kernel
theorem dL_law_833 : decode cL_law 833 = .ok (.aload_n 0, 1) := by decide +kernel
theorem dL_law_834 : decode cL_law 834 = .ok (.iload_n 3, 1) := by decide +kernel
theorem dL_law_835 : decode cL_law 835 = .ok (.iconst 1, 1) := by decide +kernel
theorem dL_law_836 : decode cL_law 836 = .ok (.iadd, 1) := by decide +kernel
theorem dL_law_837 : decode cL_law 837 = .ok (.iaload, 1) := by decide +kernel
theorem dL_law_838 : decode cL_law 838 = .ok (.aload_n 0, 1) := by decide +kernel
theorem dL_law_839 : decode cL_law 839 = .ok (.iload_n 3, 1) := by decide +kernel
theorem dL_law_840 : decode cL_law 840 = .ok (.iconst 2, 1) := by decide +kernel
theorem dL_law_841 : decode cL_law 841 = .ok (.iadd, 1) := by decide +kernel
theorem dL_law_842 : decode cL_law 842 = .ok (.iaload, 1) := by decide +kernel
theorem dL_law_843 : decode cL_law 843 = .ok (.aload_n 0, 1) := by decide +kernel
theorem dL_law_844 : decode cL_law 844 = .ok (.iload_n 3, 1) := by decide +kernel
theorem dL_law_845 : decode cL_law 845 = .ok (.iconst 3, 1) := by decide +kernel
theorem dL_law_846 : decode cL_law 846 = .ok (.iadd, 1) := by decide +kernel
theorem dL_law_847 : decode cL_law 847 = .ok (.iaload, 1) := by decide +kernel
theorem dL_law_848 : decode cL_law 848 = .ok (.aload_n 0, 1) := by decide +kernel
theorem dL_law_849 : decode cL_law 849 = .ok (.iload_n 3, 1) := by decide +kernel
theorem dL_law_850 : decode cL_law 850 = .ok (.iconst 4, 1) := by decide +kernel
theorem dL_law_851 : decode cL_law 851 = .ok (.iadd, 1) := by decide +kernel
theorem dL_law_852 : decode cL_law 852 = .ok (.iaload, 1) := by decide +kernel
theorem dL_law_853 : decode cL_law 853 = .ok (.aload_n 0, 1) := by decide +kernel
theorem dL_law_854 : decode cL_law 854 = .ok (.iload_n 3, 1) := by decide +kernel
theorem dL_law_855 : decode cL_law 855 = .ok (.iconst 5, 1) := by decide +kernel
theorem dL_law_856 : decode cL_law 856 = .ok (.iadd, 1) := by decide +kernel
theorem dL_law_857 : decode cL_law 857 = .ok (.iaload, 1) := by decide +kernel
theorem dL_law_858 : decode cL_law 858 = .ok (.aload_n 0, 1) := by decide +kernel
theorem dL_law_859 : decode cL_law 859 = .ok (.iload_n 3, 1) := by decide +kernel
theorem dL_law_860 : decode cL_law 860 = .ok (.bipush 6, 2) := by decide +kernel
theorem dL_law_862 : decode cL_law 862 = .ok (.iadd, 1) := by decide +kernel
theorem dL_law_863 : decode cL_law 863 = .ok (.iaload, 1) := by decide +kernel
theorem dL_law_864 : decode cL_law 864 = .ok (.invokevirtual 91, 3) := by decide +kernel
theorem dL_law_867 : decode cL_law 867 = .ok (.aload_n 2, 1) := by decide +kernel
theorem dL_law_868 : decode cL_law 868 = .ok (.aload_n 0, 1) := by decide +kernel
theorem dL_law_869 : decode cL_law 869 = .ok (.iload_n 3, 1) := by decide +kernel
theorem dL_law_870 : decode cL_law 870 = .ok (.iconst 1, 1) := by decide +kernel
theorem dL_law_871 : decode cL_law 871 = .ok (.iadd, 1) := by decide +kernel
theorem dL_law_872 : decode cL_law 872 = .ok (.iaload, 1) := by decide +kernel
theorem dL_law_873 : decode cL_law 873 = .ok (.aload_n 0, 1) := by decide +kernel
theorem dL_law_874 : decode cL_law 874 = .ok (.iload_n 3, 1) := by decide +kernel
theorem dL_law_875 : decode cL_law 875 = .ok (.iconst 2, 1) := by decide +kernel
theorem dL_law_876 : decode cL_law 876 = .ok (.iadd, 1) := by decide +kernel
theorem dL_law_877 : decode cL_law 877 = .ok (.iaload, 1) := by decide +kernel
theorem dL_law_878 : decode cL_law 878 = .ok (.aload_n 0, 1) := by decide +kernel
theorem dL_law_879 : decode cL_law 879 = .ok (.iload_n 3, 1) := by decide +kernel
theorem dL_law_880 : decode cL_law 880 = .ok (.iconst 3, 1) := by decide +kernel
theorem dL_law_881 : decode cL_law 881 = .ok (.iadd, 1) := by decide +kernel
theorem dL_law_882 : decode cL_law 882 = .ok (.iaload, 1) := by decide +kernel
theorem dL_law_883 : decode cL_law 883 = .ok (.aload_n 0, 1) := by decide +kernel
theorem dL_law_884 : decode cL_law 884 = .ok (.iload_n 3, 1) := by decide +kernel
theorem dL_law_885 : decode cL_law 885 = .ok (.iconst 4, 1) := by decide +kernel
theorem dL_law_886 : decode cL_law 886 = .ok (.iadd, 1) := by decide +kernel
theorem dL_law_887 : decode cL_law 887 = .ok (.iaload, 1) := by decide +kernel
theorem dL_law_888 : decode cL_law 888 = .ok (.aload_n 0, 1) := by decide +kernel
theorem dL_law_889 : decode cL_law 889 = .ok (.iload_n 3, 1) := by decide +kernel
theorem dL_law_890 : decode cL_law 890 = .ok (.iconst 5, 1) := by decide +kernel
theorem dL_law_891 : decode cL_law 891 = .ok (.iadd, 1) := by decide +kernel
theorem dL_law_892 : decode cL_law 892 = .ok (.iaload, 1) := by decide +kernel
theorem dL_law_893 : decode cL_law 893 = .ok (.aload_n 0, 1) := by decide +kernel
theorem dL_law_894 : decode cL_law 894 = .ok (.iload_n 3, 1) := by decide +kernel
theorem dL_law_895 : decode cL_law 895 = .ok (.bipush 6, 2) := by decide +kernel
theorem dL_law_897 : decode cL_law 897 = .ok (.iadd, 1) := by decide +kernel
theorem dL_law_898 : decode cL_law 898 = .ok (.iaload, 1) := by decide +kernel
theorem dL_law_899 : decode cL_law 899 = .ok (.invokevirtual 94, 3) := by decide +kernel
theorem dL_law_902 : decode cL_law 902 = .ok (.if_icmp .eq 318, 3) := by decide +kernel
theorem dL_law_905 : decode cL_law 905 = .ok (.iconst 0, 1) := by decide +kernel
theorem dL_law_906 : decode cL_law 906 = .ok (.ireturn, 1) := by decide +kernel
theorem dL_law_907 : decode cL_law 907 = .ok (.aload_n 1, 1) := by decide +kernel
theorem dL_law_908 : decode cL_law 908 = .ok (.aload_n 0, 1) := by decide +kernel
theorem dL_law_909 : decode cL_law 909 = .ok (.iload_n 3, 1) := by decide +kernel
theorem dL_law_910 : decode cL_law 910 = .ok (.iconst 1, 1) := by decide +kernel
theorem dL_law_911 : decode cL_law 911 = .ok (.iadd, 1) := by decide +kernel
theorem dL_law_912 : decode cL_law 912 = .ok (.iaload, 1) := by decide +kernel
theorem dL_law_913 : decode cL_law 913 = .ok (.aload_n 0, 1) := by decide +kernel
theorem dL_law_914 : decode cL_law 914 = .ok (.iload_n 3, 1) := by decide +kernel
theorem dL_law_915 : decode cL_law 915 = .ok (.iconst 2, 1) := by decide +kernel
theorem dL_law_916 : decode cL_law 916 = .ok (.iadd, 1) := by decide +kernel
theorem dL_law_917 : decode cL_law 917 = .ok (.iaload, 1) := by decide +kernel
theorem dL_law_918 : decode cL_law 918 = .ok (.aload_n 0, 1) := by decide +kernel
theorem dL_law_919 : decode cL_law 919 = .ok (.iload_n 3, 1) := by decide +kernel
theorem dL_law_920 : decode cL_law 920 = .ok (.iconst 3, 1) := by decide +kernel
theorem dL_law_921 : decode cL_law 921 = .ok (.iadd, 1) := by decide +kernel
theorem dL_law_922 : decode cL_law 922 = .ok (.iaload, 1) := by decide +kernel
theorem dL_law_923 : decode cL_law 923 = .ok (.invokevirtual 95, 3) := by decide +kernel
theorem dL_law_926 : decode cL_law 926 = .ok (.aload_n 2, 1) := by decide +kernel
theorem dL_law_927 : decode cL_law 927 = .ok (.aload_n 0, 1) := by decide +kernel
theorem dL_law_928 : decode cL_law 928 = .ok (.iload_n 3, 1) := by decide +kernel
theorem dL_law_929 : decode cL_law 929 = .ok (.iconst 1, 1) := by decide +kernel
theorem dL_law_930 : decode cL_law 930 = .ok (.iadd, 1) := by decide +kernel
theorem dL_law_931 : decode cL_law 931 = .ok (.iaload, 1) := by decide +kernel
theorem dL_law_932 : decode cL_law 932 = .ok (.aload_n 0, 1) := by decide +kernel
theorem dL_law_933 : decode cL_law 933 = .ok (.iload_n 3, 1) := by decide +kernel
theorem dL_law_934 : decode cL_law 934 = .ok (.iconst 2, 1) := by decide +kernel
theorem dL_law_935 : decode cL_law 935 = .ok (.iadd, 1) := by decide +kernel
theorem dL_law_936 : decode cL_law 936 = .ok (.iaload, 1) := by decide +kernel
theorem dL_law_937 : decode cL_law 937 = .ok (.aload_n 0, 1) := by decide +kernel
theorem dL_law_938 : decode cL_law 938 = .ok (.iload_n 3, 1) := by decide +kernel
theorem dL_law_939 : decode cL_law 939 = .ok (.iconst 3, 1) := by decide +kernel
theorem dL_law_940 : decode cL_law 940 = .ok (.iadd, 1) := by decide +kernel
theorem dL_law_941 : decode cL_law 941 = .ok (.iaload, 1) := by decide +kernel
theorem dL_law_942 : decode cL_law 942 = .ok (.invokevirtual 98, 3) := by decide +kernel
theorem dL_law_945 : decode cL_law 945 = .ok (.if_icmp .eq 275, 3) := by decide +kernel
theorem dL_law_948 : decode cL_law 948 = .ok (.iconst 0, 1) := by decide +kernel
theorem dL_law_949 : decode cL_law 949 = .ok (.ireturn, 1) := by decide +kernel
theorem dL_law_950 : decode cL_law 950 = .ok (.aload_n 1, 1) := by decide +kernel
theorem dL_law_951 : decode cL_law 951 = .ok (.aload_n 0, 1) := by decide +kernel
theorem dL_law_952 : decode cL_law 952 = .ok (.iload_n 3, 1) := by decide +kernel
theorem dL_law_953 : decode cL_law 953 = .ok (.iconst 1, 1) := by decide +kernel
theorem dL_law_954 : decode cL_law 954 = .ok (.iadd, 1) := by decide +kernel
theorem dL_law_955 : decode cL_law 955 = .ok (.iaload, 1) := by decide +kernel
theorem dL_law_956 : decode cL_law 956 = .ok (.aload_n 0, 1) := by decide +kernel
theorem dL_law_957 : decode cL_law 957 = .ok (.iload_n 3, 1) := by decide +kernel
theorem dL_law_958 : decode cL_law 958 = .ok (.iconst 2, 1) := by decide +kernel
theorem dL_law_959 : decode cL_law 959 = .ok (.iadd, 1) := by decide +kernel
theorem dL_law_960 : decode cL_law 960 = .ok (.iaload, 1) := by decide +kernel
theorem dL_law_961 : decode cL_law 961 = .ok (.aload_n 0, 1) := by decide +kernel
theorem dL_law_962 : decode cL_law 962 = .ok (.iload_n 3, 1) := by decide +kernel
theorem dL_law_963 : decode cL_law 963 = .ok (.iconst 3, 1) := by decide +kernel
theorem dL_law_964 : decode cL_law 964 = .ok (.iadd, 1) := by decide +kernel
theorem dL_law_965 : decode cL_law 965 = .ok (.iaload, 1) := by decide +kernel
theorem dL_law_966 : decode cL_law 966 = .ok (.aload_n 0, 1) := by decide +kernel
theorem dL_law_967 : decode cL_law 967 = .ok (.iload_n 3, 1) := by decide +kernel
theorem dL_law_968 : decode cL_law 968 = .ok (.iconst 4, 1) := by decide +kernel
theorem dL_law_969 : decode cL_law 969 = .ok (.iadd, 1) := by decide +kernel
theorem dL_law_970 : decode cL_law 970 = .ok (.iaload, 1) := by decide +kernel
theorem dL_law_971 : decode cL_law 971 = .ok (.aload_n 0, 1) := by decide +kernel
theorem dL_law_972 : decode cL_law 972 = .ok (.iload_n 3, 1) := by decide +kernel
theorem dL_law_973 : decode cL_law 973 = .ok (.iconst 5, 1) := by decide +kernel
theorem dL_law_974 : decode cL_law 974 = .ok (.iadd, 1) := by decide +kernel
theorem dL_law_975 : decode cL_law 975 = .ok (.iaload, 1) := by decide +kernel
theorem dL_law_976 : decode cL_law 976 = .ok (.aload_n 0, 1) := by decide +kernel
theorem dL_law_977 : decode cL_law 977 = .ok (.iload_n 3, 1) := by decide +kernel
theorem dL_law_978 : decode cL_law 978 = .ok (.bipush 6, 2) := by decide +kernel
theorem dL_law_980 : decode cL_law 980 = .ok (.iadd, 1) := by decide +kernel
theorem dL_law_981 : decode cL_law 981 = .ok (.iaload, 1) := by decide +kernel
theorem dL_law_982 : decode cL_law 982 = .ok (.invokevirtual 99, 3) := by decide +kernel
theorem dL_law_985 : decode cL_law 985 = .ok (.aload_n 2, 1) := by decide +kernel
theorem dL_law_986 : decode cL_law 986 = .ok (.aload_n 0, 1) := by decide +kernel
theorem dL_law_987 : decode cL_law 987 = .ok (.iload_n 3, 1) := by decide +kernel
theorem dL_law_988 : decode cL_law 988 = .ok (.iconst 1, 1) := by decide +kernel
theorem dL_law_989 : decode cL_law 989 = .ok (.iadd, 1) := by decide +kernel
theorem dL_law_990 : decode cL_law 990 = .ok (.iaload, 1) := by decide +kernel
theorem dL_law_991 : decode cL_law 991 = .ok (.aload_n 0, 1) := by decide +kernel
theorem dL_law_992 : decode cL_law 992 = .ok (.iload_n 3, 1) := by decide +kernel
theorem dL_law_993 : decode cL_law 993 = .ok (.iconst 2, 1) := by decide +kernel
theorem dL_law_994 : decode cL_law 994 = .ok (.iadd, 1) := by decide +kernel
theorem dL_law_995 : decode cL_law 995 = .ok (.iaload, 1) := by decide +kernel
theorem dL_law_996 : decode cL_law 996 = .ok (.aload_n 0, 1) := by decide +kernel
theorem dL_law_997 : decode cL_law 997 = .ok (.iload_n 3, 1) := by decide +kernel
theorem dL_law_998 : decode cL_law 998 = .ok (.iconst 3, 1) := by decide +kernel
theorem dL_law_999 : decode cL_law 999 = .ok (.iadd, 1) := by decide +kernel
theorem dL_law_1000 : decode cL_law 1000 = .ok (.iaload, 1) := by decide +kernel
theorem dL_law_1001 : decode cL_law 1001 = .ok (.aload_n 0, 1) := by decide +kernel
theorem dL_law_1002 : decode cL_law 1002 = .ok (.iload_n 3, 1) := by decide +kernel
theorem dL_law_1003 : decode cL_law 1003 = .ok (.iconst 4, 1) := by decide +kernel
theorem dL_law_1004 : decode cL_law 1004 = .ok (.iadd, 1) := by decide +kernel
theorem dL_law_1005 : decode cL_law 1005 = .ok (.iaload, 1) := by decide +kernel
theorem dL_law_1006 : decode cL_law 1006 = .ok (.aload_n 0, 1) := by decide +kernel
theorem dL_law_1007 : decode cL_law 1007 = .ok (.iload_n 3, 1) := by decide +kernel
theorem dL_law_1008 : decode cL_law 1008 = .ok (.iconst 5, 1) := by decide +kernel
theorem dL_law_1009 : decode cL_law 1009 = .ok (.iadd, 1) := by decide +kernel
theorem dL_law_1010 : decode cL_law 1010 = .ok (.iaload, 1) := by decide +kernel
theorem dL_law_1011 : decode cL_law 1011 = .ok (.aload_n 0, 1) := by decide +kernel
theorem dL_law_1012 : decode cL_law 1012 = .ok (.iload_n 3, 1) := by decide +kernel
theorem dL_law_1013 : decode cL_law 1013 = .ok (.bipush 6, 2) := by decide +kernel
theorem dL_law_1015 : decode cL_law 1015 = .ok (.iadd, 1) := by decide +kernel
theorem dL_law_1016 : decode cL_law 1016 = .ok (.iaload, 1) := by decide +kernel
theorem dL_law_1017 : decode cL_law 1017 = .ok (.invokevirtual 102, 3) := by decide +kernel
theorem dL_law_1020 : decode cL_law 1020 = .ok (.if_icmp .eq 200, 3) := by decide +kernel
theorem dL_law_1023 : decode cL_law 1023 = .ok (.iconst 0, 1) := by decide +kernel
theorem dL_law_1024 : decode cL_law 1024 = .ok (.ireturn, 1) := by decide +kernel
theorem dL_law_1025 : decode cL_law 1025 = .ok (.aload_n 1, 1) := by decide +kernel
theorem dL_law_1026 : decode cL_law 1026 = .ok (.aload_n 0, 1) := by decide +kernel
theorem dL_law_1027 : decode cL_law 1027 = .ok (.iload_n 3, 1) := by decide +kernel
theorem dL_law_1028 : decode cL_law 1028 = .ok (.iconst 1, 1) := by decide +kernel
theorem dL_law_1029 : decode cL_law 1029 = .ok (.iadd, 1) := by decide +kernel
theorem dL_law_1030 : decode cL_law 1030 = .ok (.iaload, 1) := by decide +kernel
theorem dL_law_1031 : decode cL_law 1031 = .ok (.aload_n 0, 1) := by decide +kernel
theorem dL_law_1032 : decode cL_law 1032 = .ok (.iload_n 3, 1) := by decide +kernel
theorem dL_law_1033 : decode cL_law 1033 = .ok (.iconst 2, 1) := by decide +kernel
theorem dL_law_1034 : decode cL_law 1034 = .ok (.iadd, 1) := by decide +kernel
theorem dL_law_1035 : decode cL_law 1035 = .ok (.iaload, 1) := by decide +kernel
theorem dL_law_1036 : decode cL_law 1036 = .ok (.aload_n 0, 1) := by decide +kernel
theorem dL_law_1037 : decode cL_law 1037 = .ok (.iload_n 3, 1) := by decide +kernel
theorem dL_law_1038 : decode cL_law 1038 = .ok (.iconst 3, 1) := by decide +kernel
theorem dL_law_1039 : decode cL_law 1039 = .ok (.iadd, 1) := by decide +kernel
theorem dL_law_1040 : decode cL_law 1040 = .ok (.iaload, 1) := by decide +kernel
theorem dL_law_1041 : decode cL_law 1041 = .ok (.aload_n 0, 1) := by decide +kernel
theorem dL_law_1042 : decode cL_law 1042 = .ok (.iload_n 3, 1) := by decide +kernel
theorem dL_law_1043 : decode cL_law 1043 = .ok (.iconst 4, 1) := by decide +kernel
theorem dL_law_1044 : decode cL_law 1044 = .ok (.iadd, 1) := by decide +kernel
theorem dL_law_1045 : decode cL_law 1045 = .ok (.iaload, 1) := by decide +kernel
theorem dL_law_1046 : decode cL_law 1046 = .ok (.invokevirtual 103, 3) := by decide +kernel
theorem dL_law_1049 : decode cL_law 1049 = .ok (.aload_n 2, 1) := by decide +kernel
theorem dL_law_1050 : decode cL_law 1050 = .ok (.aload_n 0, 1) := by decide +kernel
theorem dL_law_1051 : decode cL_law 1051 = .ok (.iload_n 3, 1) := by decide +kernel
theorem dL_law_1052 : decode cL_law 1052 = .ok (.iconst 1, 1) := by decide +kernel
theorem dL_law_1053 : decode cL_law 1053 = .ok (.iadd, 1) := by decide +kernel
theorem dL_law_1054 : decode cL_law 1054 = .ok (.iaload, 1) := by decide +kernel
theorem dL_law_1055 : decode cL_law 1055 = .ok (.aload_n 0, 1) := by decide +kernel
theorem dL_law_1056 : decode cL_law 1056 = .ok (.iload_n 3, 1) := by decide +kernel
theorem dL_law_1057 : decode cL_law 1057 = .ok (.iconst 2, 1) := by decide +kernel
theorem dL_law_1058 : decode cL_law 1058 = .ok (.iadd, 1) := by decide +kernel
theorem dL_law_1059 : decode cL_law 1059 = .ok (.iaload, 1) := by decide +kernel
theorem dL_law_1060 : decode cL_law 1060 = .ok (.aload_n 0, 1) := by decide +kernel
theorem dL_law_1061 : decode cL_law 1061 = .ok (.iload_n 3, 1) := by decide +kernel
theorem dL_law_1062 : decode cL_law 1062 = .ok (.iconst 3, 1) := by decide +kernel
theorem dL_law_1063 : decode cL_law 1063 = .ok (.iadd, 1) := by decide +kernel
theorem dL_law_1064 : decode cL_law 1064 = .ok (.iaload, 1) := by decide +kernel
theorem dL_law_1065 : decode cL_law 1065 = .ok (.aload_n 0, 1) := by decide +kernel
theorem dL_law_1066 : decode cL_law 1066 = .ok (.iload_n 3, 1) := by decide +kernel
theorem dL_law_1067 : decode cL_law 1067 = .ok (.iconst 4, 1) := by decide +kernel
theorem dL_law_1068 : decode cL_law 1068 = .ok (.iadd, 1) := by decide +kernel
theorem dL_law_1069 : decode cL_law 1069 = .ok (.iaload, 1) := by decide +kernel
theorem dL_law_1070 : decode cL_law 1070 = .ok (.invokevirtual 107, 3) := by decide +kernel
theorem dL_law_1073 : decode cL_law 1073 = .ok (.if_icmp .eq 147, 3) := by decide +kernel
theorem dL_law_1076 : decode cL_law 1076 = .ok (.iconst 0, 1) := by decide +kernel
theorem dL_law_1077 : decode cL_law 1077 = .ok (.ireturn, 1) := by decide +kernel
theorem dL_law_1078 : decode cL_law 1078 = .ok (.aload_n 1, 1) := by decide +kernel
theorem dL_law_1079 : decode cL_law 1079 = .ok (.invokevirtual 108, 3) := by decide +kernel
theorem dL_law_1082 : decode cL_law 1082 = .ok (.aload_n 2, 1) := by decide +kernel
theorem dL_law_1083 : decode cL_law 1083 = .ok (.invokevirtual 111, 3) := by decide +kernel
theorem dL_law_1086 : decode cL_law 1086 = .ok (.if_icmp .eq 134, 3) := by decide +kernel
theorem dL_law_1089 : decode cL_law 1089 = .ok (.iconst 0, 1) := by decide +kernel
theorem dL_law_1090 : decode cL_law 1090 = .ok (.ireturn, 1) := by decide +kernel
theorem dL_law_1091 : decode cL_law 1091 = .ok (.aload_n 1, 1) := by decide +kernel
theorem dL_law_1092 : decode cL_law 1092 = .ok (.aload_n 0, 1) := by decide +kernel
theorem dL_law_1093 : decode cL_law 1093 = .ok (.iload_n 3, 1) := by decide +kernel
theorem dL_law_1094 : decode cL_law 1094 = .ok (.iconst 1, 1) := by decide +kernel
theorem dL_law_1095 : decode cL_law 1095 = .ok (.iadd, 1) := by decide +kernel
theorem dL_law_1096 : decode cL_law 1096 = .ok (.iaload, 1) := by decide +kernel
theorem dL_law_1097 : decode cL_law 1097 = .ok (.invokevirtual 112, 3) := by decide +kernel
theorem dL_law_1100 : decode cL_law 1100 = .ok (.aload_n 2, 1) := by decide +kernel
theorem dL_law_1101 : decode cL_law 1101 = .ok (.aload_n 0, 1) := by decide +kernel
theorem dL_law_1102 : decode cL_law 1102 = .ok (.iload_n 3, 1) := by decide +kernel
theorem dL_law_1103 : decode cL_law 1103 = .ok (.iconst 1, 1) := by decide +kernel
theorem dL_law_1104 : decode cL_law 1104 = .ok (.iadd, 1) := by decide +kernel
theorem dL_law_1105 : decode cL_law 1105 = .ok (.iaload, 1) := by decide +kernel
theorem dL_law_1106 : decode cL_law 1106 = .ok (.invokevirtual 116, 3) := by decide +kernel
theorem dL_law_1109 : decode cL_law 1109 = .ok (.if_icmp .eq 111, 3) := by decide +kernel
theorem dL_law_1112 : decode cL_law 1112 = .ok (.iconst 0, 1) := by decide +kernel
theorem dL_law_1113 : decode cL_law 1113 = .ok (.ireturn, 1) := by decide +kernel
theorem dL_law_1114 : decode cL_law 1114 = .ok (.aload_n 1, 1) := by decide +kernel
theorem dL_law_1115 : decode cL_law 1115 = .ok (.aload_n 0, 1) := by decide +kernel
theorem dL_law_1116 : decode cL_law 1116 = .ok (.iload_n 3, 1) := by decide +kernel
theorem dL_law_1117 : decode cL_law 1117 = .ok (.iconst 1, 1) := by decide +kernel
theorem dL_law_1118 : decode cL_law 1118 = .ok (.iadd, 1) := by decide +kernel
theorem dL_law_1119 : decode cL_law 1119 = .ok (.iaload, 1) := by decide +kernel
theorem dL_law_1120 : decode cL_law 1120 = .ok (.aload_n 0, 1) := by decide +kernel
theorem dL_law_1121 : decode cL_law 1121 = .ok (.iload_n 3, 1) := by decide +kernel
theorem dL_law_1122 : decode cL_law 1122 = .ok (.iconst 2, 1) := by decide +kernel
theorem dL_law_1123 : decode cL_law 1123 = .ok (.iadd, 1) := by decide +kernel
theorem dL_law_1124 : decode cL_law 1124 = .ok (.iaload, 1) := by decide +kernel
theorem dL_law_1125 : decode cL_law 1125 = .ok (.aload_n 0, 1) := by decide +kernel
theorem dL_law_1126 : decode cL_law 1126 = .ok (.iload_n 3, 1) := by decide +kernel
theorem dL_law_1127 : decode cL_law 1127 = .ok (.iconst 3, 1) := by decide +kernel
theorem dL_law_1128 : decode cL_law 1128 = .ok (.iadd, 1) := by decide +kernel
theorem dL_law_1129 : decode cL_law 1129 = .ok (.iaload, 1) := by decide +kernel
theorem dL_law_1130 : decode cL_law 1130 = .ok (.invokevirtual 117, 3) := by decide +kernel
theorem dL_law_1133 : decode cL_law 1133 = .ok (.aload_n 2, 1) := by decide +kernel
theorem dL_law_1134 : decode cL_law 1134 = .ok (.aload_n 0, 1) := by decide +kernel
theorem dL_law_1135 : decode cL_law 1135 = .ok (.iload_n 3, 1) := by decide +kernel
theorem dL_law_1136 : decode cL_law 1136 = .ok (.iconst 1, 1) := by decide +kernel
theorem dL_law_1137 : decode cL_law 1137 = .ok (.iadd, 1) := by decide +kernel
theorem dL_law_1138 : decode cL_law 1138 = .ok (.iaload, 1) := by decide +kernel
theorem dL_law_1139 : decode cL_law 1139 = .ok (.aload_n 0, 1) := by decide +kernel
theorem dL_law_1140 : decode cL_law 1140 = .ok (.iload_n 3, 1) := by decide +kernel
theorem dL_law_1141 : decode cL_law 1141 = .ok (.iconst 2, 1) := by decide +kernel
theorem dL_law_1142 : decode cL_law 1142 = .ok (.iadd, 1) := by decide +kernel
theorem dL_law_1143 : decode cL_law 1143 = .ok (.iaload, 1) := by decide +kernel
theorem dL_law_1144 : decode cL_law 1144 = .ok (.aload_n 0, 1) := by decide +kernel
theorem dL_law_1145 : decode cL_law 1145 = .ok (.iload_n 3, 1) := by decide +kernel
theorem dL_law_1146 : decode cL_law 1146 = .ok (.iconst 3, 1) := by decide +kernel
theorem dL_law_1147 : decode cL_law 1147 = .ok (.iadd, 1) := by decide +kernel
theorem dL_law_1148 : decode cL_law 1148 = .ok (.iaload, 1) := by decide +kernel
theorem dL_law_1149 : decode cL_law 1149 = .ok (.invokevirtual 120, 3) := by decide +kernel
theorem dL_law_1152 : decode cL_law 1152 = .ok (.if_icmp .eq 68, 3) := by decide +kernel
theorem dL_law_1155 : decode cL_law 1155 = .ok (.iconst 0, 1) := by decide +kernel
theorem dL_law_1156 : decode cL_law 1156 = .ok (.ireturn, 1) := by decide +kernel
theorem dL_law_1157 : decode cL_law 1157 = .ok (.aload_n 1, 1) := by decide +kernel
theorem dL_law_1158 : decode cL_law 1158 = .ok (.invokevirtual 121, 3) := by decide +kernel
theorem dL_law_1161 : decode cL_law 1161 = .ok (.aload_n 2, 1) := by decide +kernel
theorem dL_law_1162 : decode cL_law 1162 = .ok (.invokevirtual 124, 3) := by decide +kernel
theorem dL_law_1165 : decode cL_law 1165 = .ok (.if_icmp .eq 55, 3) := by decide +kernel
theorem dL_law_1168 : decode cL_law 1168 = .ok (.iconst 0, 1) := by decide +kernel
theorem dL_law_1169 : decode cL_law 1169 = .ok (.ireturn, 1) := by decide +kernel
theorem dL_law_1170 : decode cL_law 1170 = .ok (.aload_n 1, 1) := by decide +kernel
theorem dL_law_1171 : decode cL_law 1171 = .ok (.invokevirtual 125, 3) := by decide +kernel
theorem dL_law_1174 : decode cL_law 1174 = .ok (.aload_n 2, 1) := by decide +kernel
theorem dL_law_1175 : decode cL_law 1175 = .ok (.invokevirtual 128, 3) := by decide +kernel
theorem dL_law_1178 : decode cL_law 1178 = .ok (.if_icmp .eq 42, 3) := by decide +kernel
theorem dL_law_1181 : decode cL_law 1181 = .ok (.iconst 0, 1) := by decide +kernel
theorem dL_law_1182 : decode cL_law 1182 = .ok (.ireturn, 1) := by decide +kernel
theorem dL_law_1183 : decode cL_law 1183 = .ok (.aload_n 1, 1) := by decide +kernel
theorem dL_law_1184 : decode cL_law 1184 = .ok (.aload_n 0, 1) := by decide +kernel
theorem dL_law_1185 : decode cL_law 1185 = .ok (.iload_n 3, 1) := by decide +kernel
theorem dL_law_1186 : decode cL_law 1186 = .ok (.iconst 1, 1) := by decide +kernel
theorem dL_law_1187 : decode cL_law 1187 = .ok (.iadd, 1) := by decide +kernel
theorem dL_law_1188 : decode cL_law 1188 = .ok (.iaload, 1) := by decide +kernel
theorem dL_law_1189 : decode cL_law 1189 = .ok (.invokevirtual 129, 3) := by decide +kernel
theorem dL_law_1192 : decode cL_law 1192 = .ok (.aload_n 2, 1) := by decide +kernel
theorem dL_law_1193 : decode cL_law 1193 = .ok (.aload_n 0, 1) := by decide +kernel
theorem dL_law_1194 : decode cL_law 1194 = .ok (.iload_n 3, 1) := by decide +kernel
theorem dL_law_1195 : decode cL_law 1195 = .ok (.iconst 1, 1) := by decide +kernel
theorem dL_law_1196 : decode cL_law 1196 = .ok (.iadd, 1) := by decide +kernel
theorem dL_law_1197 : decode cL_law 1197 = .ok (.iaload, 1) := by decide +kernel
theorem dL_law_1198 : decode cL_law 1198 = .ok (.invokevirtual 132, 3) := by decide +kernel
theorem dL_law_1201 : decode cL_law 1201 = .ok (.if_icmp .eq 19, 3) := by decide +kernel
theorem dL_law_1204 : decode cL_law 1204 = .ok (.iconst 0, 1) := by decide +kernel
theorem dL_law_1205 : decode cL_law 1205 = .ok (.ireturn, 1) := by decide +kernel
theorem dL_law_1206 : decode cL_law 1206 = .ok (.aload_n 1, 1) := by decide +kernel
theorem dL_law_1207 : decode cL_law 1207 = .ok (.invokevirtual 133, 3) := by decide +kernel
theorem dL_law_1210 : decode cL_law 1210 = .ok (.aload_n 2, 1) := by decide +kernel
theorem dL_law_1211 : decode cL_law 1211 = .ok (.invokevirtual 136, 3) := by decide +kernel
theorem dL_law_1214 : decode cL_law 1214 = .ok (.lcmp, 1) := by decide +kernel
theorem dL_law_1215 : decode cL_law 1215 = .ok (.ifCond .eq 5, 3) := by decide +kernel
theorem dL_law_1218 : decode cL_law 1218 = .ok (.iconst 0, 1) := by decide +kernel
theorem dL_law_1219 : decode cL_law 1219 = .ok (.ireturn, 1) := by decide +kernel
theorem dL_law_1220 : decode cL_law 1220 = .ok (.iinc 3 7, 3) := by decide +kernel
theorem dL_law_1223 : decode cL_law 1223 = .ok (.goto (-1205), 3) := by decide +kernel
theorem dL_law_1226 : decode cL_law 1226 = .ok (.iconst 1, 1) := by decide +kernel
theorem dL_law_1227 : decode cL_law 1227 = .ok (.ireturn, 1) := by decide +kernel
end
section
theorem dX0_init_0 : decode cX0_init 0 = .ok (.aload_n 0, 1) := by decide +kernel
theorem dX0_init_1 : decode cX0_init 1 = .ok (.invokespecial 3, 3) := by decide +kernel
theorem dX0_init_4 : decode cX0_init 4 = .ok (.aload_n 0, 1) := by decide +kernel
theorem dX0_init_5 : decode cX0_init 5 = .ok (.aload_n 1, 1) := by decide +kernel
theorem dX0_init_6 : decode cX0_init 6 = .ok (.getfield 9, 3) := by decide +kernel
theorem dX0_init_9 : decode cX0_init 9 = .ok (.putfield 15, 3) := by decide +kernel
theorem dX0_init_12 : decode cX0_init 12 = .ok (.aload_n 0, 1) := by decide +kernel
theorem dX0_init_13 : decode cX0_init 13 = .ok (.aload_n 1, 1) := by decide +kernel
theorem dX0_init_14 : decode cX0_init 14 = .ok (.getfield 18, 3) := by decide +kernel
theorem dX0_init_17 : decode cX0_init 17 = .ok (.putfield 21, 3) := by decide +kernel
theorem dX0_init_20 : decode cX0_init 20 = .ok (.aload_n 0, 1) := by decide +kernel
theorem dX0_init_21 : decode cX0_init 21 = .ok (.aload_n 1, 1) := by decide +kernel
theorem dX0_init_22 : decode cX0_init 22 = .ok (.getfield 22, 3) := by decide +kernel
theorem dX0_init_25 : decode cX0_init 25 = .ok (.putfield 25, 3) := by decide +kernel
theorem dX0_init_28 : decode cX0_init 28 = .ok (.aload_n 0, 1) := by decide +kernel
theorem dX0_init_29 : decode cX0_init 29 = .ok (.aload_n 1, 1) := by decide +kernel
theorem dX0_init_30 : decode cX0_init 30 = .ok (.getfield 26, 3) := by decide +kernel
theorem dX0_init_33 : decode cX0_init 33 = .ok (.putfield 29, 3) := by decide +kernel
theorem dX0_init_36 : decode cX0_init 36 = .ok (.aload_n 0, 1) := by decide +kernel
theorem dX0_init_37 : decode cX0_init 37 = .ok (.aload_n 1, 1) := by decide +kernel
theorem dX0_init_38 : decode cX0_init 38 = .ok (.getfield 30, 3) := by decide +kernel
theorem dX0_init_41 : decode cX0_init 41 = .ok (.putfield 33, 3) := by decide +kernel
theorem dX0_init_44 : decode cX0_init 44 = .ok (.aload_n 0, 1) := by decide +kernel
theorem dX0_init_45 : decode cX0_init 45 = .ok (.aload_n 1, 1) := by decide +kernel
theorem dX0_init_46 : decode cX0_init 46 = .ok (.getfield 34, 3) := by decide +kernel
theorem dX0_init_49 : decode cX0_init 49 = .ok (.iconst 0, 1) := by decide +kernel
theorem dX0_init_50 : decode cX0_init 50 = .ok (.aload_n 1, 1) := by decide +kernel
theorem dX0_init_51 : decode cX0_init 51 = .ok (.getfield 38, 3) := by decide +kernel
theorem dX0_init_54 : decode cX0_init 54 = .ok (.invokestatic 41, 3) := by decide +kernel
theorem dX0_init_57 : decode cX0_init 57 = .ok (.invokestatic 47, 3) := by decide +kernel
theorem dX0_init_60 : decode cX0_init 60 = .ok (.putfield 53, 3) := by decide +kernel
theorem dX0_init_63 : decode cX0_init 63 = .ok (.return_, 1) := by decide +kernel
theorem dX0_kind_0 : decode cX0_kind 0 = .ok (.iconst 0, 1) := by decide +kernel
theorem dX0_kind_1 : decode cX0_kind 1 = .ok (.ireturn, 1) := by decide +kernel
theorem dX0_endCount_0 : decode cX0_endCount 0 = .ok (.aload_n 0, 1) := by decide +kernel
theorem dX0_endCount_1 : decode cX0_endCount 1 = .ok (.getfield 53, 3) := by decide +kernel
theorem dX0_endCount_4 : decode cX0_endCount 4 = .ok (.arraylength, 1) := by decide +kernel
theorem dX0_endCount_5 : decode cX0_endCount 5 = .ok (.ireturn, 1) := by decide +kernel
theorem dX0_end_0 : decode cX0_end 0 = .ok (.iload_n 1, 1) := by decide +kernel
theorem dX0_end_1 : decode cX0_end 1 = .ok (.ifCond .lt 21, 3) := by decide +kernel
theorem dX0_end_4 : decode cX0_end 4 = .ok (.iload_n 1, 1) := by decide +kernel
theorem dX0_end_5 : decode cX0_end 5 = .ok (.aload_n 0, 1) := by decide +kernel
theorem dX0_end_6 : decode cX0_end 6 = .ok (.getfield 53, 3) := by decide +kernel
theorem dX0_end_9 : decode cX0_end 9 = .ok (.arraylength, 1) := by decide +kernel
theorem dX0_end_10 : decode cX0_end 10 = .ok (.if_icmp .ge 12, 3) := by decide +kernel
theorem dX0_end_13 : decode cX0_end 13 = .ok (.aload_n 0, 1) := by decide +kernel
theorem dX0_end_14 : decode cX0_end 14 = .ok (.getfield 53, 3) := by decide +kernel
theorem dX0_end_17 : decode cX0_end 17 = .ok (.iload_n 1, 1) := by decide +kernel
theorem dX0_end_18 : decode cX0_end 18 = .ok (.iaload, 1) := by decide +kernel
theorem dX0_end_19 : decode cX0_end 19 = .ok (.goto 4, 3) := by decide +kernel
theorem dX0_end_22 : decode cX0_end 22 = .ok (.iconst (-1), 1) := by decide +kernel
theorem dX0_end_23 : decode cX0_end 23 = .ok (.ireturn, 1) := by decide +kernel
theorem dX0_turnMinutes_0 : decode cX0_turnMinutes 0 = .ok (.aload_n 0, 1) := by decide +kernel
theorem dX0_turnMinutes_1 : decode cX0_turnMinutes 1 = .ok (.getfield 25, 3) := by decide +kernel
theorem dX0_turnMinutes_4 : decode cX0_turnMinutes 4 = .ok (.ireturn, 1) := by decide +kernel
theorem dX0_placeCount_0 : decode cX0_placeCount 0 = .ok (.aload_n 0, 1) := by decide +kernel
theorem dX0_placeCount_1 : decode cX0_placeCount 1 = .ok (.getfield 53, 3) := by decide +kernel
theorem dX0_placeCount_4 : decode cX0_placeCount 4 = .ok (.arraylength, 1) := by decide +kernel
theorem dX0_placeCount_5 : decode cX0_placeCount 5 = .ok (.ireturn, 1) := by decide +kernel
theorem dX0_endOfPlace_0 : decode cX0_endOfPlace 0 = .ok (.aload_n 0, 1) := by decide +kernel
theorem dX0_endOfPlace_1 : decode cX0_endOfPlace 1 = .ok (.iload_n 1, 1) := by decide +kernel
theorem dX0_endOfPlace_2 : decode cX0_endOfPlace 2 = .ok (.invokevirtual 54, 3) := by decide +kernel
theorem dX0_endOfPlace_5 : decode cX0_endOfPlace 5 = .ok (.ireturn, 1) := by decide +kernel
theorem dX0_roundMinutes_0 : decode cX0_roundMinutes 0 = .ok (.aload_n 0, 1) := by decide +kernel
theorem dX0_roundMinutes_1 : decode cX0_roundMinutes 1 = .ok (.invokevirtual 58, 3) := by decide +kernel
theorem dX0_roundMinutes_4 : decode cX0_roundMinutes 4 = .ok (.aload_n 0, 1) := by decide +kernel
theorem dX0_roundMinutes_5 : decode cX0_roundMinutes 5 = .ok (.getfield 21, 3) := by decide +kernel
theorem dX0_roundMinutes_8 : decode cX0_roundMinutes 8 = .ok (.aload_n 0, 1) := by decide +kernel
theorem dX0_roundMinutes_9 : decode cX0_roundMinutes 9 = .ok (.iload_n 1, 1) := by decide +kernel
theorem dX0_roundMinutes_10 : decode cX0_roundMinutes 10 = .ok (.invokevirtual 62, 3) := by decide +kernel
theorem dX0_roundMinutes_13 : decode cX0_roundMinutes 13 = .ok (.iadd, 1) := by decide +kernel
theorem dX0_roundMinutes_14 : decode cX0_roundMinutes 14 = .ok (.imul, 1) := by decide +kernel
theorem dX0_roundMinutes_15 : decode cX0_roundMinutes 15 = .ok (.ireturn, 1) := by decide +kernel
theorem dX0_endAt_0 : decode cX0_endAt 0 = .ok (.aload_n 0, 1) := by decide +kernel
theorem dX0_endAt_1 : decode cX0_endAt 1 = .ok (.getfield 21, 3) := by decide +kernel
theorem dX0_endAt_4 : decode cX0_endAt 4 = .ok (.aload_n 0, 1) := by decide +kernel
theorem dX0_endAt_5 : decode cX0_endAt 5 = .ok (.iload_n 2, 1) := by decide +kernel
theorem dX0_endAt_6 : decode cX0_endAt 6 = .ok (.invokevirtual 62, 3) := by decide +kernel
theorem dX0_endAt_9 : decode cX0_endAt 9 = .ok (.iadd, 1) := by decide +kernel
theorem dX0_endAt_10 : decode cX0_endAt 10 = .ok (.istore_n 3, 1) := by decide +kernel
theorem dX0_endAt_11 : decode cX0_endAt 11 = .ok (.aload_n 0, 1) := by decide +kernel
theorem dX0_endAt_12 : decode cX0_endAt 12 = .ok (.iload_n 2, 1) := by decide +kernel
theorem dX0_endAt_13 : decode cX0_endAt 13 = .ok (.invokevirtual 66, 3) := by decide +kernel
theorem dX0_endAt_16 : decode cX0_endAt 16 = .ok (.istore 4, 2) := by decide +kernel
theorem dX0_endAt_18 : decode cX0_endAt 18 = .ok (.iload_n 3, 1) := by decide +kernel
theorem dX0_endAt_19 : decode cX0_endAt 19 = .ok (.iconst 1, 1) := by decide +kernel
theorem dX0_endAt_20 : decode cX0_endAt 20 = .ok (.if_icmp .lt 13, 3) := by decide +kernel
theorem dX0_endAt_23 : decode cX0_endAt 23 = .ok (.iload 4, 2) := by decide +kernel
theorem dX0_endAt_25 : decode cX0_endAt 25 = .ok (.iconst 1, 1) := by decide +kernel
theorem dX0_endAt_26 : decode cX0_endAt 26 = .ok (.if_icmp .lt 7, 3) := by decide +kernel
theorem dX0_endAt_29 : decode cX0_endAt 29 = .ok (.iload_n 1, 1) := by decide +kernel
theorem dX0_endAt_30 : decode cX0_endAt 30 = .ok (.ifCond .ge 5, 3) := by decide +kernel
theorem dX0_endAt_33 : decode cX0_endAt 33 = .ok (.iconst (-1), 1) := by decide +kernel
theorem dX0_endAt_34 : decode cX0_endAt 34 = .ok (.ireturn, 1) := by decide +kernel
theorem dX0_endAt_35 : decode cX0_endAt 35 = .ok (.iload_n 1, 1) := by decide +kernel
theorem dX0_endAt_36 : decode cX0_endAt 36 = .ok (.iload 4, 2) := by decide +kernel
theorem dX0_endAt_38 : decode cX0_endAt 38 = .ok (.irem, 1) := by decide +kernel
theorem dX0_endAt_39 : decode cX0_endAt 39 = .ok (.istore 5, 2) := by decide +kernel
theorem dX0_endAt_41 : decode cX0_endAt 41 = .ok (.iload 5, 2) := by decide +kernel
theorem dX0_endAt_43 : decode cX0_endAt 43 = .ok (.iload_n 3, 1) := by decide +kernel
theorem dX0_endAt_44 : decode cX0_endAt 44 = .ok (.irem, 1) := by decide +kernel
theorem dX0_endAt_45 : decode cX0_endAt 45 = .ok (.aload_n 0, 1) := by decide +kernel
theorem dX0_endAt_46 : decode cX0_endAt 46 = .ok (.getfield 21, 3) := by decide +kernel
theorem dX0_endAt_49 : decode cX0_endAt 49 = .ok (.if_icmp .ge 14, 3) := by decide +kernel
theorem dX0_endAt_52 : decode cX0_endAt 52 = .ok (.aload_n 0, 1) := by decide +kernel
theorem dX0_endAt_53 : decode cX0_endAt 53 = .ok (.iload 5, 2) := by decide +kernel
theorem dX0_endAt_55 : decode cX0_endAt 55 = .ok (.iload_n 3, 1) := by decide +kernel
theorem dX0_endAt_56 : decode cX0_endAt 56 = .ok (.idiv, 1) := by decide +kernel
theorem dX0_endAt_57 : decode cX0_endAt 57 = .ok (.invokevirtual 69, 3) := by decide +kernel
theorem dX0_endAt_60 : decode cX0_endAt 60 = .ok (.goto 4, 3) := by decide +kernel
theorem dX0_endAt_63 : decode cX0_endAt 63 = .ok (.iconst (-1), 1) := by decide +kernel
theorem dX0_endAt_64 : decode cX0_endAt 64 = .ok (.ireturn, 1) := by decide +kernel
theorem dX0_standsStill_0 : decode cX0_standsStill 0 = .ok (.aload_n 0, 1) := by decide +kernel
theorem dX0_standsStill_1 : decode cX0_standsStill 1 = .ok (.getfield 21, 3) := by decide +kernel
theorem dX0_standsStill_4 : decode cX0_standsStill 4 = .ok (.aload_n 0, 1) := by decide +kernel
theorem dX0_standsStill_5 : decode cX0_standsStill 5 = .ok (.iload_n 2, 1) := by decide +kernel
theorem dX0_standsStill_6 : decode cX0_standsStill 6 = .ok (.invokevirtual 62, 3) := by decide +kernel
theorem dX0_standsStill_9 : decode cX0_standsStill 9 = .ok (.iadd, 1) := by decide +kernel
theorem dX0_standsStill_10 : decode cX0_standsStill 10 = .ok (.istore_n 3, 1) := by decide +kernel
theorem dX0_standsStill_11 : decode cX0_standsStill 11 = .ok (.iload_n 3, 1) := by decide +kernel
theorem dX0_standsStill_12 : decode cX0_standsStill 12 = .ok (.iconst 1, 1) := by decide +kernel
theorem dX0_standsStill_13 : decode cX0_standsStill 13 = .ok (.if_icmp .lt 7, 3) := by decide +kernel
theorem dX0_standsStill_16 : decode cX0_standsStill 16 = .ok (.iload_n 1, 1) := by decide +kernel
theorem dX0_standsStill_17 : decode cX0_standsStill 17 = .ok (.ifCond .ge 5, 3) := by decide +kernel
theorem dX0_standsStill_20 : decode cX0_standsStill 20 = .ok (.iconst 0, 1) := by decide +kernel
theorem dX0_standsStill_21 : decode cX0_standsStill 21 = .ok (.ireturn, 1) := by decide +kernel
theorem dX0_standsStill_22 : decode cX0_standsStill 22 = .ok (.iconst 0, 1) := by decide +kernel
theorem dX0_standsStill_23 : decode cX0_standsStill 23 = .ok (.aload_n 0, 1) := by decide +kernel
theorem dX0_standsStill_24 : decode cX0_standsStill 24 = .ok (.getfield 21, 3) := by decide +kernel
theorem dX0_standsStill_27 : decode cX0_standsStill 27 = .ok (.iload_n 1, 1) := by decide +kernel
theorem dX0_standsStill_28 : decode cX0_standsStill 28 = .ok (.iload_n 3, 1) := by decide +kernel
theorem dX0_standsStill_29 : decode cX0_standsStill 29 = .ok (.irem, 1) := by decide +kernel
theorem dX0_standsStill_30 : decode cX0_standsStill 30 = .ok (.isub, 1) := by decide +kernel
theorem dX0_standsStill_31 : decode cX0_standsStill 31 = .ok (.invokestatic 41, 3) := by decide +kernel
theorem dX0_standsStill_34 : decode cX0_standsStill 34 = .ok (.ireturn, 1) := by decide +kernel
theorem dX1_init_0 : decode cX1_init 0 = .ok (.aload_n 0, 1) := by decide +kernel
theorem dX1_init_1 : decode cX1_init 1 = .ok (.invokespecial 5, 3) := by decide +kernel
theorem dX1_init_4 : decode cX1_init 4 = .ok (.aload_n 0, 1) := by decide +kernel
theorem dX1_init_5 : decode cX1_init 5 = .ok (.sipush 610, 3) := by decide +kernel
theorem dX1_init_8 : decode cX1_init 8 = .ok (.newarray .int, 2) := by decide +kernel
theorem dX1_init_10 : decode cX1_init 10 = .ok (.putfield 11, 3) := by decide +kernel
theorem dX1_init_13 : decode cX1_init 13 = .ok (.aload_n 0, 1) := by decide +kernel
theorem dX1_init_14 : decode cX1_init 14 = .ok (.sipush 488, 3) := by decide +kernel
theorem dX1_init_17 : decode cX1_init 17 = .ok (.newarray .int, 2) := by decide +kernel
theorem dX1_init_19 : decode cX1_init 19 = .ok (.putfield 15, 3) := by decide +kernel
theorem dX1_init_22 : decode cX1_init 22 = .ok (.aload_n 0, 1) := by decide +kernel
theorem dX1_init_23 : decode cX1_init 23 = .ok (.sipush 488, 3) := by decide +kernel
theorem dX1_init_26 : decode cX1_init 26 = .ok (.newarray .int, 2) := by decide +kernel
theorem dX1_init_28 : decode cX1_init 28 = .ok (.putfield 18, 3) := by decide +kernel
theorem dX1_init_31 : decode cX1_init 31 = .ok (.aload_n 0, 1) := by decide +kernel
theorem dX1_init_32 : decode cX1_init 32 = .ok (.sipush 488, 3) := by decide +kernel
theorem dX1_init_35 : decode cX1_init 35 = .ok (.newarray .int, 2) := by decide +kernel
theorem dX1_init_37 : decode cX1_init 37 = .ok (.putfield 21, 3) := by decide +kernel
theorem dX1_init_40 : decode cX1_init 40 = .ok (.aload_n 0, 1) := by decide +kernel
theorem dX1_init_41 : decode cX1_init 41 = .ok (.sipush 488, 3) := by decide +kernel
theorem dX1_init_44 : decode cX1_init 44 = .ok (.newarray .int, 2) := by decide +kernel
theorem dX1_init_46 : decode cX1_init 46 = .ok (.putfield 24, 3) := by decide +kernel
theorem dX1_init_49 : decode cX1_init 49 = .ok (.return_, 1) := by decide +kernel
theorem dX1_most_0 : decode cX1_most 0 = .ok (.iload_n 2, 1) := by decide +kernel
theorem dX1_most_1 : decode cX1_most 1 = .ok (.invokestatic 27, 3) := by decide +kernel
theorem dX1_most_4 : decode cX1_most 4 = .ok (.ifCond .eq 24, 3) := by decide +kernel
theorem dX1_most_7 : decode cX1_most 7 = .ok (.iload_n 3, 1) := by decide +kernel
theorem dX1_most_8 : decode cX1_most 8 = .ok (.invokestatic 27, 3) := by decide +kernel
theorem dX1_most_11 : decode cX1_most 11 = .ok (.ifCond .eq 17, 3) := by decide +kernel
theorem dX1_most_14 : decode cX1_most 14 = .ok (.iload_n 2, 1) := by decide +kernel
theorem dX1_most_15 : decode cX1_most 15 = .ok (.iload_n 3, 1) := by decide +kernel
theorem dX1_most_16 : decode cX1_most 16 = .ok (.if_icmp .eq 12, 3) := by decide +kernel
theorem dX1_most_19 : decode cX1_most 19 = .ok (.aload_n 1, 1) := by decide +kernel
theorem dX1_most_20 : decode cX1_most 20 = .ok (.invokevirtual 31, 3) := by decide +kernel
theorem dX1_most_23 : decode cX1_most 23 = .ok (.bipush 61, 2) := by decide +kernel
theorem dX1_most_25 : decode cX1_most 25 = .ok (.if_icmp .lt 5, 3) := by decide +kernel
theorem dX1_most_28 : decode cX1_most 28 = .ok (.iconst 0, 1) := by decide +kernel
theorem dX1_most_29 : decode cX1_most 29 = .ok (.ireturn, 1) := by decide +kernel
theorem dX1_most_30 : decode cX1_most 30 = .ok (.aload_n 0, 1) := by decide +kernel
theorem dX1_most_31 : decode cX1_most 31 = .ok (.getfield 11, 3) := by decide +kernel
theorem dX1_most_34 : decode cX1_most 34 = .ok (.iconst 0, 1) := by decide +kernel
theorem dX1_most_35 : decode cX1_most 35 = .ok (.invokestatic 37, 3) := by decide +kernel
theorem dX1_most_38 : decode cX1_most 38 = .ok (.aload_n 0, 1) := by decide +kernel
theorem dX1_most_39 : decode cX1_most 39 = .ok (.getfield 15, 3) := by decide +kernel
theorem dX1_most_42 : decode cX1_most 42 = .ok (.iconst 0, 1) := by decide +kernel
theorem dX1_most_43 : decode cX1_most 43 = .ok (.invokestatic 37, 3) := by decide +kernel
theorem dX1_most_46 : decode cX1_most 46 = .ok (.iconst 0, 1) := by decide +kernel
theorem dX1_most_47 : decode cX1_most 47 = .ok (.istore 4, 2) := by decide +kernel
theorem dX1_most_49 : decode cX1_most 49 = .ok (.iconst 1, 1) := by decide +kernel
theorem dX1_most_50 : decode cX1_most 50 = .ok (.istore 5, 2) := by decide +kernel
theorem dX1_most_52 : decode cX1_most 52 = .ok (.iconst 0, 1) := by decide +kernel
theorem dX1_most_53 : decode cX1_most 53 = .ok (.istore 6, 2) := by decide +kernel
theorem dX1_most_55 : decode cX1_most 55 = .ok (.iload 6, 2) := by decide +kernel
theorem dX1_most_57 : decode cX1_most 57 = .ok (.sipush 610, 3) := by decide +kernel
theorem dX1_most_60 : decode cX1_most 60 = .ok (.if_icmp .gt 50, 3) := by decide +kernel
theorem dX1_most_63 : decode cX1_most 63 = .ok (.iload 5, 2) := by decide +kernel
theorem dX1_most_65 : decode cX1_most 65 = .ok (.ifCond .eq 45, 3) := by decide +kernel
theorem dX1_most_68 : decode cX1_most 68 = .ok (.aload_n 0, 1) := by decide +kernel
theorem dX1_most_69 : decode cX1_most 69 = .ok (.getfield 18, 3) := by decide +kernel
theorem dX1_most_72 : decode cX1_most 72 = .ok (.iconst 0, 1) := by decide +kernel
theorem dX1_most_73 : decode cX1_most 73 = .ok (.invokestatic 37, 3) := by decide +kernel
theorem dX1_most_76 : decode cX1_most 76 = .ok (.aload_n 0, 1) := by decide +kernel
theorem dX1_most_77 : decode cX1_most 77 = .ok (.aload_n 1, 1) := by decide +kernel
theorem dX1_most_78 : decode cX1_most 78 = .ok (.iload_n 2, 1) := by decide +kernel
theorem dX1_most_79 : decode cX1_most 79 = .ok (.iload_n 3, 1) := by decide +kernel
theorem dX1_most_80 : decode cX1_most 80 = .ok (.invokevirtual 43, 3) := by decide +kernel
theorem dX1_most_83 : decode cX1_most 83 = .ok (.istore 7, 2) := by decide +kernel
theorem dX1_most_85 : decode cX1_most 85 = .ok (.iload 4, 2) := by decide +kernel
theorem dX1_most_87 : decode cX1_most 87 = .ok (.iload 7, 2) := by decide +kernel
theorem dX1_most_89 : decode cX1_most 89 = .ok (.iadd, 1) := by decide +kernel
theorem dX1_most_90 : decode cX1_most 90 = .ok (.istore 4, 2) := by decide +kernel
theorem dX1_most_92 : decode cX1_most 92 = .ok (.iload 7, 2) := by decide +kernel
theorem dX1_most_94 : decode cX1_most 94 = .ok (.ifCond .le 7, 3) := by decide +kernel
theorem dX1_most_97 : decode cX1_most 97 = .ok (.iconst 1, 1) := by decide +kernel
theorem dX1_most_98 : decode cX1_most 98 = .ok (.goto 4, 3) := by decide +kernel
theorem dX1_most_101 : decode cX1_most 101 = .ok (.iconst 0, 1) := by decide +kernel
theorem dX1_most_102 : decode cX1_most 102 = .ok (.istore 5, 2) := by decide +kernel
theorem dX1_most_104 : decode cX1_most 104 = .ok (.iinc 6 1, 3) := by decide +kernel
theorem dX1_most_107 : decode cX1_most 107 = .ok (.goto (-52), 3) := by decide +kernel
theorem dX1_most_110 : decode cX1_most 110 = .ok (.iload 4, 2) := by decide +kernel
theorem dX1_most_112 : decode cX1_most 112 = .ok (.ireturn, 1) := by decide +kernel
theorem dX1_sendWhilePathsAreFound_0 : decode cX1_sendWhilePathsAreFound 0 = .ok (.iconst 0, 1) := by decide +kernel
theorem dX1_sendWhilePathsAreFound_1 : decode cX1_sendWhilePathsAreFound 1 = .ok (.istore 4, 2) := by decide +kernel
theorem dX1_sendWhilePathsAreFound_3 : decode cX1_sendWhilePathsAreFound 3 = .ok (.iconst 0, 1) := by decide +kernel
theorem dX1_sendWhilePathsAreFound_4 : decode cX1_sendWhilePathsAreFound 4 = .ok (.istore 5, 2) := by decide +kernel
theorem dX1_sendWhilePathsAreFound_6 : decode cX1_sendWhilePathsAreFound 6 = .ok (.iload 5, 2) := by decide +kernel
theorem dX1_sendWhilePathsAreFound_8 : decode cX1_sendWhilePathsAreFound 8 = .ok (.sipush 610, 3) := by decide +kernel
theorem dX1_sendWhilePathsAreFound_11 : decode cX1_sendWhilePathsAreFound 11 = .ok (.if_icmp .gt 71, 3) := by decide +kernel
theorem dX1_sendWhilePathsAreFound_14 : decode cX1_sendWhilePathsAreFound 14 = .ok (.aload_n 0, 1) := by decide +kernel
theorem dX1_sendWhilePathsAreFound_15 : decode cX1_sendWhilePathsAreFound 15 = .ok (.aload_n 1, 1) := by decide +kernel
theorem dX1_sendWhilePathsAreFound_16 : decode cX1_sendWhilePathsAreFound 16 = .ok (.iload_n 2, 1) := by decide +kernel
theorem dX1_sendWhilePathsAreFound_17 : decode cX1_sendWhilePathsAreFound 17 = .ok (.iload_n 3, 1) := by decide +kernel
theorem dX1_sendWhilePathsAreFound_18 : decode cX1_sendWhilePathsAreFound 18 = .ok (.invokevirtual 47, 3) := by decide +kernel
theorem dX1_sendWhilePathsAreFound_21 : decode cX1_sendWhilePathsAreFound 21 = .ok (.istore 6, 2) := by decide +kernel
theorem dX1_sendWhilePathsAreFound_23 : decode cX1_sendWhilePathsAreFound 23 = .ok (.iload 6, 2) := by decide +kernel
theorem dX1_sendWhilePathsAreFound_25 : decode cX1_sendWhilePathsAreFound 25 = .ok (.ifCond .ne 6, 3) := by decide +kernel
theorem dX1_sendWhilePathsAreFound_28 : decode cX1_sendWhilePathsAreFound 28 = .ok (.goto 54, 3) := by decide +kernel
theorem dX1_sendWhilePathsAreFound_31 : decode cX1_sendWhilePathsAreFound 31 = .ok (.iconst 0, 1) := by decide +kernel
theorem dX1_sendWhilePathsAreFound_32 : decode cX1_sendWhilePathsAreFound 32 = .ok (.istore 7, 2) := by decide +kernel
theorem dX1_sendWhilePathsAreFound_34 : decode cX1_sendWhilePathsAreFound 34 = .ok (.iload 7, 2) := by decide +kernel
theorem dX1_sendWhilePathsAreFound_36 : decode cX1_sendWhilePathsAreFound 36 = .ok (.iconst 1, 1) := by decide +kernel
theorem dX1_sendWhilePathsAreFound_37 : decode cX1_sendWhilePathsAreFound 37 = .ok (.iadd, 1) := by decide +kernel
theorem dX1_sendWhilePathsAreFound_38 : decode cX1_sendWhilePathsAreFound 38 = .ok (.iload 6, 2) := by decide +kernel
theorem dX1_sendWhilePathsAreFound_40 : decode cX1_sendWhilePathsAreFound 40 = .ok (.if_icmp .ge 33, 3) := by decide +kernel
theorem dX1_sendWhilePathsAreFound_43 : decode cX1_sendWhilePathsAreFound 43 = .ok (.aload_n 0, 1) := by decide +kernel
theorem dX1_sendWhilePathsAreFound_44 : decode cX1_sendWhilePathsAreFound 44 = .ok (.aload_n 1, 1) := by decide +kernel
theorem dX1_sendWhilePathsAreFound_45 : decode cX1_sendWhilePathsAreFound 45 = .ok (.aload_n 0, 1) := by decide +kernel
theorem dX1_sendWhilePathsAreFound_46 : decode cX1_sendWhilePathsAreFound 46 = .ok (.getfield 24, 3) := by decide +kernel
theorem dX1_sendWhilePathsAreFound_49 : decode cX1_sendWhilePathsAreFound 49 = .ok (.iload 7, 2) := by decide +kernel
theorem dX1_sendWhilePathsAreFound_51 : decode cX1_sendWhilePathsAreFound 51 = .ok (.iaload, 1) := by decide +kernel
theorem dX1_sendWhilePathsAreFound_52 : decode cX1_sendWhilePathsAreFound 52 = .ok (.aload_n 0, 1) := by decide +kernel
theorem dX1_sendWhilePathsAreFound_53 : decode cX1_sendWhilePathsAreFound 53 = .ok (.getfield 18, 3) := by decide +kernel
theorem dX1_sendWhilePathsAreFound_56 : decode cX1_sendWhilePathsAreFound 56 = .ok (.aload_n 0, 1) := by decide +kernel
theorem dX1_sendWhilePathsAreFound_57 : decode cX1_sendWhilePathsAreFound 57 = .ok (.getfield 24, 3) := by decide +kernel
theorem dX1_sendWhilePathsAreFound_60 : decode cX1_sendWhilePathsAreFound 60 = .ok (.iload 7, 2) := by decide +kernel
theorem dX1_sendWhilePathsAreFound_62 : decode cX1_sendWhilePathsAreFound 62 = .ok (.iaload, 1) := by decide +kernel
theorem dX1_sendWhilePathsAreFound_63 : decode cX1_sendWhilePathsAreFound 63 = .ok (.iaload, 1) := by decide +kernel
theorem dX1_sendWhilePathsAreFound_64 : decode cX1_sendWhilePathsAreFound 64 = .ok (.invokevirtual 50, 3) := by decide +kernel
theorem dX1_sendWhilePathsAreFound_67 : decode cX1_sendWhilePathsAreFound 67 = .ok (.iinc 7 1, 3) := by decide +kernel
theorem dX1_sendWhilePathsAreFound_70 : decode cX1_sendWhilePathsAreFound 70 = .ok (.goto (-36), 3) := by decide +kernel
theorem dX1_sendWhilePathsAreFound_73 : decode cX1_sendWhilePathsAreFound 73 = .ok (.iinc 4 1, 3) := by decide +kernel
theorem dX1_sendWhilePathsAreFound_76 : decode cX1_sendWhilePathsAreFound 76 = .ok (.iinc 5 1, 3) := by decide +kernel
theorem dX1_sendWhilePathsAreFound_79 : decode cX1_sendWhilePathsAreFound 79 = .ok (.goto (-73), 3) := by decide +kernel
theorem dX1_sendWhilePathsAreFound_82 : decode cX1_sendWhilePathsAreFound 82 = .ok (.iload 4, 2) := by decide +kernel
theorem dX1_sendWhilePathsAreFound_84 : decode cX1_sendWhilePathsAreFound 84 = .ok (.ireturn, 1) := by decide +kernel
theorem dX1_findPath_0 : decode cX1_findPath 0 = .ok (.aload_n 0, 1) := by decide +kernel
theorem dX1_findPath_1 : decode cX1_findPath 1 = .ok (.getfield 21, 3) := by decide +kernel
theorem dX1_findPath_4 : decode cX1_findPath 4 = .ok (.iconst 0, 1) := by decide +kernel
theorem dX1_findPath_5 : decode cX1_findPath 5 = .ok (.invokestatic 37, 3) := by decide +kernel
theorem dX1_findPath_8 : decode cX1_findPath 8 = .ok (.iconst 1, 1) := by decide +kernel
theorem dX1_findPath_9 : decode cX1_findPath 9 = .ok (.istore 4, 2) := by decide +kernel
theorem dX1_findPath_11 : decode cX1_findPath 11 = .ok (.aload_n 0, 1) := by decide +kernel
theorem dX1_findPath_12 : decode cX1_findPath 12 = .ok (.getfield 24, 3) := by decide +kernel
theorem dX1_findPath_15 : decode cX1_findPath 15 = .ok (.iconst 0, 1) := by decide +kernel
theorem dX1_findPath_16 : decode cX1_findPath 16 = .ok (.iload_n 2, 1) := by decide +kernel
theorem dX1_findPath_17 : decode cX1_findPath 17 = .ok (.iconst 0, 1) := by decide +kernel
theorem dX1_findPath_18 : decode cX1_findPath 18 = .ok (.invokestatic 54, 3) := by decide +kernel
theorem dX1_findPath_21 : decode cX1_findPath 21 = .ok (.iastore, 1) := by decide +kernel
theorem dX1_findPath_22 : decode cX1_findPath 22 = .ok (.aload_n 0, 1) := by decide +kernel
theorem dX1_findPath_23 : decode cX1_findPath 23 = .ok (.getfield 21, 3) := by decide +kernel
theorem dX1_findPath_26 : decode cX1_findPath 26 = .ok (.aload_n 0, 1) := by decide +kernel
theorem dX1_findPath_27 : decode cX1_findPath 27 = .ok (.getfield 24, 3) := by decide +kernel
theorem dX1_findPath_30 : decode cX1_findPath 30 = .ok (.iconst 0, 1) := by decide +kernel
theorem dX1_findPath_31 : decode cX1_findPath 31 = .ok (.iaload, 1) := by decide +kernel
theorem dX1_findPath_32 : decode cX1_findPath 32 = .ok (.iconst 1, 1) := by decide +kernel
theorem dX1_findPath_33 : decode cX1_findPath 33 = .ok (.iastore, 1) := by decide +kernel
theorem dX1_findPath_34 : decode cX1_findPath 34 = .ok (.iconst 0, 1) := by decide +kernel
theorem dX1_findPath_35 : decode cX1_findPath 35 = .ok (.istore 5, 2) := by decide +kernel
theorem dX1_findPath_37 : decode cX1_findPath 37 = .ok (.iload 5, 2) := by decide +kernel
theorem dX1_findPath_39 : decode cX1_findPath 39 = .ok (.ldc 58, 2) := by decide +kernel
theorem dX1_findPath_41 : decode cX1_findPath 41 = .ok (.if_icmp .ge 160, 3) := by decide +kernel
theorem dX1_findPath_44 : decode cX1_findPath 44 = .ok (.iload 4, 2) := by decide +kernel
theorem dX1_findPath_46 : decode cX1_findPath 46 = .ok (.ifCond .le 155, 3) := by decide +kernel
theorem dX1_findPath_49 : decode cX1_findPath 49 = .ok (.aload_n 0, 1) := by decide +kernel
theorem dX1_findPath_50 : decode cX1_findPath 50 = .ok (.getfield 24, 3) := by decide +kernel
theorem dX1_findPath_53 : decode cX1_findPath 53 = .ok (.iload 4, 2) := by decide +kernel
theorem dX1_findPath_55 : decode cX1_findPath 55 = .ok (.iconst 1, 1) := by decide +kernel
theorem dX1_findPath_56 : decode cX1_findPath 56 = .ok (.isub, 1) := by decide +kernel
theorem dX1_findPath_57 : decode cX1_findPath 57 = .ok (.iaload, 1) := by decide +kernel
theorem dX1_findPath_58 : decode cX1_findPath 58 = .ok (.istore 6, 2) := by decide +kernel
theorem dX1_findPath_60 : decode cX1_findPath 60 = .ok (.iload 6, 2) := by decide +kernel
theorem dX1_findPath_62 : decode cX1_findPath 62 = .ok (.bipush 61, 2) := by decide +kernel
theorem dX1_findPath_64 : decode cX1_findPath 64 = .ok (.idiv, 1) := by decide +kernel
theorem dX1_findPath_65 : decode cX1_findPath 65 = .ok (.iload_n 3, 1) := by decide +kernel
theorem dX1_findPath_66 : decode cX1_findPath 66 = .ok (.if_icmp .ne 6, 3) := by decide +kernel
theorem dX1_findPath_69 : decode cX1_findPath 69 = .ok (.iload 4, 2) := by decide +kernel
theorem dX1_findPath_71 : decode cX1_findPath 71 = .ok (.ireturn, 1) := by decide +kernel
theorem dX1_findPath_72 : decode cX1_findPath 72 = .ok (.aload_n 0, 1) := by decide +kernel
theorem dX1_findPath_73 : decode cX1_findPath 73 = .ok (.getfield 18, 3) := by decide +kernel
theorem dX1_findPath_76 : decode cX1_findPath 76 = .ok (.iload 6, 2) := by decide +kernel
theorem dX1_findPath_78 : decode cX1_findPath 78 = .ok (.iaload, 1) := by decide +kernel
theorem dX1_findPath_79 : decode cX1_findPath 79 = .ok (.bipush 22, 2) := by decide +kernel
theorem dX1_findPath_81 : decode cX1_findPath 81 = .ok (.if_icmp .lt 40, 3) := by decide +kernel
theorem dX1_findPath_84 : decode cX1_findPath 84 = .ok (.aload_n 0, 1) := by decide +kernel
theorem dX1_findPath_85 : decode cX1_findPath 85 = .ok (.getfield 21, 3) := by decide +kernel
theorem dX1_findPath_88 : decode cX1_findPath 88 = .ok (.iload 6, 2) := by decide +kernel
theorem dX1_findPath_90 : decode cX1_findPath 90 = .ok (.iconst 0, 1) := by decide +kernel
theorem dX1_findPath_91 : decode cX1_findPath 91 = .ok (.iastore, 1) := by decide +kernel
theorem dX1_findPath_92 : decode cX1_findPath 92 = .ok (.iinc 4 (-1), 3) := by decide +kernel
theorem dX1_findPath_95 : decode cX1_findPath 95 = .ok (.iload 4, 2) := by decide +kernel
theorem dX1_findPath_97 : decode cX1_findPath 97 = .ok (.ifCond .le 98, 3) := by decide +kernel
theorem dX1_findPath_100 : decode cX1_findPath 100 = .ok (.aload_n 0, 1) := by decide +kernel
theorem dX1_findPath_101 : decode cX1_findPath 101 = .ok (.getfield 18, 3) := by decide +kernel
theorem dX1_findPath_104 : decode cX1_findPath 104 = .ok (.aload_n 0, 1) := by decide +kernel
theorem dX1_findPath_105 : decode cX1_findPath 105 = .ok (.getfield 24, 3) := by decide +kernel
theorem dX1_findPath_108 : decode cX1_findPath 108 = .ok (.iload 4, 2) := by decide +kernel
theorem dX1_findPath_110 : decode cX1_findPath 110 = .ok (.iconst 1, 1) := by decide +kernel
theorem dX1_findPath_111 : decode cX1_findPath 111 = .ok (.isub, 1) := by decide +kernel
theorem dX1_findPath_112 : decode cX1_findPath 112 = .ok (.iaload, 1) := by decide +kernel
theorem dX1_findPath_113 : decode cX1_findPath 113 = .ok (.dup2, 1) := by decide +kernel
theorem dX1_findPath_114 : decode cX1_findPath 114 = .ok (.iaload, 1) := by decide +kernel
theorem dX1_findPath_115 : decode cX1_findPath 115 = .ok (.iconst 1, 1) := by decide +kernel
theorem dX1_findPath_116 : decode cX1_findPath 116 = .ok (.iadd, 1) := by decide +kernel
theorem dX1_findPath_117 : decode cX1_findPath 117 = .ok (.iastore, 1) := by decide +kernel
theorem dX1_findPath_118 : decode cX1_findPath 118 = .ok (.goto 77, 3) := by decide +kernel
theorem dX1_findPath_121 : decode cX1_findPath 121 = .ok (.aload_n 0, 1) := by decide +kernel
theorem dX1_findPath_122 : decode cX1_findPath 122 = .ok (.aload_n 1, 1) := by decide +kernel
theorem dX1_findPath_123 : decode cX1_findPath 123 = .ok (.iload 6, 2) := by decide +kernel
theorem dX1_findPath_125 : decode cX1_findPath 125 = .ok (.aload_n 0, 1) := by decide +kernel
theorem dX1_findPath_126 : decode cX1_findPath 126 = .ok (.getfield 18, 3) := by decide +kernel
theorem dX1_findPath_129 : decode cX1_findPath 129 = .ok (.iload 6, 2) := by decide +kernel
theorem dX1_findPath_131 : decode cX1_findPath 131 = .ok (.iaload, 1) := by decide +kernel
theorem dX1_findPath_132 : decode cX1_findPath 132 = .ok (.invokevirtual 59, 3) := by decide +kernel
theorem dX1_findPath_135 : decode cX1_findPath 135 = .ok (.istore 7, 2) := by decide +kernel
theorem dX1_findPath_137 : decode cX1_findPath 137 = .ok (.iload 7, 2) := by decide +kernel
theorem dX1_findPath_139 : decode cX1_findPath 139 = .ok (.iconst (-1), 1) := by decide +kernel
theorem dX1_findPath_140 : decode cX1_findPath 140 = .ok (.if_icmp .eq 21, 3) := by decide +kernel
theorem dX1_findPath_143 : decode cX1_findPath 143 = .ok (.aload_n 0, 1) := by decide +kernel
theorem dX1_findPath_144 : decode cX1_findPath 144 = .ok (.getfield 21, 3) := by decide +kernel
theorem dX1_findPath_147 : decode cX1_findPath 147 = .ok (.iload 7, 2) := by decide +kernel
theorem dX1_findPath_149 : decode cX1_findPath 149 = .ok (.iaload, 1) := by decide +kernel
theorem dX1_findPath_150 : decode cX1_findPath 150 = .ok (.ifCond .ne 11, 3) := by decide +kernel
theorem dX1_findPath_153 : decode cX1_findPath 153 = .ok (.iload 4, 2) := by decide +kernel
theorem dX1_findPath_155 : decode cX1_findPath 155 = .ok (.sipush 488, 3) := by decide +kernel
theorem dX1_findPath_158 : decode cX1_findPath 158 = .ok (.if_icmp .lt 17, 3) := by decide +kernel
theorem dX1_findPath_161 : decode cX1_findPath 161 = .ok (.aload_n 0, 1) := by decide +kernel
theorem dX1_findPath_162 : decode cX1_findPath 162 = .ok (.getfield 18, 3) := by decide +kernel
theorem dX1_findPath_165 : decode cX1_findPath 165 = .ok (.iload 6, 2) := by decide +kernel
theorem dX1_findPath_167 : decode cX1_findPath 167 = .ok (.dup2, 1) := by decide +kernel
theorem dX1_findPath_168 : decode cX1_findPath 168 = .ok (.iaload, 1) := by decide +kernel
theorem dX1_findPath_169 : decode cX1_findPath 169 = .ok (.iconst 1, 1) := by decide +kernel
theorem dX1_findPath_170 : decode cX1_findPath 170 = .ok (.iadd, 1) := by decide +kernel
theorem dX1_findPath_171 : decode cX1_findPath 171 = .ok (.iastore, 1) := by decide +kernel
theorem dX1_findPath_172 : decode cX1_findPath 172 = .ok (.goto 23, 3) := by decide +kernel
theorem dX1_findPath_175 : decode cX1_findPath 175 = .ok (.aload_n 0, 1) := by decide +kernel
theorem dX1_findPath_176 : decode cX1_findPath 176 = .ok (.getfield 24, 3) := by decide +kernel
theorem dX1_findPath_179 : decode cX1_findPath 179 = .ok (.iload 4, 2) := by decide +kernel
theorem dX1_findPath_181 : decode cX1_findPath 181 = .ok (.iinc 4 1, 3) := by decide +kernel
theorem dX1_findPath_184 : decode cX1_findPath 184 = .ok (.iload 7, 2) := by decide +kernel
theorem dX1_findPath_186 : decode cX1_findPath 186 = .ok (.iastore, 1) := by decide +kernel
theorem dX1_findPath_187 : decode cX1_findPath 187 = .ok (.aload_n 0, 1) := by decide +kernel
theorem dX1_findPath_188 : decode cX1_findPath 188 = .ok (.getfield 21, 3) := by decide +kernel
theorem dX1_findPath_191 : decode cX1_findPath 191 = .ok (.iload 7, 2) := by decide +kernel
theorem dX1_findPath_193 : decode cX1_findPath 193 = .ok (.iconst 1, 1) := by decide +kernel
theorem dX1_findPath_194 : decode cX1_findPath 194 = .ok (.iastore, 1) := by decide +kernel
theorem dX1_findPath_195 : decode cX1_findPath 195 = .ok (.iinc 5 1, 3) := by decide +kernel
theorem dX1_findPath_198 : decode cX1_findPath 198 = .ok (.goto (-161), 3) := by decide +kernel
theorem dX1_findPath_201 : decode cX1_findPath 201 = .ok (.iconst 0, 1) := by decide +kernel
theorem dX1_findPath_202 : decode cX1_findPath 202 = .ok (.ireturn, 1) := by decide +kernel
theorem dX1_knot_0 : decode cX1_knot 0 = .ok (.iload_n 0, 1) := by decide +kernel
theorem dX1_knot_1 : decode cX1_knot 1 = .ok (.ifCond .lt 23, 3) := by decide +kernel
theorem dX1_knot_4 : decode cX1_knot 4 = .ok (.iload_n 0, 1) := by decide +kernel
theorem dX1_knot_5 : decode cX1_knot 5 = .ok (.bipush 8, 2) := by decide +kernel
theorem dX1_knot_7 : decode cX1_knot 7 = .ok (.if_icmp .ge 17, 3) := by decide +kernel
theorem dX1_knot_10 : decode cX1_knot 10 = .ok (.iload_n 1, 1) := by decide +kernel
theorem dX1_knot_11 : decode cX1_knot 11 = .ok (.ifCond .lt 13, 3) := by decide +kernel
theorem dX1_knot_14 : decode cX1_knot 14 = .ok (.iload_n 1, 1) := by decide +kernel
theorem dX1_knot_15 : decode cX1_knot 15 = .ok (.bipush 61, 2) := by decide +kernel
theorem dX1_knot_17 : decode cX1_knot 17 = .ok (.if_icmp .ge 7, 3) := by decide +kernel
theorem dX1_knot_20 : decode cX1_knot 20 = .ok (.iconst 1, 1) := by decide +kernel
theorem dX1_knot_21 : decode cX1_knot 21 = .ok (.goto 4, 3) := by decide +kernel
theorem dX1_knot_24 : decode cX1_knot 24 = .ok (.iconst 0, 1) := by decide +kernel
theorem dX1_knot_25 : decode cX1_knot 25 = .ok (.istore_n 2, 1) := by decide +kernel
theorem dX1_knot_26 : decode cX1_knot 26 = .ok (.iload_n 2, 1) := by decide +kernel
theorem dX1_knot_27 : decode cX1_knot 27 = .ok (.ifCond .eq 12, 3) := by decide +kernel
theorem dX1_knot_30 : decode cX1_knot 30 = .ok (.iload_n 0, 1) := by decide +kernel
theorem dX1_knot_31 : decode cX1_knot 31 = .ok (.bipush 61, 2) := by decide +kernel
theorem dX1_knot_33 : decode cX1_knot 33 = .ok (.imul, 1) := by decide +kernel
theorem dX1_knot_34 : decode cX1_knot 34 = .ok (.iload_n 1, 1) := by decide +kernel
theorem dX1_knot_35 : decode cX1_knot 35 = .ok (.iadd, 1) := by decide +kernel
theorem dX1_knot_36 : decode cX1_knot 36 = .ok (.goto 4, 3) := by decide +kernel
theorem dX1_knot_39 : decode cX1_knot 39 = .ok (.iconst (-1), 1) := by decide +kernel
theorem dX1_knot_40 : decode cX1_knot 40 = .ok (.ireturn, 1) := by decide +kernel
theorem dX1_nextKnot_0 : decode cX1_nextKnot 0 = .ok (.iload_n 2, 1) := by decide +kernel
theorem dX1_nextKnot_1 : decode cX1_nextKnot 1 = .ok (.bipush 61, 2) := by decide +kernel
theorem dX1_nextKnot_3 : decode cX1_nextKnot 3 = .ok (.idiv, 1) := by decide +kernel
theorem dX1_nextKnot_4 : decode cX1_nextKnot 4 = .ok (.istore 4, 2) := by decide +kernel
theorem dX1_nextKnot_6 : decode cX1_nextKnot 6 = .ok (.iload_n 2, 1) := by decide +kernel
theorem dX1_nextKnot_7 : decode cX1_nextKnot 7 = .ok (.bipush 61, 2) := by decide +kernel
theorem dX1_nextKnot_9 : decode cX1_nextKnot 9 = .ok (.irem, 1) := by decide +kernel
theorem dX1_nextKnot_10 : decode cX1_nextKnot 10 = .ok (.istore 5, 2) := by decide +kernel
theorem dX1_nextKnot_12 : decode cX1_nextKnot 12 = .ok (.iload_n 3, 1) := by decide +kernel
theorem dX1_nextKnot_13 : decode cX1_nextKnot 13 = .ok (.bipush 10, 2) := by decide +kernel
theorem dX1_nextKnot_15 : decode cX1_nextKnot 15 = .ok (.if_icmp .ge 14, 3) := by decide +kernel
theorem dX1_nextKnot_18 : decode cX1_nextKnot 18 = .ok (.aload_n 0, 1) := by decide +kernel
theorem dX1_nextKnot_19 : decode cX1_nextKnot 19 = .ok (.aload_n 1, 1) := by decide +kernel
theorem dX1_nextKnot_20 : decode cX1_nextKnot 20 = .ok (.iload_n 3, 1) := by decide +kernel
theorem dX1_nextKnot_21 : decode cX1_nextKnot 21 = .ok (.iload 4, 2) := by decide +kernel
theorem dX1_nextKnot_23 : decode cX1_nextKnot 23 = .ok (.iload 5, 2) := by decide +kernel
theorem dX1_nextKnot_25 : decode cX1_nextKnot 25 = .ok (.invokevirtual 62, 3) := by decide +kernel
theorem dX1_nextKnot_28 : decode cX1_nextKnot 28 = .ok (.ireturn, 1) := by decide +kernel
theorem dX1_nextKnot_29 : decode cX1_nextKnot 29 = .ok (.iload_n 3, 1) := by decide +kernel
theorem dX1_nextKnot_30 : decode cX1_nextKnot 30 = .ok (.bipush 10, 2) := by decide +kernel
theorem dX1_nextKnot_32 : decode cX1_nextKnot 32 = .ok (.if_icmp .ne 26, 3) := by decide +kernel
theorem dX1_nextKnot_35 : decode cX1_nextKnot 35 = .ok (.iload 5, 2) := by decide +kernel
theorem dX1_nextKnot_37 : decode cX1_nextKnot 37 = .ok (.aload_n 1, 1) := by decide +kernel
theorem dX1_nextKnot_38 : decode cX1_nextKnot 38 = .ok (.invokevirtual 31, 3) := by decide +kernel
theorem dX1_nextKnot_41 : decode cX1_nextKnot 41 = .ok (.if_icmp .ge 15, 3) := by decide +kernel
theorem dX1_nextKnot_44 : decode cX1_nextKnot 44 = .ok (.iload 4, 2) := by decide +kernel
theorem dX1_nextKnot_46 : decode cX1_nextKnot 46 = .ok (.iload 5, 2) := by decide +kernel
theorem dX1_nextKnot_48 : decode cX1_nextKnot 48 = .ok (.iconst 1, 1) := by decide +kernel
theorem dX1_nextKnot_49 : decode cX1_nextKnot 49 = .ok (.iadd, 1) := by decide +kernel
theorem dX1_nextKnot_50 : decode cX1_nextKnot 50 = .ok (.invokestatic 54, 3) := by decide +kernel
theorem dX1_nextKnot_53 : decode cX1_nextKnot 53 = .ok (.goto 4, 3) := by decide +kernel
theorem dX1_nextKnot_56 : decode cX1_nextKnot 56 = .ok (.iconst (-1), 1) := by decide +kernel
theorem dX1_nextKnot_57 : decode cX1_nextKnot 57 = .ok (.ireturn, 1) := by decide +kernel
theorem dX1_nextKnot_58 : decode cX1_nextKnot 58 = .ok (.iload_n 3, 1) := by decide +kernel
theorem dX1_nextKnot_59 : decode cX1_nextKnot 59 = .ok (.bipush 21, 2) := by decide +kernel
theorem dX1_nextKnot_61 : decode cX1_nextKnot 61 = .ok (.if_icmp .ge 17, 3) := by decide +kernel
theorem dX1_nextKnot_64 : decode cX1_nextKnot 64 = .ok (.aload_n 0, 1) := by decide +kernel
theorem dX1_nextKnot_65 : decode cX1_nextKnot 65 = .ok (.aload_n 1, 1) := by decide +kernel
theorem dX1_nextKnot_66 : decode cX1_nextKnot 66 = .ok (.iload_n 3, 1) := by decide +kernel
theorem dX1_nextKnot_67 : decode cX1_nextKnot 67 = .ok (.bipush 11, 2) := by decide +kernel
theorem dX1_nextKnot_69 : decode cX1_nextKnot 69 = .ok (.isub, 1) := by decide +kernel
theorem dX1_nextKnot_70 : decode cX1_nextKnot 70 = .ok (.iload 4, 2) := by decide +kernel
theorem dX1_nextKnot_72 : decode cX1_nextKnot 72 = .ok (.iload 5, 2) := by decide +kernel
theorem dX1_nextKnot_74 : decode cX1_nextKnot 74 = .ok (.invokevirtual 66, 3) := by decide +kernel
theorem dX1_nextKnot_77 : decode cX1_nextKnot 77 = .ok (.ireturn, 1) := by decide +kernel
theorem dX1_nextKnot_78 : decode cX1_nextKnot 78 = .ok (.iload 5, 2) := by decide +kernel
theorem dX1_nextKnot_80 : decode cX1_nextKnot 80 = .ok (.ifCond .le 26, 3) := by decide +kernel
theorem dX1_nextKnot_83 : decode cX1_nextKnot 83 = .ok (.aload_n 0, 1) := by decide +kernel
theorem dX1_nextKnot_84 : decode cX1_nextKnot 84 = .ok (.getfield 15, 3) := by decide +kernel
theorem dX1_nextKnot_87 : decode cX1_nextKnot 87 = .ok (.iload_n 2, 1) := by decide +kernel
theorem dX1_nextKnot_88 : decode cX1_nextKnot 88 = .ok (.iconst 1, 1) := by decide +kernel
theorem dX1_nextKnot_89 : decode cX1_nextKnot 89 = .ok (.isub, 1) := by decide +kernel
theorem dX1_nextKnot_90 : decode cX1_nextKnot 90 = .ok (.iaload, 1) := by decide +kernel
theorem dX1_nextKnot_91 : decode cX1_nextKnot 91 = .ok (.ifCond .le 15, 3) := by decide +kernel
theorem dX1_nextKnot_94 : decode cX1_nextKnot 94 = .ok (.iload 4, 2) := by decide +kernel
theorem dX1_nextKnot_96 : decode cX1_nextKnot 96 = .ok (.iload 5, 2) := by decide +kernel
theorem dX1_nextKnot_98 : decode cX1_nextKnot 98 = .ok (.iconst 1, 1) := by decide +kernel
theorem dX1_nextKnot_99 : decode cX1_nextKnot 99 = .ok (.isub, 1) := by decide +kernel
theorem dX1_nextKnot_100 : decode cX1_nextKnot 100 = .ok (.invokestatic 54, 3) := by decide +kernel
theorem dX1_nextKnot_103 : decode cX1_nextKnot 103 = .ok (.goto 4, 3) := by decide +kernel
theorem dX1_nextKnot_106 : decode cX1_nextKnot 106 = .ok (.iconst (-1), 1) := by decide +kernel
theorem dX1_nextKnot_107 : decode cX1_nextKnot 107 = .ok (.ireturn, 1) := by decide +kernel
theorem dX1_acrossFrom_0 : decode cX1_acrossFrom 0 = .ok (.aload_n 1, 1) := by decide +kernel
theorem dX1_acrossFrom_1 : decode cX1_acrossFrom 1 = .ok (.iload_n 2, 1) := by decide +kernel
theorem dX1_acrossFrom_2 : decode cX1_acrossFrom 2 = .ok (.iload 4, 2) := by decide +kernel
theorem dX1_acrossFrom_4 : decode cX1_acrossFrom 4 = .ok (.invokevirtual 69, 3) := by decide +kernel
theorem dX1_acrossFrom_7 : decode cX1_acrossFrom 7 = .ok (.istore 5, 2) := by decide +kernel
theorem dX1_acrossFrom_9 : decode cX1_acrossFrom 9 = .ok (.iload 5, 2) := by decide +kernel
theorem dX1_acrossFrom_11 : decode cX1_acrossFrom 11 = .ok (.iconst (-1), 1) := by decide +kernel
theorem dX1_acrossFrom_12 : decode cX1_acrossFrom 12 = .ok (.if_icmp .ne 5, 3) := by decide +kernel
theorem dX1_acrossFrom_15 : decode cX1_acrossFrom 15 = .ok (.iconst (-1), 1) := by decide +kernel
theorem dX1_acrossFrom_16 : decode cX1_acrossFrom 16 = .ok (.ireturn, 1) := by decide +kernel
theorem dX1_acrossFrom_17 : decode cX1_acrossFrom 17 = .ok (.aload_n 1, 1) := by decide +kernel
theorem dX1_acrossFrom_18 : decode cX1_acrossFrom 18 = .ok (.iload_n 2, 1) := by decide +kernel
theorem dX1_acrossFrom_19 : decode cX1_acrossFrom 19 = .ok (.invokevirtual 72, 3) := by decide +kernel
theorem dX1_acrossFrom_22 : decode cX1_acrossFrom 22 = .ok (.istore 6, 2) := by decide +kernel
theorem dX1_acrossFrom_24 : decode cX1_acrossFrom 24 = .ok (.aload_n 0, 1) := by decide +kernel
theorem dX1_acrossFrom_25 : decode cX1_acrossFrom 25 = .ok (.getfield 11, 3) := by decide +kernel
theorem dX1_acrossFrom_28 : decode cX1_acrossFrom 28 = .ok (.iload_n 2, 1) := by decide +kernel
theorem dX1_acrossFrom_29 : decode cX1_acrossFrom 29 = .ok (.bipush 61, 2) := by decide +kernel
theorem dX1_acrossFrom_31 : decode cX1_acrossFrom 31 = .ok (.imul, 1) := by decide +kernel
theorem dX1_acrossFrom_32 : decode cX1_acrossFrom 32 = .ok (.iload 4, 2) := by decide +kernel
theorem dX1_acrossFrom_34 : decode cX1_acrossFrom 34 = .ok (.iadd, 1) := by decide +kernel
theorem dX1_acrossFrom_35 : decode cX1_acrossFrom 35 = .ok (.iaload, 1) := by decide +kernel
theorem dX1_acrossFrom_36 : decode cX1_acrossFrom 36 = .ok (.istore 7, 2) := by decide +kernel
theorem dX1_acrossFrom_38 : decode cX1_acrossFrom 38 = .ok (.iload_n 3, 1) := by decide +kernel
theorem dX1_acrossFrom_39 : decode cX1_acrossFrom 39 = .ok (.iload 6, 2) := by decide +kernel
theorem dX1_acrossFrom_41 : decode cX1_acrossFrom 41 = .ok (.if_icmp .ne 23, 3) := by decide +kernel
theorem dX1_acrossFrom_44 : decode cX1_acrossFrom 44 = .ok (.iload 7, 2) := by decide +kernel
theorem dX1_acrossFrom_46 : decode cX1_acrossFrom 46 = .ok (.iconst 1, 1) := by decide +kernel
theorem dX1_acrossFrom_47 : decode cX1_acrossFrom 47 = .ok (.iand, 1) := by decide +kernel
theorem dX1_acrossFrom_48 : decode cX1_acrossFrom 48 = .ok (.ifCond .ne 16, 3) := by decide +kernel
theorem dX1_acrossFrom_51 : decode cX1_acrossFrom 51 = .ok (.iload 5, 2) := by decide +kernel
theorem dX1_acrossFrom_53 : decode cX1_acrossFrom 53 = .ok (.iload 4, 2) := by decide +kernel
theorem dX1_acrossFrom_55 : decode cX1_acrossFrom 55 = .ok (.aload_n 1, 1) := by decide +kernel
theorem dX1_acrossFrom_56 : decode cX1_acrossFrom 56 = .ok (.invokevirtual 76, 3) := by decide +kernel
theorem dX1_acrossFrom_59 : decode cX1_acrossFrom 59 = .ok (.iadd, 1) := by decide +kernel
theorem dX1_acrossFrom_60 : decode cX1_acrossFrom 60 = .ok (.invokestatic 54, 3) := by decide +kernel
theorem dX1_acrossFrom_63 : decode cX1_acrossFrom 63 = .ok (.ireturn, 1) := by decide +kernel
theorem dX1_acrossFrom_64 : decode cX1_acrossFrom 64 = .ok (.iload_n 3, 1) := by decide +kernel
theorem dX1_acrossFrom_65 : decode cX1_acrossFrom 65 = .ok (.iload 5, 2) := by decide +kernel
theorem dX1_acrossFrom_67 : decode cX1_acrossFrom 67 = .ok (.if_icmp .ne 23, 3) := by decide +kernel
theorem dX1_acrossFrom_70 : decode cX1_acrossFrom 70 = .ok (.iload 7, 2) := by decide +kernel
theorem dX1_acrossFrom_72 : decode cX1_acrossFrom 72 = .ok (.iconst 2, 1) := by decide +kernel
theorem dX1_acrossFrom_73 : decode cX1_acrossFrom 73 = .ok (.iand, 1) := by decide +kernel
theorem dX1_acrossFrom_74 : decode cX1_acrossFrom 74 = .ok (.ifCond .ne 16, 3) := by decide +kernel
theorem dX1_acrossFrom_77 : decode cX1_acrossFrom 77 = .ok (.iload 6, 2) := by decide +kernel
theorem dX1_acrossFrom_79 : decode cX1_acrossFrom 79 = .ok (.iload 4, 2) := by decide +kernel
theorem dX1_acrossFrom_81 : decode cX1_acrossFrom 81 = .ok (.aload_n 1, 1) := by decide +kernel
theorem dX1_acrossFrom_82 : decode cX1_acrossFrom 82 = .ok (.invokevirtual 76, 3) := by decide +kernel
theorem dX1_acrossFrom_85 : decode cX1_acrossFrom 85 = .ok (.iadd, 1) := by decide +kernel
theorem dX1_acrossFrom_86 : decode cX1_acrossFrom 86 = .ok (.invokestatic 54, 3) := by decide +kernel
theorem dX1_acrossFrom_89 : decode cX1_acrossFrom 89 = .ok (.ireturn, 1) := by decide +kernel
theorem dX1_acrossFrom_90 : decode cX1_acrossFrom 90 = .ok (.iconst (-1), 1) := by decide +kernel
theorem dX1_acrossFrom_91 : decode cX1_acrossFrom 91 = .ok (.ireturn, 1) := by decide +kernel
theorem dX1_takenBackFrom_0 : decode cX1_takenBackFrom 0 = .ok (.iload 4, 2) := by decide +kernel
theorem dX1_takenBackFrom_2 : decode cX1_takenBackFrom 2 = .ok (.aload_n 1, 1) := by decide +kernel
theorem dX1_takenBackFrom_3 : decode cX1_takenBackFrom 3 = .ok (.invokevirtual 76, 3) := by decide +kernel
theorem dX1_takenBackFrom_6 : decode cX1_takenBackFrom 6 = .ok (.isub, 1) := by decide +kernel
theorem dX1_takenBackFrom_7 : decode cX1_takenBackFrom 7 = .ok (.istore 5, 2) := by decide +kernel
theorem dX1_takenBackFrom_9 : decode cX1_takenBackFrom 9 = .ok (.aload_n 1, 1) := by decide +kernel
theorem dX1_takenBackFrom_10 : decode cX1_takenBackFrom 10 = .ok (.iload_n 2, 1) := by decide +kernel
theorem dX1_takenBackFrom_11 : decode cX1_takenBackFrom 11 = .ok (.iload 5, 2) := by decide +kernel
theorem dX1_takenBackFrom_13 : decode cX1_takenBackFrom 13 = .ok (.invokevirtual 69, 3) := by decide +kernel
theorem dX1_takenBackFrom_16 : decode cX1_takenBackFrom 16 = .ok (.istore 6, 2) := by decide +kernel
theorem dX1_takenBackFrom_18 : decode cX1_takenBackFrom 18 = .ok (.iload 6, 2) := by decide +kernel
theorem dX1_takenBackFrom_20 : decode cX1_takenBackFrom 20 = .ok (.iconst (-1), 1) := by decide +kernel
theorem dX1_takenBackFrom_21 : decode cX1_takenBackFrom 21 = .ok (.if_icmp .ne 5, 3) := by decide +kernel
theorem dX1_takenBackFrom_24 : decode cX1_takenBackFrom 24 = .ok (.iconst (-1), 1) := by decide +kernel
theorem dX1_takenBackFrom_25 : decode cX1_takenBackFrom 25 = .ok (.ireturn, 1) := by decide +kernel
theorem dX1_takenBackFrom_26 : decode cX1_takenBackFrom 26 = .ok (.aload_n 1, 1) := by decide +kernel
theorem dX1_takenBackFrom_27 : decode cX1_takenBackFrom 27 = .ok (.iload_n 2, 1) := by decide +kernel
theorem dX1_takenBackFrom_28 : decode cX1_takenBackFrom 28 = .ok (.invokevirtual 72, 3) := by decide +kernel
theorem dX1_takenBackFrom_31 : decode cX1_takenBackFrom 31 = .ok (.istore 7, 2) := by decide +kernel
theorem dX1_takenBackFrom_33 : decode cX1_takenBackFrom 33 = .ok (.aload_n 0, 1) := by decide +kernel
theorem dX1_takenBackFrom_34 : decode cX1_takenBackFrom 34 = .ok (.getfield 11, 3) := by decide +kernel
theorem dX1_takenBackFrom_37 : decode cX1_takenBackFrom 37 = .ok (.iload_n 2, 1) := by decide +kernel
theorem dX1_takenBackFrom_38 : decode cX1_takenBackFrom 38 = .ok (.bipush 61, 2) := by decide +kernel
theorem dX1_takenBackFrom_40 : decode cX1_takenBackFrom 40 = .ok (.imul, 1) := by decide +kernel
theorem dX1_takenBackFrom_41 : decode cX1_takenBackFrom 41 = .ok (.iload 5, 2) := by decide +kernel
theorem dX1_takenBackFrom_43 : decode cX1_takenBackFrom 43 = .ok (.iadd, 1) := by decide +kernel
theorem dX1_takenBackFrom_44 : decode cX1_takenBackFrom 44 = .ok (.iaload, 1) := by decide +kernel
theorem dX1_takenBackFrom_45 : decode cX1_takenBackFrom 45 = .ok (.istore 8, 2) := by decide +kernel
theorem dX1_takenBackFrom_47 : decode cX1_takenBackFrom 47 = .ok (.iload_n 3, 1) := by decide +kernel
theorem dX1_takenBackFrom_48 : decode cX1_takenBackFrom 48 = .ok (.iload 6, 2) := by decide +kernel
theorem dX1_takenBackFrom_50 : decode cX1_takenBackFrom 50 = .ok (.if_icmp .ne 18, 3) := by decide +kernel
theorem dX1_takenBackFrom_53 : decode cX1_takenBackFrom 53 = .ok (.iload 8, 2) := by decide +kernel
theorem dX1_takenBackFrom_55 : decode cX1_takenBackFrom 55 = .ok (.iconst 1, 1) := by decide +kernel
theorem dX1_takenBackFrom_56 : decode cX1_takenBackFrom 56 = .ok (.iand, 1) := by decide +kernel
theorem dX1_takenBackFrom_57 : decode cX1_takenBackFrom 57 = .ok (.ifCond .eq 11, 3) := by decide +kernel
theorem dX1_takenBackFrom_60 : decode cX1_takenBackFrom 60 = .ok (.iload 7, 2) := by decide +kernel
theorem dX1_takenBackFrom_62 : decode cX1_takenBackFrom 62 = .ok (.iload 5, 2) := by decide +kernel
theorem dX1_takenBackFrom_64 : decode cX1_takenBackFrom 64 = .ok (.invokestatic 54, 3) := by decide +kernel
theorem dX1_takenBackFrom_67 : decode cX1_takenBackFrom 67 = .ok (.ireturn, 1) := by decide +kernel
theorem dX1_takenBackFrom_68 : decode cX1_takenBackFrom 68 = .ok (.iload_n 3, 1) := by decide +kernel
theorem dX1_takenBackFrom_69 : decode cX1_takenBackFrom 69 = .ok (.iload 7, 2) := by decide +kernel
theorem dX1_takenBackFrom_71 : decode cX1_takenBackFrom 71 = .ok (.if_icmp .ne 18, 3) := by decide +kernel
theorem dX1_takenBackFrom_74 : decode cX1_takenBackFrom 74 = .ok (.iload 8, 2) := by decide +kernel
theorem dX1_takenBackFrom_76 : decode cX1_takenBackFrom 76 = .ok (.iconst 2, 1) := by decide +kernel
theorem dX1_takenBackFrom_77 : decode cX1_takenBackFrom 77 = .ok (.iand, 1) := by decide +kernel
theorem dX1_takenBackFrom_78 : decode cX1_takenBackFrom 78 = .ok (.ifCond .eq 11, 3) := by decide +kernel
theorem dX1_takenBackFrom_81 : decode cX1_takenBackFrom 81 = .ok (.iload 6, 2) := by decide +kernel
theorem dX1_takenBackFrom_83 : decode cX1_takenBackFrom 83 = .ok (.iload 5, 2) := by decide +kernel
theorem dX1_takenBackFrom_85 : decode cX1_takenBackFrom 85 = .ok (.invokestatic 54, 3) := by decide +kernel
theorem dX1_takenBackFrom_88 : decode cX1_takenBackFrom 88 = .ok (.ireturn, 1) := by decide +kernel
theorem dX1_takenBackFrom_89 : decode cX1_takenBackFrom 89 = .ok (.iconst (-1), 1) := by decide +kernel
theorem dX1_takenBackFrom_90 : decode cX1_takenBackFrom 90 = .ok (.ireturn, 1) := by decide +kernel
theorem dX1_send_0 : decode cX1_send 0 = .ok (.iload_n 2, 1) := by decide +kernel
theorem dX1_send_1 : decode cX1_send 1 = .ok (.bipush 61, 2) := by decide +kernel
theorem dX1_send_3 : decode cX1_send 3 = .ok (.idiv, 1) := by decide +kernel
theorem dX1_send_4 : decode cX1_send 4 = .ok (.istore 4, 2) := by decide +kernel
theorem dX1_send_6 : decode cX1_send 6 = .ok (.iload_n 2, 1) := by decide +kernel
theorem dX1_send_7 : decode cX1_send 7 = .ok (.bipush 61, 2) := by decide +kernel
theorem dX1_send_9 : decode cX1_send 9 = .ok (.irem, 1) := by decide +kernel
theorem dX1_send_10 : decode cX1_send 10 = .ok (.istore 5, 2) := by decide +kernel
theorem dX1_send_12 : decode cX1_send 12 = .ok (.iload_n 3, 1) := by decide +kernel
theorem dX1_send_13 : decode cX1_send 13 = .ok (.bipush 10, 2) := by decide +kernel
theorem dX1_send_15 : decode cX1_send 15 = .ok (.if_icmp .ge 36, 3) := by decide +kernel
theorem dX1_send_18 : decode cX1_send 18 = .ok (.aload_n 0, 1) := by decide +kernel
theorem dX1_send_19 : decode cX1_send 19 = .ok (.getfield 11, 3) := by decide +kernel
theorem dX1_send_22 : decode cX1_send 22 = .ok (.iload_n 3, 1) := by decide +kernel
theorem dX1_send_23 : decode cX1_send 23 = .ok (.bipush 61, 2) := by decide +kernel
theorem dX1_send_25 : decode cX1_send 25 = .ok (.imul, 1) := by decide +kernel
theorem dX1_send_26 : decode cX1_send 26 = .ok (.iload 5, 2) := by decide +kernel
theorem dX1_send_28 : decode cX1_send 28 = .ok (.iadd, 1) := by decide +kernel
theorem dX1_send_29 : decode cX1_send 29 = .ok (.dup2, 1) := by decide +kernel
theorem dX1_send_30 : decode cX1_send 30 = .ok (.iaload, 1) := by decide +kernel
theorem dX1_send_31 : decode cX1_send 31 = .ok (.iload 4, 2) := by decide +kernel
theorem dX1_send_33 : decode cX1_send 33 = .ok (.aload_n 1, 1) := by decide +kernel
theorem dX1_send_34 : decode cX1_send 34 = .ok (.iload_n 3, 1) := by decide +kernel
theorem dX1_send_35 : decode cX1_send 35 = .ok (.invokevirtual 72, 3) := by decide +kernel
theorem dX1_send_38 : decode cX1_send 38 = .ok (.if_icmp .ne 7, 3) := by decide +kernel
theorem dX1_send_41 : decode cX1_send 41 = .ok (.iconst 1, 1) := by decide +kernel
theorem dX1_send_42 : decode cX1_send 42 = .ok (.goto 4, 3) := by decide +kernel
theorem dX1_send_45 : decode cX1_send 45 = .ok (.iconst 2, 1) := by decide +kernel
theorem dX1_send_46 : decode cX1_send 46 = .ok (.ixor, 1) := by decide +kernel
theorem dX1_send_47 : decode cX1_send 47 = .ok (.iastore, 1) := by decide +kernel
theorem dX1_send_48 : decode cX1_send 48 = .ok (.goto 100, 3) := by decide +kernel
theorem dX1_send_51 : decode cX1_send 51 = .ok (.iload_n 3, 1) := by decide +kernel
theorem dX1_send_52 : decode cX1_send 52 = .ok (.bipush 10, 2) := by decide +kernel
theorem dX1_send_54 : decode cX1_send 54 = .ok (.if_icmp .ne 16, 3) := by decide +kernel
theorem dX1_send_57 : decode cX1_send 57 = .ok (.aload_n 0, 1) := by decide +kernel
theorem dX1_send_58 : decode cX1_send 58 = .ok (.getfield 15, 3) := by decide +kernel
theorem dX1_send_61 : decode cX1_send 61 = .ok (.iload_n 2, 1) := by decide +kernel
theorem dX1_send_62 : decode cX1_send 62 = .ok (.dup2, 1) := by decide +kernel
theorem dX1_send_63 : decode cX1_send 63 = .ok (.iaload, 1) := by decide +kernel
theorem dX1_send_64 : decode cX1_send 64 = .ok (.iconst 1, 1) := by decide +kernel
theorem dX1_send_65 : decode cX1_send 65 = .ok (.iadd, 1) := by decide +kernel
theorem dX1_send_66 : decode cX1_send 66 = .ok (.iastore, 1) := by decide +kernel
theorem dX1_send_67 : decode cX1_send 67 = .ok (.goto 81, 3) := by decide +kernel
theorem dX1_send_70 : decode cX1_send 70 = .ok (.iload_n 3, 1) := by decide +kernel
theorem dX1_send_71 : decode cX1_send 71 = .ok (.bipush 21, 2) := by decide +kernel
theorem dX1_send_73 : decode cX1_send 73 = .ok (.if_icmp .ge 58, 3) := by decide +kernel
theorem dX1_send_76 : decode cX1_send 76 = .ok (.iload_n 3, 1) := by decide +kernel
theorem dX1_send_77 : decode cX1_send 77 = .ok (.bipush 11, 2) := by decide +kernel
theorem dX1_send_79 : decode cX1_send 79 = .ok (.isub, 1) := by decide +kernel
theorem dX1_send_80 : decode cX1_send 80 = .ok (.istore 6, 2) := by decide +kernel
theorem dX1_send_82 : decode cX1_send 82 = .ok (.iload 5, 2) := by decide +kernel
theorem dX1_send_84 : decode cX1_send 84 = .ok (.aload_n 1, 1) := by decide +kernel
theorem dX1_send_85 : decode cX1_send 85 = .ok (.invokevirtual 76, 3) := by decide +kernel
theorem dX1_send_88 : decode cX1_send 88 = .ok (.isub, 1) := by decide +kernel
theorem dX1_send_89 : decode cX1_send 89 = .ok (.istore 7, 2) := by decide +kernel
theorem dX1_send_91 : decode cX1_send 91 = .ok (.iload 7, 2) := by decide +kernel
theorem dX1_send_93 : decode cX1_send 93 = .ok (.ifCond .lt 35, 3) := by decide +kernel
theorem dX1_send_96 : decode cX1_send 96 = .ok (.aload_n 0, 1) := by decide +kernel
theorem dX1_send_97 : decode cX1_send 97 = .ok (.getfield 11, 3) := by decide +kernel
theorem dX1_send_100 : decode cX1_send 100 = .ok (.iload 6, 2) := by decide +kernel
theorem dX1_send_102 : decode cX1_send 102 = .ok (.bipush 61, 2) := by decide +kernel
theorem dX1_send_104 : decode cX1_send 104 = .ok (.imul, 1) := by decide +kernel
theorem dX1_send_105 : decode cX1_send 105 = .ok (.iload 7, 2) := by decide +kernel
theorem dX1_send_107 : decode cX1_send 107 = .ok (.iadd, 1) := by decide +kernel
theorem dX1_send_108 : decode cX1_send 108 = .ok (.dup2, 1) := by decide +kernel
theorem dX1_send_109 : decode cX1_send 109 = .ok (.iaload, 1) := by decide +kernel
theorem dX1_send_110 : decode cX1_send 110 = .ok (.iload 4, 2) := by decide +kernel
theorem dX1_send_112 : decode cX1_send 112 = .ok (.aload_n 1, 1) := by decide +kernel
theorem dX1_send_113 : decode cX1_send 113 = .ok (.iload 6, 2) := by decide +kernel
theorem dX1_send_115 : decode cX1_send 115 = .ok (.invokevirtual 72, 3) := by decide +kernel
theorem dX1_send_118 : decode cX1_send 118 = .ok (.if_icmp .ne 7, 3) := by decide +kernel
theorem dX1_send_121 : decode cX1_send 121 = .ok (.iconst 2, 1) := by decide +kernel
theorem dX1_send_122 : decode cX1_send 122 = .ok (.goto 4, 3) := by decide +kernel
theorem dX1_send_125 : decode cX1_send 125 = .ok (.iconst 1, 1) := by decide +kernel
theorem dX1_send_126 : decode cX1_send 126 = .ok (.ixor, 1) := by decide +kernel
theorem dX1_send_127 : decode cX1_send 127 = .ok (.iastore, 1) := by decide +kernel
theorem dX1_send_128 : decode cX1_send 128 = .ok (.goto 20, 3) := by decide +kernel
theorem dX1_send_131 : decode cX1_send 131 = .ok (.iload 5, 2) := by decide +kernel
theorem dX1_send_133 : decode cX1_send 133 = .ok (.ifCond .le 15, 3) := by decide +kernel
theorem dX1_send_136 : decode cX1_send 136 = .ok (.aload_n 0, 1) := by decide +kernel
theorem dX1_send_137 : decode cX1_send 137 = .ok (.getfield 15, 3) := by decide +kernel
theorem dX1_send_140 : decode cX1_send 140 = .ok (.iload_n 2, 1) := by decide +kernel
theorem dX1_send_141 : decode cX1_send 141 = .ok (.iconst 1, 1) := by decide +kernel
theorem dX1_send_142 : decode cX1_send 142 = .ok (.isub, 1) := by decide +kernel
theorem dX1_send_143 : decode cX1_send 143 = .ok (.dup2, 1) := by decide +kernel
theorem dX1_send_144 : decode cX1_send 144 = .ok (.iaload, 1) := by decide +kernel
theorem dX1_send_145 : decode cX1_send 145 = .ok (.iconst 1, 1) := by decide +kernel
theorem dX1_send_146 : decode cX1_send 146 = .ok (.isub, 1) := by decide +kernel
theorem dX1_send_147 : decode cX1_send 147 = .ok (.iastore, 1) := by decide +kernel
theorem dX1_send_148 : decode cX1_send 148 = .ok (.return_, 1) := by decide +kernel
theorem dX2_init_0 : decode cX2_init 0 = .ok (.aload_n 0, 1) := by decide +kernel
theorem dX2_init_1 : decode cX2_init 1 = .ok (.aload_n 1, 1) := by decide +kernel
theorem dX2_init_2 : decode cX2_init 2 = .ok (.invokespecial 3, 3) := by decide +kernel
theorem dX2_init_5 : decode cX2_init 5 = .ok (.return_, 1) := by decide +kernel
theorem dX2_kind_0 : decode cX2_kind 0 = .ok (.iconst 3, 1) := by decide +kernel
theorem dX2_kind_1 : decode cX2_kind 1 = .ok (.ireturn, 1) := by decide +kernel
theorem dX2_roundMinutes_0 : decode cX2_roundMinutes 0 = .ok (.iconst 1, 1) := by decide +kernel
theorem dX2_roundMinutes_1 : decode cX2_roundMinutes 1 = .ok (.ireturn, 1) := by decide +kernel
theorem dX2_endAt_0 : decode cX2_endAt 0 = .ok (.aload_n 0, 1) := by decide +kernel
theorem dX2_endAt_1 : decode cX2_endAt 1 = .ok (.iconst 0, 1) := by decide +kernel
theorem dX2_endAt_2 : decode cX2_endAt 2 = .ok (.invokevirtual 9, 3) := by decide +kernel
theorem dX2_endAt_5 : decode cX2_endAt 5 = .ok (.ireturn, 1) := by decide +kernel
theorem dX2_standsStill_0 : decode cX2_standsStill 0 = .ok (.sipush 999, 3) := by decide +kernel
theorem dX2_standsStill_3 : decode cX2_standsStill 3 = .ok (.ireturn, 1) := by decide +kernel
theorem dX3_init_0 : decode cX3_init 0 = .ok (.aload_n 0, 1) := by decide +kernel
theorem dX3_init_1 : decode cX3_init 1 = .ok (.aload_n 1, 1) := by decide +kernel
theorem dX3_init_2 : decode cX3_init 2 = .ok (.invokespecial 1, 3) := by decide +kernel
theorem dX3_init_5 : decode cX3_init 5 = .ok (.return_, 1) := by decide +kernel
theorem dX3_kind_0 : decode cX3_kind 0 = .ok (.iconst 1, 1) := by decide +kernel
theorem dX3_kind_1 : decode cX3_kind 1 = .ok (.ireturn, 1) := by decide +kernel
theorem dX3_turnMinutes_0 : decode cX3_turnMinutes 0 = .ok (.iload_n 1, 1) := by decide +kernel
theorem dX3_turnMinutes_1 : decode cX3_turnMinutes 1 = .ok (.ifCond .eq 12, 3) := by decide +kernel
theorem dX3_turnMinutes_4 : decode cX3_turnMinutes 4 = .ok (.iconst 2, 1) := by decide +kernel
theorem dX3_turnMinutes_5 : decode cX3_turnMinutes 5 = .ok (.aload_n 0, 1) := by decide +kernel
theorem dX3_turnMinutes_6 : decode cX3_turnMinutes 6 = .ok (.getfield 7, 3) := by decide +kernel
theorem dX3_turnMinutes_9 : decode cX3_turnMinutes 9 = .ok (.imul, 1) := by decide +kernel
theorem dX3_turnMinutes_10 : decode cX3_turnMinutes 10 = .ok (.goto 7, 3) := by decide +kernel
theorem dX3_turnMinutes_13 : decode cX3_turnMinutes 13 = .ok (.aload_n 0, 1) := by decide +kernel
theorem dX3_turnMinutes_14 : decode cX3_turnMinutes 14 = .ok (.getfield 7, 3) := by decide +kernel
theorem dX3_turnMinutes_17 : decode cX3_turnMinutes 17 = .ok (.ireturn, 1) := by decide +kernel
theorem dX4_init_0 : decode cX4_init 0 = .ok (.aload_n 0, 1) := by decide +kernel
theorem dX4_init_1 : decode cX4_init 1 = .ok (.invokespecial 3, 3) := by decide +kernel
theorem dX4_init_4 : decode cX4_init 4 = .ok (.aload_n 0, 1) := by decide +kernel
theorem dX4_init_5 : decode cX4_init 5 = .ok (.bipush 10, 2) := by decide +kernel
theorem dX4_init_7 : decode cX4_init 7 = .ok (.newarray .int, 2) := by decide +kernel
theorem dX4_init_9 : decode cX4_init 9 = .ok (.putfield 9, 3) := by decide +kernel
theorem dX4_init_12 : decode cX4_init 12 = .ok (.aload_n 0, 1) := by decide +kernel
theorem dX4_init_13 : decode cX4_init 13 = .ok (.new 15, 3) := by decide +kernel
theorem dX4_init_16 : decode cX4_init 16 = .ok (.dup, 1) := by decide +kernel
theorem dX4_init_17 : decode cX4_init 17 = .ok (.invokespecial 17, 3) := by decide +kernel
theorem dX4_init_20 : decode cX4_init 20 = .ok (.putfield 18, 3) := by decide +kernel
theorem dX4_init_23 : decode cX4_init 23 = .ok (.aload_n 0, 1) := by decide +kernel
theorem dX4_init_24 : decode cX4_init 24 = .ok (.iconst (-1), 1) := by decide +kernel
theorem dX4_init_25 : decode cX4_init 25 = .ok (.putfield 22, 3) := by decide +kernel
theorem dX4_init_28 : decode cX4_init 28 = .ok (.aload_n 0, 1) := by decide +kernel
theorem dX4_init_29 : decode cX4_init 29 = .ok (.iconst 0, 1) := by decide +kernel
theorem dX4_init_30 : decode cX4_init 30 = .ok (.putfield 26, 3) := by decide +kernel
theorem dX4_init_33 : decode cX4_init 33 = .ok (.return_, 1) := by decide +kernel
theorem dX4_isKept_0 : decode cX4_isKept 0 = .ok (.aload_n 0, 1) := by decide +kernel
theorem dX4_isKept_1 : decode cX4_isKept 1 = .ok (.getfield 22, 3) := by decide +kernel
theorem dX4_isKept_4 : decode cX4_isKept 4 = .ok (.iconst (-1), 1) := by decide +kernel
theorem dX4_isKept_5 : decode cX4_isKept 5 = .ok (.if_icmp .eq 7, 3) := by decide +kernel
theorem dX4_isKept_8 : decode cX4_isKept 8 = .ok (.iconst 1, 1) := by decide +kernel
theorem dX4_isKept_9 : decode cX4_isKept 9 = .ok (.goto 4, 3) := by decide +kernel
theorem dX4_isKept_12 : decode cX4_isKept 12 = .ok (.iconst 0, 1) := by decide +kernel
theorem dX4_isKept_13 : decode cX4_isKept 13 = .ok (.ireturn, 1) := by decide +kernel
theorem dX4_wasFrosty_0 : decode cX4_wasFrosty 0 = .ok (.aload_n 0, 1) := by decide +kernel
theorem dX4_wasFrosty_1 : decode cX4_wasFrosty 1 = .ok (.getfield 26, 3) := by decide +kernel
theorem dX4_wasFrosty_4 : decode cX4_wasFrosty 4 = .ok (.ireturn, 1) := by decide +kernel
theorem dX4_keep_0 : decode cX4_keep 0 = .ok (.aload_n 0, 1) := by decide +kernel
theorem dX4_keep_1 : decode cX4_keep 1 = .ok (.aload_n 1, 1) := by decide +kernel
theorem dX4_keep_2 : decode cX4_keep 2 = .ok (.invokevirtual 30, 3) := by decide +kernel
theorem dX4_keep_5 : decode cX4_keep 5 = .ok (.bipush 10, 2) := by decide +kernel
theorem dX4_keep_7 : decode cX4_keep 7 = .ok (.invokestatic 36, 3) := by decide +kernel
theorem dX4_keep_10 : decode cX4_keep 10 = .ok (.putfield 22, 3) := by decide +kernel
theorem dX4_keep_13 : decode cX4_keep 13 = .ok (.iconst 0, 1) := by decide +kernel
theorem dX4_keep_14 : decode cX4_keep 14 = .ok (.istore 4, 2) := by decide +kernel
theorem dX4_keep_16 : decode cX4_keep 16 = .ok (.iload 4, 2) := by decide +kernel
theorem dX4_keep_18 : decode cX4_keep 18 = .ok (.aload_n 0, 1) := by decide +kernel
theorem dX4_keep_19 : decode cX4_keep 19 = .ok (.getfield 22, 3) := by decide +kernel
theorem dX4_keep_22 : decode cX4_keep 22 = .ok (.if_icmp .ge 28, 3) := by decide +kernel
theorem dX4_keep_25 : decode cX4_keep 25 = .ok (.aload_n 0, 1) := by decide +kernel
theorem dX4_keep_26 : decode cX4_keep 26 = .ok (.getfield 9, 3) := by decide +kernel
theorem dX4_keep_29 : decode cX4_keep 29 = .ok (.iload 4, 2) := by decide +kernel
theorem dX4_keep_31 : decode cX4_keep 31 = .ok (.aload_n 1, 1) := by decide +kernel
theorem dX4_keep_32 : decode cX4_keep 32 = .ok (.iload 4, 2) := by decide +kernel
theorem dX4_keep_34 : decode cX4_keep 34 = .ok (.invokevirtual 42, 3) := by decide +kernel
theorem dX4_keep_37 : decode cX4_keep 37 = .ok (.checkcast 46, 3) := by decide +kernel
theorem dX4_keep_40 : decode cX4_keep 40 = .ok (.getfield 48, 3) := by decide +kernel
theorem dX4_keep_43 : decode cX4_keep 43 = .ok (.iastore, 1) := by decide +kernel
theorem dX4_keep_44 : decode cX4_keep 44 = .ok (.iinc 4 1, 3) := by decide +kernel
theorem dX4_keep_47 : decode cX4_keep 47 = .ok (.goto (-31), 3) := by decide +kernel
theorem dX4_keep_50 : decode cX4_keep 50 = .ok (.aload_n 0, 1) := by decide +kernel
theorem dX4_keep_51 : decode cX4_keep 51 = .ok (.iload_n 2, 1) := by decide +kernel
theorem dX4_keep_52 : decode cX4_keep 52 = .ok (.putfield 26, 3) := by decide +kernel
theorem dX4_keep_55 : decode cX4_keep 55 = .ok (.aload_n 0, 1) := by decide +kernel
theorem dX4_keep_56 : decode cX4_keep 56 = .ok (.getfield 18, 3) := by decide +kernel
theorem dX4_keep_59 : decode cX4_keep 59 = .ok (.aload_n 3, 1) := by decide +kernel
theorem dX4_keep_60 : decode cX4_keep 60 = .ok (.invokevirtual 51, 3) := by decide +kernel
theorem dX4_keep_63 : decode cX4_keep 63 = .ok (.return_, 1) := by decide +kernel
theorem dX4_giveBack_0 : decode cX4_giveBack 0 = .ok (.aload_n 1, 1) := by decide +kernel
theorem dX4_giveBack_1 : decode cX4_giveBack 1 = .ok (.invokevirtual 30, 3) := by decide +kernel
theorem dX4_giveBack_4 : decode cX4_giveBack 4 = .ok (.iconst 1, 1) := by decide +kernel
theorem dX4_giveBack_5 : decode cX4_giveBack 5 = .ok (.isub, 1) := by decide +kernel
theorem dX4_giveBack_6 : decode cX4_giveBack 6 = .ok (.istore_n 3, 1) := by decide +kernel
theorem dX4_giveBack_7 : decode cX4_giveBack 7 = .ok (.iload_n 3, 1) := by decide +kernel
theorem dX4_giveBack_8 : decode cX4_giveBack 8 = .ok (.ifCond .lt 23, 3) := by decide +kernel
theorem dX4_giveBack_11 : decode cX4_giveBack 11 = .ok (.iload_n 3, 1) := by decide +kernel
theorem dX4_giveBack_12 : decode cX4_giveBack 12 = .ok (.aload_n 0, 1) := by decide +kernel
theorem dX4_giveBack_13 : decode cX4_giveBack 13 = .ok (.getfield 22, 3) := by decide +kernel
theorem dX4_giveBack_16 : decode cX4_giveBack 16 = .ok (.if_icmp .lt 15, 3) := by decide +kernel
theorem dX4_giveBack_19 : decode cX4_giveBack 19 = .ok (.aload_n 1, 1) := by decide +kernel
theorem dX4_giveBack_20 : decode cX4_giveBack 20 = .ok (.iload_n 3, 1) := by decide +kernel
theorem dX4_giveBack_21 : decode cX4_giveBack 21 = .ok (.invokevirtual 55, 3) := by decide +kernel
theorem dX4_giveBack_24 : decode cX4_giveBack 24 = .ok (.pop, 1) := by decide +kernel
theorem dX4_giveBack_25 : decode cX4_giveBack 25 = .ok (.iinc 3 (-1), 3) := by decide +kernel
theorem dX4_giveBack_28 : decode cX4_giveBack 28 = .ok (.goto (-21), 3) := by decide +kernel
theorem dX4_giveBack_31 : decode cX4_giveBack 31 = .ok (.iconst 0, 1) := by decide +kernel
theorem dX4_giveBack_32 : decode cX4_giveBack 32 = .ok (.istore_n 3, 1) := by decide +kernel
theorem dX4_giveBack_33 : decode cX4_giveBack 33 = .ok (.iload_n 3, 1) := by decide +kernel
theorem dX4_giveBack_34 : decode cX4_giveBack 34 = .ok (.aload_n 1, 1) := by decide +kernel
theorem dX4_giveBack_35 : decode cX4_giveBack 35 = .ok (.invokevirtual 30, 3) := by decide +kernel
theorem dX4_giveBack_38 : decode cX4_giveBack 38 = .ok (.if_icmp .ge 32, 3) := by decide +kernel
theorem dX4_giveBack_41 : decode cX4_giveBack 41 = .ok (.iload_n 3, 1) := by decide +kernel
theorem dX4_giveBack_42 : decode cX4_giveBack 42 = .ok (.bipush 10, 2) := by decide +kernel
theorem dX4_giveBack_44 : decode cX4_giveBack 44 = .ok (.if_icmp .ge 26, 3) := by decide +kernel
theorem dX4_giveBack_47 : decode cX4_giveBack 47 = .ok (.aload_n 1, 1) := by decide +kernel
theorem dX4_giveBack_48 : decode cX4_giveBack 48 = .ok (.iload_n 3, 1) := by decide +kernel
theorem dX4_giveBack_49 : decode cX4_giveBack 49 = .ok (.invokevirtual 42, 3) := by decide +kernel
theorem dX4_giveBack_52 : decode cX4_giveBack 52 = .ok (.checkcast 46, 3) := by decide +kernel
theorem dX4_giveBack_55 : decode cX4_giveBack 55 = .ok (.aload_n 0, 1) := by decide +kernel
theorem dX4_giveBack_56 : decode cX4_giveBack 56 = .ok (.getfield 9, 3) := by decide +kernel
theorem dX4_giveBack_59 : decode cX4_giveBack 59 = .ok (.iload_n 3, 1) := by decide +kernel
theorem dX4_giveBack_60 : decode cX4_giveBack 60 = .ok (.iaload, 1) := by decide +kernel
theorem dX4_giveBack_61 : decode cX4_giveBack 61 = .ok (.putfield 48, 3) := by decide +kernel
theorem dX4_giveBack_64 : decode cX4_giveBack 64 = .ok (.iinc 3 1, 3) := by decide +kernel
theorem dX4_giveBack_67 : decode cX4_giveBack 67 = .ok (.goto (-34), 3) := by decide +kernel
theorem dX4_giveBack_70 : decode cX4_giveBack 70 = .ok (.aload_n 2, 1) := by decide +kernel
theorem dX4_giveBack_71 : decode cX4_giveBack 71 = .ok (.aload_n 0, 1) := by decide +kernel
theorem dX4_giveBack_72 : decode cX4_giveBack 72 = .ok (.getfield 18, 3) := by decide +kernel
theorem dX4_giveBack_75 : decode cX4_giveBack 75 = .ok (.invokevirtual 51, 3) := by decide +kernel
theorem dX4_giveBack_78 : decode cX4_giveBack 78 = .ok (.return_, 1) := by decide +kernel
theorem dX5_init_0 : decode cX5_init 0 = .ok (.aload_n 0, 1) := by decide +kernel
theorem dX5_init_1 : decode cX5_init 1 = .ok (.invokespecial 3, 3) := by decide +kernel
theorem dX5_init_4 : decode cX5_init 4 = .ok (.aload_n 0, 1) := by decide +kernel
theorem dX5_init_5 : decode cX5_init 5 = .ok (.bipush 24, 2) := by decide +kernel
theorem dX5_init_7 : decode cX5_init 7 = .ok (.newarray .int, 2) := by decide +kernel
theorem dX5_init_9 : decode cX5_init 9 = .ok (.putfield 11, 3) := by decide +kernel
theorem dX5_init_12 : decode cX5_init 12 = .ok (.aload_n 0, 1) := by decide +kernel
theorem dX5_init_13 : decode cX5_init 13 = .ok (.iconst 0, 1) := by decide +kernel
theorem dX5_init_14 : decode cX5_init 14 = .ok (.putfield 15, 3) := by decide +kernel
theorem dX5_init_17 : decode cX5_init 17 = .ok (.return_, 1) := by decide +kernel
theorem dX5_size_0 : decode cX5_size 0 = .ok (.aload_n 0, 1) := by decide +kernel
theorem dX5_size_1 : decode cX5_size 1 = .ok (.getfield 15, 3) := by decide +kernel
theorem dX5_size_4 : decode cX5_size 4 = .ok (.ireturn, 1) := by decide +kernel
theorem dX5_isFull_0 : decode cX5_isFull 0 = .ok (.aload_n 0, 1) := by decide +kernel
theorem dX5_isFull_1 : decode cX5_isFull 1 = .ok (.getfield 15, 3) := by decide +kernel
theorem dX5_isFull_4 : decode cX5_isFull 4 = .ok (.bipush 6, 2) := by decide +kernel
theorem dX5_isFull_6 : decode cX5_isFull 6 = .ok (.if_icmp .lt 7, 3) := by decide +kernel
theorem dX5_isFull_9 : decode cX5_isFull 9 = .ok (.iconst 1, 1) := by decide +kernel
theorem dX5_isFull_10 : decode cX5_isFull 10 = .ok (.goto 4, 3) := by decide +kernel
theorem dX5_isFull_13 : decode cX5_isFull 13 = .ok (.iconst 0, 1) := by decide +kernel
theorem dX5_isFull_14 : decode cX5_isFull 14 = .ok (.ireturn, 1) := by decide +kernel
theorem dX5_add_0 : decode cX5_add 0 = .ok (.aload_n 0, 1) := by decide +kernel
theorem dX5_add_1 : decode cX5_add 1 = .ok (.invokevirtual 19, 3) := by decide +kernel
theorem dX5_add_4 : decode cX5_add 4 = .ok (.ifCond .eq 8, 3) := by decide +kernel
theorem dX5_add_7 : decode cX5_add 7 = .ok (.aload_n 0, 1) := by decide +kernel
theorem dX5_add_8 : decode cX5_add 8 = .ok (.getfield 15, 3) := by decide +kernel
theorem dX5_add_11 : decode cX5_add 11 = .ok (.ireturn, 1) := by decide +kernel
theorem dX5_add_12 : decode cX5_add 12 = .ok (.aload_n 0, 1) := by decide +kernel
theorem dX5_add_13 : decode cX5_add 13 = .ok (.getfield 15, 3) := by decide +kernel
theorem dX5_add_16 : decode cX5_add 16 = .ok (.iconst 4, 1) := by decide +kernel
theorem dX5_add_17 : decode cX5_add 17 = .ok (.imul, 1) := by decide +kernel
theorem dX5_add_18 : decode cX5_add 18 = .ok (.istore 5, 2) := by decide +kernel
theorem dX5_add_20 : decode cX5_add 20 = .ok (.aload_n 0, 1) := by decide +kernel
theorem dX5_add_21 : decode cX5_add 21 = .ok (.getfield 11, 3) := by decide +kernel
theorem dX5_add_24 : decode cX5_add 24 = .ok (.iload 5, 2) := by decide +kernel
theorem dX5_add_26 : decode cX5_add 26 = .ok (.iconst 0, 1) := by decide +kernel
theorem dX5_add_27 : decode cX5_add 27 = .ok (.iadd, 1) := by decide +kernel
theorem dX5_add_28 : decode cX5_add 28 = .ok (.iload_n 1, 1) := by decide +kernel
theorem dX5_add_29 : decode cX5_add 29 = .ok (.iastore, 1) := by decide +kernel
theorem dX5_add_30 : decode cX5_add 30 = .ok (.aload_n 0, 1) := by decide +kernel
theorem dX5_add_31 : decode cX5_add 31 = .ok (.getfield 11, 3) := by decide +kernel
theorem dX5_add_34 : decode cX5_add 34 = .ok (.iload 5, 2) := by decide +kernel
theorem dX5_add_36 : decode cX5_add 36 = .ok (.iconst 1, 1) := by decide +kernel
theorem dX5_add_37 : decode cX5_add 37 = .ok (.iadd, 1) := by decide +kernel
theorem dX5_add_38 : decode cX5_add 38 = .ok (.iload_n 2, 1) := by decide +kernel
theorem dX5_add_39 : decode cX5_add 39 = .ok (.iastore, 1) := by decide +kernel
theorem dX5_add_40 : decode cX5_add 40 = .ok (.aload_n 0, 1) := by decide +kernel
theorem dX5_add_41 : decode cX5_add 41 = .ok (.getfield 11, 3) := by decide +kernel
theorem dX5_add_44 : decode cX5_add 44 = .ok (.iload 5, 2) := by decide +kernel
theorem dX5_add_46 : decode cX5_add 46 = .ok (.iconst 2, 1) := by decide +kernel
theorem dX5_add_47 : decode cX5_add 47 = .ok (.iadd, 1) := by decide +kernel
theorem dX5_add_48 : decode cX5_add 48 = .ok (.iload_n 3, 1) := by decide +kernel
theorem dX5_add_49 : decode cX5_add 49 = .ok (.iastore, 1) := by decide +kernel
theorem dX5_add_50 : decode cX5_add 50 = .ok (.aload_n 0, 1) := by decide +kernel
theorem dX5_add_51 : decode cX5_add 51 = .ok (.getfield 11, 3) := by decide +kernel
theorem dX5_add_54 : decode cX5_add 54 = .ok (.iload 5, 2) := by decide +kernel
theorem dX5_add_56 : decode cX5_add 56 = .ok (.iconst 3, 1) := by decide +kernel
theorem dX5_add_57 : decode cX5_add 57 = .ok (.iadd, 1) := by decide +kernel
theorem dX5_add_58 : decode cX5_add 58 = .ok (.iload 4, 2) := by decide +kernel
theorem dX5_add_60 : decode cX5_add 60 = .ok (.iastore, 1) := by decide +kernel
theorem dX5_add_61 : decode cX5_add 61 = .ok (.aload_n 0, 1) := by decide +kernel
theorem dX5_add_62 : decode cX5_add 62 = .ok (.dup, 1) := by decide +kernel
theorem dX5_add_63 : decode cX5_add 63 = .ok (.getfield 15, 3) := by decide +kernel
theorem dX5_add_66 : decode cX5_add 66 = .ok (.iconst 1, 1) := by decide +kernel
theorem dX5_add_67 : decode cX5_add 67 = .ok (.iadd, 1) := by decide +kernel
theorem dX5_add_68 : decode cX5_add 68 = .ok (.putfield 15, 3) := by decide +kernel
theorem dX5_add_71 : decode cX5_add 71 = .ok (.aload_n 0, 1) := by decide +kernel
theorem dX5_add_72 : decode cX5_add 72 = .ok (.getfield 15, 3) := by decide +kernel
theorem dX5_add_75 : decode cX5_add 75 = .ok (.ireturn, 1) := by decide +kernel
theorem dX5_part_0 : decode cX5_part 0 = .ok (.iload_n 1, 1) := by decide +kernel
theorem dX5_part_1 : decode cX5_part 1 = .ok (.ifCond .lt 24, 3) := by decide +kernel
theorem dX5_part_4 : decode cX5_part 4 = .ok (.iload_n 1, 1) := by decide +kernel
theorem dX5_part_5 : decode cX5_part 5 = .ok (.aload_n 0, 1) := by decide +kernel
theorem dX5_part_6 : decode cX5_part 6 = .ok (.getfield 15, 3) := by decide +kernel
theorem dX5_part_9 : decode cX5_part 9 = .ok (.if_icmp .ge 16, 3) := by decide +kernel
theorem dX5_part_12 : decode cX5_part 12 = .ok (.iload_n 2, 1) := by decide +kernel
theorem dX5_part_13 : decode cX5_part 13 = .ok (.ifCond .lt 12, 3) := by decide +kernel
theorem dX5_part_16 : decode cX5_part 16 = .ok (.iload_n 2, 1) := by decide +kernel
theorem dX5_part_17 : decode cX5_part 17 = .ok (.iconst 4, 1) := by decide +kernel
theorem dX5_part_18 : decode cX5_part 18 = .ok (.if_icmp .ge 7, 3) := by decide +kernel
theorem dX5_part_21 : decode cX5_part 21 = .ok (.iconst 1, 1) := by decide +kernel
theorem dX5_part_22 : decode cX5_part 22 = .ok (.goto 4, 3) := by decide +kernel
theorem dX5_part_25 : decode cX5_part 25 = .ok (.iconst 0, 1) := by decide +kernel
theorem dX5_part_26 : decode cX5_part 26 = .ok (.istore_n 3, 1) := by decide +kernel
theorem dX5_part_27 : decode cX5_part 27 = .ok (.iload_n 3, 1) := by decide +kernel
theorem dX5_part_28 : decode cX5_part 28 = .ok (.ifCond .eq 16, 3) := by decide +kernel
theorem dX5_part_31 : decode cX5_part 31 = .ok (.aload_n 0, 1) := by decide +kernel
theorem dX5_part_32 : decode cX5_part 32 = .ok (.getfield 11, 3) := by decide +kernel
theorem dX5_part_35 : decode cX5_part 35 = .ok (.iload_n 1, 1) := by decide +kernel
theorem dX5_part_36 : decode cX5_part 36 = .ok (.iconst 4, 1) := by decide +kernel
theorem dX5_part_37 : decode cX5_part 37 = .ok (.imul, 1) := by decide +kernel
theorem dX5_part_38 : decode cX5_part 38 = .ok (.iload_n 2, 1) := by decide +kernel
theorem dX5_part_39 : decode cX5_part 39 = .ok (.iadd, 1) := by decide +kernel
theorem dX5_part_40 : decode cX5_part 40 = .ok (.iaload, 1) := by decide +kernel
theorem dX5_part_41 : decode cX5_part 41 = .ok (.goto 4, 3) := by decide +kernel
theorem dX5_part_44 : decode cX5_part 44 = .ok (.iconst (-1), 1) := by decide +kernel
theorem dX5_part_45 : decode cX5_part 45 = .ok (.ireturn, 1) := by decide +kernel
theorem dX5_empty_0 : decode cX5_empty 0 = .ok (.aload_n 0, 1) := by decide +kernel
theorem dX5_empty_1 : decode cX5_empty 1 = .ok (.getfield 15, 3) := by decide +kernel
theorem dX5_empty_4 : decode cX5_empty 4 = .ok (.istore_n 1, 1) := by decide +kernel
theorem dX5_empty_5 : decode cX5_empty 5 = .ok (.aload_n 0, 1) := by decide +kernel
theorem dX5_empty_6 : decode cX5_empty 6 = .ok (.iconst 0, 1) := by decide +kernel
theorem dX5_empty_7 : decode cX5_empty 7 = .ok (.putfield 15, 3) := by decide +kernel
theorem dX5_empty_10 : decode cX5_empty 10 = .ok (.iload_n 1, 1) := by decide +kernel
theorem dX5_empty_11 : decode cX5_empty 11 = .ok (.ireturn, 1) := by decide +kernel
theorem dX5_becomeLike_0 : decode cX5_becomeLike 0 = .ok (.aload_n 1, 1) := by decide +kernel
theorem dX5_becomeLike_1 : decode cX5_becomeLike 1 = .ok (.getfield 11, 3) := by decide +kernel
theorem dX5_becomeLike_4 : decode cX5_becomeLike 4 = .ok (.iconst 0, 1) := by decide +kernel
theorem dX5_becomeLike_5 : decode cX5_becomeLike 5 = .ok (.aload_n 0, 1) := by decide +kernel
theorem dX5_becomeLike_6 : decode cX5_becomeLike 6 = .ok (.getfield 11, 3) := by decide +kernel
theorem dX5_becomeLike_9 : decode cX5_becomeLike 9 = .ok (.iconst 0, 1) := by decide +kernel
theorem dX5_becomeLike_10 : decode cX5_becomeLike 10 = .ok (.aload_n 0, 1) := by decide +kernel
theorem dX5_becomeLike_11 : decode cX5_becomeLike 11 = .ok (.getfield 11, 3) := by decide +kernel
theorem dX5_becomeLike_14 : decode cX5_becomeLike 14 = .ok (.arraylength, 1) := by decide +kernel
theorem dX5_becomeLike_15 : decode cX5_becomeLike 15 = .ok (.invokestatic 23, 3) := by decide +kernel
theorem dX5_becomeLike_18 : decode cX5_becomeLike 18 = .ok (.aload_n 0, 1) := by decide +kernel
theorem dX5_becomeLike_19 : decode cX5_becomeLike 19 = .ok (.aload_n 1, 1) := by decide +kernel
theorem dX5_becomeLike_20 : decode cX5_becomeLike 20 = .ok (.getfield 15, 3) := by decide +kernel
theorem dX5_becomeLike_23 : decode cX5_becomeLike 23 = .ok (.putfield 15, 3) := by decide +kernel
theorem dX5_becomeLike_26 : decode cX5_becomeLike 26 = .ok (.return_, 1) := by decide +kernel
theorem dX6_init_0 : decode cX6_init 0 = .ok (.aload_n 0, 1) := by decide +kernel
theorem dX6_init_1 : decode cX6_init 1 = .ok (.invokespecial 3, 3) := by decide +kernel
theorem dX6_init_4 : decode cX6_init 4 = .ok (.aload_n 0, 1) := by decide +kernel
theorem dX6_init_5 : decode cX6_init 5 = .ok (.bipush 20, 2) := by decide +kernel
theorem dX6_init_7 : decode cX6_init 7 = .ok (.newarray .int, 2) := by decide +kernel
theorem dX6_init_9 : decode cX6_init 9 = .ok (.putfield 9, 3) := by decide +kernel
theorem dX6_init_12 : decode cX6_init 12 = .ok (.aload_n 0, 1) := by decide +kernel
theorem dX6_init_13 : decode cX6_init 13 = .ok (.iconst 0, 1) := by decide +kernel
theorem dX6_init_14 : decode cX6_init 14 = .ok (.putfield 15, 3) := by decide +kernel
theorem dX6_init_17 : decode cX6_init 17 = .ok (.return_, 1) := by decide +kernel
theorem dX6_size_0 : decode cX6_size 0 = .ok (.aload_n 0, 1) := by decide +kernel
theorem dX6_size_1 : decode cX6_size 1 = .ok (.getfield 15, 3) := by decide +kernel
theorem dX6_size_4 : decode cX6_size 4 = .ok (.ireturn, 1) := by decide +kernel
theorem dX6_hasRoom_0 : decode cX6_hasRoom 0 = .ok (.aload_n 0, 1) := by decide +kernel
theorem dX6_hasRoom_1 : decode cX6_hasRoom 1 = .ok (.getfield 15, 3) := by decide +kernel
theorem dX6_hasRoom_4 : decode cX6_hasRoom 4 = .ok (.iload_n 1, 1) := by decide +kernel
theorem dX6_hasRoom_5 : decode cX6_hasRoom 5 = .ok (.iadd, 1) := by decide +kernel
theorem dX6_hasRoom_6 : decode cX6_hasRoom 6 = .ok (.aload_n 0, 1) := by decide +kernel
theorem dX6_hasRoom_7 : decode cX6_hasRoom 7 = .ok (.getfield 9, 3) := by decide +kernel
theorem dX6_hasRoom_10 : decode cX6_hasRoom 10 = .ok (.arraylength, 1) := by decide +kernel
theorem dX6_hasRoom_11 : decode cX6_hasRoom 11 = .ok (.if_icmp .gt 7, 3) := by decide +kernel
theorem dX6_hasRoom_14 : decode cX6_hasRoom 14 = .ok (.iconst 1, 1) := by decide +kernel
theorem dX6_hasRoom_15 : decode cX6_hasRoom 15 = .ok (.goto 4, 3) := by decide +kernel
theorem dX6_hasRoom_18 : decode cX6_hasRoom 18 = .ok (.iconst 0, 1) := by decide +kernel
theorem dX6_hasRoom_19 : decode cX6_hasRoom 19 = .ok (.ireturn, 1) := by decide +kernel
theorem dX6_append_0 : decode cX6_append 0 = .ok (.aload_n 0, 1) := by decide +kernel
theorem dX6_append_1 : decode cX6_append 1 = .ok (.getfield 15, 3) := by decide +kernel
theorem dX6_append_4 : decode cX6_append 4 = .ok (.aload_n 0, 1) := by decide +kernel
theorem dX6_append_5 : decode cX6_append 5 = .ok (.getfield 9, 3) := by decide +kernel
theorem dX6_append_8 : decode cX6_append 8 = .ok (.arraylength, 1) := by decide +kernel
theorem dX6_append_9 : decode cX6_append 9 = .ok (.if_icmp .ge 20, 3) := by decide +kernel
theorem dX6_append_12 : decode cX6_append 12 = .ok (.aload_n 0, 1) := by decide +kernel
theorem dX6_append_13 : decode cX6_append 13 = .ok (.getfield 9, 3) := by decide +kernel
theorem dX6_append_16 : decode cX6_append 16 = .ok (.aload_n 0, 1) := by decide +kernel
theorem dX6_append_17 : decode cX6_append 17 = .ok (.dup, 1) := by decide +kernel
theorem dX6_append_18 : decode cX6_append 18 = .ok (.getfield 15, 3) := by decide +kernel
theorem dX6_append_21 : decode cX6_append 21 = .ok (.dup_x1, 1) := by decide +kernel
theorem dX6_append_22 : decode cX6_append 22 = .ok (.iconst 1, 1) := by decide +kernel
theorem dX6_append_23 : decode cX6_append 23 = .ok (.iadd, 1) := by decide +kernel
theorem dX6_append_24 : decode cX6_append 24 = .ok (.putfield 15, 3) := by decide +kernel
theorem dX6_append_27 : decode cX6_append 27 = .ok (.iload_n 1, 1) := by decide +kernel
theorem dX6_append_28 : decode cX6_append 28 = .ok (.iastore, 1) := by decide +kernel
theorem dX6_append_29 : decode cX6_append 29 = .ok (.return_, 1) := by decide +kernel
theorem dX6_empty_0 : decode cX6_empty 0 = .ok (.aload_n 0, 1) := by decide +kernel
theorem dX6_empty_1 : decode cX6_empty 1 = .ok (.getfield 15, 3) := by decide +kernel
theorem dX6_empty_4 : decode cX6_empty 4 = .ok (.istore_n 1, 1) := by decide +kernel
theorem dX6_empty_5 : decode cX6_empty 5 = .ok (.aload_n 0, 1) := by decide +kernel
theorem dX6_empty_6 : decode cX6_empty 6 = .ok (.iconst 0, 1) := by decide +kernel
theorem dX6_empty_7 : decode cX6_empty 7 = .ok (.putfield 15, 3) := by decide +kernel
theorem dX6_empty_10 : decode cX6_empty 10 = .ok (.iload_n 1, 1) := by decide +kernel
theorem dX6_empty_11 : decode cX6_empty 11 = .ok (.ireturn, 1) := by decide +kernel
theorem dX6_codeAt_0 : decode cX6_codeAt 0 = .ok (.iload_n 1, 1) := by decide +kernel
theorem dX6_codeAt_1 : decode cX6_codeAt 1 = .ok (.ifCond .lt 20, 3) := by decide +kernel
theorem dX6_codeAt_4 : decode cX6_codeAt 4 = .ok (.iload_n 1, 1) := by decide +kernel
theorem dX6_codeAt_5 : decode cX6_codeAt 5 = .ok (.aload_n 0, 1) := by decide +kernel
theorem dX6_codeAt_6 : decode cX6_codeAt 6 = .ok (.getfield 15, 3) := by decide +kernel
theorem dX6_codeAt_9 : decode cX6_codeAt 9 = .ok (.if_icmp .ge 12, 3) := by decide +kernel
theorem dX6_codeAt_12 : decode cX6_codeAt 12 = .ok (.aload_n 0, 1) := by decide +kernel
theorem dX6_codeAt_13 : decode cX6_codeAt 13 = .ok (.getfield 9, 3) := by decide +kernel
theorem dX6_codeAt_16 : decode cX6_codeAt 16 = .ok (.iload_n 1, 1) := by decide +kernel
theorem dX6_codeAt_17 : decode cX6_codeAt 17 = .ok (.iaload, 1) := by decide +kernel
theorem dX6_codeAt_18 : decode cX6_codeAt 18 = .ok (.goto 4, 3) := by decide +kernel
theorem dX6_codeAt_21 : decode cX6_codeAt 21 = .ok (.iconst 0, 1) := by decide +kernel
theorem dX6_codeAt_22 : decode cX6_codeAt 22 = .ok (.ireturn, 1) := by decide +kernel
theorem dX6_readBy_0 : decode cX6_readBy 0 = .ok (.aload_n 1, 1) := by decide +kernel
theorem dX6_readBy_1 : decode cX6_readBy 1 = .ok (.invokevirtual 19, 3) := by decide +kernel
theorem dX6_readBy_4 : decode cX6_readBy 4 = .ok (.iconst 0, 1) := by decide +kernel
theorem dX6_readBy_5 : decode cX6_readBy 5 = .ok (.istore_n 2, 1) := by decide +kernel
theorem dX6_readBy_6 : decode cX6_readBy 6 = .ok (.iload_n 2, 1) := by decide +kernel
theorem dX6_readBy_7 : decode cX6_readBy 7 = .ok (.aload_n 0, 1) := by decide +kernel
theorem dX6_readBy_8 : decode cX6_readBy 8 = .ok (.getfield 15, 3) := by decide +kernel
theorem dX6_readBy_11 : decode cX6_readBy 11 = .ok (.if_icmp .ge 24, 3) := by decide +kernel
theorem dX6_readBy_14 : decode cX6_readBy 14 = .ok (.aload_n 1, 1) := by decide +kernel
theorem dX6_readBy_15 : decode cX6_readBy 15 = .ok (.aload_n 0, 1) := by decide +kernel
theorem dX6_readBy_16 : decode cX6_readBy 16 = .ok (.getfield 9, 3) := by decide +kernel
theorem dX6_readBy_19 : decode cX6_readBy 19 = .ok (.iload_n 2, 1) := by decide +kernel
theorem dX6_readBy_20 : decode cX6_readBy 20 = .ok (.iaload, 1) := by decide +kernel
theorem dX6_readBy_21 : decode cX6_readBy 21 = .ok (.invokevirtual 24, 3) := by decide +kernel
theorem dX6_readBy_24 : decode cX6_readBy 24 = .ok (.ifCond .ne 5, 3) := by decide +kernel
theorem dX6_readBy_27 : decode cX6_readBy 27 = .ok (.iload_n 2, 1) := by decide +kernel
theorem dX6_readBy_28 : decode cX6_readBy 28 = .ok (.ireturn, 1) := by decide +kernel
theorem dX6_readBy_29 : decode cX6_readBy 29 = .ok (.iinc 2 1, 3) := by decide +kernel
theorem dX6_readBy_32 : decode cX6_readBy 32 = .ok (.goto (-26), 3) := by decide +kernel
theorem dX6_readBy_35 : decode cX6_readBy 35 = .ok (.aload_n 0, 1) := by decide +kernel
theorem dX6_readBy_36 : decode cX6_readBy 36 = .ok (.getfield 15, 3) := by decide +kernel
theorem dX6_readBy_39 : decode cX6_readBy 39 = .ok (.ireturn, 1) := by decide +kernel
theorem dX7_init_0 : decode cX7_init 0 = .ok (.aload_n 0, 1) := by decide +kernel
theorem dX7_init_1 : decode cX7_init 1 = .ok (.invokespecial 3, 3) := by decide +kernel
theorem dX7_init_4 : decode cX7_init 4 = .ok (.aload_n 0, 1) := by decide +kernel
theorem dX7_init_5 : decode cX7_init 5 = .ok (.iconst 3, 1) := by decide +kernel
theorem dX7_init_6 : decode cX7_init 6 = .ok (.newarray .int, 2) := by decide +kernel
theorem dX7_init_8 : decode cX7_init 8 = .ok (.putfield 9, 3) := by decide +kernel
theorem dX7_init_11 : decode cX7_init 11 = .ok (.return_, 1) := by decide +kernel
theorem dX7_begin_0 : decode cX7_begin 0 = .ok (.aload_n 0, 1) := by decide +kernel
theorem dX7_begin_1 : decode cX7_begin 1 = .ok (.iconst 0, 1) := by decide +kernel
theorem dX7_begin_2 : decode cX7_begin 2 = .ok (.putfield 15, 3) := by decide +kernel
theorem dX7_begin_5 : decode cX7_begin 5 = .ok (.aload_n 0, 1) := by decide +kernel
theorem dX7_begin_6 : decode cX7_begin 6 = .ok (.iconst 0, 1) := by decide +kernel
theorem dX7_begin_7 : decode cX7_begin 7 = .ok (.putfield 19, 3) := by decide +kernel
theorem dX7_begin_10 : decode cX7_begin 10 = .ok (.aload_n 0, 1) := by decide +kernel
theorem dX7_begin_11 : decode cX7_begin 11 = .ok (.iconst 0, 1) := by decide +kernel
theorem dX7_begin_12 : decode cX7_begin 12 = .ok (.putfield 22, 3) := by decide +kernel
theorem dX7_begin_15 : decode cX7_begin 15 = .ok (.aload_n 0, 1) := by decide +kernel
theorem dX7_begin_16 : decode cX7_begin 16 = .ok (.bipush 9, 2) := by decide +kernel
theorem dX7_begin_18 : decode cX7_begin 18 = .ok (.putfield 25, 3) := by decide +kernel
theorem dX7_begin_21 : decode cX7_begin 21 = .ok (.return_, 1) := by decide +kernel
theorem dX7_isWhole_0 : decode cX7_isWhole 0 = .ok (.aload_n 0, 1) := by decide +kernel
theorem dX7_isWhole_1 : decode cX7_isWhole 1 = .ok (.getfield 15, 3) := by decide +kernel
theorem dX7_isWhole_4 : decode cX7_isWhole 4 = .ok (.bipush 9, 2) := by decide +kernel
theorem dX7_isWhole_6 : decode cX7_isWhole 6 = .ok (.if_icmp .eq 12, 3) := by decide +kernel
theorem dX7_isWhole_9 : decode cX7_isWhole 9 = .ok (.aload_n 0, 1) := by decide +kernel
theorem dX7_isWhole_10 : decode cX7_isWhole 10 = .ok (.getfield 15, 3) := by decide +kernel
theorem dX7_isWhole_13 : decode cX7_isWhole 13 = .ok (.bipush 11, 2) := by decide +kernel
theorem dX7_isWhole_15 : decode cX7_isWhole 15 = .ok (.if_icmp .ne 7, 3) := by decide +kernel
theorem dX7_isWhole_18 : decode cX7_isWhole 18 = .ok (.iconst 1, 1) := by decide +kernel
theorem dX7_isWhole_19 : decode cX7_isWhole 19 = .ok (.goto 4, 3) := by decide +kernel
theorem dX7_isWhole_22 : decode cX7_isWhole 22 = .ok (.iconst 0, 1) := by decide +kernel
theorem dX7_isWhole_23 : decode cX7_isWhole 23 = .ok (.ireturn, 1) := by decide +kernel
theorem dX7_takes_0 : decode cX7_takes 0 = .ok (.aload_n 0, 1) := by decide +kernel
theorem dX7_takes_1 : decode cX7_takes 1 = .ok (.getfield 15, 3) := by decide +kernel
theorem dX7_takes_4 : decode cX7_takes 4 = .ok (.tableswitch 157 0 10 #[60, 82, 88, 96, 151, 127, 151, 135, 151, 143, 151], 60) := by decide +kernel
theorem dX7_takes_64 : decode cX7_takes 64 = .ok (.aload_n 0, 1) := by decide +kernel
theorem dX7_takes_65 : decode cX7_takes 65 = .ok (.iload_n 1, 1) := by decide +kernel
theorem dX7_takes_66 : decode cX7_takes 66 = .ok (.invokevirtual 28, 3) := by decide +kernel
theorem dX7_takes_69 : decode cX7_takes 69 = .ok (.ifCond .ne 11, 3) := by decide +kernel
theorem dX7_takes_72 : decode cX7_takes 72 = .ok (.aload_n 0, 1) := by decide +kernel
theorem dX7_takes_73 : decode cX7_takes 73 = .ok (.iload_n 1, 1) := by decide +kernel
theorem dX7_takes_74 : decode cX7_takes 74 = .ok (.invokevirtual 32, 3) := by decide +kernel
theorem dX7_takes_77 : decode cX7_takes 77 = .ok (.ifCond .eq 7, 3) := by decide +kernel
theorem dX7_takes_80 : decode cX7_takes 80 = .ok (.iconst 1, 1) := by decide +kernel
theorem dX7_takes_81 : decode cX7_takes 81 = .ok (.goto 4, 3) := by decide +kernel
theorem dX7_takes_84 : decode cX7_takes 84 = .ok (.iconst 0, 1) := by decide +kernel
theorem dX7_takes_85 : decode cX7_takes 85 = .ok (.ireturn, 1) := by decide +kernel
theorem dX7_takes_86 : decode cX7_takes 86 = .ok (.aload_n 0, 1) := by decide +kernel
theorem dX7_takes_87 : decode cX7_takes 87 = .ok (.iload_n 1, 1) := by decide +kernel
theorem dX7_takes_88 : decode cX7_takes 88 = .ok (.invokevirtual 32, 3) := by decide +kernel
theorem dX7_takes_91 : decode cX7_takes 91 = .ok (.ireturn, 1) := by decide +kernel
theorem dX7_takes_92 : decode cX7_takes 92 = .ok (.aload_n 0, 1) := by decide +kernel
theorem dX7_takes_93 : decode cX7_takes 93 = .ok (.iload_n 1, 1) := by decide +kernel
theorem dX7_takes_94 : decode cX7_takes 94 = .ok (.bipush 58, 2) := by decide +kernel
theorem dX7_takes_96 : decode cX7_takes 96 = .ok (.invokevirtual 35, 3) := by decide +kernel
theorem dX7_takes_99 : decode cX7_takes 99 = .ok (.ireturn, 1) := by decide +kernel
theorem dX7_takes_100 : decode cX7_takes 100 = .ok (.aload_n 0, 1) := by decide +kernel
theorem dX7_takes_101 : decode cX7_takes 101 = .ok (.iload_n 1, 1) := by decide +kernel
theorem dX7_takes_102 : decode cX7_takes 102 = .ok (.invokevirtual 39, 3) := by decide +kernel
theorem dX7_takes_105 : decode cX7_takes 105 = .ok (.ifCond .ne 20, 3) := by decide +kernel
theorem dX7_takes_108 : decode cX7_takes 108 = .ok (.aload_n 0, 1) := by decide +kernel
theorem dX7_takes_109 : decode cX7_takes 109 = .ok (.getfield 22, 3) := by decide +kernel
theorem dX7_takes_112 : decode cX7_takes 112 = .ok (.ifCond .le 17, 3) := by decide +kernel
theorem dX7_takes_115 : decode cX7_takes 115 = .ok (.aload_n 0, 1) := by decide +kernel
theorem dX7_takes_116 : decode cX7_takes 116 = .ok (.iload_n 1, 1) := by decide +kernel
theorem dX7_takes_117 : decode cX7_takes 117 = .ok (.bipush 44, 2) := by decide +kernel
theorem dX7_takes_119 : decode cX7_takes 119 = .ok (.invokevirtual 35, 3) := by decide +kernel
theorem dX7_takes_122 : decode cX7_takes 122 = .ok (.ifCond .eq 7, 3) := by decide +kernel
theorem dX7_takes_125 : decode cX7_takes 125 = .ok (.iconst 1, 1) := by decide +kernel
theorem dX7_takes_126 : decode cX7_takes 126 = .ok (.goto 4, 3) := by decide +kernel
theorem dX7_takes_129 : decode cX7_takes 129 = .ok (.iconst 0, 1) := by decide +kernel
theorem dX7_takes_130 : decode cX7_takes 130 = .ok (.ireturn, 1) := by decide +kernel
theorem dX7_takes_131 : decode cX7_takes 131 = .ok (.aload_n 0, 1) := by decide +kernel
theorem dX7_takes_132 : decode cX7_takes 132 = .ok (.iload_n 1, 1) := by decide +kernel
theorem dX7_takes_133 : decode cX7_takes 133 = .ok (.bipush 47, 2) := by decide +kernel
theorem dX7_takes_135 : decode cX7_takes 135 = .ok (.invokevirtual 35, 3) := by decide +kernel
theorem dX7_takes_138 : decode cX7_takes 138 = .ok (.ireturn, 1) := by decide +kernel
theorem dX7_takes_139 : decode cX7_takes 139 = .ok (.aload_n 0, 1) := by decide +kernel
theorem dX7_takes_140 : decode cX7_takes 140 = .ok (.iload_n 1, 1) := by decide +kernel
theorem dX7_takes_141 : decode cX7_takes 141 = .ok (.bipush 43, 2) := by decide +kernel
theorem dX7_takes_143 : decode cX7_takes 143 = .ok (.invokevirtual 35, 3) := by decide +kernel
theorem dX7_takes_146 : decode cX7_takes 146 = .ok (.ireturn, 1) := by decide +kernel
theorem dX7_takes_147 : decode cX7_takes 147 = .ok (.aload_n 0, 1) := by decide +kernel
theorem dX7_takes_148 : decode cX7_takes 148 = .ok (.iload_n 1, 1) := by decide +kernel
theorem dX7_takes_149 : decode cX7_takes 149 = .ok (.bipush 119, 2) := by decide +kernel
theorem dX7_takes_151 : decode cX7_takes 151 = .ok (.invokevirtual 35, 3) := by decide +kernel
theorem dX7_takes_154 : decode cX7_takes 154 = .ok (.ireturn, 1) := by decide +kernel
theorem dX7_takes_155 : decode cX7_takes 155 = .ok (.aload_n 0, 1) := by decide +kernel
theorem dX7_takes_156 : decode cX7_takes 156 = .ok (.iload_n 1, 1) := by decide +kernel
theorem dX7_takes_157 : decode cX7_takes 157 = .ok (.invokevirtual 42, 3) := by decide +kernel
theorem dX7_takes_160 : decode cX7_takes 160 = .ok (.ireturn, 1) := by decide +kernel
theorem dX7_takes_161 : decode cX7_takes 161 = .ok (.iconst 0, 1) := by decide +kernel
theorem dX7_takes_162 : decode cX7_takes 162 = .ok (.ireturn, 1) := by decide +kernel
theorem dX7_takesSign_0 : decode cX7_takesSign 0 = .ok (.iload_n 1, 1) := by decide +kernel
theorem dX7_takesSign_1 : decode cX7_takesSign 1 = .ok (.lookupswitch 59 #[(42, 35), (61, 51), (126, 43)], 35) := by decide +kernel
theorem dX7_takesSign_36 : decode cX7_takesSign 36 = .ok (.aload_n 0, 1) := by decide +kernel
theorem dX7_takesSign_37 : decode cX7_takesSign 37 = .ok (.iconst 1, 1) := by decide +kernel
theorem dX7_takesSign_38 : decode cX7_takesSign 38 = .ok (.putfield 19, 3) := by decide +kernel
theorem dX7_takesSign_41 : decode cX7_takesSign 41 = .ok (.goto 21, 3) := by decide +kernel
theorem dX7_takesSign_44 : decode cX7_takesSign 44 = .ok (.aload_n 0, 1) := by decide +kernel
theorem dX7_takesSign_45 : decode cX7_takesSign 45 = .ok (.iconst 2, 1) := by decide +kernel
theorem dX7_takesSign_46 : decode cX7_takesSign 46 = .ok (.putfield 19, 3) := by decide +kernel
theorem dX7_takesSign_49 : decode cX7_takesSign 49 = .ok (.goto 13, 3) := by decide +kernel
theorem dX7_takesSign_52 : decode cX7_takesSign 52 = .ok (.aload_n 0, 1) := by decide +kernel
theorem dX7_takesSign_53 : decode cX7_takesSign 53 = .ok (.iconst 3, 1) := by decide +kernel
theorem dX7_takesSign_54 : decode cX7_takesSign 54 = .ok (.putfield 19, 3) := by decide +kernel
theorem dX7_takesSign_57 : decode cX7_takesSign 57 = .ok (.goto 5, 3) := by decide +kernel
theorem dX7_takesSign_60 : decode cX7_takesSign 60 = .ok (.iconst 0, 1) := by decide +kernel
theorem dX7_takesSign_61 : decode cX7_takesSign 61 = .ok (.ireturn, 1) := by decide +kernel
theorem dX7_takesSign_62 : decode cX7_takesSign 62 = .ok (.aload_n 0, 1) := by decide +kernel
theorem dX7_takesSign_63 : decode cX7_takesSign 63 = .ok (.iconst 1, 1) := by decide +kernel
theorem dX7_takesSign_64 : decode cX7_takesSign 64 = .ok (.putfield 15, 3) := by decide +kernel
theorem dX7_takesSign_67 : decode cX7_takesSign 67 = .ok (.iconst 1, 1) := by decide +kernel
theorem dX7_takesSign_68 : decode cX7_takesSign 68 = .ok (.ireturn, 1) := by decide +kernel
theorem dX7_takesPivot_0 : decode cX7_takesPivot 0 = .ok (.iload_n 1, 1) := by decide +kernel
theorem dX7_takesPivot_1 : decode cX7_takesPivot 1 = .ok (.bipush 97, 2) := by decide +kernel
theorem dX7_takesPivot_3 : decode cX7_takesPivot 3 = .ok (.isub, 1) := by decide +kernel
theorem dX7_takesPivot_4 : decode cX7_takesPivot 4 = .ok (.invokestatic 45, 3) := by decide +kernel
theorem dX7_takesPivot_7 : decode cX7_takesPivot 7 = .ok (.ifCond .ne 5, 3) := by decide +kernel
theorem dX7_takesPivot_10 : decode cX7_takesPivot 10 = .ok (.iconst 0, 1) := by decide +kernel
theorem dX7_takesPivot_11 : decode cX7_takesPivot 11 = .ok (.ireturn, 1) := by decide +kernel
theorem dX7_takesPivot_12 : decode cX7_takesPivot 12 = .ok (.aload_n 0, 1) := by decide +kernel
theorem dX7_takesPivot_13 : decode cX7_takesPivot 13 = .ok (.iload_n 1, 1) := by decide +kernel
theorem dX7_takesPivot_14 : decode cX7_takesPivot 14 = .ok (.bipush 97, 2) := by decide +kernel
theorem dX7_takesPivot_16 : decode cX7_takesPivot 16 = .ok (.isub, 1) := by decide +kernel
theorem dX7_takesPivot_17 : decode cX7_takesPivot 17 = .ok (.putfield 48, 3) := by decide +kernel
theorem dX7_takesPivot_20 : decode cX7_takesPivot 20 = .ok (.aload_n 0, 1) := by decide +kernel
theorem dX7_takesPivot_21 : decode cX7_takesPivot 21 = .ok (.iconst 2, 1) := by decide +kernel
theorem dX7_takesPivot_22 : decode cX7_takesPivot 22 = .ok (.putfield 15, 3) := by decide +kernel
theorem dX7_takesPivot_25 : decode cX7_takesPivot 25 = .ok (.iconst 1, 1) := by decide +kernel
theorem dX7_takesPivot_26 : decode cX7_takesPivot 26 = .ok (.ireturn, 1) := by decide +kernel
theorem dX7_takesMark_0 : decode cX7_takesMark 0 = .ok (.iload_n 1, 1) := by decide +kernel
theorem dX7_takesMark_1 : decode cX7_takesMark 1 = .ok (.iload_n 2, 1) := by decide +kernel
theorem dX7_takesMark_2 : decode cX7_takesMark 2 = .ok (.if_icmp .eq 5, 3) := by decide +kernel
theorem dX7_takesMark_5 : decode cX7_takesMark 5 = .ok (.iconst 0, 1) := by decide +kernel
theorem dX7_takesMark_6 : decode cX7_takesMark 6 = .ok (.ireturn, 1) := by decide +kernel
theorem dX7_takesMark_7 : decode cX7_takesMark 7 = .ok (.aload_n 0, 1) := by decide +kernel
theorem dX7_takesMark_8 : decode cX7_takesMark 8 = .ok (.dup, 1) := by decide +kernel
theorem dX7_takesMark_9 : decode cX7_takesMark 9 = .ok (.getfield 15, 3) := by decide +kernel
theorem dX7_takesMark_12 : decode cX7_takesMark 12 = .ok (.iconst 1, 1) := by decide +kernel
theorem dX7_takesMark_13 : decode cX7_takesMark 13 = .ok (.iadd, 1) := by decide +kernel
theorem dX7_takesMark_14 : decode cX7_takesMark 14 = .ok (.putfield 15, 3) := by decide +kernel
theorem dX7_takesMark_17 : decode cX7_takesMark 17 = .ok (.iconst 1, 1) := by decide +kernel
theorem dX7_takesMark_18 : decode cX7_takesMark 18 = .ok (.ireturn, 1) := by decide +kernel
theorem dX7_takesEnd_0 : decode cX7_takesEnd 0 = .ok (.iload_n 1, 1) := by decide +kernel
theorem dX7_takesEnd_1 : decode cX7_takesEnd 1 = .ok (.bipush 97, 2) := by decide +kernel
theorem dX7_takesEnd_3 : decode cX7_takesEnd 3 = .ok (.isub, 1) := by decide +kernel
theorem dX7_takesEnd_4 : decode cX7_takesEnd 4 = .ok (.istore_n 2, 1) := by decide +kernel
theorem dX7_takesEnd_5 : decode cX7_takesEnd 5 = .ok (.iload_n 2, 1) := by decide +kernel
theorem dX7_takesEnd_6 : decode cX7_takesEnd 6 = .ok (.invokestatic 45, 3) := by decide +kernel
theorem dX7_takesEnd_9 : decode cX7_takesEnd 9 = .ok (.ifCond .eq 23, 3) := by decide +kernel
theorem dX7_takesEnd_12 : decode cX7_takesEnd 12 = .ok (.iload_n 2, 1) := by decide +kernel
theorem dX7_takesEnd_13 : decode cX7_takesEnd 13 = .ok (.aload_n 0, 1) := by decide +kernel
theorem dX7_takesEnd_14 : decode cX7_takesEnd 14 = .ok (.getfield 48, 3) := by decide +kernel
theorem dX7_takesEnd_17 : decode cX7_takesEnd 17 = .ok (.if_icmp .eq 15, 3) := by decide +kernel
theorem dX7_takesEnd_20 : decode cX7_takesEnd 20 = .ok (.aload_n 0, 1) := by decide +kernel
theorem dX7_takesEnd_21 : decode cX7_takesEnd 21 = .ok (.getfield 22, 3) := by decide +kernel
theorem dX7_takesEnd_24 : decode cX7_takesEnd 24 = .ok (.aload_n 0, 1) := by decide +kernel
theorem dX7_takesEnd_25 : decode cX7_takesEnd 25 = .ok (.getfield 9, 3) := by decide +kernel
theorem dX7_takesEnd_28 : decode cX7_takesEnd 28 = .ok (.arraylength, 1) := by decide +kernel
theorem dX7_takesEnd_29 : decode cX7_takesEnd 29 = .ok (.if_icmp .lt 5, 3) := by decide +kernel
theorem dX7_takesEnd_32 : decode cX7_takesEnd 32 = .ok (.iconst 0, 1) := by decide +kernel
theorem dX7_takesEnd_33 : decode cX7_takesEnd 33 = .ok (.ireturn, 1) := by decide +kernel
theorem dX7_takesEnd_34 : decode cX7_takesEnd 34 = .ok (.iconst 0, 1) := by decide +kernel
theorem dX7_takesEnd_35 : decode cX7_takesEnd 35 = .ok (.istore_n 3, 1) := by decide +kernel
theorem dX7_takesEnd_36 : decode cX7_takesEnd 36 = .ok (.iload_n 3, 1) := by decide +kernel
theorem dX7_takesEnd_37 : decode cX7_takesEnd 37 = .ok (.aload_n 0, 1) := by decide +kernel
theorem dX7_takesEnd_38 : decode cX7_takesEnd 38 = .ok (.getfield 22, 3) := by decide +kernel
theorem dX7_takesEnd_41 : decode cX7_takesEnd 41 = .ok (.if_icmp .ge 21, 3) := by decide +kernel
theorem dX7_takesEnd_44 : decode cX7_takesEnd 44 = .ok (.aload_n 0, 1) := by decide +kernel
theorem dX7_takesEnd_45 : decode cX7_takesEnd 45 = .ok (.getfield 9, 3) := by decide +kernel
theorem dX7_takesEnd_48 : decode cX7_takesEnd 48 = .ok (.iload_n 3, 1) := by decide +kernel
theorem dX7_takesEnd_49 : decode cX7_takesEnd 49 = .ok (.iaload, 1) := by decide +kernel
theorem dX7_takesEnd_50 : decode cX7_takesEnd 50 = .ok (.iload_n 2, 1) := by decide +kernel
theorem dX7_takesEnd_51 : decode cX7_takesEnd 51 = .ok (.if_icmp .ne 5, 3) := by decide +kernel
theorem dX7_takesEnd_54 : decode cX7_takesEnd 54 = .ok (.iconst 0, 1) := by decide +kernel
theorem dX7_takesEnd_55 : decode cX7_takesEnd 55 = .ok (.ireturn, 1) := by decide +kernel
theorem dX7_takesEnd_56 : decode cX7_takesEnd 56 = .ok (.iinc 3 1, 3) := by decide +kernel
theorem dX7_takesEnd_59 : decode cX7_takesEnd 59 = .ok (.goto (-23), 3) := by decide +kernel
theorem dX7_takesEnd_62 : decode cX7_takesEnd 62 = .ok (.aload_n 0, 1) := by decide +kernel
theorem dX7_takesEnd_63 : decode cX7_takesEnd 63 = .ok (.getfield 9, 3) := by decide +kernel
theorem dX7_takesEnd_66 : decode cX7_takesEnd 66 = .ok (.aload_n 0, 1) := by decide +kernel
theorem dX7_takesEnd_67 : decode cX7_takesEnd 67 = .ok (.dup, 1) := by decide +kernel
theorem dX7_takesEnd_68 : decode cX7_takesEnd 68 = .ok (.getfield 22, 3) := by decide +kernel
theorem dX7_takesEnd_71 : decode cX7_takesEnd 71 = .ok (.dup_x1, 1) := by decide +kernel
theorem dX7_takesEnd_72 : decode cX7_takesEnd 72 = .ok (.iconst 1, 1) := by decide +kernel
theorem dX7_takesEnd_73 : decode cX7_takesEnd 73 = .ok (.iadd, 1) := by decide +kernel
theorem dX7_takesEnd_74 : decode cX7_takesEnd 74 = .ok (.putfield 22, 3) := by decide +kernel
theorem dX7_takesEnd_77 : decode cX7_takesEnd 77 = .ok (.iload_n 2, 1) := by decide +kernel
theorem dX7_takesEnd_78 : decode cX7_takesEnd 78 = .ok (.iastore, 1) := by decide +kernel
theorem dX7_takesEnd_79 : decode cX7_takesEnd 79 = .ok (.iconst 1, 1) := by decide +kernel
theorem dX7_takesEnd_80 : decode cX7_takesEnd 80 = .ok (.ireturn, 1) := by decide +kernel
theorem dX7_takesDigit_0 : decode cX7_takesDigit 0 = .ok (.iload_n 1, 1) := by decide +kernel
theorem dX7_takesDigit_1 : decode cX7_takesDigit 1 = .ok (.bipush 48, 2) := by decide +kernel
theorem dX7_takesDigit_3 : decode cX7_takesDigit 3 = .ok (.isub, 1) := by decide +kernel
theorem dX7_takesDigit_4 : decode cX7_takesDigit 4 = .ok (.istore_n 2, 1) := by decide +kernel
theorem dX7_takesDigit_5 : decode cX7_takesDigit 5 = .ok (.aload_n 0, 1) := by decide +kernel
theorem dX7_takesDigit_6 : decode cX7_takesDigit 6 = .ok (.getfield 15, 3) := by decide +kernel
theorem dX7_takesDigit_9 : decode cX7_takesDigit 9 = .ok (.bipush 8, 2) := by decide +kernel
theorem dX7_takesDigit_11 : decode cX7_takesDigit 11 = .ok (.if_icmp .ne 7, 3) := by decide +kernel
theorem dX7_takesDigit_14 : decode cX7_takesDigit 14 = .ok (.iconst 0, 1) := by decide +kernel
theorem dX7_takesDigit_15 : decode cX7_takesDigit 15 = .ok (.goto 4, 3) := by decide +kernel
theorem dX7_takesDigit_18 : decode cX7_takesDigit 18 = .ok (.iconst 1, 1) := by decide +kernel
theorem dX7_takesDigit_19 : decode cX7_takesDigit 19 = .ok (.istore_n 3, 1) := by decide +kernel
theorem dX7_takesDigit_20 : decode cX7_takesDigit 20 = .ok (.iload_n 2, 1) := by decide +kernel
theorem dX7_takesDigit_21 : decode cX7_takesDigit 21 = .ok (.iload_n 3, 1) := by decide +kernel
theorem dX7_takesDigit_22 : decode cX7_takesDigit 22 = .ok (.if_icmp .lt 9, 3) := by decide +kernel
theorem dX7_takesDigit_25 : decode cX7_takesDigit 25 = .ok (.iload_n 2, 1) := by decide +kernel
theorem dX7_takesDigit_26 : decode cX7_takesDigit 26 = .ok (.bipush 9, 2) := by decide +kernel
theorem dX7_takesDigit_28 : decode cX7_takesDigit 28 = .ok (.if_icmp .le 5, 3) := by decide +kernel
theorem dX7_takesDigit_31 : decode cX7_takesDigit 31 = .ok (.iconst 0, 1) := by decide +kernel
theorem dX7_takesDigit_32 : decode cX7_takesDigit 32 = .ok (.ireturn, 1) := by decide +kernel
theorem dX7_takesDigit_33 : decode cX7_takesDigit 33 = .ok (.aload_n 0, 1) := by decide +kernel
theorem dX7_takesDigit_34 : decode cX7_takesDigit 34 = .ok (.getfield 15, 3) := by decide +kernel
theorem dX7_takesDigit_37 : decode cX7_takesDigit 37 = .ok (.tableswitch 59 4 8 #[35, 59, 43, 59, 51], 35) := by decide +kernel
theorem dX7_takesDigit_72 : decode cX7_takesDigit 72 = .ok (.aload_n 0, 1) := by decide +kernel
theorem dX7_takesDigit_73 : decode cX7_takesDigit 73 = .ok (.iload_n 2, 1) := by decide +kernel
theorem dX7_takesDigit_74 : decode cX7_takesDigit 74 = .ok (.putfield 51, 3) := by decide +kernel
theorem dX7_takesDigit_77 : decode cX7_takesDigit 77 = .ok (.goto 24, 3) := by decide +kernel
theorem dX7_takesDigit_80 : decode cX7_takesDigit 80 = .ok (.aload_n 0, 1) := by decide +kernel
theorem dX7_takesDigit_81 : decode cX7_takesDigit 81 = .ok (.iload_n 2, 1) := by decide +kernel
theorem dX7_takesDigit_82 : decode cX7_takesDigit 82 = .ok (.putfield 54, 3) := by decide +kernel
theorem dX7_takesDigit_85 : decode cX7_takesDigit 85 = .ok (.goto 16, 3) := by decide +kernel
theorem dX7_takesDigit_88 : decode cX7_takesDigit 88 = .ok (.aload_n 0, 1) := by decide +kernel
theorem dX7_takesDigit_89 : decode cX7_takesDigit 89 = .ok (.iload_n 2, 1) := by decide +kernel
theorem dX7_takesDigit_90 : decode cX7_takesDigit 90 = .ok (.putfield 57, 3) := by decide +kernel
theorem dX7_takesDigit_93 : decode cX7_takesDigit 93 = .ok (.goto 8, 3) := by decide +kernel
theorem dX7_takesDigit_96 : decode cX7_takesDigit 96 = .ok (.aload_n 0, 1) := by decide +kernel
theorem dX7_takesDigit_97 : decode cX7_takesDigit 97 = .ok (.iload_n 2, 1) := by decide +kernel
theorem dX7_takesDigit_98 : decode cX7_takesDigit 98 = .ok (.putfield 25, 3) := by decide +kernel
theorem dX7_takesDigit_101 : decode cX7_takesDigit 101 = .ok (.aload_n 0, 1) := by decide +kernel
theorem dX7_takesDigit_102 : decode cX7_takesDigit 102 = .ok (.dup, 1) := by decide +kernel
theorem dX7_takesDigit_103 : decode cX7_takesDigit 103 = .ok (.getfield 15, 3) := by decide +kernel
theorem dX7_takesDigit_106 : decode cX7_takesDigit 106 = .ok (.iconst 1, 1) := by decide +kernel
theorem dX7_takesDigit_107 : decode cX7_takesDigit 107 = .ok (.iadd, 1) := by decide +kernel
theorem dX7_takesDigit_108 : decode cX7_takesDigit 108 = .ok (.putfield 15, 3) := by decide +kernel
theorem dX7_takesDigit_111 : decode cX7_takesDigit 111 = .ok (.iconst 1, 1) := by decide +kernel
theorem dX7_takesDigit_112 : decode cX7_takesDigit 112 = .ok (.ireturn, 1) := by decide +kernel
theorem dX7_made_0 : decode cX7_made 0 = .ok (.aload_n 0, 1) := by decide +kernel
theorem dX7_made_1 : decode cX7_made 1 = .ok (.getfield 19, 3) := by decide +kernel
theorem dX7_made_4 : decode cX7_made 4 = .ok (.tableswitch 55 1 3 #[28, 37, 46], 28) := by decide +kernel
theorem dX7_made_32 : decode cX7_made 32 = .ok (.new 60, 3) := by decide +kernel
theorem dX7_made_35 : decode cX7_made 35 = .ok (.dup, 1) := by decide +kernel
theorem dX7_made_36 : decode cX7_made 36 = .ok (.aload_n 0, 1) := by decide +kernel
theorem dX7_made_37 : decode cX7_made 37 = .ok (.invokespecial 62, 3) := by decide +kernel
theorem dX7_made_40 : decode cX7_made 40 = .ok (.areturn, 1) := by decide +kernel
theorem dX7_made_41 : decode cX7_made 41 = .ok (.new 65, 3) := by decide +kernel
theorem dX7_made_44 : decode cX7_made 44 = .ok (.dup, 1) := by decide +kernel
theorem dX7_made_45 : decode cX7_made 45 = .ok (.aload_n 0, 1) := by decide +kernel
theorem dX7_made_46 : decode cX7_made 46 = .ok (.invokespecial 67, 3) := by decide +kernel
theorem dX7_made_49 : decode cX7_made 49 = .ok (.areturn, 1) := by decide +kernel
theorem dX7_made_50 : decode cX7_made 50 = .ok (.new 68, 3) := by decide +kernel
theorem dX7_made_53 : decode cX7_made 53 = .ok (.dup, 1) := by decide +kernel
theorem dX7_made_54 : decode cX7_made 54 = .ok (.aload_n 0, 1) := by decide +kernel
theorem dX7_made_55 : decode cX7_made 55 = .ok (.invokespecial 70, 3) := by decide +kernel
theorem dX7_made_58 : decode cX7_made 58 = .ok (.areturn, 1) := by decide +kernel
theorem dX7_made_59 : decode cX7_made 59 = .ok (.new 71, 3) := by decide +kernel
theorem dX7_made_62 : decode cX7_made 62 = .ok (.dup, 1) := by decide +kernel
theorem dX7_made_63 : decode cX7_made 63 = .ok (.aload_n 0, 1) := by decide +kernel
theorem dX7_made_64 : decode cX7_made 64 = .ok (.invokespecial 73, 3) := by decide +kernel
theorem dX7_made_67 : decode cX7_made 67 = .ok (.areturn, 1) := by decide +kernel
theorem dX8_init_0 : decode cX8_init 0 = .ok (.aload_n 0, 1) := by decide +kernel
theorem dX8_init_1 : decode cX8_init 1 = .ok (.aload_n 1, 1) := by decide +kernel
theorem dX8_init_2 : decode cX8_init 2 = .ok (.invokespecial 1, 3) := by decide +kernel
theorem dX8_init_5 : decode cX8_init 5 = .ok (.return_, 1) := by decide +kernel
theorem dX8_kind_0 : decode cX8_kind 0 = .ok (.iconst 2, 1) := by decide +kernel
theorem dX8_kind_1 : decode cX8_kind 1 = .ok (.ireturn, 1) := by decide +kernel
theorem dX8_placeCount_0 : decode cX8_placeCount 0 = .ok (.aload_n 0, 1) := by decide +kernel
theorem dX8_placeCount_1 : decode cX8_placeCount 1 = .ok (.invokevirtual 7, 3) := by decide +kernel
theorem dX8_placeCount_4 : decode cX8_placeCount 4 = .ok (.iconst 1, 1) := by decide +kernel
theorem dX8_placeCount_5 : decode cX8_placeCount 5 = .ok (.if_icmp .le 14, 3) := by decide +kernel
theorem dX8_placeCount_8 : decode cX8_placeCount 8 = .ok (.iconst 2, 1) := by decide +kernel
theorem dX8_placeCount_9 : decode cX8_placeCount 9 = .ok (.aload_n 0, 1) := by decide +kernel
theorem dX8_placeCount_10 : decode cX8_placeCount 10 = .ok (.invokevirtual 7, 3) := by decide +kernel
theorem dX8_placeCount_13 : decode cX8_placeCount 13 = .ok (.imul, 1) := by decide +kernel
theorem dX8_placeCount_14 : decode cX8_placeCount 14 = .ok (.iconst 2, 1) := by decide +kernel
theorem dX8_placeCount_15 : decode cX8_placeCount 15 = .ok (.isub, 1) := by decide +kernel
theorem dX8_placeCount_16 : decode cX8_placeCount 16 = .ok (.goto 4, 3) := by decide +kernel
theorem dX8_placeCount_19 : decode cX8_placeCount 19 = .ok (.iconst 1, 1) := by decide +kernel
theorem dX8_placeCount_20 : decode cX8_placeCount 20 = .ok (.ireturn, 1) := by decide +kernel
theorem dX8_endOfPlace_0 : decode cX8_endOfPlace 0 = .ok (.iload_n 1, 1) := by decide +kernel
theorem dX8_endOfPlace_1 : decode cX8_endOfPlace 1 = .ok (.aload_n 0, 1) := by decide +kernel
theorem dX8_endOfPlace_2 : decode cX8_endOfPlace 2 = .ok (.invokevirtual 7, 3) := by decide +kernel
theorem dX8_endOfPlace_5 : decode cX8_endOfPlace 5 = .ok (.if_icmp .ge 11, 3) := by decide +kernel
theorem dX8_endOfPlace_8 : decode cX8_endOfPlace 8 = .ok (.aload_n 0, 1) := by decide +kernel
theorem dX8_endOfPlace_9 : decode cX8_endOfPlace 9 = .ok (.iload_n 1, 1) := by decide +kernel
theorem dX8_endOfPlace_10 : decode cX8_endOfPlace 10 = .ok (.invokevirtual 13, 3) := by decide +kernel
theorem dX8_endOfPlace_13 : decode cX8_endOfPlace 13 = .ok (.goto 13, 3) := by decide +kernel
theorem dX8_endOfPlace_16 : decode cX8_endOfPlace 16 = .ok (.aload_n 0, 1) := by decide +kernel
theorem dX8_endOfPlace_17 : decode cX8_endOfPlace 17 = .ok (.aload_n 0, 1) := by decide +kernel
theorem dX8_endOfPlace_18 : decode cX8_endOfPlace 18 = .ok (.invokevirtual 17, 3) := by decide +kernel
theorem dX8_endOfPlace_21 : decode cX8_endOfPlace 21 = .ok (.iload_n 1, 1) := by decide +kernel
theorem dX8_endOfPlace_22 : decode cX8_endOfPlace 22 = .ok (.isub, 1) := by decide +kernel
theorem dX8_endOfPlace_23 : decode cX8_endOfPlace 23 = .ok (.invokevirtual 13, 3) := by decide +kernel
theorem dX8_endOfPlace_26 : decode cX8_endOfPlace 26 = .ok (.ireturn, 1) := by decide +kernel
theorem dX9_init_0 : decode cX9_init 0 = .ok (.aload_n 0, 1) := by decide +kernel
theorem dX9_init_1 : decode cX9_init 1 = .ok (.invokespecial 3, 3) := by decide +kernel
theorem dX9_init_4 : decode cX9_init 4 = .ok (.aload_n 0, 1) := by decide +kernel
theorem dX9_init_5 : decode cX9_init 5 = .ok (.bipush 10, 2) := by decide +kernel
theorem dX9_init_7 : decode cX9_init 7 = .ok (.sipush 1000, 3) := by decide +kernel
theorem dX9_init_10 : decode cX9_init 10 = .ok (.multianewarray 9 2, 4) := by decide +kernel
theorem dX9_init_14 : decode cX9_init 14 = .ok (.putfield 11, 3) := by decide +kernel
theorem dX9_init_17 : decode cX9_init 17 = .ok (.aload_n 0, 1) := by decide +kernel
theorem dX9_init_18 : decode cX9_init 18 = .ok (.bipush 10, 2) := by decide +kernel
theorem dX9_init_20 : decode cX9_init 20 = .ok (.newarray .int, 2) := by decide +kernel
theorem dX9_init_22 : decode cX9_init 22 = .ok (.putfield 16, 3) := by decide +kernel
theorem dX9_init_25 : decode cX9_init 25 = .ok (.aload_n 0, 1) := by decide +kernel
theorem dX9_init_26 : decode cX9_init 26 = .ok (.bipush 10, 2) := by decide +kernel
theorem dX9_init_28 : decode cX9_init 28 = .ok (.newarray .int, 2) := by decide +kernel
theorem dX9_init_30 : decode cX9_init 30 = .ok (.putfield 20, 3) := by decide +kernel
theorem dX9_init_33 : decode cX9_init 33 = .ok (.aload_n 0, 1) := by decide +kernel
theorem dX9_init_34 : decode cX9_init 34 = .ok (.bipush 8, 2) := by decide +kernel
theorem dX9_init_36 : decode cX9_init 36 = .ok (.sipush 460, 3) := by decide +kernel
theorem dX9_init_39 : decode cX9_init 39 = .ok (.multianewarray 9 2, 4) := by decide +kernel
theorem dX9_init_43 : decode cX9_init 43 = .ok (.putfield 23, 3) := by decide +kernel
theorem dX9_init_46 : decode cX9_init 46 = .ok (.aload_n 0, 1) := by decide +kernel
theorem dX9_init_47 : decode cX9_init 47 = .ok (.bipush 8, 2) := by decide +kernel
theorem dX9_init_49 : decode cX9_init 49 = .ok (.newarray .int, 2) := by decide +kernel
theorem dX9_init_51 : decode cX9_init 51 = .ok (.putfield 26, 3) := by decide +kernel
theorem dX9_init_54 : decode cX9_init 54 = .ok (.aload_n 0, 1) := by decide +kernel
theorem dX9_init_55 : decode cX9_init 55 = .ok (.iconst 0, 1) := by decide +kernel
theorem dX9_init_56 : decode cX9_init 56 = .ok (.putfield 29, 3) := by decide +kernel
theorem dX9_init_59 : decode cX9_init 59 = .ok (.aload_n 0, 1) := by decide +kernel
theorem dX9_init_60 : decode cX9_init 60 = .ok (.iconst 0, 1) := by decide +kernel
theorem dX9_init_61 : decode cX9_init 61 = .ok (.putfield 33, 3) := by decide +kernel
theorem dX9_init_64 : decode cX9_init 64 = .ok (.aload_n 0, 1) := by decide +kernel
theorem dX9_init_65 : decode cX9_init 65 = .ok (.iconst 1, 1) := by decide +kernel
theorem dX9_init_66 : decode cX9_init 66 = .ok (.putfield 36, 3) := by decide +kernel
theorem dX9_init_69 : decode cX9_init 69 = .ok (.aload_n 0, 1) := by decide +kernel
theorem dX9_init_70 : decode cX9_init 70 = .ok (.iconst 0, 1) := by decide +kernel
theorem dX9_init_71 : decode cX9_init 71 = .ok (.putfield 39, 3) := by decide +kernel
theorem dX9_init_74 : decode cX9_init 74 = .ok (.return_, 1) := by decide +kernel
theorem dX9_open_0 : decode cX9_open 0 = .ok (.aload_n 0, 1) := by decide +kernel
theorem dX9_open_1 : decode cX9_open 1 = .ok (.iload_n 1, 1) := by decide +kernel
theorem dX9_open_2 : decode cX9_open 2 = .ok (.putfield 29, 3) := by decide +kernel
theorem dX9_open_5 : decode cX9_open 5 = .ok (.aload_n 0, 1) := by decide +kernel
theorem dX9_open_6 : decode cX9_open 6 = .ok (.iconst 0, 1) := by decide +kernel
theorem dX9_open_7 : decode cX9_open 7 = .ok (.iload_n 2, 1) := by decide +kernel
theorem dX9_open_8 : decode cX9_open 8 = .ok (.sipush 999, 3) := by decide +kernel
theorem dX9_open_11 : decode cX9_open 11 = .ok (.invokestatic 42, 3) := by decide +kernel
theorem dX9_open_14 : decode cX9_open 14 = .ok (.invokestatic 48, 3) := by decide +kernel
theorem dX9_open_17 : decode cX9_open 17 = .ok (.putfield 33, 3) := by decide +kernel
theorem dX9_open_20 : decode cX9_open 20 = .ok (.aload_n 0, 1) := by decide +kernel
theorem dX9_open_21 : decode cX9_open 21 = .ok (.iconst 1, 1) := by decide +kernel
theorem dX9_open_22 : decode cX9_open 22 = .ok (.iload_n 3, 1) := by decide +kernel
theorem dX9_open_23 : decode cX9_open 23 = .ok (.invokestatic 48, 3) := by decide +kernel
theorem dX9_open_26 : decode cX9_open 26 = .ok (.putfield 36, 3) := by decide +kernel
theorem dX9_open_29 : decode cX9_open 29 = .ok (.aload_n 0, 1) := by decide +kernel
theorem dX9_open_30 : decode cX9_open 30 = .ok (.iconst 0, 1) := by decide +kernel
theorem dX9_open_31 : decode cX9_open 31 = .ok (.iload 4, 2) := by decide +kernel
theorem dX9_open_33 : decode cX9_open 33 = .ok (.bipush 10, 2) := by decide +kernel
theorem dX9_open_35 : decode cX9_open 35 = .ok (.invokestatic 42, 3) := by decide +kernel
theorem dX9_open_38 : decode cX9_open 38 = .ok (.invokestatic 48, 3) := by decide +kernel
theorem dX9_open_41 : decode cX9_open 41 = .ok (.putfield 39, 3) := by decide +kernel
theorem dX9_open_44 : decode cX9_open 44 = .ok (.return_, 1) := by decide +kernel
theorem dX9_span_0 : decode cX9_span 0 = .ok (.aload_n 0, 1) := by decide +kernel
theorem dX9_span_1 : decode cX9_span 1 = .ok (.getfield 33, 3) := by decide +kernel
theorem dX9_span_4 : decode cX9_span 4 = .ok (.ireturn, 1) := by decide +kernel
theorem dX9_pace_0 : decode cX9_pace 0 = .ok (.aload_n 0, 1) := by decide +kernel
theorem dX9_pace_1 : decode cX9_pace 1 = .ok (.getfield 36, 3) := by decide +kernel
theorem dX9_pace_4 : decode cX9_pace 4 = .ok (.ireturn, 1) := by decide +kernel
theorem dX9_pivot_0 : decode cX9_pivot 0 = .ok (.iload_n 1, 1) := by decide +kernel
theorem dX9_pivot_1 : decode cX9_pivot 1 = .ok (.ifCond .lt 20, 3) := by decide +kernel
theorem dX9_pivot_4 : decode cX9_pivot 4 = .ok (.iload_n 1, 1) := by decide +kernel
theorem dX9_pivot_5 : decode cX9_pivot 5 = .ok (.aload_n 0, 1) := by decide +kernel
theorem dX9_pivot_6 : decode cX9_pivot 6 = .ok (.getfield 39, 3) := by decide +kernel
theorem dX9_pivot_9 : decode cX9_pivot 9 = .ok (.if_icmp .ge 12, 3) := by decide +kernel
theorem dX9_pivot_12 : decode cX9_pivot 12 = .ok (.aload_n 0, 1) := by decide +kernel
theorem dX9_pivot_13 : decode cX9_pivot 13 = .ok (.getfield 16, 3) := by decide +kernel
theorem dX9_pivot_16 : decode cX9_pivot 16 = .ok (.iload_n 1, 1) := by decide +kernel
theorem dX9_pivot_17 : decode cX9_pivot 17 = .ok (.iaload, 1) := by decide +kernel
theorem dX9_pivot_18 : decode cX9_pivot 18 = .ok (.goto 4, 3) := by decide +kernel
theorem dX9_pivot_21 : decode cX9_pivot 21 = .ok (.iconst (-1), 1) := by decide +kernel
theorem dX9_pivot_22 : decode cX9_pivot 22 = .ok (.ireturn, 1) := by decide +kernel
theorem dX9_landing_0 : decode cX9_landing 0 = .ok (.iload_n 1, 1) := by decide +kernel
theorem dX9_landing_1 : decode cX9_landing 1 = .ok (.ifCond .lt 32, 3) := by decide +kernel
theorem dX9_landing_4 : decode cX9_landing 4 = .ok (.iload_n 1, 1) := by decide +kernel
theorem dX9_landing_5 : decode cX9_landing 5 = .ok (.aload_n 0, 1) := by decide +kernel
theorem dX9_landing_6 : decode cX9_landing 6 = .ok (.getfield 39, 3) := by decide +kernel
theorem dX9_landing_9 : decode cX9_landing 9 = .ok (.if_icmp .ge 24, 3) := by decide +kernel
theorem dX9_landing_12 : decode cX9_landing 12 = .ok (.iload_n 2, 1) := by decide +kernel
theorem dX9_landing_13 : decode cX9_landing 13 = .ok (.ifCond .lt 20, 3) := by decide +kernel
theorem dX9_landing_16 : decode cX9_landing 16 = .ok (.iload_n 2, 1) := by decide +kernel
theorem dX9_landing_17 : decode cX9_landing 17 = .ok (.aload_n 0, 1) := by decide +kernel
theorem dX9_landing_18 : decode cX9_landing 18 = .ok (.getfield 36, 3) := by decide +kernel
theorem dX9_landing_21 : decode cX9_landing 21 = .ok (.iadd, 1) := by decide +kernel
theorem dX9_landing_22 : decode cX9_landing 22 = .ok (.aload_n 0, 1) := by decide +kernel
theorem dX9_landing_23 : decode cX9_landing 23 = .ok (.getfield 33, 3) := by decide +kernel
theorem dX9_landing_26 : decode cX9_landing 26 = .ok (.if_icmp .gt 7, 3) := by decide +kernel
theorem dX9_landing_29 : decode cX9_landing 29 = .ok (.iconst 1, 1) := by decide +kernel
theorem dX9_landing_30 : decode cX9_landing 30 = .ok (.goto 4, 3) := by decide +kernel
theorem dX9_landing_33 : decode cX9_landing 33 = .ok (.iconst 0, 1) := by decide +kernel
theorem dX9_landing_34 : decode cX9_landing 34 = .ok (.istore_n 3, 1) := by decide +kernel
theorem dX9_landing_35 : decode cX9_landing 35 = .ok (.iload_n 3, 1) := by decide +kernel
theorem dX9_landing_36 : decode cX9_landing 36 = .ok (.ifCond .eq 14, 3) := by decide +kernel
theorem dX9_landing_39 : decode cX9_landing 39 = .ok (.aload_n 0, 1) := by decide +kernel
theorem dX9_landing_40 : decode cX9_landing 40 = .ok (.getfield 11, 3) := by decide +kernel
theorem dX9_landing_43 : decode cX9_landing 43 = .ok (.iload_n 1, 1) := by decide +kernel
theorem dX9_landing_44 : decode cX9_landing 44 = .ok (.aaload, 1) := by decide +kernel
theorem dX9_landing_45 : decode cX9_landing 45 = .ok (.iload_n 2, 1) := by decide +kernel
theorem dX9_landing_46 : decode cX9_landing 46 = .ok (.iaload, 1) := by decide +kernel
theorem dX9_landing_47 : decode cX9_landing 47 = .ok (.goto 4, 3) := by decide +kernel
theorem dX9_landing_50 : decode cX9_landing 50 = .ok (.iconst (-1), 1) := by decide +kernel
theorem dX9_landing_51 : decode cX9_landing 51 = .ok (.ireturn, 1) := by decide +kernel
theorem dX9_lay_0 : decode cX9_lay 0 = .ok (.iload_n 1, 1) := by decide +kernel
theorem dX9_lay_1 : decode cX9_lay 1 = .ok (.ifCond .lt 11, 3) := by decide +kernel
theorem dX9_lay_4 : decode cX9_lay 4 = .ok (.iload_n 1, 1) := by decide +kernel
theorem dX9_lay_5 : decode cX9_lay 5 = .ok (.aload_n 0, 1) := by decide +kernel
theorem dX9_lay_6 : decode cX9_lay 6 = .ok (.getfield 39, 3) := by decide +kernel
theorem dX9_lay_9 : decode cX9_lay 9 = .ok (.if_icmp .lt 4, 3) := by decide +kernel
theorem dX9_lay_12 : decode cX9_lay 12 = .ok (.return_, 1) := by decide +kernel
theorem dX9_lay_13 : decode cX9_lay 13 = .ok (.aload_n 2, 1) := by decide +kernel
theorem dX9_lay_14 : decode cX9_lay 14 = .ok (.iload 4, 2) := by decide +kernel
theorem dX9_lay_16 : decode cX9_lay 16 = .ok (.invokevirtual 51, 3) := by decide +kernel
theorem dX9_lay_19 : decode cX9_lay 19 = .ok (.istore 5, 2) := by decide +kernel
theorem dX9_lay_21 : decode cX9_lay 21 = .ok (.aload_n 0, 1) := by decide +kernel
theorem dX9_lay_22 : decode cX9_lay 22 = .ok (.getfield 11, 3) := by decide +kernel
theorem dX9_lay_25 : decode cX9_lay 25 = .ok (.iload_n 1, 1) := by decide +kernel
theorem dX9_lay_26 : decode cX9_lay 26 = .ok (.aaload, 1) := by decide +kernel
theorem dX9_lay_27 : decode cX9_lay 27 = .ok (.astore 6, 2) := by decide +kernel
theorem dX9_lay_29 : decode cX9_lay 29 = .ok (.iconst 0, 1) := by decide +kernel
theorem dX9_lay_30 : decode cX9_lay 30 = .ok (.istore 7, 2) := by decide +kernel
theorem dX9_lay_32 : decode cX9_lay 32 = .ok (.iconst 0, 1) := by decide +kernel
theorem dX9_lay_33 : decode cX9_lay 33 = .ok (.istore 8, 2) := by decide +kernel
theorem dX9_lay_35 : decode cX9_lay 35 = .ok (.iload 8, 2) := by decide +kernel
theorem dX9_lay_37 : decode cX9_lay 37 = .ok (.aload_n 0, 1) := by decide +kernel
theorem dX9_lay_38 : decode cX9_lay 38 = .ok (.getfield 33, 3) := by decide +kernel
theorem dX9_lay_41 : decode cX9_lay 41 = .ok (.if_icmp .ge 106, 3) := by decide +kernel
theorem dX9_lay_44 : decode cX9_lay 44 = .ok (.iload 5, 2) := by decide +kernel
theorem dX9_lay_46 : decode cX9_lay 46 = .ok (.ifCond .le 26, 3) := by decide +kernel
theorem dX9_lay_49 : decode cX9_lay 49 = .ok (.iload 8, 2) := by decide +kernel
theorem dX9_lay_51 : decode cX9_lay 51 = .ok (.iload 5, 2) := by decide +kernel
theorem dX9_lay_53 : decode cX9_lay 53 = .ok (.if_icmp .lt 19, 3) := by decide +kernel
theorem dX9_lay_56 : decode cX9_lay 56 = .ok (.aload 6, 2) := by decide +kernel
theorem dX9_lay_58 : decode cX9_lay 58 = .ok (.iload 8, 2) := by decide +kernel
theorem dX9_lay_60 : decode cX9_lay 60 = .ok (.aload 6, 2) := by decide +kernel
theorem dX9_lay_62 : decode cX9_lay 62 = .ok (.iload 8, 2) := by decide +kernel
theorem dX9_lay_64 : decode cX9_lay 64 = .ok (.iload 5, 2) := by decide +kernel
theorem dX9_lay_66 : decode cX9_lay 66 = .ok (.isub, 1) := by decide +kernel
theorem dX9_lay_67 : decode cX9_lay 67 = .ok (.iaload, 1) := by decide +kernel
theorem dX9_lay_68 : decode cX9_lay 68 = .ok (.iastore, 1) := by decide +kernel
theorem dX9_lay_69 : decode cX9_lay 69 = .ok (.goto 72, 3) := by decide +kernel
theorem dX9_lay_72 : decode cX9_lay 72 = .ok (.aload_n 0, 1) := by decide +kernel
theorem dX9_lay_73 : decode cX9_lay 73 = .ok (.getfield 29, 3) := by decide +kernel
theorem dX9_lay_76 : decode cX9_lay 76 = .ok (.iload 8, 2) := by decide +kernel
theorem dX9_lay_78 : decode cX9_lay 78 = .ok (.iadd, 1) := by decide +kernel
theorem dX9_lay_79 : decode cX9_lay 79 = .ok (.iload_n 3, 1) := by decide +kernel
theorem dX9_lay_80 : decode cX9_lay 80 = .ok (.iadd, 1) := by decide +kernel
theorem dX9_lay_81 : decode cX9_lay 81 = .ok (.istore 9, 2) := by decide +kernel
theorem dX9_lay_83 : decode cX9_lay 83 = .ok (.aload_n 2, 1) := by decide +kernel
theorem dX9_lay_84 : decode cX9_lay 84 = .ok (.iload 9, 2) := by decide +kernel
theorem dX9_lay_86 : decode cX9_lay 86 = .ok (.iload 4, 2) := by decide +kernel
theorem dX9_lay_88 : decode cX9_lay 88 = .ok (.invokevirtual 57, 3) := by decide +kernel
theorem dX9_lay_91 : decode cX9_lay 91 = .ok (.aload_n 0, 1) := by decide +kernel
theorem dX9_lay_92 : decode cX9_lay 92 = .ok (.getfield 36, 3) := by decide +kernel
theorem dX9_lay_95 : decode cX9_lay 95 = .ok (.if_icmp .lt 14, 3) := by decide +kernel
theorem dX9_lay_98 : decode cX9_lay 98 = .ok (.aload_n 2, 1) := by decide +kernel
theorem dX9_lay_99 : decode cX9_lay 99 = .ok (.iload 9, 2) := by decide +kernel
theorem dX9_lay_101 : decode cX9_lay 101 = .ok (.iload 4, 2) := by decide +kernel
theorem dX9_lay_103 : decode cX9_lay 103 = .ok (.invokevirtual 61, 3) := by decide +kernel
theorem dX9_lay_106 : decode cX9_lay 106 = .ok (.goto 4, 3) := by decide +kernel
theorem dX9_lay_109 : decode cX9_lay 109 = .ok (.iconst (-1), 1) := by decide +kernel
theorem dX9_lay_110 : decode cX9_lay 110 = .ok (.istore 10, 2) := by decide +kernel
theorem dX9_lay_112 : decode cX9_lay 112 = .ok (.aload 6, 2) := by decide +kernel
theorem dX9_lay_114 : decode cX9_lay 114 = .ok (.iload 8, 2) := by decide +kernel
theorem dX9_lay_116 : decode cX9_lay 116 = .ok (.iload 10, 2) := by decide +kernel
theorem dX9_lay_118 : decode cX9_lay 118 = .ok (.iastore, 1) := by decide +kernel
theorem dX9_lay_119 : decode cX9_lay 119 = .ok (.iload 10, 2) := by decide +kernel
theorem dX9_lay_121 : decode cX9_lay 121 = .ok (.iconst (-1), 1) := by decide +kernel
theorem dX9_lay_122 : decode cX9_lay 122 = .ok (.if_icmp .eq 19, 3) := by decide +kernel
theorem dX9_lay_125 : decode cX9_lay 125 = .ok (.iload 7, 2) := by decide +kernel
theorem dX9_lay_127 : decode cX9_lay 127 = .ok (.iconst 1, 1) := by decide +kernel
theorem dX9_lay_128 : decode cX9_lay 128 = .ok (.iload 10, 2) := by decide +kernel
theorem dX9_lay_130 : decode cX9_lay 130 = .ok (.ishl, 1) := by decide +kernel
theorem dX9_lay_131 : decode cX9_lay 131 = .ok (.iconst 1, 1) := by decide +kernel
theorem dX9_lay_132 : decode cX9_lay 132 = .ok (.aload_n 2, 1) := by decide +kernel
theorem dX9_lay_133 : decode cX9_lay 133 = .ok (.getfield 64, 3) := by decide +kernel
theorem dX9_lay_136 : decode cX9_lay 136 = .ok (.ishl, 1) := by decide +kernel
theorem dX9_lay_137 : decode cX9_lay 137 = .ok (.ior, 1) := by decide +kernel
theorem dX9_lay_138 : decode cX9_lay 138 = .ok (.ior, 1) := by decide +kernel
theorem dX9_lay_139 : decode cX9_lay 139 = .ok (.istore 7, 2) := by decide +kernel
theorem dX9_lay_141 : decode cX9_lay 141 = .ok (.iinc 8 1, 3) := by decide +kernel
theorem dX9_lay_144 : decode cX9_lay 144 = .ok (.goto (-109), 3) := by decide +kernel
theorem dX9_lay_147 : decode cX9_lay 147 = .ok (.aload_n 0, 1) := by decide +kernel
theorem dX9_lay_148 : decode cX9_lay 148 = .ok (.getfield 16, 3) := by decide +kernel
theorem dX9_lay_151 : decode cX9_lay 151 = .ok (.iload_n 1, 1) := by decide +kernel
theorem dX9_lay_152 : decode cX9_lay 152 = .ok (.aload_n 2, 1) := by decide +kernel
theorem dX9_lay_153 : decode cX9_lay 153 = .ok (.getfield 64, 3) := by decide +kernel
theorem dX9_lay_156 : decode cX9_lay 156 = .ok (.iastore, 1) := by decide +kernel
theorem dX9_lay_157 : decode cX9_lay 157 = .ok (.aload_n 0, 1) := by decide +kernel
theorem dX9_lay_158 : decode cX9_lay 158 = .ok (.getfield 20, 3) := by decide +kernel
theorem dX9_lay_161 : decode cX9_lay 161 = .ok (.iload_n 1, 1) := by decide +kernel
theorem dX9_lay_162 : decode cX9_lay 162 = .ok (.iload 7, 2) := by decide +kernel
theorem dX9_lay_164 : decode cX9_lay 164 = .ok (.iastore, 1) := by decide +kernel
theorem dX9_lay_165 : decode cX9_lay 165 = .ok (.return_, 1) := by decide +kernel
theorem dX9_layAlways_0 : decode cX9_layAlways 0 = .ok (.iload_n 1, 1) := by decide +kernel
theorem dX9_layAlways_1 : decode cX9_layAlways 1 = .ok (.ifCond .lt 11, 3) := by decide +kernel
theorem dX9_layAlways_4 : decode cX9_layAlways 4 = .ok (.iload_n 1, 1) := by decide +kernel
theorem dX9_layAlways_5 : decode cX9_layAlways 5 = .ok (.aload_n 0, 1) := by decide +kernel
theorem dX9_layAlways_6 : decode cX9_layAlways 6 = .ok (.getfield 39, 3) := by decide +kernel
theorem dX9_layAlways_9 : decode cX9_layAlways 9 = .ok (.if_icmp .lt 4, 3) := by decide +kernel
theorem dX9_layAlways_12 : decode cX9_layAlways 12 = .ok (.return_, 1) := by decide +kernel
theorem dX9_layAlways_13 : decode cX9_layAlways 13 = .ok (.aload_n 0, 1) := by decide +kernel
theorem dX9_layAlways_14 : decode cX9_layAlways 14 = .ok (.getfield 11, 3) := by decide +kernel
theorem dX9_layAlways_17 : decode cX9_layAlways 17 = .ok (.iload_n 1, 1) := by decide +kernel
theorem dX9_layAlways_18 : decode cX9_layAlways 18 = .ok (.aaload, 1) := by decide +kernel
theorem dX9_layAlways_19 : decode cX9_layAlways 19 = .ok (.iload_n 3, 1) := by decide +kernel
theorem dX9_layAlways_20 : decode cX9_layAlways 20 = .ok (.invokestatic 67, 3) := by decide +kernel
theorem dX9_layAlways_23 : decode cX9_layAlways 23 = .ok (.aload_n 0, 1) := by decide +kernel
theorem dX9_layAlways_24 : decode cX9_layAlways 24 = .ok (.getfield 16, 3) := by decide +kernel
theorem dX9_layAlways_27 : decode cX9_layAlways 27 = .ok (.iload_n 1, 1) := by decide +kernel
theorem dX9_layAlways_28 : decode cX9_layAlways 28 = .ok (.iload_n 2, 1) := by decide +kernel
theorem dX9_layAlways_29 : decode cX9_layAlways 29 = .ok (.iastore, 1) := by decide +kernel
theorem dX9_layAlways_30 : decode cX9_layAlways 30 = .ok (.aload_n 0, 1) := by decide +kernel
theorem dX9_layAlways_31 : decode cX9_layAlways 31 = .ok (.getfield 20, 3) := by decide +kernel
theorem dX9_layAlways_34 : decode cX9_layAlways 34 = .ok (.iload_n 1, 1) := by decide +kernel
theorem dX9_layAlways_35 : decode cX9_layAlways 35 = .ok (.iload_n 3, 1) := by decide +kernel
theorem dX9_layAlways_36 : decode cX9_layAlways 36 = .ok (.iconst (-1), 1) := by decide +kernel
theorem dX9_layAlways_37 : decode cX9_layAlways 37 = .ok (.if_icmp .ne 7, 3) := by decide +kernel
theorem dX9_layAlways_40 : decode cX9_layAlways 40 = .ok (.iconst 0, 1) := by decide +kernel
theorem dX9_layAlways_41 : decode cX9_layAlways 41 = .ok (.goto 10, 3) := by decide +kernel
theorem dX9_layAlways_44 : decode cX9_layAlways 44 = .ok (.iconst 1, 1) := by decide +kernel
theorem dX9_layAlways_45 : decode cX9_layAlways 45 = .ok (.iload_n 3, 1) := by decide +kernel
theorem dX9_layAlways_46 : decode cX9_layAlways 46 = .ok (.ishl, 1) := by decide +kernel
theorem dX9_layAlways_47 : decode cX9_layAlways 47 = .ok (.iconst 1, 1) := by decide +kernel
theorem dX9_layAlways_48 : decode cX9_layAlways 48 = .ok (.iload_n 2, 1) := by decide +kernel
theorem dX9_layAlways_49 : decode cX9_layAlways 49 = .ok (.ishl, 1) := by decide +kernel
theorem dX9_layAlways_50 : decode cX9_layAlways 50 = .ok (.ior, 1) := by decide +kernel
theorem dX9_layAlways_51 : decode cX9_layAlways 51 = .ok (.iastore, 1) := by decide +kernel
theorem dX9_layAlways_52 : decode cX9_layAlways 52 = .ok (.return_, 1) := by decide +kernel
theorem dX9_layNothing_0 : decode cX9_layNothing 0 = .ok (.aload_n 0, 1) := by decide +kernel
theorem dX9_layNothing_1 : decode cX9_layNothing 1 = .ok (.iload_n 1, 1) := by decide +kernel
theorem dX9_layNothing_2 : decode cX9_layNothing 2 = .ok (.iconst 0, 1) := by decide +kernel
theorem dX9_layNothing_3 : decode cX9_layNothing 3 = .ok (.iconst (-1), 1) := by decide +kernel
theorem dX9_layNothing_4 : decode cX9_layNothing 4 = .ok (.invokevirtual 73, 3) := by decide +kernel
theorem dX9_layNothing_7 : decode cX9_layNothing 7 = .ok (.return_, 1) := by decide +kernel
theorem dX9_reach_0 : decode cX9_reach 0 = .ok (.aload 4, 2) := by decide +kernel
theorem dX9_reach_2 : decode cX9_reach 2 = .ok (.ldc 77, 2) := by decide +kernel
theorem dX9_reach_4 : decode cX9_reach 4 = .ok (.invokestatic 67, 3) := by decide +kernel
theorem dX9_reach_7 : decode cX9_reach 7 = .ok (.iload_n 1, 1) := by decide +kernel
theorem dX9_reach_8 : decode cX9_reach 8 = .ok (.ifCond .lt 10, 3) := by decide +kernel
theorem dX9_reach_11 : decode cX9_reach 11 = .ok (.iload_n 1, 1) := by decide +kernel
theorem dX9_reach_12 : decode cX9_reach 12 = .ok (.aload 4, 2) := by decide +kernel
theorem dX9_reach_14 : decode cX9_reach 14 = .ok (.arraylength, 1) := by decide +kernel
theorem dX9_reach_15 : decode cX9_reach 15 = .ok (.if_icmp .lt 4, 3) := by decide +kernel
theorem dX9_reach_18 : decode cX9_reach 18 = .ok (.return_, 1) := by decide +kernel
theorem dX9_reach_19 : decode cX9_reach 19 = .ok (.aload 4, 2) := by decide +kernel
theorem dX9_reach_21 : decode cX9_reach 21 = .ok (.iload_n 1, 1) := by decide +kernel
theorem dX9_reach_22 : decode cX9_reach 22 = .ok (.iload_n 2, 1) := by decide +kernel
theorem dX9_reach_23 : decode cX9_reach 23 = .ok (.iastore, 1) := by decide +kernel
theorem dX9_reach_24 : decode cX9_reach 24 = .ok (.iload_n 3, 1) := by decide +kernel
theorem dX9_reach_25 : decode cX9_reach 25 = .ok (.aload_n 0, 1) := by decide +kernel
theorem dX9_reach_26 : decode cX9_reach 26 = .ok (.iload_n 1, 1) := by decide +kernel
theorem dX9_reach_27 : decode cX9_reach 27 = .ok (.invokevirtual 78, 3) := by decide +kernel
theorem dX9_reach_30 : decode cX9_reach 30 = .ok (.iand, 1) := by decide +kernel
theorem dX9_reach_31 : decode cX9_reach 31 = .ok (.iconst 1, 1) := by decide +kernel
theorem dX9_reach_32 : decode cX9_reach 32 = .ok (.iload_n 1, 1) := by decide +kernel
theorem dX9_reach_33 : decode cX9_reach 33 = .ok (.ishl, 1) := by decide +kernel
theorem dX9_reach_34 : decode cX9_reach 34 = .ok (.iconst (-1), 1) := by decide +kernel
theorem dX9_reach_35 : decode cX9_reach 35 = .ok (.ixor, 1) := by decide +kernel
theorem dX9_reach_36 : decode cX9_reach 36 = .ok (.iand, 1) := by decide +kernel
theorem dX9_reach_37 : decode cX9_reach 37 = .ok (.istore 5, 2) := by decide +kernel
theorem dX9_reach_39 : decode cX9_reach 39 = .ok (.aload_n 0, 1) := by decide +kernel
theorem dX9_reach_40 : decode cX9_reach 40 = .ok (.getfield 33, 3) := by decide +kernel
theorem dX9_reach_43 : decode cX9_reach 43 = .ok (.iload_n 2, 1) := by decide +kernel
theorem dX9_reach_44 : decode cX9_reach 44 = .ok (.sipush 400, 3) := by decide +kernel
theorem dX9_reach_47 : decode cX9_reach 47 = .ok (.iadd, 1) := by decide +kernel
theorem dX9_reach_48 : decode cX9_reach 48 = .ok (.invokestatic 42, 3) := by decide +kernel
theorem dX9_reach_51 : decode cX9_reach 51 = .ok (.aload_n 0, 1) := by decide +kernel
theorem dX9_reach_52 : decode cX9_reach 52 = .ok (.getfield 36, 3) := by decide +kernel
theorem dX9_reach_55 : decode cX9_reach 55 = .ok (.isub, 1) := by decide +kernel
theorem dX9_reach_56 : decode cX9_reach 56 = .ok (.istore 6, 2) := by decide +kernel
theorem dX9_reach_58 : decode cX9_reach 58 = .ok (.iload_n 2, 1) := by decide +kernel
theorem dX9_reach_59 : decode cX9_reach 59 = .ok (.istore 7, 2) := by decide +kernel
theorem dX9_reach_61 : decode cX9_reach 61 = .ok (.iload 7, 2) := by decide +kernel
theorem dX9_reach_63 : decode cX9_reach 63 = .ok (.iload 6, 2) := by decide +kernel
theorem dX9_reach_65 : decode cX9_reach 65 = .ok (.if_icmp .gt 149, 3) := by decide +kernel
theorem dX9_reach_68 : decode cX9_reach 68 = .ok (.iload 5, 2) := by decide +kernel
theorem dX9_reach_70 : decode cX9_reach 70 = .ok (.ifCond .eq 144, 3) := by decide +kernel
theorem dX9_reach_73 : decode cX9_reach 73 = .ok (.iconst 0, 1) := by decide +kernel
theorem dX9_reach_74 : decode cX9_reach 74 = .ok (.istore 8, 2) := by decide +kernel
theorem dX9_reach_76 : decode cX9_reach 76 = .ok (.iload 8, 2) := by decide +kernel
theorem dX9_reach_78 : decode cX9_reach 78 = .ok (.aload_n 0, 1) := by decide +kernel
theorem dX9_reach_79 : decode cX9_reach 79 = .ok (.getfield 39, 3) := by decide +kernel
theorem dX9_reach_82 : decode cX9_reach 82 = .ok (.if_icmp .ge 126, 3) := by decide +kernel
theorem dX9_reach_85 : decode cX9_reach 85 = .ok (.aload_n 0, 1) := by decide +kernel
theorem dX9_reach_86 : decode cX9_reach 86 = .ok (.iload 8, 2) := by decide +kernel
theorem dX9_reach_88 : decode cX9_reach 88 = .ok (.iload 7, 2) := by decide +kernel
theorem dX9_reach_90 : decode cX9_reach 90 = .ok (.invokevirtual 82, 3) := by decide +kernel
theorem dX9_reach_93 : decode cX9_reach 93 = .ok (.istore 9, 2) := by decide +kernel
theorem dX9_reach_95 : decode cX9_reach 95 = .ok (.iload 9, 2) := by decide +kernel
theorem dX9_reach_97 : decode cX9_reach 97 = .ok (.iconst (-1), 1) := by decide +kernel
theorem dX9_reach_98 : decode cX9_reach 98 = .ok (.if_icmp .ne 6, 3) := by decide +kernel
theorem dX9_reach_101 : decode cX9_reach 101 = .ok (.goto 101, 3) := by decide +kernel
theorem dX9_reach_104 : decode cX9_reach 104 = .ok (.aload_n 0, 1) := by decide +kernel
theorem dX9_reach_105 : decode cX9_reach 105 = .ok (.getfield 16, 3) := by decide +kernel
theorem dX9_reach_108 : decode cX9_reach 108 = .ok (.iload 8, 2) := by decide +kernel
theorem dX9_reach_110 : decode cX9_reach 110 = .ok (.iaload, 1) := by decide +kernel
theorem dX9_reach_111 : decode cX9_reach 111 = .ok (.istore 10, 2) := by decide +kernel
theorem dX9_reach_113 : decode cX9_reach 113 = .ok (.aload 4, 2) := by decide +kernel
theorem dX9_reach_115 : decode cX9_reach 115 = .ok (.iload 10, 2) := by decide +kernel
theorem dX9_reach_117 : decode cX9_reach 117 = .ok (.iaload, 1) := by decide +kernel
theorem dX9_reach_118 : decode cX9_reach 118 = .ok (.iload 7, 2) := by decide +kernel
theorem dX9_reach_120 : decode cX9_reach 120 = .ok (.if_icmp .gt 39, 3) := by decide +kernel
theorem dX9_reach_123 : decode cX9_reach 123 = .ok (.aload 4, 2) := by decide +kernel
theorem dX9_reach_125 : decode cX9_reach 125 = .ok (.iload 9, 2) := by decide +kernel
theorem dX9_reach_127 : decode cX9_reach 127 = .ok (.iaload, 1) := by decide +kernel
theorem dX9_reach_128 : decode cX9_reach 128 = .ok (.ldc 77, 2) := by decide +kernel
theorem dX9_reach_130 : decode cX9_reach 130 = .ok (.if_icmp .ne 29, 3) := by decide +kernel
theorem dX9_reach_133 : decode cX9_reach 133 = .ok (.aload 4, 2) := by decide +kernel
theorem dX9_reach_135 : decode cX9_reach 135 = .ok (.iload 9, 2) := by decide +kernel
theorem dX9_reach_137 : decode cX9_reach 137 = .ok (.iload 7, 2) := by decide +kernel
theorem dX9_reach_139 : decode cX9_reach 139 = .ok (.aload_n 0, 1) := by decide +kernel
theorem dX9_reach_140 : decode cX9_reach 140 = .ok (.getfield 36, 3) := by decide +kernel
theorem dX9_reach_143 : decode cX9_reach 143 = .ok (.iadd, 1) := by decide +kernel
theorem dX9_reach_144 : decode cX9_reach 144 = .ok (.iastore, 1) := by decide +kernel
theorem dX9_reach_145 : decode cX9_reach 145 = .ok (.iload 5, 2) := by decide +kernel
theorem dX9_reach_147 : decode cX9_reach 147 = .ok (.iconst 1, 1) := by decide +kernel
theorem dX9_reach_148 : decode cX9_reach 148 = .ok (.iload 9, 2) := by decide +kernel
theorem dX9_reach_150 : decode cX9_reach 150 = .ok (.ishl, 1) := by decide +kernel
theorem dX9_reach_151 : decode cX9_reach 151 = .ok (.iconst (-1), 1) := by decide +kernel
theorem dX9_reach_152 : decode cX9_reach 152 = .ok (.ixor, 1) := by decide +kernel
theorem dX9_reach_153 : decode cX9_reach 153 = .ok (.iand, 1) := by decide +kernel
theorem dX9_reach_154 : decode cX9_reach 154 = .ok (.istore 5, 2) := by decide +kernel
theorem dX9_reach_156 : decode cX9_reach 156 = .ok (.goto 46, 3) := by decide +kernel
theorem dX9_reach_159 : decode cX9_reach 159 = .ok (.aload 4, 2) := by decide +kernel
theorem dX9_reach_161 : decode cX9_reach 161 = .ok (.iload 9, 2) := by decide +kernel
theorem dX9_reach_163 : decode cX9_reach 163 = .ok (.iaload, 1) := by decide +kernel
theorem dX9_reach_164 : decode cX9_reach 164 = .ok (.iload 7, 2) := by decide +kernel
theorem dX9_reach_166 : decode cX9_reach 166 = .ok (.if_icmp .gt 36, 3) := by decide +kernel
theorem dX9_reach_169 : decode cX9_reach 169 = .ok (.aload 4, 2) := by decide +kernel
theorem dX9_reach_171 : decode cX9_reach 171 = .ok (.iload 10, 2) := by decide +kernel
theorem dX9_reach_173 : decode cX9_reach 173 = .ok (.iaload, 1) := by decide +kernel
theorem dX9_reach_174 : decode cX9_reach 174 = .ok (.ldc 77, 2) := by decide +kernel
theorem dX9_reach_176 : decode cX9_reach 176 = .ok (.if_icmp .ne 26, 3) := by decide +kernel
theorem dX9_reach_179 : decode cX9_reach 179 = .ok (.aload 4, 2) := by decide +kernel
theorem dX9_reach_181 : decode cX9_reach 181 = .ok (.iload 10, 2) := by decide +kernel
theorem dX9_reach_183 : decode cX9_reach 183 = .ok (.iload 7, 2) := by decide +kernel
theorem dX9_reach_185 : decode cX9_reach 185 = .ok (.aload_n 0, 1) := by decide +kernel
theorem dX9_reach_186 : decode cX9_reach 186 = .ok (.getfield 36, 3) := by decide +kernel
theorem dX9_reach_189 : decode cX9_reach 189 = .ok (.iadd, 1) := by decide +kernel
theorem dX9_reach_190 : decode cX9_reach 190 = .ok (.iastore, 1) := by decide +kernel
theorem dX9_reach_191 : decode cX9_reach 191 = .ok (.iload 5, 2) := by decide +kernel
theorem dX9_reach_193 : decode cX9_reach 193 = .ok (.iconst 1, 1) := by decide +kernel
theorem dX9_reach_194 : decode cX9_reach 194 = .ok (.iload 10, 2) := by decide +kernel
theorem dX9_reach_196 : decode cX9_reach 196 = .ok (.ishl, 1) := by decide +kernel
theorem dX9_reach_197 : decode cX9_reach 197 = .ok (.iconst (-1), 1) := by decide +kernel
theorem dX9_reach_198 : decode cX9_reach 198 = .ok (.ixor, 1) := by decide +kernel
theorem dX9_reach_199 : decode cX9_reach 199 = .ok (.iand, 1) := by decide +kernel
theorem dX9_reach_200 : decode cX9_reach 200 = .ok (.istore 5, 2) := by decide +kernel
theorem dX9_reach_202 : decode cX9_reach 202 = .ok (.iinc 8 1, 3) := by decide +kernel
theorem dX9_reach_205 : decode cX9_reach 205 = .ok (.goto (-129), 3) := by decide +kernel
theorem dX9_reach_208 : decode cX9_reach 208 = .ok (.iinc 7 1, 3) := by decide +kernel
theorem dX9_reach_211 : decode cX9_reach 211 = .ok (.goto (-150), 3) := by decide +kernel
theorem dX9_reach_214 : decode cX9_reach 214 = .ok (.return_, 1) := by decide +kernel
theorem dX9_everReached_0 : decode cX9_everReached 0 = .ok (.iconst 1, 1) := by decide +kernel
theorem dX9_everReached_1 : decode cX9_everReached 1 = .ok (.iload_n 1, 1) := by decide +kernel
theorem dX9_everReached_2 : decode cX9_everReached 2 = .ok (.ishl, 1) := by decide +kernel
theorem dX9_everReached_3 : decode cX9_everReached 3 = .ok (.istore_n 2, 1) := by decide +kernel
theorem dX9_everReached_4 : decode cX9_everReached 4 = .ok (.iconst 0, 1) := by decide +kernel
theorem dX9_everReached_5 : decode cX9_everReached 5 = .ok (.istore_n 3, 1) := by decide +kernel
theorem dX9_everReached_6 : decode cX9_everReached 6 = .ok (.iload_n 3, 1) := by decide +kernel
theorem dX9_everReached_7 : decode cX9_everReached 7 = .ok (.bipush 8, 2) := by decide +kernel
theorem dX9_everReached_9 : decode cX9_everReached 9 = .ok (.if_icmp .ge 49, 3) := by decide +kernel
theorem dX9_everReached_12 : decode cX9_everReached 12 = .ok (.iconst 0, 1) := by decide +kernel
theorem dX9_everReached_13 : decode cX9_everReached 13 = .ok (.istore 4, 2) := by decide +kernel
theorem dX9_everReached_15 : decode cX9_everReached 15 = .ok (.iload 4, 2) := by decide +kernel
theorem dX9_everReached_17 : decode cX9_everReached 17 = .ok (.aload_n 0, 1) := by decide +kernel
theorem dX9_everReached_18 : decode cX9_everReached 18 = .ok (.getfield 39, 3) := by decide +kernel
theorem dX9_everReached_21 : decode cX9_everReached 21 = .ok (.if_icmp .ge 31, 3) := by decide +kernel
theorem dX9_everReached_24 : decode cX9_everReached 24 = .ok (.aload_n 0, 1) := by decide +kernel
theorem dX9_everReached_25 : decode cX9_everReached 25 = .ok (.getfield 20, 3) := by decide +kernel
theorem dX9_everReached_28 : decode cX9_everReached 28 = .ok (.iload 4, 2) := by decide +kernel
theorem dX9_everReached_30 : decode cX9_everReached 30 = .ok (.iaload, 1) := by decide +kernel
theorem dX9_everReached_31 : decode cX9_everReached 31 = .ok (.iload_n 2, 1) := by decide +kernel
theorem dX9_everReached_32 : decode cX9_everReached 32 = .ok (.iand, 1) := by decide +kernel
theorem dX9_everReached_33 : decode cX9_everReached 33 = .ok (.ifCond .eq 13, 3) := by decide +kernel
theorem dX9_everReached_36 : decode cX9_everReached 36 = .ok (.iload_n 2, 1) := by decide +kernel
theorem dX9_everReached_37 : decode cX9_everReached 37 = .ok (.aload_n 0, 1) := by decide +kernel
theorem dX9_everReached_38 : decode cX9_everReached 38 = .ok (.getfield 20, 3) := by decide +kernel
theorem dX9_everReached_41 : decode cX9_everReached 41 = .ok (.iload 4, 2) := by decide +kernel
theorem dX9_everReached_43 : decode cX9_everReached 43 = .ok (.iaload, 1) := by decide +kernel
theorem dX9_everReached_44 : decode cX9_everReached 44 = .ok (.ior, 1) := by decide +kernel
theorem dX9_everReached_45 : decode cX9_everReached 45 = .ok (.istore_n 2, 1) := by decide +kernel
theorem dX9_everReached_46 : decode cX9_everReached 46 = .ok (.iinc 4 1, 3) := by decide +kernel
theorem dX9_everReached_49 : decode cX9_everReached 49 = .ok (.goto (-34), 3) := by decide +kernel
theorem dX9_everReached_52 : decode cX9_everReached 52 = .ok (.iinc 3 1, 3) := by decide +kernel
theorem dX9_everReached_55 : decode cX9_everReached 55 = .ok (.goto (-49), 3) := by decide +kernel
theorem dX9_everReached_58 : decode cX9_everReached 58 = .ok (.iload_n 2, 1) := by decide +kernel
theorem dX9_everReached_59 : decode cX9_everReached 59 = .ok (.ireturn, 1) := by decide +kernel
theorem dX9_latestStart_0 : decode cX9_latestStart 0 = .ok (.iload_n 1, 1) := by decide +kernel
theorem dX9_latestStart_1 : decode cX9_latestStart 1 = .ok (.invokestatic 85, 3) := by decide +kernel
theorem dX9_latestStart_4 : decode cX9_latestStart 4 = .ok (.ifCond .eq 10, 3) := by decide +kernel
theorem dX9_latestStart_7 : decode cX9_latestStart 7 = .ok (.iload_n 2, 1) := by decide +kernel
theorem dX9_latestStart_8 : decode cX9_latestStart 8 = .ok (.invokestatic 85, 3) := by decide +kernel
theorem dX9_latestStart_11 : decode cX9_latestStart 11 = .ok (.ifCond .ne 5, 3) := by decide +kernel
theorem dX9_latestStart_14 : decode cX9_latestStart 14 = .ok (.iconst (-1), 1) := by decide +kernel
theorem dX9_latestStart_15 : decode cX9_latestStart 15 = .ok (.ireturn, 1) := by decide +kernel
theorem dX9_latestStart_16 : decode cX9_latestStart 16 = .ok (.aload_n 0, 1) := by decide +kernel
theorem dX9_latestStart_17 : decode cX9_latestStart 17 = .ok (.getfield 26, 3) := by decide +kernel
theorem dX9_latestStart_20 : decode cX9_latestStart 20 = .ok (.iconst (-1), 1) := by decide +kernel
theorem dX9_latestStart_21 : decode cX9_latestStart 21 = .ok (.invokestatic 67, 3) := by decide +kernel
theorem dX9_latestStart_24 : decode cX9_latestStart 24 = .ok (.aload_n 0, 1) := by decide +kernel
theorem dX9_latestStart_25 : decode cX9_latestStart 25 = .ok (.getfield 26, 3) := by decide +kernel
theorem dX9_latestStart_28 : decode cX9_latestStart 28 = .ok (.iload_n 2, 1) := by decide +kernel
theorem dX9_latestStart_29 : decode cX9_latestStart 29 = .ok (.aload_n 0, 1) := by decide +kernel
theorem dX9_latestStart_30 : decode cX9_latestStart 30 = .ok (.getfield 33, 3) := by decide +kernel
theorem dX9_latestStart_33 : decode cX9_latestStart 33 = .ok (.iastore, 1) := by decide +kernel
theorem dX9_latestStart_34 : decode cX9_latestStart 34 = .ok (.aload_n 0, 1) := by decide +kernel
theorem dX9_latestStart_35 : decode cX9_latestStart 35 = .ok (.getfield 33, 3) := by decide +kernel
theorem dX9_latestStart_38 : decode cX9_latestStart 38 = .ok (.aload_n 0, 1) := by decide +kernel
theorem dX9_latestStart_39 : decode cX9_latestStart 39 = .ok (.getfield 36, 3) := by decide +kernel
theorem dX9_latestStart_42 : decode cX9_latestStart 42 = .ok (.isub, 1) := by decide +kernel
theorem dX9_latestStart_43 : decode cX9_latestStart 43 = .ok (.istore_n 3, 1) := by decide +kernel
theorem dX9_latestStart_44 : decode cX9_latestStart 44 = .ok (.iload_n 3, 1) := by decide +kernel
theorem dX9_latestStart_45 : decode cX9_latestStart 45 = .ok (.ifCond .lt 137, 3) := by decide +kernel
theorem dX9_latestStart_48 : decode cX9_latestStart 48 = .ok (.aload_n 0, 1) := by decide +kernel
theorem dX9_latestStart_49 : decode cX9_latestStart 49 = .ok (.getfield 26, 3) := by decide +kernel
theorem dX9_latestStart_52 : decode cX9_latestStart 52 = .ok (.iload_n 1, 1) := by decide +kernel
theorem dX9_latestStart_53 : decode cX9_latestStart 53 = .ok (.iaload, 1) := by decide +kernel
theorem dX9_latestStart_54 : decode cX9_latestStart 54 = .ok (.iconst (-1), 1) := by decide +kernel
theorem dX9_latestStart_55 : decode cX9_latestStart 55 = .ok (.if_icmp .ne 127, 3) := by decide +kernel
theorem dX9_latestStart_58 : decode cX9_latestStart 58 = .ok (.iconst 0, 1) := by decide +kernel
theorem dX9_latestStart_59 : decode cX9_latestStart 59 = .ok (.istore 4, 2) := by decide +kernel
theorem dX9_latestStart_61 : decode cX9_latestStart 61 = .ok (.iload 4, 2) := by decide +kernel
theorem dX9_latestStart_63 : decode cX9_latestStart 63 = .ok (.aload_n 0, 1) := by decide +kernel
theorem dX9_latestStart_64 : decode cX9_latestStart 64 = .ok (.getfield 39, 3) := by decide +kernel
theorem dX9_latestStart_67 : decode cX9_latestStart 67 = .ok (.if_icmp .ge 109, 3) := by decide +kernel
theorem dX9_latestStart_70 : decode cX9_latestStart 70 = .ok (.aload_n 0, 1) := by decide +kernel
theorem dX9_latestStart_71 : decode cX9_latestStart 71 = .ok (.iload 4, 2) := by decide +kernel
theorem dX9_latestStart_73 : decode cX9_latestStart 73 = .ok (.iload_n 3, 1) := by decide +kernel
theorem dX9_latestStart_74 : decode cX9_latestStart 74 = .ok (.invokevirtual 82, 3) := by decide +kernel
theorem dX9_latestStart_77 : decode cX9_latestStart 77 = .ok (.istore 5, 2) := by decide +kernel
theorem dX9_latestStart_79 : decode cX9_latestStart 79 = .ok (.iload 5, 2) := by decide +kernel
theorem dX9_latestStart_81 : decode cX9_latestStart 81 = .ok (.iconst (-1), 1) := by decide +kernel
theorem dX9_latestStart_82 : decode cX9_latestStart 82 = .ok (.if_icmp .ne 6, 3) := by decide +kernel
theorem dX9_latestStart_85 : decode cX9_latestStart 85 = .ok (.goto 85, 3) := by decide +kernel
theorem dX9_latestStart_88 : decode cX9_latestStart 88 = .ok (.aload_n 0, 1) := by decide +kernel
theorem dX9_latestStart_89 : decode cX9_latestStart 89 = .ok (.getfield 16, 3) := by decide +kernel
theorem dX9_latestStart_92 : decode cX9_latestStart 92 = .ok (.iload 4, 2) := by decide +kernel
theorem dX9_latestStart_94 : decode cX9_latestStart 94 = .ok (.iaload, 1) := by decide +kernel
theorem dX9_latestStart_95 : decode cX9_latestStart 95 = .ok (.istore 6, 2) := by decide +kernel
theorem dX9_latestStart_97 : decode cX9_latestStart 97 = .ok (.aload_n 0, 1) := by decide +kernel
theorem dX9_latestStart_98 : decode cX9_latestStart 98 = .ok (.getfield 26, 3) := by decide +kernel
theorem dX9_latestStart_101 : decode cX9_latestStart 101 = .ok (.iload 6, 2) := by decide +kernel
theorem dX9_latestStart_103 : decode cX9_latestStart 103 = .ok (.iaload, 1) := by decide +kernel
theorem dX9_latestStart_104 : decode cX9_latestStart 104 = .ok (.iload_n 3, 1) := by decide +kernel
theorem dX9_latestStart_105 : decode cX9_latestStart 105 = .ok (.aload_n 0, 1) := by decide +kernel
theorem dX9_latestStart_106 : decode cX9_latestStart 106 = .ok (.getfield 36, 3) := by decide +kernel
theorem dX9_latestStart_109 : decode cX9_latestStart 109 = .ok (.iadd, 1) := by decide +kernel
theorem dX9_latestStart_110 : decode cX9_latestStart 110 = .ok (.if_icmp .lt 25, 3) := by decide +kernel
theorem dX9_latestStart_113 : decode cX9_latestStart 113 = .ok (.aload_n 0, 1) := by decide +kernel
theorem dX9_latestStart_114 : decode cX9_latestStart 114 = .ok (.getfield 26, 3) := by decide +kernel
theorem dX9_latestStart_117 : decode cX9_latestStart 117 = .ok (.iload 5, 2) := by decide +kernel
theorem dX9_latestStart_119 : decode cX9_latestStart 119 = .ok (.iaload, 1) := by decide +kernel
theorem dX9_latestStart_120 : decode cX9_latestStart 120 = .ok (.iconst (-1), 1) := by decide +kernel
theorem dX9_latestStart_121 : decode cX9_latestStart 121 = .ok (.if_icmp .ne 14, 3) := by decide +kernel
theorem dX9_latestStart_124 : decode cX9_latestStart 124 = .ok (.aload_n 0, 1) := by decide +kernel
theorem dX9_latestStart_125 : decode cX9_latestStart 125 = .ok (.getfield 26, 3) := by decide +kernel
theorem dX9_latestStart_128 : decode cX9_latestStart 128 = .ok (.iload 5, 2) := by decide +kernel
theorem dX9_latestStart_130 : decode cX9_latestStart 130 = .ok (.iload_n 3, 1) := by decide +kernel
theorem dX9_latestStart_131 : decode cX9_latestStart 131 = .ok (.iastore, 1) := by decide +kernel
theorem dX9_latestStart_132 : decode cX9_latestStart 132 = .ok (.goto 38, 3) := by decide +kernel
theorem dX9_latestStart_135 : decode cX9_latestStart 135 = .ok (.aload_n 0, 1) := by decide +kernel
theorem dX9_latestStart_136 : decode cX9_latestStart 136 = .ok (.getfield 26, 3) := by decide +kernel
theorem dX9_latestStart_139 : decode cX9_latestStart 139 = .ok (.iload 5, 2) := by decide +kernel
theorem dX9_latestStart_141 : decode cX9_latestStart 141 = .ok (.iaload, 1) := by decide +kernel
theorem dX9_latestStart_142 : decode cX9_latestStart 142 = .ok (.iload_n 3, 1) := by decide +kernel
theorem dX9_latestStart_143 : decode cX9_latestStart 143 = .ok (.aload_n 0, 1) := by decide +kernel
theorem dX9_latestStart_144 : decode cX9_latestStart 144 = .ok (.getfield 36, 3) := by decide +kernel
theorem dX9_latestStart_147 : decode cX9_latestStart 147 = .ok (.iadd, 1) := by decide +kernel
theorem dX9_latestStart_148 : decode cX9_latestStart 148 = .ok (.if_icmp .lt 22, 3) := by decide +kernel
theorem dX9_latestStart_151 : decode cX9_latestStart 151 = .ok (.aload_n 0, 1) := by decide +kernel
theorem dX9_latestStart_152 : decode cX9_latestStart 152 = .ok (.getfield 26, 3) := by decide +kernel
theorem dX9_latestStart_155 : decode cX9_latestStart 155 = .ok (.iload 6, 2) := by decide +kernel
theorem dX9_latestStart_157 : decode cX9_latestStart 157 = .ok (.iaload, 1) := by decide +kernel
theorem dX9_latestStart_158 : decode cX9_latestStart 158 = .ok (.iconst (-1), 1) := by decide +kernel
theorem dX9_latestStart_159 : decode cX9_latestStart 159 = .ok (.if_icmp .ne 11, 3) := by decide +kernel
theorem dX9_latestStart_162 : decode cX9_latestStart 162 = .ok (.aload_n 0, 1) := by decide +kernel
theorem dX9_latestStart_163 : decode cX9_latestStart 163 = .ok (.getfield 26, 3) := by decide +kernel
theorem dX9_latestStart_166 : decode cX9_latestStart 166 = .ok (.iload 6, 2) := by decide +kernel
theorem dX9_latestStart_168 : decode cX9_latestStart 168 = .ok (.iload_n 3, 1) := by decide +kernel
theorem dX9_latestStart_169 : decode cX9_latestStart 169 = .ok (.iastore, 1) := by decide +kernel
theorem dX9_latestStart_170 : decode cX9_latestStart 170 = .ok (.iinc 4 1, 3) := by decide +kernel
theorem dX9_latestStart_173 : decode cX9_latestStart 173 = .ok (.goto (-112), 3) := by decide +kernel
theorem dX9_latestStart_176 : decode cX9_latestStart 176 = .ok (.iinc 3 (-1), 3) := by decide +kernel
theorem dX9_latestStart_179 : decode cX9_latestStart 179 = .ok (.goto (-135), 3) := by decide +kernel
theorem dX9_latestStart_182 : decode cX9_latestStart 182 = .ok (.aload_n 0, 1) := by decide +kernel
theorem dX9_latestStart_183 : decode cX9_latestStart 183 = .ok (.getfield 26, 3) := by decide +kernel
theorem dX9_latestStart_186 : decode cX9_latestStart 186 = .ok (.iload_n 1, 1) := by decide +kernel
theorem dX9_latestStart_187 : decode cX9_latestStart 187 = .ok (.iaload, 1) := by decide +kernel
theorem dX9_latestStart_188 : decode cX9_latestStart 188 = .ok (.ireturn, 1) := by decide +kernel
theorem dX9_foresee_0 : decode cX9_foresee 0 = .ok (.iload_n 1, 1) := by decide +kernel
theorem dX9_foresee_1 : decode cX9_foresee 1 = .ok (.invokestatic 85, 3) := by decide +kernel
theorem dX9_foresee_4 : decode cX9_foresee 4 = .ok (.ifCond .ne 4, 3) := by decide +kernel
theorem dX9_foresee_7 : decode cX9_foresee 7 = .ok (.return_, 1) := by decide +kernel
theorem dX9_foresee_8 : decode cX9_foresee 8 = .ok (.aload_n 0, 1) := by decide +kernel
theorem dX9_foresee_9 : decode cX9_foresee 9 = .ok (.getfield 33, 3) := by decide +kernel
theorem dX9_foresee_12 : decode cX9_foresee 12 = .ok (.sipush 459, 3) := by decide +kernel
theorem dX9_foresee_15 : decode cX9_foresee 15 = .ok (.invokestatic 42, 3) := by decide +kernel
theorem dX9_foresee_18 : decode cX9_foresee 18 = .ok (.istore_n 2, 1) := by decide +kernel
theorem dX9_foresee_19 : decode cX9_foresee 19 = .ok (.iload_n 2, 1) := by decide +kernel
theorem dX9_foresee_20 : decode cX9_foresee 20 = .ok (.istore_n 3, 1) := by decide +kernel
theorem dX9_foresee_21 : decode cX9_foresee 21 = .ok (.iload_n 3, 1) := by decide +kernel
theorem dX9_foresee_22 : decode cX9_foresee 22 = .ok (.ifCond .lt 176, 3) := by decide +kernel
theorem dX9_foresee_25 : decode cX9_foresee 25 = .ok (.iconst 0, 1) := by decide +kernel
theorem dX9_foresee_26 : decode cX9_foresee 26 = .ok (.istore 4, 2) := by decide +kernel
theorem dX9_foresee_28 : decode cX9_foresee 28 = .ok (.iload 4, 2) := by decide +kernel
theorem dX9_foresee_30 : decode cX9_foresee 30 = .ok (.bipush 8, 2) := by decide +kernel
theorem dX9_foresee_32 : decode cX9_foresee 32 = .ok (.if_icmp .ge 39, 3) := by decide +kernel
theorem dX9_foresee_35 : decode cX9_foresee 35 = .ok (.aload_n 0, 1) := by decide +kernel
theorem dX9_foresee_36 : decode cX9_foresee 36 = .ok (.getfield 23, 3) := by decide +kernel
theorem dX9_foresee_39 : decode cX9_foresee 39 = .ok (.iload 4, 2) := by decide +kernel
theorem dX9_foresee_41 : decode cX9_foresee 41 = .ok (.aaload, 1) := by decide +kernel
theorem dX9_foresee_42 : decode cX9_foresee 42 = .ok (.iload_n 3, 1) := by decide +kernel
theorem dX9_foresee_43 : decode cX9_foresee 43 = .ok (.iload_n 3, 1) := by decide +kernel
theorem dX9_foresee_44 : decode cX9_foresee 44 = .ok (.iload_n 2, 1) := by decide +kernel
theorem dX9_foresee_45 : decode cX9_foresee 45 = .ok (.if_icmp .ne 8, 3) := by decide +kernel
theorem dX9_foresee_48 : decode cX9_foresee 48 = .ok (.ldc 77, 2) := by decide +kernel
theorem dX9_foresee_50 : decode cX9_foresee 50 = .ok (.goto 14, 3) := by decide +kernel
theorem dX9_foresee_53 : decode cX9_foresee 53 = .ok (.aload_n 0, 1) := by decide +kernel
theorem dX9_foresee_54 : decode cX9_foresee 54 = .ok (.getfield 23, 3) := by decide +kernel
theorem dX9_foresee_57 : decode cX9_foresee 57 = .ok (.iload 4, 2) := by decide +kernel
theorem dX9_foresee_59 : decode cX9_foresee 59 = .ok (.aaload, 1) := by decide +kernel
theorem dX9_foresee_60 : decode cX9_foresee 60 = .ok (.iload_n 3, 1) := by decide +kernel
theorem dX9_foresee_61 : decode cX9_foresee 61 = .ok (.iconst 1, 1) := by decide +kernel
theorem dX9_foresee_62 : decode cX9_foresee 62 = .ok (.iadd, 1) := by decide +kernel
theorem dX9_foresee_63 : decode cX9_foresee 63 = .ok (.iaload, 1) := by decide +kernel
theorem dX9_foresee_64 : decode cX9_foresee 64 = .ok (.iastore, 1) := by decide +kernel
theorem dX9_foresee_65 : decode cX9_foresee 65 = .ok (.iinc 4 1, 3) := by decide +kernel
theorem dX9_foresee_68 : decode cX9_foresee 68 = .ok (.goto (-40), 3) := by decide +kernel
theorem dX9_foresee_71 : decode cX9_foresee 71 = .ok (.aload_n 0, 1) := by decide +kernel
theorem dX9_foresee_72 : decode cX9_foresee 72 = .ok (.getfield 23, 3) := by decide +kernel
theorem dX9_foresee_75 : decode cX9_foresee 75 = .ok (.iload_n 1, 1) := by decide +kernel
theorem dX9_foresee_76 : decode cX9_foresee 76 = .ok (.aaload, 1) := by decide +kernel
theorem dX9_foresee_77 : decode cX9_foresee 77 = .ok (.iload_n 3, 1) := by decide +kernel
theorem dX9_foresee_78 : decode cX9_foresee 78 = .ok (.iload_n 3, 1) := by decide +kernel
theorem dX9_foresee_79 : decode cX9_foresee 79 = .ok (.iastore, 1) := by decide +kernel
theorem dX9_foresee_80 : decode cX9_foresee 80 = .ok (.iload_n 3, 1) := by decide +kernel
theorem dX9_foresee_81 : decode cX9_foresee 81 = .ok (.aload_n 0, 1) := by decide +kernel
theorem dX9_foresee_82 : decode cX9_foresee 82 = .ok (.getfield 36, 3) := by decide +kernel
theorem dX9_foresee_85 : decode cX9_foresee 85 = .ok (.iadd, 1) := by decide +kernel
theorem dX9_foresee_86 : decode cX9_foresee 86 = .ok (.iload_n 2, 1) := by decide +kernel
theorem dX9_foresee_87 : decode cX9_foresee 87 = .ok (.if_icmp .le 6, 3) := by decide +kernel
theorem dX9_foresee_90 : decode cX9_foresee 90 = .ok (.goto 102, 3) := by decide +kernel
theorem dX9_foresee_93 : decode cX9_foresee 93 = .ok (.iconst 0, 1) := by decide +kernel
theorem dX9_foresee_94 : decode cX9_foresee 94 = .ok (.istore 4, 2) := by decide +kernel
theorem dX9_foresee_96 : decode cX9_foresee 96 = .ok (.iload 4, 2) := by decide +kernel
theorem dX9_foresee_98 : decode cX9_foresee 98 = .ok (.aload_n 0, 1) := by decide +kernel
theorem dX9_foresee_99 : decode cX9_foresee 99 = .ok (.getfield 39, 3) := by decide +kernel
theorem dX9_foresee_102 : decode cX9_foresee 102 = .ok (.if_icmp .ge 90, 3) := by decide +kernel
theorem dX9_foresee_105 : decode cX9_foresee 105 = .ok (.aload_n 0, 1) := by decide +kernel
theorem dX9_foresee_106 : decode cX9_foresee 106 = .ok (.iload 4, 2) := by decide +kernel
theorem dX9_foresee_108 : decode cX9_foresee 108 = .ok (.iload_n 3, 1) := by decide +kernel
theorem dX9_foresee_109 : decode cX9_foresee 109 = .ok (.invokevirtual 82, 3) := by decide +kernel
theorem dX9_foresee_112 : decode cX9_foresee 112 = .ok (.istore 5, 2) := by decide +kernel
theorem dX9_foresee_114 : decode cX9_foresee 114 = .ok (.iload 5, 2) := by decide +kernel
theorem dX9_foresee_116 : decode cX9_foresee 116 = .ok (.iconst (-1), 1) := by decide +kernel
theorem dX9_foresee_117 : decode cX9_foresee 117 = .ok (.if_icmp .ne 6, 3) := by decide +kernel
theorem dX9_foresee_120 : decode cX9_foresee 120 = .ok (.goto 66, 3) := by decide +kernel
theorem dX9_foresee_123 : decode cX9_foresee 123 = .ok (.aload_n 0, 1) := by decide +kernel
theorem dX9_foresee_124 : decode cX9_foresee 124 = .ok (.getfield 23, 3) := by decide +kernel
theorem dX9_foresee_127 : decode cX9_foresee 127 = .ok (.aload_n 0, 1) := by decide +kernel
theorem dX9_foresee_128 : decode cX9_foresee 128 = .ok (.getfield 16, 3) := by decide +kernel
theorem dX9_foresee_131 : decode cX9_foresee 131 = .ok (.iload 4, 2) := by decide +kernel
theorem dX9_foresee_133 : decode cX9_foresee 133 = .ok (.iaload, 1) := by decide +kernel
theorem dX9_foresee_134 : decode cX9_foresee 134 = .ok (.aaload, 1) := by decide +kernel
theorem dX9_foresee_135 : decode cX9_foresee 135 = .ok (.astore 6, 2) := by decide +kernel
theorem dX9_foresee_137 : decode cX9_foresee 137 = .ok (.aload_n 0, 1) := by decide +kernel
theorem dX9_foresee_138 : decode cX9_foresee 138 = .ok (.getfield 23, 3) := by decide +kernel
theorem dX9_foresee_141 : decode cX9_foresee 141 = .ok (.iload 5, 2) := by decide +kernel
theorem dX9_foresee_143 : decode cX9_foresee 143 = .ok (.aaload, 1) := by decide +kernel
theorem dX9_foresee_144 : decode cX9_foresee 144 = .ok (.astore 7, 2) := by decide +kernel
theorem dX9_foresee_146 : decode cX9_foresee 146 = .ok (.aload 6, 2) := by decide +kernel
theorem dX9_foresee_148 : decode cX9_foresee 148 = .ok (.iload_n 3, 1) := by decide +kernel
theorem dX9_foresee_149 : decode cX9_foresee 149 = .ok (.aload 6, 2) := by decide +kernel
theorem dX9_foresee_151 : decode cX9_foresee 151 = .ok (.iload_n 3, 1) := by decide +kernel
theorem dX9_foresee_152 : decode cX9_foresee 152 = .ok (.iaload, 1) := by decide +kernel
theorem dX9_foresee_153 : decode cX9_foresee 153 = .ok (.aload 7, 2) := by decide +kernel
theorem dX9_foresee_155 : decode cX9_foresee 155 = .ok (.iload_n 3, 1) := by decide +kernel
theorem dX9_foresee_156 : decode cX9_foresee 156 = .ok (.aload_n 0, 1) := by decide +kernel
theorem dX9_foresee_157 : decode cX9_foresee 157 = .ok (.getfield 36, 3) := by decide +kernel
theorem dX9_foresee_160 : decode cX9_foresee 160 = .ok (.iadd, 1) := by decide +kernel
theorem dX9_foresee_161 : decode cX9_foresee 161 = .ok (.iaload, 1) := by decide +kernel
theorem dX9_foresee_162 : decode cX9_foresee 162 = .ok (.invokestatic 42, 3) := by decide +kernel
theorem dX9_foresee_165 : decode cX9_foresee 165 = .ok (.iastore, 1) := by decide +kernel
theorem dX9_foresee_166 : decode cX9_foresee 166 = .ok (.aload 7, 2) := by decide +kernel
theorem dX9_foresee_168 : decode cX9_foresee 168 = .ok (.iload_n 3, 1) := by decide +kernel
theorem dX9_foresee_169 : decode cX9_foresee 169 = .ok (.aload 7, 2) := by decide +kernel
theorem dX9_foresee_171 : decode cX9_foresee 171 = .ok (.iload_n 3, 1) := by decide +kernel
theorem dX9_foresee_172 : decode cX9_foresee 172 = .ok (.iaload, 1) := by decide +kernel
theorem dX9_foresee_173 : decode cX9_foresee 173 = .ok (.aload 6, 2) := by decide +kernel
theorem dX9_foresee_175 : decode cX9_foresee 175 = .ok (.iload_n 3, 1) := by decide +kernel
theorem dX9_foresee_176 : decode cX9_foresee 176 = .ok (.aload_n 0, 1) := by decide +kernel
theorem dX9_foresee_177 : decode cX9_foresee 177 = .ok (.getfield 36, 3) := by decide +kernel
theorem dX9_foresee_180 : decode cX9_foresee 180 = .ok (.iadd, 1) := by decide +kernel
theorem dX9_foresee_181 : decode cX9_foresee 181 = .ok (.iaload, 1) := by decide +kernel
theorem dX9_foresee_182 : decode cX9_foresee 182 = .ok (.invokestatic 42, 3) := by decide +kernel
theorem dX9_foresee_185 : decode cX9_foresee 185 = .ok (.iastore, 1) := by decide +kernel
theorem dX9_foresee_186 : decode cX9_foresee 186 = .ok (.iinc 4 1, 3) := by decide +kernel
theorem dX9_foresee_189 : decode cX9_foresee 189 = .ok (.goto (-93), 3) := by decide +kernel
theorem dX9_foresee_192 : decode cX9_foresee 192 = .ok (.iinc 3 (-1), 3) := by decide +kernel
theorem dX9_foresee_195 : decode cX9_foresee 195 = .ok (.goto (-174), 3) := by decide +kernel
theorem dX9_foresee_198 : decode cX9_foresee 198 = .ok (.return_, 1) := by decide +kernel
theorem dX9_waitFrom_0 : decode cX9_waitFrom 0 = .ok (.iload_n 1, 1) := by decide +kernel
theorem dX9_waitFrom_1 : decode cX9_waitFrom 1 = .ok (.invokestatic 85, 3) := by decide +kernel
theorem dX9_waitFrom_4 : decode cX9_waitFrom 4 = .ok (.ifCond .eq 21, 3) := by decide +kernel
theorem dX9_waitFrom_7 : decode cX9_waitFrom 7 = .ok (.iload_n 2, 1) := by decide +kernel
theorem dX9_waitFrom_8 : decode cX9_waitFrom 8 = .ok (.ifCond .lt 17, 3) := by decide +kernel
theorem dX9_waitFrom_11 : decode cX9_waitFrom 11 = .ok (.iload_n 2, 1) := by decide +kernel
theorem dX9_waitFrom_12 : decode cX9_waitFrom 12 = .ok (.bipush 60, 2) := by decide +kernel
theorem dX9_waitFrom_14 : decode cX9_waitFrom 14 = .ok (.if_icmp .ge 11, 3) := by decide +kernel
theorem dX9_waitFrom_17 : decode cX9_waitFrom 17 = .ok (.iload_n 2, 1) := by decide +kernel
theorem dX9_waitFrom_18 : decode cX9_waitFrom 18 = .ok (.aload_n 0, 1) := by decide +kernel
theorem dX9_waitFrom_19 : decode cX9_waitFrom 19 = .ok (.getfield 33, 3) := by decide +kernel
theorem dX9_waitFrom_22 : decode cX9_waitFrom 22 = .ok (.if_icmp .le 5, 3) := by decide +kernel
theorem dX9_waitFrom_25 : decode cX9_waitFrom 25 = .ok (.iconst (-1), 1) := by decide +kernel
theorem dX9_waitFrom_26 : decode cX9_waitFrom 26 = .ok (.ireturn, 1) := by decide +kernel
theorem dX9_waitFrom_27 : decode cX9_waitFrom 27 = .ok (.aload_n 0, 1) := by decide +kernel
theorem dX9_waitFrom_28 : decode cX9_waitFrom 28 = .ok (.getfield 23, 3) := by decide +kernel
theorem dX9_waitFrom_31 : decode cX9_waitFrom 31 = .ok (.iload_n 1, 1) := by decide +kernel
theorem dX9_waitFrom_32 : decode cX9_waitFrom 32 = .ok (.aaload, 1) := by decide +kernel
theorem dX9_waitFrom_33 : decode cX9_waitFrom 33 = .ok (.iload_n 2, 1) := by decide +kernel
theorem dX9_waitFrom_34 : decode cX9_waitFrom 34 = .ok (.iaload, 1) := by decide +kernel
theorem dX9_waitFrom_35 : decode cX9_waitFrom 35 = .ok (.istore_n 3, 1) := by decide +kernel
theorem dX9_waitFrom_36 : decode cX9_waitFrom 36 = .ok (.iload_n 3, 1) := by decide +kernel
theorem dX9_waitFrom_37 : decode cX9_waitFrom 37 = .ok (.ldc 77, 2) := by decide +kernel
theorem dX9_waitFrom_39 : decode cX9_waitFrom 39 = .ok (.if_icmp .eq 12, 3) := by decide +kernel
theorem dX9_waitFrom_42 : decode cX9_waitFrom 42 = .ok (.iload_n 3, 1) := by decide +kernel
theorem dX9_waitFrom_43 : decode cX9_waitFrom 43 = .ok (.iload_n 2, 1) := by decide +kernel
theorem dX9_waitFrom_44 : decode cX9_waitFrom 44 = .ok (.isub, 1) := by decide +kernel
theorem dX9_waitFrom_45 : decode cX9_waitFrom 45 = .ok (.sipush 400, 3) := by decide +kernel
theorem dX9_waitFrom_48 : decode cX9_waitFrom 48 = .ok (.if_icmp .le 7, 3) := by decide +kernel
theorem dX9_waitFrom_51 : decode cX9_waitFrom 51 = .ok (.iconst (-1), 1) := by decide +kernel
theorem dX9_waitFrom_52 : decode cX9_waitFrom 52 = .ok (.goto 6, 3) := by decide +kernel
theorem dX9_waitFrom_55 : decode cX9_waitFrom 55 = .ok (.iload_n 3, 1) := by decide +kernel
theorem dX9_waitFrom_56 : decode cX9_waitFrom 56 = .ok (.iload_n 2, 1) := by decide +kernel
theorem dX9_waitFrom_57 : decode cX9_waitFrom 57 = .ok (.isub, 1) := by decide +kernel
theorem dX9_waitFrom_58 : decode cX9_waitFrom 58 = .ok (.ireturn, 1) := by decide +kernel
theorem dX9_longestWait_0 : decode cX9_longestWait 0 = .ok (.iconst 0, 1) := by decide +kernel
theorem dX9_longestWait_1 : decode cX9_longestWait 1 = .ok (.istore_n 3, 1) := by decide +kernel
theorem dX9_longestWait_2 : decode cX9_longestWait 2 = .ok (.iconst 0, 1) := by decide +kernel
theorem dX9_longestWait_3 : decode cX9_longestWait 3 = .ok (.istore 4, 2) := by decide +kernel
theorem dX9_longestWait_5 : decode cX9_longestWait 5 = .ok (.iload 4, 2) := by decide +kernel
theorem dX9_longestWait_7 : decode cX9_longestWait 7 = .ok (.iload_n 2, 1) := by decide +kernel
theorem dX9_longestWait_8 : decode cX9_longestWait 8 = .ok (.if_icmp .ge 33, 3) := by decide +kernel
theorem dX9_longestWait_11 : decode cX9_longestWait 11 = .ok (.aload_n 0, 1) := by decide +kernel
theorem dX9_longestWait_12 : decode cX9_longestWait 12 = .ok (.iload_n 1, 1) := by decide +kernel
theorem dX9_longestWait_13 : decode cX9_longestWait 13 = .ok (.iload 4, 2) := by decide +kernel
theorem dX9_longestWait_15 : decode cX9_longestWait 15 = .ok (.invokevirtual 89, 3) := by decide +kernel
theorem dX9_longestWait_18 : decode cX9_longestWait 18 = .ok (.istore 5, 2) := by decide +kernel
theorem dX9_longestWait_20 : decode cX9_longestWait 20 = .ok (.iload 5, 2) := by decide +kernel
theorem dX9_longestWait_22 : decode cX9_longestWait 22 = .ok (.iconst (-1), 1) := by decide +kernel
theorem dX9_longestWait_23 : decode cX9_longestWait 23 = .ok (.if_icmp .ne 5, 3) := by decide +kernel
theorem dX9_longestWait_26 : decode cX9_longestWait 26 = .ok (.iconst (-1), 1) := by decide +kernel
theorem dX9_longestWait_27 : decode cX9_longestWait 27 = .ok (.ireturn, 1) := by decide +kernel
theorem dX9_longestWait_28 : decode cX9_longestWait 28 = .ok (.iload_n 3, 1) := by decide +kernel
theorem dX9_longestWait_29 : decode cX9_longestWait 29 = .ok (.iload 5, 2) := by decide +kernel
theorem dX9_longestWait_31 : decode cX9_longestWait 31 = .ok (.invokestatic 48, 3) := by decide +kernel
theorem dX9_longestWait_34 : decode cX9_longestWait 34 = .ok (.istore_n 3, 1) := by decide +kernel
theorem dX9_longestWait_35 : decode cX9_longestWait 35 = .ok (.iinc 4 1, 3) := by decide +kernel
theorem dX9_longestWait_38 : decode cX9_longestWait 38 = .ok (.goto (-33), 3) := by decide +kernel
theorem dX9_longestWait_41 : decode cX9_longestWait 41 = .ok (.iload_n 3, 1) := by decide +kernel
theorem dX9_longestWait_42 : decode cX9_longestWait 42 = .ok (.ireturn, 1) := by decide +kernel
theorem dX9_waitsTogether_0 : decode cX9_waitsTogether 0 = .ok (.iconst 0, 1) := by decide +kernel
theorem dX9_waitsTogether_1 : decode cX9_waitsTogether 1 = .ok (.istore_n 3, 1) := by decide +kernel
theorem dX9_waitsTogether_2 : decode cX9_waitsTogether 2 = .ok (.iconst 0, 1) := by decide +kernel
theorem dX9_waitsTogether_3 : decode cX9_waitsTogether 3 = .ok (.istore 4, 2) := by decide +kernel
theorem dX9_waitsTogether_5 : decode cX9_waitsTogether 5 = .ok (.iload 4, 2) := by decide +kernel
theorem dX9_waitsTogether_7 : decode cX9_waitsTogether 7 = .ok (.iload_n 2, 1) := by decide +kernel
theorem dX9_waitsTogether_8 : decode cX9_waitsTogether 8 = .ok (.if_icmp .ge 31, 3) := by decide +kernel
theorem dX9_waitsTogether_11 : decode cX9_waitsTogether 11 = .ok (.aload_n 0, 1) := by decide +kernel
theorem dX9_waitsTogether_12 : decode cX9_waitsTogether 12 = .ok (.iload_n 1, 1) := by decide +kernel
theorem dX9_waitsTogether_13 : decode cX9_waitsTogether 13 = .ok (.iload 4, 2) := by decide +kernel
theorem dX9_waitsTogether_15 : decode cX9_waitsTogether 15 = .ok (.invokevirtual 89, 3) := by decide +kernel
theorem dX9_waitsTogether_18 : decode cX9_waitsTogether 18 = .ok (.istore 5, 2) := by decide +kernel
theorem dX9_waitsTogether_20 : decode cX9_waitsTogether 20 = .ok (.iload 5, 2) := by decide +kernel
theorem dX9_waitsTogether_22 : decode cX9_waitsTogether 22 = .ok (.iconst (-1), 1) := by decide +kernel
theorem dX9_waitsTogether_23 : decode cX9_waitsTogether 23 = .ok (.if_icmp .ne 5, 3) := by decide +kernel
theorem dX9_waitsTogether_26 : decode cX9_waitsTogether 26 = .ok (.iconst (-1), 1) := by decide +kernel
theorem dX9_waitsTogether_27 : decode cX9_waitsTogether 27 = .ok (.ireturn, 1) := by decide +kernel
theorem dX9_waitsTogether_28 : decode cX9_waitsTogether 28 = .ok (.iload_n 3, 1) := by decide +kernel
theorem dX9_waitsTogether_29 : decode cX9_waitsTogether 29 = .ok (.iload 5, 2) := by decide +kernel
theorem dX9_waitsTogether_31 : decode cX9_waitsTogether 31 = .ok (.iadd, 1) := by decide +kernel
theorem dX9_waitsTogether_32 : decode cX9_waitsTogether 32 = .ok (.istore_n 3, 1) := by decide +kernel
theorem dX9_waitsTogether_33 : decode cX9_waitsTogether 33 = .ok (.iinc 4 1, 3) := by decide +kernel
theorem dX9_waitsTogether_36 : decode cX9_waitsTogether 36 = .ok (.goto (-31), 3) := by decide +kernel
theorem dX9_waitsTogether_39 : decode cX9_waitsTogether 39 = .ok (.iload_n 3, 1) := by decide +kernel
theorem dX9_waitsTogether_40 : decode cX9_waitsTogether 40 = .ok (.ireturn, 1) := by decide +kernel
theorem dX10_init_0 : decode cX10_init 0 = .ok (.aload_n 0, 1) := by decide +kernel
theorem dX10_init_1 : decode cX10_init 1 = .ok (.invokespecial 1, 3) := by decide +kernel
theorem dX10_init_4 : decode cX10_init 4 = .ok (.aload_n 0, 1) := by decide +kernel
theorem dX10_init_5 : decode cX10_init 5 = .ok (.new 7, 3) := by decide +kernel
theorem dX10_init_8 : decode cX10_init 8 = .ok (.dup, 1) := by decide +kernel
theorem dX10_init_9 : decode cX10_init 9 = .ok (.invokespecial 9, 3) := by decide +kernel
theorem dX10_init_12 : decode cX10_init 12 = .ok (.putfield 10, 3) := by decide +kernel
theorem dX10_init_15 : decode cX10_init 15 = .ok (.aload_n 0, 1) := by decide +kernel
theorem dX10_init_16 : decode cX10_init 16 = .ok (.new 16, 3) := by decide +kernel
theorem dX10_init_19 : decode cX10_init 19 = .ok (.dup, 1) := by decide +kernel
theorem dX10_init_20 : decode cX10_init 20 = .ok (.invokespecial 18, 3) := by decide +kernel
theorem dX10_init_23 : decode cX10_init 23 = .ok (.putfield 19, 3) := by decide +kernel
theorem dX10_init_26 : decode cX10_init 26 = .ok (.aload_n 0, 1) := by decide +kernel
theorem dX10_init_27 : decode cX10_init 27 = .ok (.new 23, 3) := by decide +kernel
theorem dX10_init_30 : decode cX10_init 30 = .ok (.dup, 1) := by decide +kernel
theorem dX10_init_31 : decode cX10_init 31 = .ok (.invokespecial 25, 3) := by decide +kernel
theorem dX10_init_34 : decode cX10_init 34 = .ok (.putfield 26, 3) := by decide +kernel
theorem dX10_init_37 : decode cX10_init 37 = .ok (.aload_n 0, 1) := by decide +kernel
theorem dX10_init_38 : decode cX10_init 38 = .ok (.new 30, 3) := by decide +kernel
theorem dX10_init_41 : decode cX10_init 41 = .ok (.dup, 1) := by decide +kernel
theorem dX10_init_42 : decode cX10_init 42 = .ok (.invokespecial 32, 3) := by decide +kernel
theorem dX10_init_45 : decode cX10_init 45 = .ok (.putfield 33, 3) := by decide +kernel
theorem dX10_init_48 : decode cX10_init 48 = .ok (.aload_n 0, 1) := by decide +kernel
theorem dX10_init_49 : decode cX10_init 49 = .ok (.new 37, 3) := by decide +kernel
theorem dX10_init_52 : decode cX10_init 52 = .ok (.dup, 1) := by decide +kernel
theorem dX10_init_53 : decode cX10_init 53 = .ok (.invokespecial 39, 3) := by decide +kernel
theorem dX10_init_56 : decode cX10_init 56 = .ok (.putfield 40, 3) := by decide +kernel
theorem dX10_init_59 : decode cX10_init 59 = .ok (.aload_n 0, 1) := by decide +kernel
theorem dX10_init_60 : decode cX10_init 60 = .ok (.new 44, 3) := by decide +kernel
theorem dX10_init_63 : decode cX10_init 63 = .ok (.dup, 1) := by decide +kernel
theorem dX10_init_64 : decode cX10_init 64 = .ok (.invokespecial 46, 3) := by decide +kernel
theorem dX10_init_67 : decode cX10_init 67 = .ok (.putfield 47, 3) := by decide +kernel
theorem dX10_init_70 : decode cX10_init 70 = .ok (.aload_n 0, 1) := by decide +kernel
theorem dX10_init_71 : decode cX10_init 71 = .ok (.new 51, 3) := by decide +kernel
theorem dX10_init_74 : decode cX10_init 74 = .ok (.dup, 1) := by decide +kernel
theorem dX10_init_75 : decode cX10_init 75 = .ok (.invokespecial 53, 3) := by decide +kernel
theorem dX10_init_78 : decode cX10_init 78 = .ok (.putfield 54, 3) := by decide +kernel
theorem dX10_init_81 : decode cX10_init 81 = .ok (.aload_n 0, 1) := by decide +kernel
theorem dX10_init_82 : decode cX10_init 82 = .ok (.bipush 8, 2) := by decide +kernel
theorem dX10_init_84 : decode cX10_init 84 = .ok (.newarray .int, 2) := by decide +kernel
theorem dX10_init_86 : decode cX10_init 86 = .ok (.putfield 58, 3) := by decide +kernel
theorem dX10_init_89 : decode cX10_init 89 = .ok (.aload_n 0, 1) := by decide +kernel
theorem dX10_init_90 : decode cX10_init 90 = .ok (.bipush 8, 2) := by decide +kernel
theorem dX10_init_92 : decode cX10_init 92 = .ok (.newarray .int, 2) := by decide +kernel
theorem dX10_init_94 : decode cX10_init 94 = .ok (.putfield 62, 3) := by decide +kernel
theorem dX10_init_97 : decode cX10_init 97 = .ok (.aload_n 0, 1) := by decide +kernel
theorem dX10_init_98 : decode cX10_init 98 = .ok (.iconst 0, 1) := by decide +kernel
theorem dX10_init_99 : decode cX10_init 99 = .ok (.putfield 65, 3) := by decide +kernel
theorem dX10_init_102 : decode cX10_init 102 = .ok (.return_, 1) := by decide +kernel
theorem dX10_letters_0 : decode cX10_letters 0 = .ok (.lload_n 1, 1) := by decide +kernel
theorem dX10_letters_1 : decode cX10_letters 1 = .ok (.invokestatic 69, 3) := by decide +kernel
theorem dX10_letters_4 : decode cX10_letters 4 = .ok (.istore_n 3, 1) := by decide +kernel
theorem dX10_letters_5 : decode cX10_letters 5 = .ok (.iload_n 3, 1) := by decide +kernel
theorem dX10_letters_6 : decode cX10_letters 6 = .ok (.bipush (-102), 2) := by decide +kernel
theorem dX10_letters_8 : decode cX10_letters 8 = .ok (.if_icmp .ne 6, 3) := by decide +kernel
theorem dX10_letters_11 : decode cX10_letters 11 = .ok (.bipush (-102), 2) := by decide +kernel
theorem dX10_letters_13 : decode cX10_letters 13 = .ok (.ireturn, 1) := by decide +kernel
theorem dX10_letters_14 : decode cX10_letters 14 = .ok (.aload_n 0, 1) := by decide +kernel
theorem dX10_letters_15 : decode cX10_letters 15 = .ok (.getfield 10, 3) := by decide +kernel
theorem dX10_letters_18 : decode cX10_letters 18 = .ok (.iload_n 3, 1) := by decide +kernel
theorem dX10_letters_19 : decode cX10_letters 19 = .ok (.invokevirtual 73, 3) := by decide +kernel
theorem dX10_letters_22 : decode cX10_letters 22 = .ok (.ifCond .ne 6, 3) := by decide +kernel
theorem dX10_letters_25 : decode cX10_letters 25 = .ok (.bipush (-104), 2) := by decide +kernel
theorem dX10_letters_27 : decode cX10_letters 27 = .ok (.ireturn, 1) := by decide +kernel
theorem dX10_letters_28 : decode cX10_letters 28 = .ok (.iconst 0, 1) := by decide +kernel
theorem dX10_letters_29 : decode cX10_letters 29 = .ok (.istore 4, 2) := by decide +kernel
theorem dX10_letters_31 : decode cX10_letters 31 = .ok (.iload 4, 2) := by decide +kernel
theorem dX10_letters_33 : decode cX10_letters 33 = .ok (.iload_n 3, 1) := by decide +kernel
theorem dX10_letters_34 : decode cX10_letters 34 = .ok (.if_icmp .ge 22, 3) := by decide +kernel
theorem dX10_letters_37 : decode cX10_letters 37 = .ok (.aload_n 0, 1) := by decide +kernel
theorem dX10_letters_38 : decode cX10_letters 38 = .ok (.getfield 10, 3) := by decide +kernel
theorem dX10_letters_41 : decode cX10_letters 41 = .ok (.lload_n 1, 1) := by decide +kernel
theorem dX10_letters_42 : decode cX10_letters 42 = .ok (.iload 4, 2) := by decide +kernel
theorem dX10_letters_44 : decode cX10_letters 44 = .ok (.invokestatic 77, 3) := by decide +kernel
theorem dX10_letters_47 : decode cX10_letters 47 = .ok (.invokevirtual 81, 3) := by decide +kernel
theorem dX10_letters_50 : decode cX10_letters 50 = .ok (.iinc 4 1, 3) := by decide +kernel
theorem dX10_letters_53 : decode cX10_letters 53 = .ok (.goto (-22), 3) := by decide +kernel
theorem dX10_letters_56 : decode cX10_letters 56 = .ok (.aload_n 0, 1) := by decide +kernel
theorem dX10_letters_57 : decode cX10_letters 57 = .ok (.getfield 10, 3) := by decide +kernel
theorem dX10_letters_60 : decode cX10_letters 60 = .ok (.invokevirtual 85, 3) := by decide +kernel
theorem dX10_letters_63 : decode cX10_letters 63 = .ok (.ireturn, 1) := by decide +kernel
theorem dX10_blank_0 : decode cX10_blank 0 = .ok (.aload_n 0, 1) := by decide +kernel
theorem dX10_blank_1 : decode cX10_blank 1 = .ok (.getfield 10, 3) := by decide +kernel
theorem dX10_blank_4 : decode cX10_blank 4 = .ok (.invokevirtual 89, 3) := by decide +kernel
theorem dX10_blank_7 : decode cX10_blank 7 = .ok (.ireturn, 1) := by decide +kernel
theorem dX10_fault_0 : decode cX10_fault 0 = .ok (.aload_n 0, 1) := by decide +kernel
theorem dX10_fault_1 : decode cX10_fault 1 = .ok (.getfield 10, 3) := by decide +kernel
theorem dX10_fault_4 : decode cX10_fault 4 = .ok (.aload_n 0, 1) := by decide +kernel
theorem dX10_fault_5 : decode cX10_fault 5 = .ok (.getfield 19, 3) := by decide +kernel
theorem dX10_fault_8 : decode cX10_fault 8 = .ok (.invokevirtual 92, 3) := by decide +kernel
theorem dX10_fault_11 : decode cX10_fault 11 = .ok (.ireturn, 1) := by decide +kernel
theorem dX10_bridge_0 : decode cX10_bridge 0 = .ok (.aload_n 0, 1) := by decide +kernel
theorem dX10_bridge_1 : decode cX10_bridge 1 = .ok (.getfield 10, 3) := by decide +kernel
theorem dX10_bridge_4 : decode cX10_bridge 4 = .ok (.aload_n 0, 1) := by decide +kernel
theorem dX10_bridge_5 : decode cX10_bridge 5 = .ok (.getfield 19, 3) := by decide +kernel
theorem dX10_bridge_8 : decode cX10_bridge 8 = .ok (.invokevirtual 92, 3) := by decide +kernel
theorem dX10_bridge_11 : decode cX10_bridge 11 = .ok (.aload_n 0, 1) := by decide +kernel
theorem dX10_bridge_12 : decode cX10_bridge 12 = .ok (.getfield 10, 3) := by decide +kernel
theorem dX10_bridge_15 : decode cX10_bridge 15 = .ok (.invokevirtual 85, 3) := by decide +kernel
theorem dX10_bridge_18 : decode cX10_bridge 18 = .ok (.if_icmp .lt 13, 3) := by decide +kernel
theorem dX10_bridge_21 : decode cX10_bridge 21 = .ok (.aload_n 0, 1) := by decide +kernel
theorem dX10_bridge_22 : decode cX10_bridge 22 = .ok (.getfield 19, 3) := by decide +kernel
theorem dX10_bridge_25 : decode cX10_bridge 25 = .ok (.invokevirtual 96, 3) := by decide +kernel
theorem dX10_bridge_28 : decode cX10_bridge 28 = .ok (.ifCond .ne 6, 3) := by decide +kernel
theorem dX10_bridge_31 : decode cX10_bridge 31 = .ok (.bipush (-103), 2) := by decide +kernel
theorem dX10_bridge_33 : decode cX10_bridge 33 = .ok (.ireturn, 1) := by decide +kernel
theorem dX10_bridge_34 : decode cX10_bridge 34 = .ok (.aload_n 0, 1) := by decide +kernel
theorem dX10_bridge_35 : decode cX10_bridge 35 = .ok (.getfield 26, 3) := by decide +kernel
theorem dX10_bridge_38 : decode cX10_bridge 38 = .ok (.invokevirtual 100, 3) := by decide +kernel
theorem dX10_bridge_41 : decode cX10_bridge 41 = .ok (.bipush 10, 2) := by decide +kernel
theorem dX10_bridge_43 : decode cX10_bridge 43 = .ok (.if_icmp .lt 6, 3) := by decide +kernel
theorem dX10_bridge_46 : decode cX10_bridge 46 = .ok (.bipush (-104), 2) := by decide +kernel
theorem dX10_bridge_48 : decode cX10_bridge 48 = .ok (.ireturn, 1) := by decide +kernel
theorem dX10_bridge_49 : decode cX10_bridge 49 = .ok (.aload_n 0, 1) := by decide +kernel
theorem dX10_bridge_50 : decode cX10_bridge 50 = .ok (.getfield 26, 3) := by decide +kernel
theorem dX10_bridge_53 : decode cX10_bridge 53 = .ok (.aload_n 0, 1) := by decide +kernel
theorem dX10_bridge_54 : decode cX10_bridge 54 = .ok (.getfield 19, 3) := by decide +kernel
theorem dX10_bridge_57 : decode cX10_bridge 57 = .ok (.invokevirtual 101, 3) := by decide +kernel
theorem dX10_bridge_60 : decode cX10_bridge 60 = .ok (.invokevirtual 105, 3) := by decide +kernel
theorem dX10_bridge_63 : decode cX10_bridge 63 = .ok (.pop, 1) := by decide +kernel
theorem dX10_bridge_64 : decode cX10_bridge 64 = .ok (.aload_n 0, 1) := by decide +kernel
theorem dX10_bridge_65 : decode cX10_bridge 65 = .ok (.getfield 10, 3) := by decide +kernel
theorem dX10_bridge_68 : decode cX10_bridge 68 = .ok (.invokevirtual 89, 3) := by decide +kernel
theorem dX10_bridge_71 : decode cX10_bridge 71 = .ok (.pop, 1) := by decide +kernel
theorem dX10_bridge_72 : decode cX10_bridge 72 = .ok (.aload_n 0, 1) := by decide +kernel
theorem dX10_bridge_73 : decode cX10_bridge 73 = .ok (.getfield 26, 3) := by decide +kernel
theorem dX10_bridge_76 : decode cX10_bridge 76 = .ok (.invokevirtual 100, 3) := by decide +kernel
theorem dX10_bridge_79 : decode cX10_bridge 79 = .ok (.iconst 1, 1) := by decide +kernel
theorem dX10_bridge_80 : decode cX10_bridge 80 = .ok (.isub, 1) := by decide +kernel
theorem dX10_bridge_81 : decode cX10_bridge 81 = .ok (.ireturn, 1) := by decide +kernel
theorem dX10_as_0 : decode cX10_as 0 = .ok (.aload_n 0, 1) := by decide +kernel
theorem dX10_as_1 : decode cX10_as 1 = .ok (.iload_n 1, 1) := by decide +kernel
theorem dX10_as_2 : decode cX10_as 2 = .ok (.invokevirtual 109, 3) := by decide +kernel
theorem dX10_as_5 : decode cX10_as 5 = .ok (.ifCond .ne 6, 3) := by decide +kernel
theorem dX10_as_8 : decode cX10_as 8 = .ok (.bipush (-101), 2) := by decide +kernel
theorem dX10_as_10 : decode cX10_as 10 = .ok (.ireturn, 1) := by decide +kernel
theorem dX10_as_11 : decode cX10_as 11 = .ok (.iload_n 2, 1) := by decide +kernel
theorem dX10_as_12 : decode cX10_as 12 = .ok (.ifCond .lt 8, 3) := by decide +kernel
theorem dX10_as_15 : decode cX10_as 15 = .ok (.iload_n 2, 1) := by decide +kernel
theorem dX10_as_16 : decode cX10_as 16 = .ok (.iconst 3, 1) := by decide +kernel
theorem dX10_as_17 : decode cX10_as 17 = .ok (.if_icmp .le 6, 3) := by decide +kernel
theorem dX10_as_20 : decode cX10_as 20 = .ok (.bipush (-102), 2) := by decide +kernel
theorem dX10_as_22 : decode cX10_as 22 = .ok (.ireturn, 1) := by decide +kernel
theorem dX10_as_23 : decode cX10_as 23 = .ok (.aload_n 0, 1) := by decide +kernel
theorem dX10_as_24 : decode cX10_as 24 = .ok (.getfield 26, 3) := by decide +kernel
theorem dX10_as_27 : decode cX10_as 27 = .ok (.iload_n 1, 1) := by decide +kernel
theorem dX10_as_28 : decode cX10_as 28 = .ok (.invokevirtual 112, 3) := by decide +kernel
theorem dX10_as_31 : decode cX10_as 31 = .ok (.checkcast 116, 3) := by decide +kernel
theorem dX10_as_34 : decode cX10_as 34 = .ok (.iload_n 2, 1) := by decide +kernel
theorem dX10_as_35 : decode cX10_as 35 = .ok (.invokestatic 118, 3) := by decide +kernel
theorem dX10_as_38 : decode cX10_as 38 = .ok (.ifCond .eq 7, 3) := by decide +kernel
theorem dX10_as_41 : decode cX10_as 41 = .ok (.iload_n 1, 1) := by decide +kernel
theorem dX10_as_42 : decode cX10_as 42 = .ok (.goto 4, 3) := by decide +kernel
theorem dX10_as_45 : decode cX10_as 45 = .ok (.iconst (-1), 1) := by decide +kernel
theorem dX10_as_46 : decode cX10_as 46 = .ok (.ireturn, 1) := by decide +kernel
theorem dX10_about_0 : decode cX10_about 0 = .ok (.aload_n 0, 1) := by decide +kernel
theorem dX10_about_1 : decode cX10_about 1 = .ok (.iload_n 1, 1) := by decide +kernel
theorem dX10_about_2 : decode cX10_about 2 = .ok (.invokevirtual 109, 3) := by decide +kernel
theorem dX10_about_5 : decode cX10_about 5 = .ok (.ifCond .ne 6, 3) := by decide +kernel
theorem dX10_about_8 : decode cX10_about 8 = .ok (.bipush (-101), 2) := by decide +kernel
theorem dX10_about_10 : decode cX10_about 10 = .ok (.ireturn, 1) := by decide +kernel
theorem dX10_about_11 : decode cX10_about 11 = .ok (.aload_n 0, 1) := by decide +kernel
theorem dX10_about_12 : decode cX10_about 12 = .ok (.aload_n 0, 1) := by decide +kernel
theorem dX10_about_13 : decode cX10_about 13 = .ok (.getfield 26, 3) := by decide +kernel
theorem dX10_about_16 : decode cX10_about 16 = .ok (.iload_n 1, 1) := by decide +kernel
theorem dX10_about_17 : decode cX10_about 17 = .ok (.invokevirtual 112, 3) := by decide +kernel
theorem dX10_about_20 : decode cX10_about 20 = .ok (.checkcast 116, 3) := by decide +kernel
theorem dX10_about_23 : decode cX10_about 23 = .ok (.iload_n 2, 1) := by decide +kernel
theorem dX10_about_24 : decode cX10_about 24 = .ok (.invokevirtual 122, 3) := by decide +kernel
theorem dX10_about_27 : decode cX10_about 27 = .ok (.ireturn, 1) := by decide +kernel
theorem dX10_offset_0 : decode cX10_offset 0 = .ok (.aload_n 0, 1) := by decide +kernel
theorem dX10_offset_1 : decode cX10_offset 1 = .ok (.iload_n 1, 1) := by decide +kernel
theorem dX10_offset_2 : decode cX10_offset 2 = .ok (.invokevirtual 109, 3) := by decide +kernel
theorem dX10_offset_5 : decode cX10_offset 5 = .ok (.ifCond .ne 6, 3) := by decide +kernel
theorem dX10_offset_8 : decode cX10_offset 8 = .ok (.bipush (-101), 2) := by decide +kernel
theorem dX10_offset_10 : decode cX10_offset 10 = .ok (.ireturn, 1) := by decide +kernel
theorem dX10_offset_11 : decode cX10_offset 11 = .ok (.iload_n 2, 1) := by decide +kernel
theorem dX10_offset_12 : decode cX10_offset 12 = .ok (.ifCond .lt 9, 3) := by decide +kernel
theorem dX10_offset_15 : decode cX10_offset 15 = .ok (.iload_n 2, 1) := by decide +kernel
theorem dX10_offset_16 : decode cX10_offset 16 = .ok (.bipush 9, 2) := by decide +kernel
theorem dX10_offset_18 : decode cX10_offset 18 = .ok (.if_icmp .le 6, 3) := by decide +kernel
theorem dX10_offset_21 : decode cX10_offset 21 = .ok (.bipush (-102), 2) := by decide +kernel
theorem dX10_offset_23 : decode cX10_offset 23 = .ok (.ireturn, 1) := by decide +kernel
theorem dX10_offset_24 : decode cX10_offset 24 = .ok (.aload_n 0, 1) := by decide +kernel
theorem dX10_offset_25 : decode cX10_offset 25 = .ok (.getfield 26, 3) := by decide +kernel
theorem dX10_offset_28 : decode cX10_offset 28 = .ok (.iload_n 1, 1) := by decide +kernel
theorem dX10_offset_29 : decode cX10_offset 29 = .ok (.invokevirtual 112, 3) := by decide +kernel
theorem dX10_offset_32 : decode cX10_offset 32 = .ok (.checkcast 116, 3) := by decide +kernel
theorem dX10_offset_35 : decode cX10_offset 35 = .ok (.astore_n 3, 1) := by decide +kernel
theorem dX10_offset_36 : decode cX10_offset 36 = .ok (.aload_n 3, 1) := by decide +kernel
theorem dX10_offset_37 : decode cX10_offset 37 = .ok (.getfield 126, 3) := by decide +kernel
theorem dX10_offset_40 : decode cX10_offset 40 = .ok (.istore 4, 2) := by decide +kernel
theorem dX10_offset_42 : decode cX10_offset 42 = .ok (.aload_n 3, 1) := by decide +kernel
theorem dX10_offset_43 : decode cX10_offset 43 = .ok (.iload_n 2, 1) := by decide +kernel
theorem dX10_offset_44 : decode cX10_offset 44 = .ok (.putfield 126, 3) := by decide +kernel
theorem dX10_offset_47 : decode cX10_offset 47 = .ok (.iload 4, 2) := by decide +kernel
theorem dX10_offset_49 : decode cX10_offset 49 = .ok (.ireturn, 1) := by decide +kernel
theorem dX10_frost_0 : decode cX10_frost 0 = .ok (.aload_n 0, 1) := by decide +kernel
theorem dX10_frost_1 : decode cX10_frost 1 = .ok (.getfield 65, 3) := by decide +kernel
theorem dX10_frost_4 : decode cX10_frost 4 = .ok (.ifCond .eq 7, 3) := by decide +kernel
theorem dX10_frost_7 : decode cX10_frost 7 = .ok (.iconst 1, 1) := by decide +kernel
theorem dX10_frost_8 : decode cX10_frost 8 = .ok (.goto 4, 3) := by decide +kernel
theorem dX10_frost_11 : decode cX10_frost 11 = .ok (.iconst 0, 1) := by decide +kernel
theorem dX10_frost_12 : decode cX10_frost 12 = .ok (.istore_n 2, 1) := by decide +kernel
theorem dX10_frost_13 : decode cX10_frost 13 = .ok (.aload_n 0, 1) := by decide +kernel
theorem dX10_frost_14 : decode cX10_frost 14 = .ok (.iload_n 1, 1) := by decide +kernel
theorem dX10_frost_15 : decode cX10_frost 15 = .ok (.putfield 65, 3) := by decide +kernel
theorem dX10_frost_18 : decode cX10_frost 18 = .ok (.iload_n 2, 1) := by decide +kernel
theorem dX10_frost_19 : decode cX10_frost 19 = .ok (.ireturn, 1) := by decide +kernel
theorem dX10_joins_0 : decode cX10_joins 0 = .ok (.aload_n 0, 1) := by decide +kernel
theorem dX10_joins_1 : decode cX10_joins 1 = .ok (.iload_n 1, 1) := by decide +kernel
theorem dX10_joins_2 : decode cX10_joins 2 = .ok (.invokevirtual 109, 3) := by decide +kernel
theorem dX10_joins_5 : decode cX10_joins 5 = .ok (.ifCond .ne 6, 3) := by decide +kernel
theorem dX10_joins_8 : decode cX10_joins 8 = .ok (.bipush (-101), 2) := by decide +kernel
theorem dX10_joins_10 : decode cX10_joins 10 = .ok (.ireturn, 1) := by decide +kernel
theorem dX10_joins_11 : decode cX10_joins 11 = .ok (.iload_n 2, 1) := by decide +kernel
theorem dX10_joins_12 : decode cX10_joins 12 = .ok (.ifCond .lt 10, 3) := by decide +kernel
theorem dX10_joins_15 : decode cX10_joins 15 = .ok (.iload_n 2, 1) := by decide +kernel
theorem dX10_joins_16 : decode cX10_joins 16 = .ok (.sipush 9999, 3) := by decide +kernel
theorem dX10_joins_19 : decode cX10_joins 19 = .ok (.if_icmp .le 6, 3) := by decide +kernel
theorem dX10_joins_22 : decode cX10_joins 22 = .ok (.bipush (-102), 2) := by decide +kernel
theorem dX10_joins_24 : decode cX10_joins 24 = .ok (.ireturn, 1) := by decide +kernel
theorem dX10_joins_25 : decode cX10_joins 25 = .ok (.aload_n 0, 1) := by decide +kernel
theorem dX10_joins_26 : decode cX10_joins 26 = .ok (.getfield 26, 3) := by decide +kernel
theorem dX10_joins_29 : decode cX10_joins 29 = .ok (.iload_n 1, 1) := by decide +kernel
theorem dX10_joins_30 : decode cX10_joins 30 = .ok (.invokevirtual 112, 3) := by decide +kernel
theorem dX10_joins_33 : decode cX10_joins 33 = .ok (.checkcast 116, 3) := by decide +kernel
theorem dX10_joins_36 : decode cX10_joins 36 = .ok (.astore_n 3, 1) := by decide +kernel
theorem dX10_joins_37 : decode cX10_joins 37 = .ok (.aload_n 3, 1) := by decide +kernel
theorem dX10_joins_38 : decode cX10_joins 38 = .ok (.iload_n 2, 1) := by decide +kernel
theorem dX10_joins_39 : decode cX10_joins 39 = .ok (.aload_n 3, 1) := by decide +kernel
theorem dX10_joins_40 : decode cX10_joins 40 = .ok (.getfield 126, 3) := by decide +kernel
theorem dX10_joins_43 : decode cX10_joins 43 = .ok (.iadd, 1) := by decide +kernel
theorem dX10_joins_44 : decode cX10_joins 44 = .ok (.aload_n 0, 1) := by decide +kernel
theorem dX10_joins_45 : decode cX10_joins 45 = .ok (.getfield 65, 3) := by decide +kernel
theorem dX10_joins_48 : decode cX10_joins 48 = .ok (.invokevirtual 130, 3) := by decide +kernel
theorem dX10_joins_51 : decode cX10_joins 51 = .ok (.ireturn, 1) := by decide +kernel
theorem dX10_lasts_0 : decode cX10_lasts 0 = .ok (.aload_n 0, 1) := by decide +kernel
theorem dX10_lasts_1 : decode cX10_lasts 1 = .ok (.iload_n 1, 1) := by decide +kernel
theorem dX10_lasts_2 : decode cX10_lasts 2 = .ok (.invokevirtual 109, 3) := by decide +kernel
theorem dX10_lasts_5 : decode cX10_lasts 5 = .ok (.ifCond .ne 6, 3) := by decide +kernel
theorem dX10_lasts_8 : decode cX10_lasts 8 = .ok (.bipush (-101), 2) := by decide +kernel
theorem dX10_lasts_10 : decode cX10_lasts 10 = .ok (.ireturn, 1) := by decide +kernel
theorem dX10_lasts_11 : decode cX10_lasts 11 = .ok (.iload_n 2, 1) := by decide +kernel
theorem dX10_lasts_12 : decode cX10_lasts 12 = .ok (.ifCond .lt 10, 3) := by decide +kernel
theorem dX10_lasts_15 : decode cX10_lasts 15 = .ok (.iload_n 2, 1) := by decide +kernel
theorem dX10_lasts_16 : decode cX10_lasts 16 = .ok (.sipush 9999, 3) := by decide +kernel
theorem dX10_lasts_19 : decode cX10_lasts 19 = .ok (.if_icmp .le 6, 3) := by decide +kernel
theorem dX10_lasts_22 : decode cX10_lasts 22 = .ok (.bipush (-102), 2) := by decide +kernel
theorem dX10_lasts_24 : decode cX10_lasts 24 = .ok (.ireturn, 1) := by decide +kernel
theorem dX10_lasts_25 : decode cX10_lasts 25 = .ok (.aload_n 0, 1) := by decide +kernel
theorem dX10_lasts_26 : decode cX10_lasts 26 = .ok (.getfield 26, 3) := by decide +kernel
theorem dX10_lasts_29 : decode cX10_lasts 29 = .ok (.iload_n 1, 1) := by decide +kernel
theorem dX10_lasts_30 : decode cX10_lasts 30 = .ok (.invokevirtual 112, 3) := by decide +kernel
theorem dX10_lasts_33 : decode cX10_lasts 33 = .ok (.checkcast 116, 3) := by decide +kernel
theorem dX10_lasts_36 : decode cX10_lasts 36 = .ok (.astore_n 3, 1) := by decide +kernel
theorem dX10_lasts_37 : decode cX10_lasts 37 = .ok (.aload_n 3, 1) := by decide +kernel
theorem dX10_lasts_38 : decode cX10_lasts 38 = .ok (.iload_n 2, 1) := by decide +kernel
theorem dX10_lasts_39 : decode cX10_lasts 39 = .ok (.aload_n 3, 1) := by decide +kernel
theorem dX10_lasts_40 : decode cX10_lasts 40 = .ok (.getfield 126, 3) := by decide +kernel
theorem dX10_lasts_43 : decode cX10_lasts 43 = .ok (.iadd, 1) := by decide +kernel
theorem dX10_lasts_44 : decode cX10_lasts 44 = .ok (.aload_n 0, 1) := by decide +kernel
theorem dX10_lasts_45 : decode cX10_lasts 45 = .ok (.getfield 65, 3) := by decide +kernel
theorem dX10_lasts_48 : decode cX10_lasts 48 = .ok (.invokevirtual 134, 3) := by decide +kernel
theorem dX10_lasts_51 : decode cX10_lasts 51 = .ok (.ireturn, 1) := by decide +kernel
theorem dX10_soonest_0 : decode cX10_soonest 0 = .ok (.iload_n 1, 1) := by decide +kernel
theorem dX10_soonest_1 : decode cX10_soonest 1 = .ok (.invokestatic 137, 3) := by decide +kernel
theorem dX10_soonest_4 : decode cX10_soonest 4 = .ok (.ifCond .eq 10, 3) := by decide +kernel
theorem dX10_soonest_7 : decode cX10_soonest 7 = .ok (.iload_n 2, 1) := by decide +kernel
theorem dX10_soonest_8 : decode cX10_soonest 8 = .ok (.invokestatic 137, 3) := by decide +kernel
theorem dX10_soonest_11 : decode cX10_soonest 11 = .ok (.ifCond .ne 6, 3) := by decide +kernel
theorem dX10_soonest_14 : decode cX10_soonest 14 = .ok (.bipush (-101), 2) := by decide +kernel
theorem dX10_soonest_16 : decode cX10_soonest 16 = .ok (.ireturn, 1) := by decide +kernel
theorem dX10_soonest_17 : decode cX10_soonest 17 = .ok (.iload_n 3, 1) := by decide +kernel
theorem dX10_soonest_18 : decode cX10_soonest 18 = .ok (.invokestatic 140, 3) := by decide +kernel
theorem dX10_soonest_21 : decode cX10_soonest 21 = .ok (.ifCond .eq 13, 3) := by decide +kernel
theorem dX10_soonest_24 : decode cX10_soonest 24 = .ok (.iload 4, 2) := by decide +kernel
theorem dX10_soonest_26 : decode cX10_soonest 26 = .ok (.iload 5, 2) := by decide +kernel
theorem dX10_soonest_28 : decode cX10_soonest 28 = .ok (.invokestatic 143, 3) := by decide +kernel
theorem dX10_soonest_31 : decode cX10_soonest 31 = .ok (.ifCond .ne 6, 3) := by decide +kernel
theorem dX10_soonest_34 : decode cX10_soonest 34 = .ok (.bipush (-102), 2) := by decide +kernel
theorem dX10_soonest_36 : decode cX10_soonest 36 = .ok (.ireturn, 1) := by decide +kernel
theorem dX10_soonest_37 : decode cX10_soonest 37 = .ok (.aload_n 0, 1) := by decide +kernel
theorem dX10_soonest_38 : decode cX10_soonest 38 = .ok (.iload_n 3, 1) := by decide +kernel
theorem dX10_soonest_39 : decode cX10_soonest 39 = .ok (.sipush 400, 3) := by decide +kernel
theorem dX10_soonest_42 : decode cX10_soonest 42 = .ok (.iload 4, 2) := by decide +kernel
theorem dX10_soonest_44 : decode cX10_soonest 44 = .ok (.iload 5, 2) := by decide +kernel
theorem dX10_soonest_46 : decode cX10_soonest 46 = .ok (.invokevirtual 147, 3) := by decide +kernel
theorem dX10_soonest_49 : decode cX10_soonest 49 = .ok (.aload_n 0, 1) := by decide +kernel
theorem dX10_soonest_50 : decode cX10_soonest 50 = .ok (.getfield 47, 3) := by decide +kernel
theorem dX10_soonest_53 : decode cX10_soonest 53 = .ok (.iload_n 1, 1) := by decide +kernel
theorem dX10_soonest_54 : decode cX10_soonest 54 = .ok (.iconst 0, 1) := by decide +kernel
theorem dX10_soonest_55 : decode cX10_soonest 55 = .ok (.iconst 1, 1) := by decide +kernel
theorem dX10_soonest_56 : decode cX10_soonest 56 = .ok (.iload_n 2, 1) := by decide +kernel
theorem dX10_soonest_57 : decode cX10_soonest 57 = .ok (.ishl, 1) := by decide +kernel
theorem dX10_soonest_58 : decode cX10_soonest 58 = .ok (.aload_n 0, 1) := by decide +kernel
theorem dX10_soonest_59 : decode cX10_soonest 59 = .ok (.getfield 58, 3) := by decide +kernel
theorem dX10_soonest_62 : decode cX10_soonest 62 = .ok (.invokevirtual 151, 3) := by decide +kernel
theorem dX10_soonest_65 : decode cX10_soonest 65 = .ok (.aload_n 0, 1) := by decide +kernel
theorem dX10_soonest_66 : decode cX10_soonest 66 = .ok (.getfield 58, 3) := by decide +kernel
theorem dX10_soonest_69 : decode cX10_soonest 69 = .ok (.iload_n 2, 1) := by decide +kernel
theorem dX10_soonest_70 : decode cX10_soonest 70 = .ok (.iaload, 1) := by decide +kernel
theorem dX10_soonest_71 : decode cX10_soonest 71 = .ok (.ldc 155, 2) := by decide +kernel
theorem dX10_soonest_73 : decode cX10_soonest 73 = .ok (.if_icmp .ne 7, 3) := by decide +kernel
theorem dX10_soonest_76 : decode cX10_soonest 76 = .ok (.iconst (-1), 1) := by decide +kernel
theorem dX10_soonest_77 : decode cX10_soonest 77 = .ok (.goto 11, 3) := by decide +kernel
theorem dX10_soonest_80 : decode cX10_soonest 80 = .ok (.iload_n 3, 1) := by decide +kernel
theorem dX10_soonest_81 : decode cX10_soonest 81 = .ok (.aload_n 0, 1) := by decide +kernel
theorem dX10_soonest_82 : decode cX10_soonest 82 = .ok (.getfield 58, 3) := by decide +kernel
theorem dX10_soonest_85 : decode cX10_soonest 85 = .ok (.iload_n 2, 1) := by decide +kernel
theorem dX10_soonest_86 : decode cX10_soonest 86 = .ok (.iaload, 1) := by decide +kernel
theorem dX10_soonest_87 : decode cX10_soonest 87 = .ok (.iadd, 1) := by decide +kernel
theorem dX10_soonest_88 : decode cX10_soonest 88 = .ok (.ireturn, 1) := by decide +kernel
theorem dX10_last_0 : decode cX10_last 0 = .ok (.iload_n 1, 1) := by decide +kernel
theorem dX10_last_1 : decode cX10_last 1 = .ok (.invokestatic 137, 3) := by decide +kernel
theorem dX10_last_4 : decode cX10_last 4 = .ok (.ifCond .eq 10, 3) := by decide +kernel
theorem dX10_last_7 : decode cX10_last 7 = .ok (.iload_n 2, 1) := by decide +kernel
theorem dX10_last_8 : decode cX10_last 8 = .ok (.invokestatic 137, 3) := by decide +kernel
theorem dX10_last_11 : decode cX10_last 11 = .ok (.ifCond .ne 6, 3) := by decide +kernel
theorem dX10_last_14 : decode cX10_last 14 = .ok (.bipush (-101), 2) := by decide +kernel
theorem dX10_last_16 : decode cX10_last 16 = .ok (.ireturn, 1) := by decide +kernel
theorem dX10_last_17 : decode cX10_last 17 = .ok (.iload_n 3, 1) := by decide +kernel
theorem dX10_last_18 : decode cX10_last 18 = .ok (.invokestatic 140, 3) := by decide +kernel
theorem dX10_last_21 : decode cX10_last 21 = .ok (.ifCond .eq 17, 3) := by decide +kernel
theorem dX10_last_24 : decode cX10_last 24 = .ok (.iload 4, 2) := by decide +kernel
theorem dX10_last_26 : decode cX10_last 26 = .ok (.invokestatic 140, 3) := by decide +kernel
theorem dX10_last_29 : decode cX10_last 29 = .ok (.ifCond .eq 9, 3) := by decide +kernel
theorem dX10_last_32 : decode cX10_last 32 = .ok (.iload 4, 2) := by decide +kernel
theorem dX10_last_34 : decode cX10_last 34 = .ok (.iload_n 3, 1) := by decide +kernel
theorem dX10_last_35 : decode cX10_last 35 = .ok (.if_icmp .ge 6, 3) := by decide +kernel
theorem dX10_last_38 : decode cX10_last 38 = .ok (.bipush (-102), 2) := by decide +kernel
theorem dX10_last_40 : decode cX10_last 40 = .ok (.ireturn, 1) := by decide +kernel
theorem dX10_last_41 : decode cX10_last 41 = .ok (.iload 5, 2) := by decide +kernel
theorem dX10_last_43 : decode cX10_last 43 = .ok (.iload 6, 2) := by decide +kernel
theorem dX10_last_45 : decode cX10_last 45 = .ok (.invokestatic 143, 3) := by decide +kernel
theorem dX10_last_48 : decode cX10_last 48 = .ok (.ifCond .ne 6, 3) := by decide +kernel
theorem dX10_last_51 : decode cX10_last 51 = .ok (.bipush (-102), 2) := by decide +kernel
theorem dX10_last_53 : decode cX10_last 53 = .ok (.ireturn, 1) := by decide +kernel
theorem dX10_last_54 : decode cX10_last 54 = .ok (.aload_n 0, 1) := by decide +kernel
theorem dX10_last_55 : decode cX10_last 55 = .ok (.iload_n 3, 1) := by decide +kernel
theorem dX10_last_56 : decode cX10_last 56 = .ok (.iload 4, 2) := by decide +kernel
theorem dX10_last_58 : decode cX10_last 58 = .ok (.iload_n 3, 1) := by decide +kernel
theorem dX10_last_59 : decode cX10_last 59 = .ok (.isub, 1) := by decide +kernel
theorem dX10_last_60 : decode cX10_last 60 = .ok (.iload 5, 2) := by decide +kernel
theorem dX10_last_62 : decode cX10_last 62 = .ok (.iload 6, 2) := by decide +kernel
theorem dX10_last_64 : decode cX10_last 64 = .ok (.invokevirtual 147, 3) := by decide +kernel
theorem dX10_last_67 : decode cX10_last 67 = .ok (.aload_n 0, 1) := by decide +kernel
theorem dX10_last_68 : decode cX10_last 68 = .ok (.getfield 47, 3) := by decide +kernel
theorem dX10_last_71 : decode cX10_last 71 = .ok (.iload_n 1, 1) := by decide +kernel
theorem dX10_last_72 : decode cX10_last 72 = .ok (.iload_n 2, 1) := by decide +kernel
theorem dX10_last_73 : decode cX10_last 73 = .ok (.invokevirtual 156, 3) := by decide +kernel
theorem dX10_last_76 : decode cX10_last 76 = .ok (.istore 7, 2) := by decide +kernel
theorem dX10_last_78 : decode cX10_last 78 = .ok (.iload 7, 2) := by decide +kernel
theorem dX10_last_80 : decode cX10_last 80 = .ok (.iconst (-1), 1) := by decide +kernel
theorem dX10_last_81 : decode cX10_last 81 = .ok (.if_icmp .ne 7, 3) := by decide +kernel
theorem dX10_last_84 : decode cX10_last 84 = .ok (.iconst (-1), 1) := by decide +kernel
theorem dX10_last_85 : decode cX10_last 85 = .ok (.goto 7, 3) := by decide +kernel
theorem dX10_last_88 : decode cX10_last 88 = .ok (.iload_n 3, 1) := by decide +kernel
theorem dX10_last_89 : decode cX10_last 89 = .ok (.iload 7, 2) := by decide +kernel
theorem dX10_last_91 : decode cX10_last 91 = .ok (.iadd, 1) := by decide +kernel
theorem dX10_last_92 : decode cX10_last 92 = .ok (.ireturn, 1) := by decide +kernel
theorem dX10_again_0 : decode cX10_again 0 = .ok (.lconst 1, 1) := by decide +kernel
theorem dX10_again_1 : decode cX10_again 1 = .ok (.lstore_n 1, 1) := by decide +kernel
theorem dX10_again_2 : decode cX10_again 2 = .ok (.iconst 0, 1) := by decide +kernel
theorem dX10_again_3 : decode cX10_again 3 = .ok (.istore_n 3, 1) := by decide +kernel
theorem dX10_again_4 : decode cX10_again 4 = .ok (.iload_n 3, 1) := by decide +kernel
theorem dX10_again_5 : decode cX10_again 5 = .ok (.aload_n 0, 1) := by decide +kernel
theorem dX10_again_6 : decode cX10_again 6 = .ok (.getfield 26, 3) := by decide +kernel
theorem dX10_again_9 : decode cX10_again 9 = .ok (.invokevirtual 100, 3) := by decide +kernel
theorem dX10_again_12 : decode cX10_again 12 = .ok (.if_icmp .ge 53, 3) := by decide +kernel
theorem dX10_again_15 : decode cX10_again 15 = .ok (.aload_n 0, 1) := by decide +kernel
theorem dX10_again_16 : decode cX10_again 16 = .ok (.getfield 26, 3) := by decide +kernel
theorem dX10_again_19 : decode cX10_again 19 = .ok (.iload_n 3, 1) := by decide +kernel
theorem dX10_again_20 : decode cX10_again 20 = .ok (.invokevirtual 112, 3) := by decide +kernel
theorem dX10_again_23 : decode cX10_again 23 = .ok (.checkcast 116, 3) := by decide +kernel
theorem dX10_again_26 : decode cX10_again 26 = .ok (.aload_n 0, 1) := by decide +kernel
theorem dX10_again_27 : decode cX10_again 27 = .ok (.getfield 65, 3) := by decide +kernel
theorem dX10_again_30 : decode cX10_again 30 = .ok (.invokevirtual 160, 3) := by decide +kernel
theorem dX10_again_33 : decode cX10_again 33 = .ok (.i2l, 1) := by decide +kernel
theorem dX10_again_34 : decode cX10_again 34 = .ok (.lstore 4, 2) := by decide +kernel
theorem dX10_again_36 : decode cX10_again 36 = .ok (.lload_n 1, 1) := by decide +kernel
theorem dX10_again_37 : decode cX10_again 37 = .ok (.lload 4, 2) := by decide +kernel
theorem dX10_again_39 : decode cX10_again 39 = .ok (.invokestatic 164, 3) := by decide +kernel
theorem dX10_again_42 : decode cX10_again 42 = .ok (.lstore 6, 2) := by decide +kernel
theorem dX10_again_44 : decode cX10_again 44 = .ok (.lload 6, 2) := by decide +kernel
theorem dX10_again_46 : decode cX10_again 46 = .ok (.lconst 0, 1) := by decide +kernel
theorem dX10_again_47 : decode cX10_again 47 = .ok (.lcmp, 1) := by decide +kernel
theorem dX10_again_48 : decode cX10_again 48 = .ok (.ifCond .le 11, 3) := by decide +kernel
theorem dX10_again_51 : decode cX10_again 51 = .ok (.lload_n 1, 1) := by decide +kernel
theorem dX10_again_52 : decode cX10_again 52 = .ok (.lload 6, 2) := by decide +kernel
theorem dX10_again_54 : decode cX10_again 54 = .ok (.ldiv, 1) := by decide +kernel
theorem dX10_again_55 : decode cX10_again 55 = .ok (.lload 4, 2) := by decide +kernel
theorem dX10_again_57 : decode cX10_again 57 = .ok (.lmul, 1) := by decide +kernel
theorem dX10_again_58 : decode cX10_again 58 = .ok (.lstore_n 1, 1) := by decide +kernel
theorem dX10_again_59 : decode cX10_again 59 = .ok (.iinc 3 1, 3) := by decide +kernel
theorem dX10_again_62 : decode cX10_again 62 = .ok (.goto (-58), 3) := by decide +kernel
theorem dX10_again_65 : decode cX10_again 65 = .ok (.lload_n 1, 1) := by decide +kernel
theorem dX10_again_66 : decode cX10_again 66 = .ok (.lreturn, 1) := by decide +kernel
theorem dX10_cut_0 : decode cX10_cut 0 = .ok (.iload_n 1, 1) := by decide +kernel
theorem dX10_cut_1 : decode cX10_cut 1 = .ok (.invokestatic 137, 3) := by decide +kernel
theorem dX10_cut_4 : decode cX10_cut 4 = .ok (.ifCond .ne 6, 3) := by decide +kernel
theorem dX10_cut_7 : decode cX10_cut 7 = .ok (.bipush (-101), 2) := by decide +kernel
theorem dX10_cut_9 : decode cX10_cut 9 = .ok (.ireturn, 1) := by decide +kernel
theorem dX10_cut_10 : decode cX10_cut 10 = .ok (.iload_n 2, 1) := by decide +kernel
theorem dX10_cut_11 : decode cX10_cut 11 = .ok (.invokestatic 140, 3) := by decide +kernel
theorem dX10_cut_14 : decode cX10_cut 14 = .ok (.ifCond .eq 15, 3) := by decide +kernel
theorem dX10_cut_17 : decode cX10_cut 17 = .ok (.iload_n 3, 1) := by decide +kernel
theorem dX10_cut_18 : decode cX10_cut 18 = .ok (.iconst 1, 1) := by decide +kernel
theorem dX10_cut_19 : decode cX10_cut 19 = .ok (.if_icmp .lt 10, 3) := by decide +kernel
theorem dX10_cut_22 : decode cX10_cut 22 = .ok (.iload_n 3, 1) := by decide +kernel
theorem dX10_cut_23 : decode cX10_cut 23 = .ok (.sipush 400, 3) := by decide +kernel
theorem dX10_cut_26 : decode cX10_cut 26 = .ok (.if_icmp .le 6, 3) := by decide +kernel
theorem dX10_cut_29 : decode cX10_cut 29 = .ok (.bipush (-102), 2) := by decide +kernel
theorem dX10_cut_31 : decode cX10_cut 31 = .ok (.ireturn, 1) := by decide +kernel
theorem dX10_cut_32 : decode cX10_cut 32 = .ok (.aload_n 0, 1) := by decide +kernel
theorem dX10_cut_33 : decode cX10_cut 33 = .ok (.iload_n 1, 1) := by decide +kernel
theorem dX10_cut_34 : decode cX10_cut 34 = .ok (.iload_n 2, 1) := by decide +kernel
theorem dX10_cut_35 : decode cX10_cut 35 = .ok (.iload_n 3, 1) := by decide +kernel
theorem dX10_cut_36 : decode cX10_cut 36 = .ok (.invokevirtual 168, 3) := by decide +kernel
theorem dX10_cut_39 : decode cX10_cut 39 = .ok (.ireturn, 1) := by decide +kernel
theorem dX10_worst_0 : decode cX10_worst 0 = .ok (.iload_n 1, 1) := by decide +kernel
theorem dX10_worst_1 : decode cX10_worst 1 = .ok (.invokestatic 137, 3) := by decide +kernel
theorem dX10_worst_4 : decode cX10_worst 4 = .ok (.ifCond .eq 10, 3) := by decide +kernel
theorem dX10_worst_7 : decode cX10_worst 7 = .ok (.iload_n 2, 1) := by decide +kernel
theorem dX10_worst_8 : decode cX10_worst 8 = .ok (.invokestatic 137, 3) := by decide +kernel
theorem dX10_worst_11 : decode cX10_worst 11 = .ok (.ifCond .ne 6, 3) := by decide +kernel
theorem dX10_worst_14 : decode cX10_worst 14 = .ok (.bipush (-101), 2) := by decide +kernel
theorem dX10_worst_16 : decode cX10_worst 16 = .ok (.ireturn, 1) := by decide +kernel
theorem dX10_worst_17 : decode cX10_worst 17 = .ok (.iload_n 3, 1) := by decide +kernel
theorem dX10_worst_18 : decode cX10_worst 18 = .ok (.invokestatic 172, 3) := by decide +kernel
theorem dX10_worst_21 : decode cX10_worst 21 = .ok (.ifCond .eq 13, 3) := by decide +kernel
theorem dX10_worst_24 : decode cX10_worst 24 = .ok (.iload 4, 2) := by decide +kernel
theorem dX10_worst_26 : decode cX10_worst 26 = .ok (.iload 5, 2) := by decide +kernel
theorem dX10_worst_28 : decode cX10_worst 28 = .ok (.invokestatic 143, 3) := by decide +kernel
theorem dX10_worst_31 : decode cX10_worst 31 = .ok (.ifCond .ne 6, 3) := by decide +kernel
theorem dX10_worst_34 : decode cX10_worst 34 = .ok (.bipush (-102), 2) := by decide +kernel
theorem dX10_worst_36 : decode cX10_worst 36 = .ok (.ireturn, 1) := by decide +kernel
theorem dX10_worst_37 : decode cX10_worst 37 = .ok (.aload_n 0, 1) := by decide +kernel
theorem dX10_worst_38 : decode cX10_worst 38 = .ok (.iconst 0, 1) := by decide +kernel
theorem dX10_worst_39 : decode cX10_worst 39 = .ok (.iload_n 3, 1) := by decide +kernel
theorem dX10_worst_40 : decode cX10_worst 40 = .ok (.iconst 1, 1) := by decide +kernel
theorem dX10_worst_41 : decode cX10_worst 41 = .ok (.isub, 1) := by decide +kernel
theorem dX10_worst_42 : decode cX10_worst 42 = .ok (.sipush 400, 3) := by decide +kernel
theorem dX10_worst_45 : decode cX10_worst 45 = .ok (.iadd, 1) := by decide +kernel
theorem dX10_worst_46 : decode cX10_worst 46 = .ok (.iload 4, 2) := by decide +kernel
theorem dX10_worst_48 : decode cX10_worst 48 = .ok (.iload 5, 2) := by decide +kernel
theorem dX10_worst_50 : decode cX10_worst 50 = .ok (.invokevirtual 147, 3) := by decide +kernel
theorem dX10_worst_53 : decode cX10_worst 53 = .ok (.aload_n 0, 1) := by decide +kernel
theorem dX10_worst_54 : decode cX10_worst 54 = .ok (.getfield 47, 3) := by decide +kernel
theorem dX10_worst_57 : decode cX10_worst 57 = .ok (.iload_n 2, 1) := by decide +kernel
theorem dX10_worst_58 : decode cX10_worst 58 = .ok (.invokevirtual 175, 3) := by decide +kernel
theorem dX10_worst_61 : decode cX10_worst 61 = .ok (.aload_n 0, 1) := by decide +kernel
theorem dX10_worst_62 : decode cX10_worst 62 = .ok (.getfield 47, 3) := by decide +kernel
theorem dX10_worst_65 : decode cX10_worst 65 = .ok (.iload_n 1, 1) := by decide +kernel
theorem dX10_worst_66 : decode cX10_worst 66 = .ok (.iload_n 3, 1) := by decide +kernel
theorem dX10_worst_67 : decode cX10_worst 67 = .ok (.invokevirtual 178, 3) := by decide +kernel
theorem dX10_worst_70 : decode cX10_worst 70 = .ok (.ireturn, 1) := by decide +kernel
theorem dX10_mean_0 : decode cX10_mean 0 = .ok (.iload_n 1, 1) := by decide +kernel
theorem dX10_mean_1 : decode cX10_mean 1 = .ok (.invokestatic 137, 3) := by decide +kernel
theorem dX10_mean_4 : decode cX10_mean 4 = .ok (.ifCond .eq 10, 3) := by decide +kernel
theorem dX10_mean_7 : decode cX10_mean 7 = .ok (.iload_n 2, 1) := by decide +kernel
theorem dX10_mean_8 : decode cX10_mean 8 = .ok (.invokestatic 137, 3) := by decide +kernel
theorem dX10_mean_11 : decode cX10_mean 11 = .ok (.ifCond .ne 6, 3) := by decide +kernel
theorem dX10_mean_14 : decode cX10_mean 14 = .ok (.bipush (-101), 2) := by decide +kernel
theorem dX10_mean_16 : decode cX10_mean 16 = .ok (.ireturn, 1) := by decide +kernel
theorem dX10_mean_17 : decode cX10_mean 17 = .ok (.iload_n 3, 1) := by decide +kernel
theorem dX10_mean_18 : decode cX10_mean 18 = .ok (.invokestatic 172, 3) := by decide +kernel
theorem dX10_mean_21 : decode cX10_mean 21 = .ok (.ifCond .eq 24, 3) := by decide +kernel
theorem dX10_mean_24 : decode cX10_mean 24 = .ok (.iload 4, 2) := by decide +kernel
theorem dX10_mean_26 : decode cX10_mean 26 = .ok (.iload 5, 2) := by decide +kernel
theorem dX10_mean_28 : decode cX10_mean 28 = .ok (.invokestatic 143, 3) := by decide +kernel
theorem dX10_mean_31 : decode cX10_mean 31 = .ok (.ifCond .eq 14, 3) := by decide +kernel
theorem dX10_mean_34 : decode cX10_mean 34 = .ok (.iload 6, 2) := by decide +kernel
theorem dX10_mean_36 : decode cX10_mean 36 = .ok (.ifCond .lt 9, 3) := by decide +kernel
theorem dX10_mean_39 : decode cX10_mean 39 = .ok (.iload 6, 2) := by decide +kernel
theorem dX10_mean_41 : decode cX10_mean 41 = .ok (.iconst 1, 1) := by decide +kernel
theorem dX10_mean_42 : decode cX10_mean 42 = .ok (.if_icmp .le 6, 3) := by decide +kernel
theorem dX10_mean_45 : decode cX10_mean 45 = .ok (.bipush (-102), 2) := by decide +kernel
theorem dX10_mean_47 : decode cX10_mean 47 = .ok (.ireturn, 1) := by decide +kernel
theorem dX10_mean_48 : decode cX10_mean 48 = .ok (.aload_n 0, 1) := by decide +kernel
theorem dX10_mean_49 : decode cX10_mean 49 = .ok (.iconst 0, 1) := by decide +kernel
theorem dX10_mean_50 : decode cX10_mean 50 = .ok (.iload_n 3, 1) := by decide +kernel
theorem dX10_mean_51 : decode cX10_mean 51 = .ok (.iconst 1, 1) := by decide +kernel
theorem dX10_mean_52 : decode cX10_mean 52 = .ok (.isub, 1) := by decide +kernel
theorem dX10_mean_53 : decode cX10_mean 53 = .ok (.sipush 400, 3) := by decide +kernel
theorem dX10_mean_56 : decode cX10_mean 56 = .ok (.iadd, 1) := by decide +kernel
theorem dX10_mean_57 : decode cX10_mean 57 = .ok (.iload 4, 2) := by decide +kernel
theorem dX10_mean_59 : decode cX10_mean 59 = .ok (.iload 5, 2) := by decide +kernel
theorem dX10_mean_61 : decode cX10_mean 61 = .ok (.invokevirtual 147, 3) := by decide +kernel
theorem dX10_mean_64 : decode cX10_mean 64 = .ok (.aload_n 0, 1) := by decide +kernel
theorem dX10_mean_65 : decode cX10_mean 65 = .ok (.getfield 47, 3) := by decide +kernel
theorem dX10_mean_68 : decode cX10_mean 68 = .ok (.iload_n 2, 1) := by decide +kernel
theorem dX10_mean_69 : decode cX10_mean 69 = .ok (.invokevirtual 175, 3) := by decide +kernel
theorem dX10_mean_72 : decode cX10_mean 72 = .ok (.aload_n 0, 1) := by decide +kernel
theorem dX10_mean_73 : decode cX10_mean 73 = .ok (.getfield 47, 3) := by decide +kernel
theorem dX10_mean_76 : decode cX10_mean 76 = .ok (.iload_n 1, 1) := by decide +kernel
theorem dX10_mean_77 : decode cX10_mean 77 = .ok (.iload_n 3, 1) := by decide +kernel
theorem dX10_mean_78 : decode cX10_mean 78 = .ok (.invokevirtual 181, 3) := by decide +kernel
theorem dX10_mean_81 : decode cX10_mean 81 = .ok (.istore 7, 2) := by decide +kernel
theorem dX10_mean_83 : decode cX10_mean 83 = .ok (.iload 7, 2) := by decide +kernel
theorem dX10_mean_85 : decode cX10_mean 85 = .ok (.iconst (-1), 1) := by decide +kernel
theorem dX10_mean_86 : decode cX10_mean 86 = .ok (.if_icmp .ne 5, 3) := by decide +kernel
theorem dX10_mean_89 : decode cX10_mean 89 = .ok (.iconst (-1), 1) := by decide +kernel
theorem dX10_mean_90 : decode cX10_mean 90 = .ok (.ireturn, 1) := by decide +kernel
theorem dX10_mean_91 : decode cX10_mean 91 = .ok (.iload 7, 2) := by decide +kernel
theorem dX10_mean_93 : decode cX10_mean 93 = .ok (.i2l, 1) := by decide +kernel
theorem dX10_mean_94 : decode cX10_mean 94 = .ok (.iload_n 3, 1) := by decide +kernel
theorem dX10_mean_95 : decode cX10_mean 95 = .ok (.i2l, 1) := by decide +kernel
theorem dX10_mean_96 : decode cX10_mean 96 = .ok (.invokestatic 164, 3) := by decide +kernel
theorem dX10_mean_99 : decode cX10_mean 99 = .ok (.l2i, 1) := by decide +kernel
theorem dX10_mean_100 : decode cX10_mean 100 = .ok (.istore 8, 2) := by decide +kernel
theorem dX10_mean_102 : decode cX10_mean 102 = .ok (.iload 8, 2) := by decide +kernel
theorem dX10_mean_104 : decode cX10_mean 104 = .ok (.iconst 1, 1) := by decide +kernel
theorem dX10_mean_105 : decode cX10_mean 105 = .ok (.if_icmp .ge 5, 3) := by decide +kernel
theorem dX10_mean_108 : decode cX10_mean 108 = .ok (.iconst (-1), 1) := by decide +kernel
theorem dX10_mean_109 : decode cX10_mean 109 = .ok (.ireturn, 1) := by decide +kernel
theorem dX10_mean_110 : decode cX10_mean 110 = .ok (.iload 6, 2) := by decide +kernel
theorem dX10_mean_112 : decode cX10_mean 112 = .ok (.ifCond .ne 11, 3) := by decide +kernel
theorem dX10_mean_115 : decode cX10_mean 115 = .ok (.iload 7, 2) := by decide +kernel
theorem dX10_mean_117 : decode cX10_mean 117 = .ok (.iload 8, 2) := by decide +kernel
theorem dX10_mean_119 : decode cX10_mean 119 = .ok (.idiv, 1) := by decide +kernel
theorem dX10_mean_120 : decode cX10_mean 120 = .ok (.goto 7, 3) := by decide +kernel
theorem dX10_mean_123 : decode cX10_mean 123 = .ok (.iload_n 3, 1) := by decide +kernel
theorem dX10_mean_124 : decode cX10_mean 124 = .ok (.iload 8, 2) := by decide +kernel
theorem dX10_mean_126 : decode cX10_mean 126 = .ok (.idiv, 1) := by decide +kernel
theorem dX10_mean_127 : decode cX10_mean 127 = .ok (.ireturn, 1) := by decide +kernel
theorem dX10_set_0 : decode cX10_set 0 = .ok (.aload_n 0, 1) := by decide +kernel
theorem dX10_set_1 : decode cX10_set 1 = .ok (.iload_n 1, 1) := by decide +kernel
theorem dX10_set_2 : decode cX10_set 2 = .ok (.invokevirtual 109, 3) := by decide +kernel
theorem dX10_set_5 : decode cX10_set 5 = .ok (.ifCond .eq 17, 3) := by decide +kernel
theorem dX10_set_8 : decode cX10_set 8 = .ok (.iload_n 2, 1) := by decide +kernel
theorem dX10_set_9 : decode cX10_set 9 = .ok (.invokestatic 137, 3) := by decide +kernel
theorem dX10_set_12 : decode cX10_set 12 = .ok (.ifCond .eq 10, 3) := by decide +kernel
theorem dX10_set_15 : decode cX10_set 15 = .ok (.iload_n 3, 1) := by decide +kernel
theorem dX10_set_16 : decode cX10_set 16 = .ok (.invokestatic 137, 3) := by decide +kernel
theorem dX10_set_19 : decode cX10_set 19 = .ok (.ifCond .ne 6, 3) := by decide +kernel
theorem dX10_set_22 : decode cX10_set 22 = .ok (.bipush (-101), 2) := by decide +kernel
theorem dX10_set_24 : decode cX10_set 24 = .ok (.ireturn, 1) := by decide +kernel
theorem dX10_set_25 : decode cX10_set 25 = .ok (.aload_n 0, 1) := by decide +kernel
theorem dX10_set_26 : decode cX10_set 26 = .ok (.getfield 26, 3) := by decide +kernel
theorem dX10_set_29 : decode cX10_set 29 = .ok (.iload_n 1, 1) := by decide +kernel
theorem dX10_set_30 : decode cX10_set 30 = .ok (.invokevirtual 112, 3) := by decide +kernel
theorem dX10_set_33 : decode cX10_set 33 = .ok (.checkcast 116, 3) := by decide +kernel
theorem dX10_set_36 : decode cX10_set 36 = .ok (.astore 4, 2) := by decide +kernel
theorem dX10_set_38 : decode cX10_set 38 = .ok (.aload 4, 2) := by decide +kernel
theorem dX10_set_40 : decode cX10_set 40 = .ok (.instanceof 184, 3) := by decide +kernel
theorem dX10_set_43 : decode cX10_set 43 = .ok (.ifCond .eq 6, 3) := by decide +kernel
theorem dX10_set_46 : decode cX10_set 46 = .ok (.bipush (-103), 2) := by decide +kernel
theorem dX10_set_48 : decode cX10_set 48 = .ok (.ireturn, 1) := by decide +kernel
theorem dX10_set_49 : decode cX10_set 49 = .ok (.aload_n 0, 1) := by decide +kernel
theorem dX10_set_50 : decode cX10_set 50 = .ok (.iconst 0, 1) := by decide +kernel
theorem dX10_set_51 : decode cX10_set 51 = .ok (.sipush 459, 3) := by decide +kernel
theorem dX10_set_54 : decode cX10_set 54 = .ok (.iconst 1, 1) := by decide +kernel
theorem dX10_set_55 : decode cX10_set 55 = .ok (.iconst 1, 1) := by decide +kernel
theorem dX10_set_56 : decode cX10_set 56 = .ok (.invokevirtual 147, 3) := by decide +kernel
theorem dX10_set_59 : decode cX10_set 59 = .ok (.iconst 0, 1) := by decide +kernel
theorem dX10_set_60 : decode cX10_set 60 = .ok (.istore 5, 2) := by decide +kernel
theorem dX10_set_62 : decode cX10_set 62 = .ok (.ldc 155, 2) := by decide +kernel
theorem dX10_set_64 : decode cX10_set 64 = .ok (.istore 6, 2) := by decide +kernel
theorem dX10_set_66 : decode cX10_set 66 = .ok (.iconst 0, 1) := by decide +kernel
theorem dX10_set_67 : decode cX10_set 67 = .ok (.istore 7, 2) := by decide +kernel
theorem dX10_set_69 : decode cX10_set 69 = .ok (.iload 7, 2) := by decide +kernel
theorem dX10_set_71 : decode cX10_set 71 = .ok (.bipush 9, 2) := by decide +kernel
theorem dX10_set_73 : decode cX10_set 73 = .ok (.if_icmp .gt 71, 3) := by decide +kernel
theorem dX10_set_76 : decode cX10_set 76 = .ok (.aload_n 0, 1) := by decide +kernel
theorem dX10_set_77 : decode cX10_set 77 = .ok (.getfield 47, 3) := by decide +kernel
theorem dX10_set_80 : decode cX10_set 80 = .ok (.iload_n 1, 1) := by decide +kernel
theorem dX10_set_81 : decode cX10_set 81 = .ok (.aload 4, 2) := by decide +kernel
theorem dX10_set_83 : decode cX10_set 83 = .ok (.iload 7, 2) := by decide +kernel
theorem dX10_set_85 : decode cX10_set 85 = .ok (.aload_n 0, 1) := by decide +kernel
theorem dX10_set_86 : decode cX10_set 86 = .ok (.getfield 65, 3) := by decide +kernel
theorem dX10_set_89 : decode cX10_set 89 = .ok (.invokevirtual 186, 3) := by decide +kernel
theorem dX10_set_92 : decode cX10_set 92 = .ok (.aload_n 0, 1) := by decide +kernel
theorem dX10_set_93 : decode cX10_set 93 = .ok (.getfield 47, 3) := by decide +kernel
theorem dX10_set_96 : decode cX10_set 96 = .ok (.iload_n 3, 1) := by decide +kernel
theorem dX10_set_97 : decode cX10_set 97 = .ok (.invokevirtual 175, 3) := by decide +kernel
theorem dX10_set_100 : decode cX10_set 100 = .ok (.aload_n 0, 1) := by decide +kernel
theorem dX10_set_101 : decode cX10_set 101 = .ok (.getfield 47, 3) := by decide +kernel
theorem dX10_set_104 : decode cX10_set 104 = .ok (.iload_n 2, 1) := by decide +kernel
theorem dX10_set_105 : decode cX10_set 105 = .ok (.bipush 60, 2) := by decide +kernel
theorem dX10_set_107 : decode cX10_set 107 = .ok (.invokevirtual 178, 3) := by decide +kernel
theorem dX10_set_110 : decode cX10_set 110 = .ok (.istore 8, 2) := by decide +kernel
theorem dX10_set_112 : decode cX10_set 112 = .ok (.iload 8, 2) := by decide +kernel
theorem dX10_set_114 : decode cX10_set 114 = .ok (.iconst (-1), 1) := by decide +kernel
theorem dX10_set_115 : decode cX10_set 115 = .ok (.if_icmp .ne 8, 3) := by decide +kernel
theorem dX10_set_118 : decode cX10_set 118 = .ok (.sipush 1000, 3) := by decide +kernel
theorem dX10_set_121 : decode cX10_set 121 = .ok (.istore 8, 2) := by decide +kernel
theorem dX10_set_123 : decode cX10_set 123 = .ok (.iload 8, 2) := by decide +kernel
theorem dX10_set_125 : decode cX10_set 125 = .ok (.iload 6, 2) := by decide +kernel
theorem dX10_set_127 : decode cX10_set 127 = .ok (.if_icmp .ge 11, 3) := by decide +kernel
theorem dX10_set_130 : decode cX10_set 130 = .ok (.iload 8, 2) := by decide +kernel
theorem dX10_set_132 : decode cX10_set 132 = .ok (.istore 6, 2) := by decide +kernel
theorem dX10_set_134 : decode cX10_set 134 = .ok (.iload 7, 2) := by decide +kernel
theorem dX10_set_136 : decode cX10_set 136 = .ok (.istore 5, 2) := by decide +kernel
theorem dX10_set_138 : decode cX10_set 138 = .ok (.iinc 7 1, 3) := by decide +kernel
theorem dX10_set_141 : decode cX10_set 141 = .ok (.goto (-72), 3) := by decide +kernel
theorem dX10_set_144 : decode cX10_set 144 = .ok (.iload 5, 2) := by decide +kernel
theorem dX10_set_146 : decode cX10_set 146 = .ok (.ireturn, 1) := by decide +kernel
theorem dX10_crowd_0 : decode cX10_crowd 0 = .ok (.iload_n 1, 1) := by decide +kernel
theorem dX10_crowd_1 : decode cX10_crowd 1 = .ok (.invokestatic 137, 3) := by decide +kernel
theorem dX10_crowd_4 : decode cX10_crowd 4 = .ok (.ifCond .eq 10, 3) := by decide +kernel
theorem dX10_crowd_7 : decode cX10_crowd 7 = .ok (.iload_n 2, 1) := by decide +kernel
theorem dX10_crowd_8 : decode cX10_crowd 8 = .ok (.invokestatic 137, 3) := by decide +kernel
theorem dX10_crowd_11 : decode cX10_crowd 11 = .ok (.ifCond .ne 6, 3) := by decide +kernel
theorem dX10_crowd_14 : decode cX10_crowd 14 = .ok (.bipush (-101), 2) := by decide +kernel
theorem dX10_crowd_16 : decode cX10_crowd 16 = .ok (.ireturn, 1) := by decide +kernel
theorem dX10_crowd_17 : decode cX10_crowd 17 = .ok (.iload_n 3, 1) := by decide +kernel
theorem dX10_crowd_18 : decode cX10_crowd 18 = .ok (.invokestatic 140, 3) := by decide +kernel
theorem dX10_crowd_21 : decode cX10_crowd 21 = .ok (.ifCond .eq 18, 3) := by decide +kernel
theorem dX10_crowd_24 : decode cX10_crowd 24 = .ok (.iload 4, 2) := by decide +kernel
theorem dX10_crowd_26 : decode cX10_crowd 26 = .ok (.iload_n 3, 1) := by decide +kernel
theorem dX10_crowd_27 : decode cX10_crowd 27 = .ok (.if_icmp .lt 12, 3) := by decide +kernel
theorem dX10_crowd_30 : decode cX10_crowd 30 = .ok (.iload 4, 2) := by decide +kernel
theorem dX10_crowd_32 : decode cX10_crowd 32 = .ok (.iload_n 3, 1) := by decide +kernel
theorem dX10_crowd_33 : decode cX10_crowd 33 = .ok (.bipush 60, 2) := by decide +kernel
theorem dX10_crowd_35 : decode cX10_crowd 35 = .ok (.iadd, 1) := by decide +kernel
theorem dX10_crowd_36 : decode cX10_crowd 36 = .ok (.if_icmp .le 6, 3) := by decide +kernel
theorem dX10_crowd_39 : decode cX10_crowd 39 = .ok (.bipush (-102), 2) := by decide +kernel
theorem dX10_crowd_41 : decode cX10_crowd 41 = .ok (.ireturn, 1) := by decide +kernel
theorem dX10_crowd_42 : decode cX10_crowd 42 = .ok (.iload 5, 2) := by decide +kernel
theorem dX10_crowd_44 : decode cX10_crowd 44 = .ok (.iload 6, 2) := by decide +kernel
theorem dX10_crowd_46 : decode cX10_crowd 46 = .ok (.invokestatic 143, 3) := by decide +kernel
theorem dX10_crowd_49 : decode cX10_crowd 49 = .ok (.ifCond .ne 6, 3) := by decide +kernel
theorem dX10_crowd_52 : decode cX10_crowd 52 = .ok (.bipush (-102), 2) := by decide +kernel
theorem dX10_crowd_54 : decode cX10_crowd 54 = .ok (.ireturn, 1) := by decide +kernel
theorem dX10_crowd_55 : decode cX10_crowd 55 = .ok (.iload_n 1, 1) := by decide +kernel
theorem dX10_crowd_56 : decode cX10_crowd 56 = .ok (.iload_n 2, 1) := by decide +kernel
theorem dX10_crowd_57 : decode cX10_crowd 57 = .ok (.if_icmp .ne 6, 3) := by decide +kernel
theorem dX10_crowd_60 : decode cX10_crowd 60 = .ok (.bipush (-103), 2) := by decide +kernel
theorem dX10_crowd_62 : decode cX10_crowd 62 = .ok (.ireturn, 1) := by decide +kernel
theorem dX10_crowd_63 : decode cX10_crowd 63 = .ok (.aload_n 0, 1) := by decide +kernel
theorem dX10_crowd_64 : decode cX10_crowd 64 = .ok (.iload_n 3, 1) := by decide +kernel
theorem dX10_crowd_65 : decode cX10_crowd 65 = .ok (.iload 4, 2) := by decide +kernel
theorem dX10_crowd_67 : decode cX10_crowd 67 = .ok (.iload_n 3, 1) := by decide +kernel
theorem dX10_crowd_68 : decode cX10_crowd 68 = .ok (.isub, 1) := by decide +kernel
theorem dX10_crowd_69 : decode cX10_crowd 69 = .ok (.iload 5, 2) := by decide +kernel
theorem dX10_crowd_71 : decode cX10_crowd 71 = .ok (.iload 6, 2) := by decide +kernel
theorem dX10_crowd_73 : decode cX10_crowd 73 = .ok (.invokevirtual 147, 3) := by decide +kernel
theorem dX10_crowd_76 : decode cX10_crowd 76 = .ok (.aload_n 0, 1) := by decide +kernel
theorem dX10_crowd_77 : decode cX10_crowd 77 = .ok (.getfield 54, 3) := by decide +kernel
theorem dX10_crowd_80 : decode cX10_crowd 80 = .ok (.aload_n 0, 1) := by decide +kernel
theorem dX10_crowd_81 : decode cX10_crowd 81 = .ok (.getfield 47, 3) := by decide +kernel
theorem dX10_crowd_84 : decode cX10_crowd 84 = .ok (.iload_n 1, 1) := by decide +kernel
theorem dX10_crowd_85 : decode cX10_crowd 85 = .ok (.iload_n 2, 1) := by decide +kernel
theorem dX10_crowd_86 : decode cX10_crowd 86 = .ok (.invokevirtual 190, 3) := by decide +kernel
theorem dX10_crowd_89 : decode cX10_crowd 89 = .ok (.ireturn, 1) := by decide +kernel
theorem dX10_stranded_0 : decode cX10_stranded 0 = .ok (.aload_n 0, 1) := by decide +kernel
theorem dX10_stranded_1 : decode cX10_stranded 1 = .ok (.iload_n 1, 1) := by decide +kernel
theorem dX10_stranded_2 : decode cX10_stranded 2 = .ok (.invokevirtual 109, 3) := by decide +kernel
theorem dX10_stranded_5 : decode cX10_stranded 5 = .ok (.ifCond .eq 10, 3) := by decide +kernel
theorem dX10_stranded_8 : decode cX10_stranded 8 = .ok (.iload_n 3, 1) := by decide +kernel
theorem dX10_stranded_9 : decode cX10_stranded 9 = .ok (.invokestatic 137, 3) := by decide +kernel
theorem dX10_stranded_12 : decode cX10_stranded 12 = .ok (.ifCond .ne 6, 3) := by decide +kernel
theorem dX10_stranded_15 : decode cX10_stranded 15 = .ok (.bipush (-101), 2) := by decide +kernel
theorem dX10_stranded_17 : decode cX10_stranded 17 = .ok (.ireturn, 1) := by decide +kernel
theorem dX10_stranded_18 : decode cX10_stranded 18 = .ok (.aload_n 0, 1) := by decide +kernel
theorem dX10_stranded_19 : decode cX10_stranded 19 = .ok (.getfield 26, 3) := by decide +kernel
theorem dX10_stranded_22 : decode cX10_stranded 22 = .ok (.iload_n 1, 1) := by decide +kernel
theorem dX10_stranded_23 : decode cX10_stranded 23 = .ok (.invokevirtual 112, 3) := by decide +kernel
theorem dX10_stranded_26 : decode cX10_stranded 26 = .ok (.checkcast 116, 3) := by decide +kernel
theorem dX10_stranded_29 : decode cX10_stranded 29 = .ok (.astore 4, 2) := by decide +kernel
theorem dX10_stranded_31 : decode cX10_stranded 31 = .ok (.iload_n 2, 1) := by decide +kernel
theorem dX10_stranded_32 : decode cX10_stranded 32 = .ok (.ifCond .lt 12, 3) := by decide +kernel
theorem dX10_stranded_35 : decode cX10_stranded 35 = .ok (.iload_n 2, 1) := by decide +kernel
theorem dX10_stranded_36 : decode cX10_stranded 36 = .ok (.aload 4, 2) := by decide +kernel
theorem dX10_stranded_38 : decode cX10_stranded 38 = .ok (.invokevirtual 194, 3) := by decide +kernel
theorem dX10_stranded_41 : decode cX10_stranded 41 = .ok (.if_icmp .lt 6, 3) := by decide +kernel
theorem dX10_stranded_44 : decode cX10_stranded 44 = .ok (.bipush (-102), 2) := by decide +kernel
theorem dX10_stranded_46 : decode cX10_stranded 46 = .ok (.ireturn, 1) := by decide +kernel
theorem dX10_stranded_47 : decode cX10_stranded 47 = .ok (.aload_n 0, 1) := by decide +kernel
theorem dX10_stranded_48 : decode cX10_stranded 48 = .ok (.iconst 0, 1) := by decide +kernel
theorem dX10_stranded_49 : decode cX10_stranded 49 = .ok (.sipush 400, 3) := by decide +kernel
theorem dX10_stranded_52 : decode cX10_stranded 52 = .ok (.iconst 1, 1) := by decide +kernel
theorem dX10_stranded_53 : decode cX10_stranded 53 = .ok (.iconst 1, 1) := by decide +kernel
theorem dX10_stranded_54 : decode cX10_stranded 54 = .ok (.invokevirtual 147, 3) := by decide +kernel
theorem dX10_stranded_57 : decode cX10_stranded 57 = .ok (.aload_n 0, 1) := by decide +kernel
theorem dX10_stranded_58 : decode cX10_stranded 58 = .ok (.getfield 47, 3) := by decide +kernel
theorem dX10_stranded_61 : decode cX10_stranded 61 = .ok (.iload_n 1, 1) := by decide +kernel
theorem dX10_stranded_62 : decode cX10_stranded 62 = .ok (.aload 4, 2) := by decide +kernel
theorem dX10_stranded_64 : decode cX10_stranded 64 = .ok (.getfield 197, 3) := by decide +kernel
theorem dX10_stranded_67 : decode cX10_stranded 67 = .ok (.aload 4, 2) := by decide +kernel
theorem dX10_stranded_69 : decode cX10_stranded 69 = .ok (.iload_n 2, 1) := by decide +kernel
theorem dX10_stranded_70 : decode cX10_stranded 70 = .ok (.invokevirtual 200, 3) := by decide +kernel
theorem dX10_stranded_73 : decode cX10_stranded 73 = .ok (.invokevirtual 204, 3) := by decide +kernel
theorem dX10_stranded_76 : decode cX10_stranded 76 = .ok (.aload_n 0, 1) := by decide +kernel
theorem dX10_stranded_77 : decode cX10_stranded 77 = .ok (.getfield 47, 3) := by decide +kernel
theorem dX10_stranded_80 : decode cX10_stranded 80 = .ok (.iload_n 3, 1) := by decide +kernel
theorem dX10_stranded_81 : decode cX10_stranded 81 = .ok (.iconst 0, 1) := by decide +kernel
theorem dX10_stranded_82 : decode cX10_stranded 82 = .ok (.sipush 255, 3) := by decide +kernel
theorem dX10_stranded_85 : decode cX10_stranded 85 = .ok (.aload_n 0, 1) := by decide +kernel
theorem dX10_stranded_86 : decode cX10_stranded 86 = .ok (.getfield 58, 3) := by decide +kernel
theorem dX10_stranded_89 : decode cX10_stranded 89 = .ok (.invokevirtual 151, 3) := by decide +kernel
theorem dX10_stranded_92 : decode cX10_stranded 92 = .ok (.iconst 0, 1) := by decide +kernel
theorem dX10_stranded_93 : decode cX10_stranded 93 = .ok (.istore 5, 2) := by decide +kernel
theorem dX10_stranded_95 : decode cX10_stranded 95 = .ok (.iconst 0, 1) := by decide +kernel
theorem dX10_stranded_96 : decode cX10_stranded 96 = .ok (.istore 6, 2) := by decide +kernel
theorem dX10_stranded_98 : decode cX10_stranded 98 = .ok (.iload 6, 2) := by decide +kernel
theorem dX10_stranded_100 : decode cX10_stranded 100 = .ok (.bipush 8, 2) := by decide +kernel
theorem dX10_stranded_102 : decode cX10_stranded 102 = .ok (.if_icmp .ge 30, 3) := by decide +kernel
theorem dX10_stranded_105 : decode cX10_stranded 105 = .ok (.aload_n 0, 1) := by decide +kernel
theorem dX10_stranded_106 : decode cX10_stranded 106 = .ok (.getfield 58, 3) := by decide +kernel
theorem dX10_stranded_109 : decode cX10_stranded 109 = .ok (.iload 6, 2) := by decide +kernel
theorem dX10_stranded_111 : decode cX10_stranded 111 = .ok (.iaload, 1) := by decide +kernel
theorem dX10_stranded_112 : decode cX10_stranded 112 = .ok (.ldc 155, 2) := by decide +kernel
theorem dX10_stranded_114 : decode cX10_stranded 114 = .ok (.if_icmp .ne 12, 3) := by decide +kernel
theorem dX10_stranded_117 : decode cX10_stranded 117 = .ok (.iload 5, 2) := by decide +kernel
theorem dX10_stranded_119 : decode cX10_stranded 119 = .ok (.iconst 1, 1) := by decide +kernel
theorem dX10_stranded_120 : decode cX10_stranded 120 = .ok (.iload 6, 2) := by decide +kernel
theorem dX10_stranded_122 : decode cX10_stranded 122 = .ok (.ishl, 1) := by decide +kernel
theorem dX10_stranded_123 : decode cX10_stranded 123 = .ok (.ior, 1) := by decide +kernel
theorem dX10_stranded_124 : decode cX10_stranded 124 = .ok (.istore 5, 2) := by decide +kernel
theorem dX10_stranded_126 : decode cX10_stranded 126 = .ok (.iinc 6 1, 3) := by decide +kernel
theorem dX10_stranded_129 : decode cX10_stranded 129 = .ok (.goto (-31), 3) := by decide +kernel
theorem dX10_stranded_132 : decode cX10_stranded 132 = .ok (.iload 5, 2) := by decide +kernel
theorem dX10_stranded_134 : decode cX10_stranded 134 = .ok (.ireturn, 1) := by decide +kernel
theorem dX10_meeting_0 : decode cX10_meeting 0 = .ok (.iload_n 1, 1) := by decide +kernel
theorem dX10_meeting_1 : decode cX10_meeting 1 = .ok (.invokestatic 137, 3) := by decide +kernel
theorem dX10_meeting_4 : decode cX10_meeting 4 = .ok (.ifCond .eq 10, 3) := by decide +kernel
theorem dX10_meeting_7 : decode cX10_meeting 7 = .ok (.iload_n 2, 1) := by decide +kernel
theorem dX10_meeting_8 : decode cX10_meeting 8 = .ok (.invokestatic 137, 3) := by decide +kernel
theorem dX10_meeting_11 : decode cX10_meeting 11 = .ok (.ifCond .ne 6, 3) := by decide +kernel
theorem dX10_meeting_14 : decode cX10_meeting 14 = .ok (.bipush (-101), 2) := by decide +kernel
theorem dX10_meeting_16 : decode cX10_meeting 16 = .ok (.ireturn, 1) := by decide +kernel
theorem dX10_meeting_17 : decode cX10_meeting 17 = .ok (.iload_n 3, 1) := by decide +kernel
theorem dX10_meeting_18 : decode cX10_meeting 18 = .ok (.invokestatic 140, 3) := by decide +kernel
theorem dX10_meeting_21 : decode cX10_meeting 21 = .ok (.ifCond .eq 24, 3) := by decide +kernel
theorem dX10_meeting_24 : decode cX10_meeting 24 = .ok (.iload 4, 2) := by decide +kernel
theorem dX10_meeting_26 : decode cX10_meeting 26 = .ok (.iload 5, 2) := by decide +kernel
theorem dX10_meeting_28 : decode cX10_meeting 28 = .ok (.invokestatic 143, 3) := by decide +kernel
theorem dX10_meeting_31 : decode cX10_meeting 31 = .ok (.ifCond .eq 14, 3) := by decide +kernel
theorem dX10_meeting_34 : decode cX10_meeting 34 = .ok (.iload 6, 2) := by decide +kernel
theorem dX10_meeting_36 : decode cX10_meeting 36 = .ok (.ifCond .lt 9, 3) := by decide +kernel
theorem dX10_meeting_39 : decode cX10_meeting 39 = .ok (.iload 6, 2) := by decide +kernel
theorem dX10_meeting_41 : decode cX10_meeting 41 = .ok (.iconst 1, 1) := by decide +kernel
theorem dX10_meeting_42 : decode cX10_meeting 42 = .ok (.if_icmp .le 6, 3) := by decide +kernel
theorem dX10_meeting_45 : decode cX10_meeting 45 = .ok (.bipush (-102), 2) := by decide +kernel
theorem dX10_meeting_47 : decode cX10_meeting 47 = .ok (.ireturn, 1) := by decide +kernel
theorem dX10_meeting_48 : decode cX10_meeting 48 = .ok (.aload_n 0, 1) := by decide +kernel
theorem dX10_meeting_49 : decode cX10_meeting 49 = .ok (.iload_n 3, 1) := by decide +kernel
theorem dX10_meeting_50 : decode cX10_meeting 50 = .ok (.sipush 400, 3) := by decide +kernel
theorem dX10_meeting_53 : decode cX10_meeting 53 = .ok (.iload 4, 2) := by decide +kernel
theorem dX10_meeting_55 : decode cX10_meeting 55 = .ok (.iload 5, 2) := by decide +kernel
theorem dX10_meeting_57 : decode cX10_meeting 57 = .ok (.invokevirtual 147, 3) := by decide +kernel
theorem dX10_meeting_60 : decode cX10_meeting 60 = .ok (.aload_n 0, 1) := by decide +kernel
theorem dX10_meeting_61 : decode cX10_meeting 61 = .ok (.getfield 47, 3) := by decide +kernel
theorem dX10_meeting_64 : decode cX10_meeting 64 = .ok (.iload_n 1, 1) := by decide +kernel
theorem dX10_meeting_65 : decode cX10_meeting 65 = .ok (.iconst 0, 1) := by decide +kernel
theorem dX10_meeting_66 : decode cX10_meeting 66 = .ok (.sipush 255, 3) := by decide +kernel
theorem dX10_meeting_69 : decode cX10_meeting 69 = .ok (.aload_n 0, 1) := by decide +kernel
theorem dX10_meeting_70 : decode cX10_meeting 70 = .ok (.getfield 58, 3) := by decide +kernel
theorem dX10_meeting_73 : decode cX10_meeting 73 = .ok (.invokevirtual 151, 3) := by decide +kernel
theorem dX10_meeting_76 : decode cX10_meeting 76 = .ok (.aload_n 0, 1) := by decide +kernel
theorem dX10_meeting_77 : decode cX10_meeting 77 = .ok (.getfield 47, 3) := by decide +kernel
theorem dX10_meeting_80 : decode cX10_meeting 80 = .ok (.iload_n 2, 1) := by decide +kernel
theorem dX10_meeting_81 : decode cX10_meeting 81 = .ok (.iconst 0, 1) := by decide +kernel
theorem dX10_meeting_82 : decode cX10_meeting 82 = .ok (.sipush 255, 3) := by decide +kernel
theorem dX10_meeting_85 : decode cX10_meeting 85 = .ok (.aload_n 0, 1) := by decide +kernel
theorem dX10_meeting_86 : decode cX10_meeting 86 = .ok (.getfield 62, 3) := by decide +kernel
theorem dX10_meeting_89 : decode cX10_meeting 89 = .ok (.invokevirtual 151, 3) := by decide +kernel
theorem dX10_meeting_92 : decode cX10_meeting 92 = .ok (.iconst (-1), 1) := by decide +kernel
theorem dX10_meeting_93 : decode cX10_meeting 93 = .ok (.istore 7, 2) := by decide +kernel
theorem dX10_meeting_95 : decode cX10_meeting 95 = .ok (.ldc 155, 2) := by decide +kernel
theorem dX10_meeting_97 : decode cX10_meeting 97 = .ok (.istore 8, 2) := by decide +kernel
theorem dX10_meeting_99 : decode cX10_meeting 99 = .ok (.iconst 0, 1) := by decide +kernel
theorem dX10_meeting_100 : decode cX10_meeting 100 = .ok (.istore 9, 2) := by decide +kernel
theorem dX10_meeting_102 : decode cX10_meeting 102 = .ok (.iload 9, 2) := by decide +kernel
theorem dX10_meeting_104 : decode cX10_meeting 104 = .ok (.bipush 8, 2) := by decide +kernel
theorem dX10_meeting_106 : decode cX10_meeting 106 = .ok (.if_icmp .ge 43, 3) := by decide +kernel
theorem dX10_meeting_109 : decode cX10_meeting 109 = .ok (.aload_n 0, 1) := by decide +kernel
theorem dX10_meeting_110 : decode cX10_meeting 110 = .ok (.getfield 58, 3) := by decide +kernel
theorem dX10_meeting_113 : decode cX10_meeting 113 = .ok (.iload 9, 2) := by decide +kernel
theorem dX10_meeting_115 : decode cX10_meeting 115 = .ok (.iaload, 1) := by decide +kernel
theorem dX10_meeting_116 : decode cX10_meeting 116 = .ok (.aload_n 0, 1) := by decide +kernel
theorem dX10_meeting_117 : decode cX10_meeting 117 = .ok (.getfield 62, 3) := by decide +kernel
theorem dX10_meeting_120 : decode cX10_meeting 120 = .ok (.iload 9, 2) := by decide +kernel
theorem dX10_meeting_122 : decode cX10_meeting 122 = .ok (.iaload, 1) := by decide +kernel
theorem dX10_meeting_123 : decode cX10_meeting 123 = .ok (.invokestatic 208, 3) := by decide +kernel
theorem dX10_meeting_126 : decode cX10_meeting 126 = .ok (.istore 10, 2) := by decide +kernel
theorem dX10_meeting_128 : decode cX10_meeting 128 = .ok (.iload 10, 2) := by decide +kernel
theorem dX10_meeting_130 : decode cX10_meeting 130 = .ok (.iload 8, 2) := by decide +kernel
theorem dX10_meeting_132 : decode cX10_meeting 132 = .ok (.if_icmp .ge 11, 3) := by decide +kernel
theorem dX10_meeting_135 : decode cX10_meeting 135 = .ok (.iload 10, 2) := by decide +kernel
theorem dX10_meeting_137 : decode cX10_meeting 137 = .ok (.istore 8, 2) := by decide +kernel
theorem dX10_meeting_139 : decode cX10_meeting 139 = .ok (.iload 9, 2) := by decide +kernel
theorem dX10_meeting_141 : decode cX10_meeting 141 = .ok (.istore 7, 2) := by decide +kernel
theorem dX10_meeting_143 : decode cX10_meeting 143 = .ok (.iinc 9 1, 3) := by decide +kernel
theorem dX10_meeting_146 : decode cX10_meeting 146 = .ok (.goto (-44), 3) := by decide +kernel
theorem dX10_meeting_149 : decode cX10_meeting 149 = .ok (.iload 7, 2) := by decide +kernel
theorem dX10_meeting_151 : decode cX10_meeting 151 = .ok (.iconst (-1), 1) := by decide +kernel
theorem dX10_meeting_152 : decode cX10_meeting 152 = .ok (.if_icmp .ne 5, 3) := by decide +kernel
theorem dX10_meeting_155 : decode cX10_meeting 155 = .ok (.iconst (-1), 1) := by decide +kernel
theorem dX10_meeting_156 : decode cX10_meeting 156 = .ok (.ireturn, 1) := by decide +kernel
theorem dX10_meeting_157 : decode cX10_meeting 157 = .ok (.iload 6, 2) := by decide +kernel
theorem dX10_meeting_159 : decode cX10_meeting 159 = .ok (.ifCond .ne 8, 3) := by decide +kernel
theorem dX10_meeting_162 : decode cX10_meeting 162 = .ok (.iload 7, 2) := by decide +kernel
theorem dX10_meeting_164 : decode cX10_meeting 164 = .ok (.goto 7, 3) := by decide +kernel
theorem dX10_meeting_167 : decode cX10_meeting 167 = .ok (.iload_n 3, 1) := by decide +kernel
theorem dX10_meeting_168 : decode cX10_meeting 168 = .ok (.iload 8, 2) := by decide +kernel
theorem dX10_meeting_170 : decode cX10_meeting 170 = .ok (.iadd, 1) := by decide +kernel
theorem dX10_meeting_171 : decode cX10_meeting 171 = .ok (.ireturn, 1) := by decide +kernel
theorem dX10_note_0 : decode cX10_note 0 = .ok (.iload_n 1, 1) := by decide +kernel
theorem dX10_note_1 : decode cX10_note 1 = .ok (.invokestatic 137, 3) := by decide +kernel
theorem dX10_note_4 : decode cX10_note 4 = .ok (.ifCond .eq 10, 3) := by decide +kernel
theorem dX10_note_7 : decode cX10_note 7 = .ok (.iload_n 3, 1) := by decide +kernel
theorem dX10_note_8 : decode cX10_note 8 = .ok (.invokestatic 137, 3) := by decide +kernel
theorem dX10_note_11 : decode cX10_note 11 = .ok (.ifCond .ne 6, 3) := by decide +kernel
theorem dX10_note_14 : decode cX10_note 14 = .ok (.bipush (-101), 2) := by decide +kernel
theorem dX10_note_16 : decode cX10_note 16 = .ok (.ireturn, 1) := by decide +kernel
theorem dX10_note_17 : decode cX10_note 17 = .ok (.iload_n 2, 1) := by decide +kernel
theorem dX10_note_18 : decode cX10_note 18 = .ok (.ifCond .lt 9, 3) := by decide +kernel
theorem dX10_note_21 : decode cX10_note 21 = .ok (.iload_n 2, 1) := by decide +kernel
theorem dX10_note_22 : decode cX10_note 22 = .ok (.bipush 99, 2) := by decide +kernel
theorem dX10_note_24 : decode cX10_note 24 = .ok (.if_icmp .le 6, 3) := by decide +kernel
theorem dX10_note_27 : decode cX10_note 27 = .ok (.bipush (-102), 2) := by decide +kernel
theorem dX10_note_29 : decode cX10_note 29 = .ok (.ireturn, 1) := by decide +kernel
theorem dX10_note_30 : decode cX10_note 30 = .ok (.iload 4, 2) := by decide +kernel
theorem dX10_note_32 : decode cX10_note 32 = .ok (.iload_n 2, 1) := by decide +kernel
theorem dX10_note_33 : decode cX10_note 33 = .ok (.if_icmp .lt 13, 3) := by decide +kernel
theorem dX10_note_36 : decode cX10_note 36 = .ok (.iload 4, 2) := by decide +kernel
theorem dX10_note_38 : decode cX10_note 38 = .ok (.iload_n 2, 1) := by decide +kernel
theorem dX10_note_39 : decode cX10_note 39 = .ok (.sipush 400, 3) := by decide +kernel
theorem dX10_note_42 : decode cX10_note 42 = .ok (.iadd, 1) := by decide +kernel
theorem dX10_note_43 : decode cX10_note 43 = .ok (.if_icmp .le 6, 3) := by decide +kernel
theorem dX10_note_46 : decode cX10_note 46 = .ok (.bipush (-102), 2) := by decide +kernel
theorem dX10_note_48 : decode cX10_note 48 = .ok (.ireturn, 1) := by decide +kernel
theorem dX10_note_49 : decode cX10_note 49 = .ok (.aload_n 0, 1) := by decide +kernel
theorem dX10_note_50 : decode cX10_note 50 = .ok (.getfield 33, 3) := by decide +kernel
theorem dX10_note_53 : decode cX10_note 53 = .ok (.invokevirtual 213, 3) := by decide +kernel
theorem dX10_note_56 : decode cX10_note 56 = .ok (.ifCond .eq 6, 3) := by decide +kernel
theorem dX10_note_59 : decode cX10_note 59 = .ok (.bipush (-104), 2) := by decide +kernel
theorem dX10_note_61 : decode cX10_note 61 = .ok (.ireturn, 1) := by decide +kernel
theorem dX10_note_62 : decode cX10_note 62 = .ok (.aload_n 0, 1) := by decide +kernel
theorem dX10_note_63 : decode cX10_note 63 = .ok (.getfield 33, 3) := by decide +kernel
theorem dX10_note_66 : decode cX10_note 66 = .ok (.iload_n 1, 1) := by decide +kernel
theorem dX10_note_67 : decode cX10_note 67 = .ok (.iload_n 2, 1) := by decide +kernel
theorem dX10_note_68 : decode cX10_note 68 = .ok (.iload_n 3, 1) := by decide +kernel
theorem dX10_note_69 : decode cX10_note 69 = .ok (.iload 4, 2) := by decide +kernel
theorem dX10_note_71 : decode cX10_note 71 = .ok (.invokevirtual 216, 3) := by decide +kernel
theorem dX10_note_74 : decode cX10_note 74 = .ok (.ireturn, 1) := by decide +kernel
theorem dX10_forget_0 : decode cX10_forget 0 = .ok (.aload_n 0, 1) := by decide +kernel
theorem dX10_forget_1 : decode cX10_forget 1 = .ok (.getfield 33, 3) := by decide +kernel
theorem dX10_forget_4 : decode cX10_forget 4 = .ok (.invokevirtual 219, 3) := by decide +kernel
theorem dX10_forget_7 : decode cX10_forget 7 = .ok (.ireturn, 1) := by decide +kernel
theorem dX10_lost_0 : decode cX10_lost 0 = .ok (.aload_n 0, 1) := by decide +kernel
theorem dX10_lost_1 : decode cX10_lost 1 = .ok (.iload_n 1, 1) := by decide +kernel
theorem dX10_lost_2 : decode cX10_lost 2 = .ok (.invokevirtual 109, 3) := by decide +kernel
theorem dX10_lost_5 : decode cX10_lost 5 = .ok (.ifCond .ne 6, 3) := by decide +kernel
theorem dX10_lost_8 : decode cX10_lost 8 = .ok (.bipush (-101), 2) := by decide +kernel
theorem dX10_lost_10 : decode cX10_lost 10 = .ok (.ireturn, 1) := by decide +kernel
theorem dX10_lost_11 : decode cX10_lost 11 = .ok (.aload_n 0, 1) := by decide +kernel
theorem dX10_lost_12 : decode cX10_lost 12 = .ok (.getfield 26, 3) := by decide +kernel
theorem dX10_lost_15 : decode cX10_lost 15 = .ok (.iload_n 1, 1) := by decide +kernel
theorem dX10_lost_16 : decode cX10_lost 16 = .ok (.invokevirtual 112, 3) := by decide +kernel
theorem dX10_lost_19 : decode cX10_lost 19 = .ok (.checkcast 116, 3) := by decide +kernel
theorem dX10_lost_22 : decode cX10_lost 22 = .ok (.astore_n 2, 1) := by decide +kernel
theorem dX10_lost_23 : decode cX10_lost 23 = .ok (.aload_n 0, 1) := by decide +kernel
theorem dX10_lost_24 : decode cX10_lost 24 = .ok (.iconst 0, 1) := by decide +kernel
theorem dX10_lost_25 : decode cX10_lost 25 = .ok (.sipush 499, 3) := by decide +kernel
theorem dX10_lost_28 : decode cX10_lost 28 = .ok (.iconst 1, 1) := by decide +kernel
theorem dX10_lost_29 : decode cX10_lost 29 = .ok (.iconst 1, 1) := by decide +kernel
theorem dX10_lost_30 : decode cX10_lost 30 = .ok (.invokevirtual 147, 3) := by decide +kernel
theorem dX10_lost_33 : decode cX10_lost 33 = .ok (.aload_n 2, 1) := by decide +kernel
theorem dX10_lost_34 : decode cX10_lost 34 = .ok (.instanceof 184, 3) := by decide +kernel
theorem dX10_lost_37 : decode cX10_lost 37 = .ok (.ifCond .eq 16, 3) := by decide +kernel
theorem dX10_lost_40 : decode cX10_lost 40 = .ok (.aload_n 0, 1) := by decide +kernel
theorem dX10_lost_41 : decode cX10_lost 41 = .ok (.invokevirtual 220, 3) := by decide +kernel
theorem dX10_lost_44 : decode cX10_lost 44 = .ok (.ifCond .eq 7, 3) := by decide +kernel
theorem dX10_lost_47 : decode cX10_lost 47 = .ok (.iconst 1, 1) := by decide +kernel
theorem dX10_lost_48 : decode cX10_lost 48 = .ok (.goto 4, 3) := by decide +kernel
theorem dX10_lost_51 : decode cX10_lost 51 = .ok (.iconst 0, 1) := by decide +kernel
theorem dX10_lost_52 : decode cX10_lost 52 = .ok (.ireturn, 1) := by decide +kernel
theorem dX10_lost_53 : decode cX10_lost 53 = .ok (.aload_n 2, 1) := by decide +kernel
theorem dX10_lost_54 : decode cX10_lost 54 = .ok (.aload_n 0, 1) := by decide +kernel
theorem dX10_lost_55 : decode cX10_lost 55 = .ok (.getfield 65, 3) := by decide +kernel
theorem dX10_lost_58 : decode cX10_lost 58 = .ok (.invokevirtual 160, 3) := by decide +kernel
theorem dX10_lost_61 : decode cX10_lost 61 = .ok (.istore_n 3, 1) := by decide +kernel
theorem dX10_lost_62 : decode cX10_lost 62 = .ok (.iload_n 3, 1) := by decide +kernel
theorem dX10_lost_63 : decode cX10_lost 63 = .ok (.iconst 1, 1) := by decide +kernel
theorem dX10_lost_64 : decode cX10_lost 64 = .ok (.if_icmp .ge 5, 3) := by decide +kernel
theorem dX10_lost_67 : decode cX10_lost 67 = .ok (.iconst 0, 1) := by decide +kernel
theorem dX10_lost_68 : decode cX10_lost 68 = .ok (.ireturn, 1) := by decide +kernel
theorem dX10_lost_69 : decode cX10_lost 69 = .ok (.iconst 0, 1) := by decide +kernel
theorem dX10_lost_70 : decode cX10_lost 70 = .ok (.istore 4, 2) := by decide +kernel
theorem dX10_lost_72 : decode cX10_lost 72 = .ok (.iconst 0, 1) := by decide +kernel
theorem dX10_lost_73 : decode cX10_lost 73 = .ok (.istore 5, 2) := by decide +kernel
theorem dX10_lost_75 : decode cX10_lost 75 = .ok (.iload 5, 2) := by decide +kernel
theorem dX10_lost_77 : decode cX10_lost 77 = .ok (.bipush 9, 2) := by decide +kernel
theorem dX10_lost_79 : decode cX10_lost 79 = .ok (.if_icmp .gt 49, 3) := by decide +kernel
theorem dX10_lost_82 : decode cX10_lost 82 = .ok (.aload_n 0, 1) := by decide +kernel
theorem dX10_lost_83 : decode cX10_lost 83 = .ok (.getfield 47, 3) := by decide +kernel
theorem dX10_lost_86 : decode cX10_lost 86 = .ok (.iload_n 1, 1) := by decide +kernel
theorem dX10_lost_87 : decode cX10_lost 87 = .ok (.aload_n 2, 1) := by decide +kernel
theorem dX10_lost_88 : decode cX10_lost 88 = .ok (.aload_n 2, 1) := by decide +kernel
theorem dX10_lost_89 : decode cX10_lost 89 = .ok (.getfield 126, 3) := by decide +kernel
theorem dX10_lost_92 : decode cX10_lost 92 = .ok (.iload 5, 2) := by decide +kernel
theorem dX10_lost_94 : decode cX10_lost 94 = .ok (.isub, 1) := by decide +kernel
theorem dX10_lost_95 : decode cX10_lost 95 = .ok (.iload_n 3, 1) := by decide +kernel
theorem dX10_lost_96 : decode cX10_lost 96 = .ok (.invokestatic 223, 3) := by decide +kernel
theorem dX10_lost_99 : decode cX10_lost 99 = .ok (.aload_n 0, 1) := by decide +kernel
theorem dX10_lost_100 : decode cX10_lost 100 = .ok (.getfield 65, 3) := by decide +kernel
theorem dX10_lost_103 : decode cX10_lost 103 = .ok (.invokevirtual 186, 3) := by decide +kernel
theorem dX10_lost_106 : decode cX10_lost 106 = .ok (.aload_n 0, 1) := by decide +kernel
theorem dX10_lost_107 : decode cX10_lost 107 = .ok (.invokevirtual 220, 3) := by decide +kernel
theorem dX10_lost_110 : decode cX10_lost 110 = .ok (.ifCond .eq 12, 3) := by decide +kernel
theorem dX10_lost_113 : decode cX10_lost 113 = .ok (.iload 4, 2) := by decide +kernel
theorem dX10_lost_115 : decode cX10_lost 115 = .ok (.iconst 1, 1) := by decide +kernel
theorem dX10_lost_116 : decode cX10_lost 116 = .ok (.iload 5, 2) := by decide +kernel
theorem dX10_lost_118 : decode cX10_lost 118 = .ok (.ishl, 1) := by decide +kernel
theorem dX10_lost_119 : decode cX10_lost 119 = .ok (.ior, 1) := by decide +kernel
theorem dX10_lost_120 : decode cX10_lost 120 = .ok (.istore 4, 2) := by decide +kernel
theorem dX10_lost_122 : decode cX10_lost 122 = .ok (.iinc 5 1, 3) := by decide +kernel
theorem dX10_lost_125 : decode cX10_lost 125 = .ok (.goto (-50), 3) := by decide +kernel
theorem dX10_lost_128 : decode cX10_lost 128 = .ok (.iload 4, 2) := by decide +kernel
theorem dX10_lost_130 : decode cX10_lost 130 = .ok (.ireturn, 1) := by decide +kernel
theorem dX10_worth_0 : decode cX10_worth 0 = .ok (.aload_n 0, 1) := by decide +kernel
theorem dX10_worth_1 : decode cX10_worth 1 = .ok (.iload_n 1, 1) := by decide +kernel
theorem dX10_worth_2 : decode cX10_worth 2 = .ok (.invokevirtual 109, 3) := by decide +kernel
theorem dX10_worth_5 : decode cX10_worth 5 = .ok (.ifCond .ne 6, 3) := by decide +kernel
theorem dX10_worth_8 : decode cX10_worth 8 = .ok (.bipush (-101), 2) := by decide +kernel
theorem dX10_worth_10 : decode cX10_worth 10 = .ok (.ireturn, 1) := by decide +kernel
theorem dX10_worth_11 : decode cX10_worth 11 = .ok (.iload_n 2, 1) := by decide +kernel
theorem dX10_worth_12 : decode cX10_worth 12 = .ok (.iload_n 3, 1) := by decide +kernel
theorem dX10_worth_13 : decode cX10_worth 13 = .ok (.invokestatic 143, 3) := by decide +kernel
theorem dX10_worth_16 : decode cX10_worth 16 = .ok (.ifCond .ne 6, 3) := by decide +kernel
theorem dX10_worth_19 : decode cX10_worth 19 = .ok (.bipush (-102), 2) := by decide +kernel
theorem dX10_worth_21 : decode cX10_worth 21 = .ok (.ireturn, 1) := by decide +kernel
theorem dX10_worth_22 : decode cX10_worth 22 = .ok (.aload_n 0, 1) := by decide +kernel
theorem dX10_worth_23 : decode cX10_worth 23 = .ok (.iconst 0, 1) := by decide +kernel
theorem dX10_worth_24 : decode cX10_worth 24 = .ok (.sipush 400, 3) := by decide +kernel
theorem dX10_worth_27 : decode cX10_worth 27 = .ok (.iload_n 2, 1) := by decide +kernel
theorem dX10_worth_28 : decode cX10_worth 28 = .ok (.iload_n 3, 1) := by decide +kernel
theorem dX10_worth_29 : decode cX10_worth 29 = .ok (.invokevirtual 147, 3) := by decide +kernel
theorem dX10_worth_32 : decode cX10_worth 32 = .ok (.aload_n 0, 1) := by decide +kernel
theorem dX10_worth_33 : decode cX10_worth 33 = .ok (.invokevirtual 226, 3) := by decide +kernel
theorem dX10_worth_36 : decode cX10_worth 36 = .ok (.istore 4, 2) := by decide +kernel
theorem dX10_worth_38 : decode cX10_worth 38 = .ok (.aload_n 0, 1) := by decide +kernel
theorem dX10_worth_39 : decode cX10_worth 39 = .ok (.getfield 47, 3) := by decide +kernel
theorem dX10_worth_42 : decode cX10_worth 42 = .ok (.iload_n 1, 1) := by decide +kernel
theorem dX10_worth_43 : decode cX10_worth 43 = .ok (.invokevirtual 229, 3) := by decide +kernel
theorem dX10_worth_46 : decode cX10_worth 46 = .ok (.aload_n 0, 1) := by decide +kernel
theorem dX10_worth_47 : decode cX10_worth 47 = .ok (.invokevirtual 226, 3) := by decide +kernel
theorem dX10_worth_50 : decode cX10_worth 50 = .ok (.iload 4, 2) := by decide +kernel
theorem dX10_worth_52 : decode cX10_worth 52 = .ok (.isub, 1) := by decide +kernel
theorem dX10_worth_53 : decode cX10_worth 53 = .ok (.ireturn, 1) := by decide +kernel
theorem dX10_image_0 : decode cX10_image 0 = .ok (.aload_n 0, 1) := by decide +kernel
theorem dX10_image_1 : decode cX10_image 1 = .ok (.getfield 40, 3) := by decide +kernel
theorem dX10_image_4 : decode cX10_image 4 = .ok (.aload_n 0, 1) := by decide +kernel
theorem dX10_image_5 : decode cX10_image 5 = .ok (.getfield 26, 3) := by decide +kernel
theorem dX10_image_8 : decode cX10_image 8 = .ok (.aload_n 0, 1) := by decide +kernel
theorem dX10_image_9 : decode cX10_image 9 = .ok (.getfield 65, 3) := by decide +kernel
theorem dX10_image_12 : decode cX10_image 12 = .ok (.aload_n 0, 1) := by decide +kernel
theorem dX10_image_13 : decode cX10_image 13 = .ok (.getfield 33, 3) := by decide +kernel
theorem dX10_image_16 : decode cX10_image 16 = .ok (.invokevirtual 232, 3) := by decide +kernel
theorem dX10_image_19 : decode cX10_image 19 = .ok (.aload_n 0, 1) := by decide +kernel
theorem dX10_image_20 : decode cX10_image 20 = .ok (.getfield 26, 3) := by decide +kernel
theorem dX10_image_23 : decode cX10_image 23 = .ok (.invokevirtual 100, 3) := by decide +kernel
theorem dX10_image_26 : decode cX10_image 26 = .ok (.ireturn, 1) := by decide +kernel
theorem dX10_restore_0 : decode cX10_restore 0 = .ok (.aload_n 0, 1) := by decide +kernel
theorem dX10_restore_1 : decode cX10_restore 1 = .ok (.getfield 40, 3) := by decide +kernel
theorem dX10_restore_4 : decode cX10_restore 4 = .ok (.invokevirtual 236, 3) := by decide +kernel
theorem dX10_restore_7 : decode cX10_restore 7 = .ok (.ifCond .ne 6, 3) := by decide +kernel
theorem dX10_restore_10 : decode cX10_restore 10 = .ok (.bipush (-103), 2) := by decide +kernel
theorem dX10_restore_12 : decode cX10_restore 12 = .ok (.ireturn, 1) := by decide +kernel
theorem dX10_restore_13 : decode cX10_restore 13 = .ok (.aload_n 0, 1) := by decide +kernel
theorem dX10_restore_14 : decode cX10_restore 14 = .ok (.getfield 40, 3) := by decide +kernel
theorem dX10_restore_17 : decode cX10_restore 17 = .ok (.aload_n 0, 1) := by decide +kernel
theorem dX10_restore_18 : decode cX10_restore 18 = .ok (.getfield 26, 3) := by decide +kernel
theorem dX10_restore_21 : decode cX10_restore 21 = .ok (.aload_n 0, 1) := by decide +kernel
theorem dX10_restore_22 : decode cX10_restore 22 = .ok (.getfield 33, 3) := by decide +kernel
theorem dX10_restore_25 : decode cX10_restore 25 = .ok (.invokevirtual 239, 3) := by decide +kernel
theorem dX10_restore_28 : decode cX10_restore 28 = .ok (.aload_n 0, 1) := by decide +kernel
theorem dX10_restore_29 : decode cX10_restore 29 = .ok (.aload_n 0, 1) := by decide +kernel
theorem dX10_restore_30 : decode cX10_restore 30 = .ok (.getfield 40, 3) := by decide +kernel
theorem dX10_restore_33 : decode cX10_restore 33 = .ok (.invokevirtual 243, 3) := by decide +kernel
theorem dX10_restore_36 : decode cX10_restore 36 = .ok (.putfield 65, 3) := by decide +kernel
theorem dX10_restore_39 : decode cX10_restore 39 = .ok (.aload_n 0, 1) := by decide +kernel
theorem dX10_restore_40 : decode cX10_restore 40 = .ok (.getfield 26, 3) := by decide +kernel
theorem dX10_restore_43 : decode cX10_restore 43 = .ok (.invokevirtual 100, 3) := by decide +kernel
theorem dX10_restore_46 : decode cX10_restore 46 = .ok (.ireturn, 1) := by decide +kernel
theorem dX10_count_0 : decode cX10_count 0 = .ok (.iload_n 1, 1) := by decide +kernel
theorem dX10_count_1 : decode cX10_count 1 = .ok (.tableswitch 77 0 4 #[35, 43, 56, 64, 72], 35) := by decide +kernel
theorem dX10_count_36 : decode cX10_count 36 = .ok (.aload_n 0, 1) := by decide +kernel
theorem dX10_count_37 : decode cX10_count 37 = .ok (.getfield 26, 3) := by decide +kernel
theorem dX10_count_40 : decode cX10_count 40 = .ok (.invokevirtual 100, 3) := by decide +kernel
theorem dX10_count_43 : decode cX10_count 43 = .ok (.ireturn, 1) := by decide +kernel
theorem dX10_count_44 : decode cX10_count 44 = .ok (.aload_n 0, 1) := by decide +kernel
theorem dX10_count_45 : decode cX10_count 45 = .ok (.getfield 65, 3) := by decide +kernel
theorem dX10_count_48 : decode cX10_count 48 = .ok (.ifCond .eq 7, 3) := by decide +kernel
theorem dX10_count_51 : decode cX10_count 51 = .ok (.iconst 1, 1) := by decide +kernel
theorem dX10_count_52 : decode cX10_count 52 = .ok (.goto 4, 3) := by decide +kernel
theorem dX10_count_55 : decode cX10_count 55 = .ok (.iconst 0, 1) := by decide +kernel
theorem dX10_count_56 : decode cX10_count 56 = .ok (.ireturn, 1) := by decide +kernel
theorem dX10_count_57 : decode cX10_count 57 = .ok (.aload_n 0, 1) := by decide +kernel
theorem dX10_count_58 : decode cX10_count 58 = .ok (.getfield 33, 3) := by decide +kernel
theorem dX10_count_61 : decode cX10_count 61 = .ok (.invokevirtual 246, 3) := by decide +kernel
theorem dX10_count_64 : decode cX10_count 64 = .ok (.ireturn, 1) := by decide +kernel
theorem dX10_count_65 : decode cX10_count 65 = .ok (.aload_n 0, 1) := by decide +kernel
theorem dX10_count_66 : decode cX10_count 66 = .ok (.getfield 10, 3) := by decide +kernel
theorem dX10_count_69 : decode cX10_count 69 = .ok (.invokevirtual 85, 3) := by decide +kernel
theorem dX10_count_72 : decode cX10_count 72 = .ok (.ireturn, 1) := by decide +kernel
theorem dX10_count_73 : decode cX10_count 73 = .ok (.aload_n 0, 1) := by decide +kernel
theorem dX10_count_74 : decode cX10_count 74 = .ok (.invokevirtual 247, 3) := by decide +kernel
theorem dX10_count_77 : decode cX10_count 77 = .ok (.ireturn, 1) := by decide +kernel
theorem dX10_count_78 : decode cX10_count 78 = .ok (.bipush (-102), 2) := by decide +kernel
theorem dX10_count_80 : decode cX10_count 80 = .ok (.ireturn, 1) := by decide +kernel
theorem dX10_digest_0 : decode cX10_digest 0 = .ok (.ldc2_w 250, 3) := by decide +kernel
theorem dX10_digest_3 : decode cX10_digest 3 = .ok (.lstore_n 1, 1) := by decide +kernel
theorem dX10_digest_4 : decode cX10_digest 4 = .ok (.iconst 0, 1) := by decide +kernel
theorem dX10_digest_5 : decode cX10_digest 5 = .ok (.istore_n 3, 1) := by decide +kernel
theorem dX10_digest_6 : decode cX10_digest 6 = .ok (.iload_n 3, 1) := by decide +kernel
theorem dX10_digest_7 : decode cX10_digest 7 = .ok (.aload_n 0, 1) := by decide +kernel
theorem dX10_digest_8 : decode cX10_digest 8 = .ok (.getfield 26, 3) := by decide +kernel
theorem dX10_digest_11 : decode cX10_digest 11 = .ok (.invokevirtual 100, 3) := by decide +kernel
theorem dX10_digest_14 : decode cX10_digest 14 = .ok (.if_icmp .ge 26, 3) := by decide +kernel
theorem dX10_digest_17 : decode cX10_digest 17 = .ok (.aload_n 0, 1) := by decide +kernel
theorem dX10_digest_18 : decode cX10_digest 18 = .ok (.lload_n 1, 1) := by decide +kernel
theorem dX10_digest_19 : decode cX10_digest 19 = .ok (.aload_n 0, 1) := by decide +kernel
theorem dX10_digest_20 : decode cX10_digest 20 = .ok (.getfield 26, 3) := by decide +kernel
theorem dX10_digest_23 : decode cX10_digest 23 = .ok (.iload_n 3, 1) := by decide +kernel
theorem dX10_digest_24 : decode cX10_digest 24 = .ok (.invokevirtual 112, 3) := by decide +kernel
theorem dX10_digest_27 : decode cX10_digest 27 = .ok (.checkcast 116, 3) := by decide +kernel
theorem dX10_digest_30 : decode cX10_digest 30 = .ok (.invokevirtual 252, 3) := by decide +kernel
theorem dX10_digest_33 : decode cX10_digest 33 = .ok (.lstore_n 1, 1) := by decide +kernel
theorem dX10_digest_34 : decode cX10_digest 34 = .ok (.iinc 3 1, 3) := by decide +kernel
theorem dX10_digest_37 : decode cX10_digest 37 = .ok (.goto (-31), 3) := by decide +kernel
theorem dX10_digest_40 : decode cX10_digest 40 = .ok (.lload_n 1, 1) := by decide +kernel
theorem dX10_digest_41 : decode cX10_digest 41 = .ok (.aload_n 0, 1) := by decide +kernel
theorem dX10_digest_42 : decode cX10_digest 42 = .ok (.invokevirtual 256, 3) := by decide +kernel
theorem dX10_digest_45 : decode cX10_digest 45 = .ok (.invokestatic 260, 3) := by decide +kernel
theorem dX10_digest_48 : decode cX10_digest 48 = .ok (.lstore_n 1, 1) := by decide +kernel
theorem dX10_digest_49 : decode cX10_digest 49 = .ok (.aload_n 0, 1) := by decide +kernel
theorem dX10_digest_50 : decode cX10_digest 50 = .ok (.iconst 0, 1) := by decide +kernel
theorem dX10_digest_51 : decode cX10_digest 51 = .ok (.sipush 400, 3) := by decide +kernel
theorem dX10_digest_54 : decode cX10_digest 54 = .ok (.iconst 1, 1) := by decide +kernel
theorem dX10_digest_55 : decode cX10_digest 55 = .ok (.iconst 1, 1) := by decide +kernel
theorem dX10_digest_56 : decode cX10_digest 56 = .ok (.invokevirtual 147, 3) := by decide +kernel
theorem dX10_digest_59 : decode cX10_digest 59 = .ok (.aload_n 0, 1) := by decide +kernel
theorem dX10_digest_60 : decode cX10_digest 60 = .ok (.getfield 47, 3) := by decide +kernel
theorem dX10_digest_63 : decode cX10_digest 63 = .ok (.iconst 0, 1) := by decide +kernel
theorem dX10_digest_64 : decode cX10_digest 64 = .ok (.iconst 0, 1) := by decide +kernel
theorem dX10_digest_65 : decode cX10_digest 65 = .ok (.sipush 255, 3) := by decide +kernel
theorem dX10_digest_68 : decode cX10_digest 68 = .ok (.aload_n 0, 1) := by decide +kernel
theorem dX10_digest_69 : decode cX10_digest 69 = .ok (.getfield 58, 3) := by decide +kernel
theorem dX10_digest_72 : decode cX10_digest 72 = .ok (.invokevirtual 151, 3) := by decide +kernel
theorem dX10_digest_75 : decode cX10_digest 75 = .ok (.iconst 0, 1) := by decide +kernel
theorem dX10_digest_76 : decode cX10_digest 76 = .ok (.istore_n 3, 1) := by decide +kernel
theorem dX10_digest_77 : decode cX10_digest 77 = .ok (.iload_n 3, 1) := by decide +kernel
theorem dX10_digest_78 : decode cX10_digest 78 = .ok (.bipush 8, 2) := by decide +kernel
theorem dX10_digest_80 : decode cX10_digest 80 = .ok (.if_icmp .ge 52, 3) := by decide +kernel
theorem dX10_digest_83 : decode cX10_digest 83 = .ok (.lload_n 1, 1) := by decide +kernel
theorem dX10_digest_84 : decode cX10_digest 84 = .ok (.aload_n 0, 1) := by decide +kernel
theorem dX10_digest_85 : decode cX10_digest 85 = .ok (.getfield 58, 3) := by decide +kernel
theorem dX10_digest_88 : decode cX10_digest 88 = .ok (.iload_n 3, 1) := by decide +kernel
theorem dX10_digest_89 : decode cX10_digest 89 = .ok (.iaload, 1) := by decide +kernel
theorem dX10_digest_90 : decode cX10_digest 90 = .ok (.ldc 155, 2) := by decide +kernel
theorem dX10_digest_92 : decode cX10_digest 92 = .ok (.if_icmp .ne 9, 3) := by decide +kernel
theorem dX10_digest_95 : decode cX10_digest 95 = .ok (.ldc2_w 263, 3) := by decide +kernel
theorem dX10_digest_98 : decode cX10_digest 98 = .ok (.goto 10, 3) := by decide +kernel
theorem dX10_digest_101 : decode cX10_digest 101 = .ok (.aload_n 0, 1) := by decide +kernel
theorem dX10_digest_102 : decode cX10_digest 102 = .ok (.getfield 58, 3) := by decide +kernel
theorem dX10_digest_105 : decode cX10_digest 105 = .ok (.iload_n 3, 1) := by decide +kernel
theorem dX10_digest_106 : decode cX10_digest 106 = .ok (.iaload, 1) := by decide +kernel
theorem dX10_digest_107 : decode cX10_digest 107 = .ok (.i2l, 1) := by decide +kernel
theorem dX10_digest_108 : decode cX10_digest 108 = .ok (.invokestatic 260, 3) := by decide +kernel
theorem dX10_digest_111 : decode cX10_digest 111 = .ok (.lstore_n 1, 1) := by decide +kernel
theorem dX10_digest_112 : decode cX10_digest 112 = .ok (.lload_n 1, 1) := by decide +kernel
theorem dX10_digest_113 : decode cX10_digest 113 = .ok (.aload_n 0, 1) := by decide +kernel
theorem dX10_digest_114 : decode cX10_digest 114 = .ok (.iload_n 3, 1) := by decide +kernel
theorem dX10_digest_115 : decode cX10_digest 115 = .ok (.iconst 0, 1) := by decide +kernel
theorem dX10_digest_116 : decode cX10_digest 116 = .ok (.bipush 60, 2) := by decide +kernel
theorem dX10_digest_118 : decode cX10_digest 118 = .ok (.invokevirtual 168, 3) := by decide +kernel
theorem dX10_digest_121 : decode cX10_digest 121 = .ok (.i2l, 1) := by decide +kernel
theorem dX10_digest_122 : decode cX10_digest 122 = .ok (.invokestatic 260, 3) := by decide +kernel
theorem dX10_digest_125 : decode cX10_digest 125 = .ok (.lstore_n 1, 1) := by decide +kernel
theorem dX10_digest_126 : decode cX10_digest 126 = .ok (.iinc 3 1, 3) := by decide +kernel
theorem dX10_digest_129 : decode cX10_digest 129 = .ok (.goto (-52), 3) := by decide +kernel
theorem dX10_digest_132 : decode cX10_digest 132 = .ok (.iconst 0, 1) := by decide +kernel
theorem dX10_digest_133 : decode cX10_digest 133 = .ok (.istore_n 3, 1) := by decide +kernel
theorem dX10_digest_134 : decode cX10_digest 134 = .ok (.iload_n 3, 1) := by decide +kernel
theorem dX10_digest_135 : decode cX10_digest 135 = .ok (.aload_n 0, 1) := by decide +kernel
theorem dX10_digest_136 : decode cX10_digest 136 = .ok (.getfield 33, 3) := by decide +kernel
theorem dX10_digest_139 : decode cX10_digest 139 = .ok (.invokevirtual 246, 3) := by decide +kernel
theorem dX10_digest_142 : decode cX10_digest 142 = .ok (.if_icmp .ge 40, 3) := by decide +kernel
theorem dX10_digest_145 : decode cX10_digest 145 = .ok (.iconst 0, 1) := by decide +kernel
theorem dX10_digest_146 : decode cX10_digest 146 = .ok (.istore 4, 2) := by decide +kernel
theorem dX10_digest_148 : decode cX10_digest 148 = .ok (.iload 4, 2) := by decide +kernel
theorem dX10_digest_150 : decode cX10_digest 150 = .ok (.iconst 4, 1) := by decide +kernel
theorem dX10_digest_151 : decode cX10_digest 151 = .ok (.if_icmp .ge 25, 3) := by decide +kernel
theorem dX10_digest_154 : decode cX10_digest 154 = .ok (.lload_n 1, 1) := by decide +kernel
theorem dX10_digest_155 : decode cX10_digest 155 = .ok (.aload_n 0, 1) := by decide +kernel
theorem dX10_digest_156 : decode cX10_digest 156 = .ok (.getfield 33, 3) := by decide +kernel
theorem dX10_digest_159 : decode cX10_digest 159 = .ok (.iload_n 3, 1) := by decide +kernel
theorem dX10_digest_160 : decode cX10_digest 160 = .ok (.iload 4, 2) := by decide +kernel
theorem dX10_digest_162 : decode cX10_digest 162 = .ok (.invokevirtual 265, 3) := by decide +kernel
theorem dX10_digest_165 : decode cX10_digest 165 = .ok (.i2l, 1) := by decide +kernel
theorem dX10_digest_166 : decode cX10_digest 166 = .ok (.invokestatic 260, 3) := by decide +kernel
theorem dX10_digest_169 : decode cX10_digest 169 = .ok (.lstore_n 1, 1) := by decide +kernel
theorem dX10_digest_170 : decode cX10_digest 170 = .ok (.iinc 4 1, 3) := by decide +kernel
theorem dX10_digest_173 : decode cX10_digest 173 = .ok (.goto (-25), 3) := by decide +kernel
theorem dX10_digest_176 : decode cX10_digest 176 = .ok (.iinc 3 1, 3) := by decide +kernel
theorem dX10_digest_179 : decode cX10_digest 179 = .ok (.goto (-45), 3) := by decide +kernel
theorem dX10_digest_182 : decode cX10_digest 182 = .ok (.iconst 0, 1) := by decide +kernel
theorem dX10_digest_183 : decode cX10_digest 183 = .ok (.istore_n 3, 1) := by decide +kernel
theorem dX10_digest_184 : decode cX10_digest 184 = .ok (.iload_n 3, 1) := by decide +kernel
theorem dX10_digest_185 : decode cX10_digest 185 = .ok (.aload_n 0, 1) := by decide +kernel
theorem dX10_digest_186 : decode cX10_digest 186 = .ok (.getfield 10, 3) := by decide +kernel
theorem dX10_digest_189 : decode cX10_digest 189 = .ok (.invokevirtual 85, 3) := by decide +kernel
theorem dX10_digest_192 : decode cX10_digest 192 = .ok (.if_icmp .ge 23, 3) := by decide +kernel
theorem dX10_digest_195 : decode cX10_digest 195 = .ok (.lload_n 1, 1) := by decide +kernel
theorem dX10_digest_196 : decode cX10_digest 196 = .ok (.aload_n 0, 1) := by decide +kernel
theorem dX10_digest_197 : decode cX10_digest 197 = .ok (.getfield 10, 3) := by decide +kernel
theorem dX10_digest_200 : decode cX10_digest 200 = .ok (.iload_n 3, 1) := by decide +kernel
theorem dX10_digest_201 : decode cX10_digest 201 = .ok (.invokevirtual 268, 3) := by decide +kernel
theorem dX10_digest_204 : decode cX10_digest 204 = .ok (.i2l, 1) := by decide +kernel
theorem dX10_digest_205 : decode cX10_digest 205 = .ok (.invokestatic 260, 3) := by decide +kernel
theorem dX10_digest_208 : decode cX10_digest 208 = .ok (.lstore_n 1, 1) := by decide +kernel
theorem dX10_digest_209 : decode cX10_digest 209 = .ok (.iinc 3 1, 3) := by decide +kernel
theorem dX10_digest_212 : decode cX10_digest 212 = .ok (.goto (-28), 3) := by decide +kernel
theorem dX10_digest_215 : decode cX10_digest 215 = .ok (.iconst 0, 1) := by decide +kernel
theorem dX10_digest_216 : decode cX10_digest 216 = .ok (.istore_n 3, 1) := by decide +kernel
theorem dX10_digest_217 : decode cX10_digest 217 = .ok (.iload_n 3, 1) := by decide +kernel
theorem dX10_digest_218 : decode cX10_digest 218 = .ok (.iconst 4, 1) := by decide +kernel
theorem dX10_digest_219 : decode cX10_digest 219 = .ok (.if_icmp .gt 20, 3) := by decide +kernel
theorem dX10_digest_222 : decode cX10_digest 222 = .ok (.lload_n 1, 1) := by decide +kernel
theorem dX10_digest_223 : decode cX10_digest 223 = .ok (.aload_n 0, 1) := by decide +kernel
theorem dX10_digest_224 : decode cX10_digest 224 = .ok (.iload_n 3, 1) := by decide +kernel
theorem dX10_digest_225 : decode cX10_digest 225 = .ok (.invokevirtual 271, 3) := by decide +kernel
theorem dX10_digest_228 : decode cX10_digest 228 = .ok (.i2l, 1) := by decide +kernel
theorem dX10_digest_229 : decode cX10_digest 229 = .ok (.invokestatic 260, 3) := by decide +kernel
theorem dX10_digest_232 : decode cX10_digest 232 = .ok (.lstore_n 1, 1) := by decide +kernel
theorem dX10_digest_233 : decode cX10_digest 233 = .ok (.iinc 3 1, 3) := by decide +kernel
theorem dX10_digest_236 : decode cX10_digest 236 = .ok (.goto (-19), 3) := by decide +kernel
theorem dX10_digest_239 : decode cX10_digest 239 = .ok (.lload_n 1, 1) := by decide +kernel
theorem dX10_digest_240 : decode cX10_digest 240 = .ok (.lreturn, 1) := by decide +kernel
theorem dX10_byteOf_0 : decode cX10_byteOf 0 = .ok (.lload_n 0, 1) := by decide +kernel
theorem dX10_byteOf_1 : decode cX10_byteOf 1 = .ok (.bipush 8, 2) := by decide +kernel
theorem dX10_byteOf_3 : decode cX10_byteOf 3 = .ok (.iload_n 2, 1) := by decide +kernel
theorem dX10_byteOf_4 : decode cX10_byteOf 4 = .ok (.imul, 1) := by decide +kernel
theorem dX10_byteOf_5 : decode cX10_byteOf 5 = .ok (.lushr, 1) := by decide +kernel
theorem dX10_byteOf_6 : decode cX10_byteOf 6 = .ok (.l2i, 1) := by decide +kernel
theorem dX10_byteOf_7 : decode cX10_byteOf 7 = .ok (.sipush 255, 3) := by decide +kernel
theorem dX10_byteOf_10 : decode cX10_byteOf 10 = .ok (.iand, 1) := by decide +kernel
theorem dX10_byteOf_11 : decode cX10_byteOf 11 = .ok (.ireturn, 1) := by decide +kernel
theorem dX10_lettersIn_0 : decode cX10_lettersIn 0 = .ok (.iconst 0, 1) := by decide +kernel
theorem dX10_lettersIn_1 : decode cX10_lettersIn 1 = .ok (.istore_n 2, 1) := by decide +kernel
theorem dX10_lettersIn_2 : decode cX10_lettersIn 2 = .ok (.iconst 0, 1) := by decide +kernel
theorem dX10_lettersIn_3 : decode cX10_lettersIn 3 = .ok (.istore_n 3, 1) := by decide +kernel
theorem dX10_lettersIn_4 : decode cX10_lettersIn 4 = .ok (.iconst 0, 1) := by decide +kernel
theorem dX10_lettersIn_5 : decode cX10_lettersIn 5 = .ok (.istore 4, 2) := by decide +kernel
theorem dX10_lettersIn_7 : decode cX10_lettersIn 7 = .ok (.iload 4, 2) := by decide +kernel
theorem dX10_lettersIn_9 : decode cX10_lettersIn 9 = .ok (.bipush 8, 2) := by decide +kernel
theorem dX10_lettersIn_11 : decode cX10_lettersIn 11 = .ok (.if_icmp .ge 49, 3) := by decide +kernel
theorem dX10_lettersIn_14 : decode cX10_lettersIn 14 = .ok (.lload_n 0, 1) := by decide +kernel
theorem dX10_lettersIn_15 : decode cX10_lettersIn 15 = .ok (.iload 4, 2) := by decide +kernel
theorem dX10_lettersIn_17 : decode cX10_lettersIn 17 = .ok (.invokestatic 77, 3) := by decide +kernel
theorem dX10_lettersIn_20 : decode cX10_lettersIn 20 = .ok (.istore 5, 2) := by decide +kernel
theorem dX10_lettersIn_22 : decode cX10_lettersIn 22 = .ok (.iload 5, 2) := by decide +kernel
theorem dX10_lettersIn_24 : decode cX10_lettersIn 24 = .ok (.bipush 126, 2) := by decide +kernel
theorem dX10_lettersIn_26 : decode cX10_lettersIn 26 = .ok (.if_icmp .gt 12, 3) := by decide +kernel
theorem dX10_lettersIn_29 : decode cX10_lettersIn 29 = .ok (.iload_n 3, 1) := by decide +kernel
theorem dX10_lettersIn_30 : decode cX10_lettersIn 30 = .ok (.ifCond .eq 11, 3) := by decide +kernel
theorem dX10_lettersIn_33 : decode cX10_lettersIn 33 = .ok (.iload 5, 2) := by decide +kernel
theorem dX10_lettersIn_35 : decode cX10_lettersIn 35 = .ok (.ifCond .eq 6, 3) := by decide +kernel
theorem dX10_lettersIn_38 : decode cX10_lettersIn 38 = .ok (.bipush (-102), 2) := by decide +kernel
theorem dX10_lettersIn_40 : decode cX10_lettersIn 40 = .ok (.ireturn, 1) := by decide +kernel
theorem dX10_lettersIn_41 : decode cX10_lettersIn 41 = .ok (.iload 5, 2) := by decide +kernel
theorem dX10_lettersIn_43 : decode cX10_lettersIn 43 = .ok (.ifCond .ne 8, 3) := by decide +kernel
theorem dX10_lettersIn_46 : decode cX10_lettersIn 46 = .ok (.iconst 1, 1) := by decide +kernel
theorem dX10_lettersIn_47 : decode cX10_lettersIn 47 = .ok (.istore_n 3, 1) := by decide +kernel
theorem dX10_lettersIn_48 : decode cX10_lettersIn 48 = .ok (.goto 6, 3) := by decide +kernel
theorem dX10_lettersIn_51 : decode cX10_lettersIn 51 = .ok (.iinc 2 1, 3) := by decide +kernel
theorem dX10_lettersIn_54 : decode cX10_lettersIn 54 = .ok (.iinc 4 1, 3) := by decide +kernel
theorem dX10_lettersIn_57 : decode cX10_lettersIn 57 = .ok (.goto (-50), 3) := by decide +kernel
theorem dX10_lettersIn_60 : decode cX10_lettersIn 60 = .ok (.iload_n 2, 1) := by decide +kernel
theorem dX10_lettersIn_61 : decode cX10_lettersIn 61 = .ok (.ireturn, 1) := by decide +kernel
theorem dX10_isBridge_0 : decode cX10_isBridge 0 = .ok (.iload_n 1, 1) := by decide +kernel
theorem dX10_isBridge_1 : decode cX10_isBridge 1 = .ok (.ifCond .lt 18, 3) := by decide +kernel
theorem dX10_isBridge_4 : decode cX10_isBridge 4 = .ok (.iload_n 1, 1) := by decide +kernel
theorem dX10_isBridge_5 : decode cX10_isBridge 5 = .ok (.aload_n 0, 1) := by decide +kernel
theorem dX10_isBridge_6 : decode cX10_isBridge 6 = .ok (.getfield 26, 3) := by decide +kernel
theorem dX10_isBridge_9 : decode cX10_isBridge 9 = .ok (.invokevirtual 100, 3) := by decide +kernel
theorem dX10_isBridge_12 : decode cX10_isBridge 12 = .ok (.if_icmp .ge 7, 3) := by decide +kernel
theorem dX10_isBridge_15 : decode cX10_isBridge 15 = .ok (.iconst 1, 1) := by decide +kernel
theorem dX10_isBridge_16 : decode cX10_isBridge 16 = .ok (.goto 4, 3) := by decide +kernel
theorem dX10_isBridge_19 : decode cX10_isBridge 19 = .ok (.iconst 0, 1) := by decide +kernel
theorem dX10_isBridge_20 : decode cX10_isBridge 20 = .ok (.ireturn, 1) := by decide +kernel
theorem dX10_isIslet_0 : decode cX10_isIslet 0 = .ok (.iload_n 0, 1) := by decide +kernel
theorem dX10_isIslet_1 : decode cX10_isIslet 1 = .ok (.ifCond .lt 13, 3) := by decide +kernel
theorem dX10_isIslet_4 : decode cX10_isIslet 4 = .ok (.iload_n 0, 1) := by decide +kernel
theorem dX10_isIslet_5 : decode cX10_isIslet 5 = .ok (.bipush 8, 2) := by decide +kernel
theorem dX10_isIslet_7 : decode cX10_isIslet 7 = .ok (.if_icmp .ge 7, 3) := by decide +kernel
theorem dX10_isIslet_10 : decode cX10_isIslet 10 = .ok (.iconst 1, 1) := by decide +kernel
theorem dX10_isIslet_11 : decode cX10_isIslet 11 = .ok (.goto 4, 3) := by decide +kernel
theorem dX10_isIslet_14 : decode cX10_isIslet 14 = .ok (.iconst 0, 1) := by decide +kernel
theorem dX10_isIslet_15 : decode cX10_isIslet 15 = .ok (.ireturn, 1) := by decide +kernel
theorem dX10_isMinute_0 : decode cX10_isMinute 0 = .ok (.iload_n 0, 1) := by decide +kernel
theorem dX10_isMinute_1 : decode cX10_isMinute 1 = .ok (.ifCond .lt 14, 3) := by decide +kernel
theorem dX10_isMinute_4 : decode cX10_isMinute 4 = .ok (.iload_n 0, 1) := by decide +kernel
theorem dX10_isMinute_5 : decode cX10_isMinute 5 = .ok (.sipush 999, 3) := by decide +kernel
theorem dX10_isMinute_8 : decode cX10_isMinute 8 = .ok (.if_icmp .gt 7, 3) := by decide +kernel
theorem dX10_isMinute_11 : decode cX10_isMinute 11 = .ok (.iconst 1, 1) := by decide +kernel
theorem dX10_isMinute_12 : decode cX10_isMinute 12 = .ok (.goto 4, 3) := by decide +kernel
theorem dX10_isMinute_15 : decode cX10_isMinute 15 = .ok (.iconst 0, 1) := by decide +kernel
theorem dX10_isMinute_16 : decode cX10_isMinute 16 = .ok (.ireturn, 1) := by decide +kernel
theorem dX10_isManyStarts_0 : decode cX10_isManyStarts 0 = .ok (.iload_n 0, 1) := by decide +kernel
theorem dX10_isManyStarts_1 : decode cX10_isManyStarts 1 = .ok (.iconst 1, 1) := by decide +kernel
theorem dX10_isManyStarts_2 : decode cX10_isManyStarts 2 = .ok (.if_icmp .lt 13, 3) := by decide +kernel
theorem dX10_isManyStarts_5 : decode cX10_isManyStarts 5 = .ok (.iload_n 0, 1) := by decide +kernel
theorem dX10_isManyStarts_6 : decode cX10_isManyStarts 6 = .ok (.bipush 60, 2) := by decide +kernel
theorem dX10_isManyStarts_8 : decode cX10_isManyStarts 8 = .ok (.if_icmp .gt 7, 3) := by decide +kernel
theorem dX10_isManyStarts_11 : decode cX10_isManyStarts 11 = .ok (.iconst 1, 1) := by decide +kernel
theorem dX10_isManyStarts_12 : decode cX10_isManyStarts 12 = .ok (.goto 4, 3) := by decide +kernel
theorem dX10_isManyStarts_15 : decode cX10_isManyStarts 15 = .ok (.iconst 0, 1) := by decide +kernel
theorem dX10_isManyStarts_16 : decode cX10_isManyStarts 16 = .ok (.ireturn, 1) := by decide +kernel
theorem dX10_isCarrier_0 : decode cX10_isCarrier 0 = .ok (.iload_n 0, 1) := by decide +kernel
theorem dX10_isCarrier_1 : decode cX10_isCarrier 1 = .ok (.iconst 1, 1) := by decide +kernel
theorem dX10_isCarrier_2 : decode cX10_isCarrier 2 = .ok (.if_icmp .lt 24, 3) := by decide +kernel
theorem dX10_isCarrier_5 : decode cX10_isCarrier 5 = .ok (.iload_n 0, 1) := by decide +kernel
theorem dX10_isCarrier_6 : decode cX10_isCarrier 6 = .ok (.bipush 9, 2) := by decide +kernel
theorem dX10_isCarrier_8 : decode cX10_isCarrier 8 = .ok (.if_icmp .gt 18, 3) := by decide +kernel
theorem dX10_isCarrier_11 : decode cX10_isCarrier 11 = .ok (.iload_n 1, 1) := by decide +kernel
theorem dX10_isCarrier_12 : decode cX10_isCarrier 12 = .ok (.iconst 1, 1) := by decide +kernel
theorem dX10_isCarrier_13 : decode cX10_isCarrier 13 = .ok (.if_icmp .lt 13, 3) := by decide +kernel
theorem dX10_isCarrier_16 : decode cX10_isCarrier 16 = .ok (.iload_n 1, 1) := by decide +kernel
theorem dX10_isCarrier_17 : decode cX10_isCarrier 17 = .ok (.bipush 9, 2) := by decide +kernel
theorem dX10_isCarrier_19 : decode cX10_isCarrier 19 = .ok (.if_icmp .gt 7, 3) := by decide +kernel
theorem dX10_isCarrier_22 : decode cX10_isCarrier 22 = .ok (.iconst 1, 1) := by decide +kernel
theorem dX10_isCarrier_23 : decode cX10_isCarrier 23 = .ok (.goto 4, 3) := by decide +kernel
theorem dX10_isCarrier_26 : decode cX10_isCarrier 26 = .ok (.iconst 0, 1) := by decide +kernel
theorem dX10_isCarrier_27 : decode cX10_isCarrier 27 = .ok (.ireturn, 1) := by decide +kernel
theorem dX10_isOfKind_0 : decode cX10_isOfKind 0 = .ok (.iload_n 1, 1) := by decide +kernel
theorem dX10_isOfKind_1 : decode cX10_isOfKind 1 = .ok (.tableswitch 48 0 3 #[31, 33, 38, 43], 31) := by decide +kernel
theorem dX10_isOfKind_32 : decode cX10_isOfKind 32 = .ok (.iconst 1, 1) := by decide +kernel
theorem dX10_isOfKind_33 : decode cX10_isOfKind 33 = .ok (.ireturn, 1) := by decide +kernel
theorem dX10_isOfKind_34 : decode cX10_isOfKind 34 = .ok (.aload_n 0, 1) := by decide +kernel
theorem dX10_isOfKind_35 : decode cX10_isOfKind 35 = .ok (.instanceof 274, 3) := by decide +kernel
theorem dX10_isOfKind_38 : decode cX10_isOfKind 38 = .ok (.ireturn, 1) := by decide +kernel
theorem dX10_isOfKind_39 : decode cX10_isOfKind 39 = .ok (.aload_n 0, 1) := by decide +kernel
theorem dX10_isOfKind_40 : decode cX10_isOfKind 40 = .ok (.instanceof 276, 3) := by decide +kernel
theorem dX10_isOfKind_43 : decode cX10_isOfKind 43 = .ok (.ireturn, 1) := by decide +kernel
theorem dX10_isOfKind_44 : decode cX10_isOfKind 44 = .ok (.aload_n 0, 1) := by decide +kernel
theorem dX10_isOfKind_45 : decode cX10_isOfKind 45 = .ok (.instanceof 184, 3) := by decide +kernel
theorem dX10_isOfKind_48 : decode cX10_isOfKind 48 = .ok (.ireturn, 1) := by decide +kernel
theorem dX10_isOfKind_49 : decode cX10_isOfKind 49 = .ok (.iconst 0, 1) := by decide +kernel
theorem dX10_isOfKind_50 : decode cX10_isOfKind 50 = .ok (.ireturn, 1) := by decide +kernel
theorem dX10_told_0 : decode cX10_told 0 = .ok (.iload_n 2, 1) := by decide +kernel
theorem dX10_told_1 : decode cX10_told 1 = .ok (.tableswitch 129 0 12 #[67, 72, 77, 82, 87, 92, 97, 102, 129, 129, 111, 117, 123], 67) := by decide +kernel
theorem dX10_told_68 : decode cX10_told 68 = .ok (.aload_n 1, 1) := by decide +kernel
theorem dX10_told_69 : decode cX10_told 69 = .ok (.invokevirtual 278, 3) := by decide +kernel
theorem dX10_told_72 : decode cX10_told 72 = .ok (.ireturn, 1) := by decide +kernel
theorem dX10_told_73 : decode cX10_told 73 = .ok (.aload_n 1, 1) := by decide +kernel
theorem dX10_told_74 : decode cX10_told 74 = .ok (.getfield 197, 3) := by decide +kernel
theorem dX10_told_77 : decode cX10_told 77 = .ok (.ireturn, 1) := by decide +kernel
theorem dX10_told_78 : decode cX10_told 78 = .ok (.aload_n 1, 1) := by decide +kernel
theorem dX10_told_79 : decode cX10_told 79 = .ok (.invokevirtual 194, 3) := by decide +kernel
theorem dX10_told_82 : decode cX10_told 82 = .ok (.ireturn, 1) := by decide +kernel
theorem dX10_told_83 : decode cX10_told 83 = .ok (.aload_n 1, 1) := by decide +kernel
theorem dX10_told_84 : decode cX10_told 84 = .ok (.getfield 281, 3) := by decide +kernel
theorem dX10_told_87 : decode cX10_told 87 = .ok (.ireturn, 1) := by decide +kernel
theorem dX10_told_88 : decode cX10_told 88 = .ok (.aload_n 1, 1) := by decide +kernel
theorem dX10_told_89 : decode cX10_told 89 = .ok (.getfield 284, 3) := by decide +kernel
theorem dX10_told_92 : decode cX10_told 92 = .ok (.ireturn, 1) := by decide +kernel
theorem dX10_told_93 : decode cX10_told 93 = .ok (.aload_n 1, 1) := by decide +kernel
theorem dX10_told_94 : decode cX10_told 94 = .ok (.getfield 126, 3) := by decide +kernel
theorem dX10_told_97 : decode cX10_told 97 = .ok (.ireturn, 1) := by decide +kernel
theorem dX10_told_98 : decode cX10_told 98 = .ok (.aload_n 1, 1) := by decide +kernel
theorem dX10_told_99 : decode cX10_told 99 = .ok (.getfield 287, 3) := by decide +kernel
theorem dX10_told_102 : decode cX10_told 102 = .ok (.ireturn, 1) := by decide +kernel
theorem dX10_told_103 : decode cX10_told 103 = .ok (.aload_n 1, 1) := by decide +kernel
theorem dX10_told_104 : decode cX10_told 104 = .ok (.aload_n 0, 1) := by decide +kernel
theorem dX10_told_105 : decode cX10_told 105 = .ok (.getfield 65, 3) := by decide +kernel
theorem dX10_told_108 : decode cX10_told 108 = .ok (.invokevirtual 160, 3) := by decide +kernel
theorem dX10_told_111 : decode cX10_told 111 = .ok (.ireturn, 1) := by decide +kernel
theorem dX10_told_112 : decode cX10_told 112 = .ok (.aload_n 1, 1) := by decide +kernel
theorem dX10_told_113 : decode cX10_told 113 = .ok (.iconst 0, 1) := by decide +kernel
theorem dX10_told_114 : decode cX10_told 114 = .ok (.invokevirtual 200, 3) := by decide +kernel
theorem dX10_told_117 : decode cX10_told 117 = .ok (.ireturn, 1) := by decide +kernel
theorem dX10_told_118 : decode cX10_told 118 = .ok (.aload_n 1, 1) := by decide +kernel
theorem dX10_told_119 : decode cX10_told 119 = .ok (.iconst 1, 1) := by decide +kernel
theorem dX10_told_120 : decode cX10_told 120 = .ok (.invokevirtual 200, 3) := by decide +kernel
theorem dX10_told_123 : decode cX10_told 123 = .ok (.ireturn, 1) := by decide +kernel
theorem dX10_told_124 : decode cX10_told 124 = .ok (.aload_n 1, 1) := by decide +kernel
theorem dX10_told_125 : decode cX10_told 125 = .ok (.iconst 2, 1) := by decide +kernel
theorem dX10_told_126 : decode cX10_told 126 = .ok (.invokevirtual 200, 3) := by decide +kernel
theorem dX10_told_129 : decode cX10_told 129 = .ok (.ireturn, 1) := by decide +kernel
theorem dX10_told_130 : decode cX10_told 130 = .ok (.bipush (-102), 2) := by decide +kernel
theorem dX10_told_132 : decode cX10_told 132 = .ok (.ireturn, 1) := by decide +kernel
theorem dX10_openTable_0 : decode cX10_openTable 0 = .ok (.aload_n 0, 1) := by decide +kernel
theorem dX10_openTable_1 : decode cX10_openTable 1 = .ok (.getfield 47, 3) := by decide +kernel
theorem dX10_openTable_4 : decode cX10_openTable 4 = .ok (.iload_n 1, 1) := by decide +kernel
theorem dX10_openTable_5 : decode cX10_openTable 5 = .ok (.iload_n 2, 1) := by decide +kernel
theorem dX10_openTable_6 : decode cX10_openTable 6 = .ok (.iload_n 3, 1) := by decide +kernel
theorem dX10_openTable_7 : decode cX10_openTable 7 = .ok (.aload_n 0, 1) := by decide +kernel
theorem dX10_openTable_8 : decode cX10_openTable 8 = .ok (.getfield 26, 3) := by decide +kernel
theorem dX10_openTable_11 : decode cX10_openTable 11 = .ok (.invokevirtual 100, 3) := by decide +kernel
theorem dX10_openTable_14 : decode cX10_openTable 14 = .ok (.invokevirtual 290, 3) := by decide +kernel
theorem dX10_openTable_17 : decode cX10_openTable 17 = .ok (.iconst 0, 1) := by decide +kernel
theorem dX10_openTable_18 : decode cX10_openTable 18 = .ok (.istore 5, 2) := by decide +kernel
theorem dX10_openTable_20 : decode cX10_openTable 20 = .ok (.iload 5, 2) := by decide +kernel
theorem dX10_openTable_22 : decode cX10_openTable 22 = .ok (.aload_n 0, 1) := by decide +kernel
theorem dX10_openTable_23 : decode cX10_openTable 23 = .ok (.getfield 26, 3) := by decide +kernel
theorem dX10_openTable_26 : decode cX10_openTable 26 = .ok (.invokevirtual 100, 3) := by decide +kernel
theorem dX10_openTable_29 : decode cX10_openTable 29 = .ok (.if_icmp .ge 65, 3) := by decide +kernel
theorem dX10_openTable_32 : decode cX10_openTable 32 = .ok (.aload_n 0, 1) := by decide +kernel
theorem dX10_openTable_33 : decode cX10_openTable 33 = .ok (.getfield 26, 3) := by decide +kernel
theorem dX10_openTable_36 : decode cX10_openTable 36 = .ok (.iload 5, 2) := by decide +kernel
theorem dX10_openTable_38 : decode cX10_openTable 38 = .ok (.invokevirtual 112, 3) := by decide +kernel
theorem dX10_openTable_41 : decode cX10_openTable 41 = .ok (.checkcast 116, 3) := by decide +kernel
theorem dX10_openTable_44 : decode cX10_openTable 44 = .ok (.astore 6, 2) := by decide +kernel
theorem dX10_openTable_46 : decode cX10_openTable 46 = .ok (.aload 6, 2) := by decide +kernel
theorem dX10_openTable_48 : decode cX10_openTable 48 = .ok (.getfield 287, 3) := by decide +kernel
theorem dX10_openTable_51 : decode cX10_openTable 51 = .ok (.iload 4, 2) := by decide +kernel
theorem dX10_openTable_53 : decode cX10_openTable 53 = .ok (.if_icmp .lt 26, 3) := by decide +kernel
theorem dX10_openTable_56 : decode cX10_openTable 56 = .ok (.aload_n 0, 1) := by decide +kernel
theorem dX10_openTable_57 : decode cX10_openTable 57 = .ok (.getfield 47, 3) := by decide +kernel
theorem dX10_openTable_60 : decode cX10_openTable 60 = .ok (.iload 5, 2) := by decide +kernel
theorem dX10_openTable_62 : decode cX10_openTable 62 = .ok (.aload 6, 2) := by decide +kernel
theorem dX10_openTable_64 : decode cX10_openTable 64 = .ok (.aload 6, 2) := by decide +kernel
theorem dX10_openTable_66 : decode cX10_openTable 66 = .ok (.getfield 126, 3) := by decide +kernel
theorem dX10_openTable_69 : decode cX10_openTable 69 = .ok (.aload_n 0, 1) := by decide +kernel
theorem dX10_openTable_70 : decode cX10_openTable 70 = .ok (.getfield 65, 3) := by decide +kernel
theorem dX10_openTable_73 : decode cX10_openTable 73 = .ok (.invokevirtual 186, 3) := by decide +kernel
theorem dX10_openTable_76 : decode cX10_openTable 76 = .ok (.goto 12, 3) := by decide +kernel
theorem dX10_openTable_79 : decode cX10_openTable 79 = .ok (.aload_n 0, 1) := by decide +kernel
theorem dX10_openTable_80 : decode cX10_openTable 80 = .ok (.getfield 47, 3) := by decide +kernel
theorem dX10_openTable_83 : decode cX10_openTable 83 = .ok (.iload 5, 2) := by decide +kernel
theorem dX10_openTable_85 : decode cX10_openTable 85 = .ok (.invokevirtual 229, 3) := by decide +kernel
theorem dX10_openTable_88 : decode cX10_openTable 88 = .ok (.iinc 5 1, 3) := by decide +kernel
theorem dX10_openTable_91 : decode cX10_openTable 91 = .ok (.goto (-71), 3) := by decide +kernel
theorem dX10_openTable_94 : decode cX10_openTable 94 = .ok (.return_, 1) := by decide +kernel
theorem dX10_sharedDivisor_0 : decode cX10_sharedDivisor 0 = .ok (.iconst 0, 1) := by decide +kernel
theorem dX10_sharedDivisor_1 : decode cX10_sharedDivisor 1 = .ok (.istore 4, 2) := by decide +kernel
theorem dX10_sharedDivisor_3 : decode cX10_sharedDivisor 3 = .ok (.iload 4, 2) := by decide +kernel
theorem dX10_sharedDivisor_5 : decode cX10_sharedDivisor 5 = .ok (.bipush 100, 2) := by decide +kernel
theorem dX10_sharedDivisor_7 : decode cX10_sharedDivisor 7 = .ok (.if_icmp .ge 25, 3) := by decide +kernel
theorem dX10_sharedDivisor_10 : decode cX10_sharedDivisor 10 = .ok (.lload_n 2, 1) := by decide +kernel
theorem dX10_sharedDivisor_11 : decode cX10_sharedDivisor 11 = .ok (.lconst 0, 1) := by decide +kernel
theorem dX10_sharedDivisor_12 : decode cX10_sharedDivisor 12 = .ok (.lcmp, 1) := by decide +kernel
theorem dX10_sharedDivisor_13 : decode cX10_sharedDivisor 13 = .ok (.ifCond .eq 19, 3) := by decide +kernel
theorem dX10_sharedDivisor_16 : decode cX10_sharedDivisor 16 = .ok (.lload_n 0, 1) := by decide +kernel
theorem dX10_sharedDivisor_17 : decode cX10_sharedDivisor 17 = .ok (.lload_n 2, 1) := by decide +kernel
theorem dX10_sharedDivisor_18 : decode cX10_sharedDivisor 18 = .ok (.lrem, 1) := by decide +kernel
theorem dX10_sharedDivisor_19 : decode cX10_sharedDivisor 19 = .ok (.lstore 5, 2) := by decide +kernel
theorem dX10_sharedDivisor_21 : decode cX10_sharedDivisor 21 = .ok (.lload_n 2, 1) := by decide +kernel
theorem dX10_sharedDivisor_22 : decode cX10_sharedDivisor 22 = .ok (.lstore_n 0, 1) := by decide +kernel
theorem dX10_sharedDivisor_23 : decode cX10_sharedDivisor 23 = .ok (.lload 5, 2) := by decide +kernel
theorem dX10_sharedDivisor_25 : decode cX10_sharedDivisor 25 = .ok (.lstore_n 2, 1) := by decide +kernel
theorem dX10_sharedDivisor_26 : decode cX10_sharedDivisor 26 = .ok (.iinc 4 1, 3) := by decide +kernel
theorem dX10_sharedDivisor_29 : decode cX10_sharedDivisor 29 = .ok (.goto (-26), 3) := by decide +kernel
theorem dX10_sharedDivisor_32 : decode cX10_sharedDivisor 32 = .ok (.lload_n 0, 1) := by decide +kernel
theorem dX10_sharedDivisor_33 : decode cX10_sharedDivisor 33 = .ok (.lreturn, 1) := by decide +kernel
theorem dX10_minutesApart_0 : decode cX10_minutesApart 0 = .ok (.iconst 0, 1) := by decide +kernel
theorem dX10_minutesApart_1 : decode cX10_minutesApart 1 = .ok (.istore 4, 2) := by decide +kernel
theorem dX10_minutesApart_3 : decode cX10_minutesApart 3 = .ok (.iload_n 2, 1) := by decide +kernel
theorem dX10_minutesApart_4 : decode cX10_minutesApart 4 = .ok (.istore 5, 2) := by decide +kernel
theorem dX10_minutesApart_6 : decode cX10_minutesApart 6 = .ok (.iload 5, 2) := by decide +kernel
theorem dX10_minutesApart_8 : decode cX10_minutesApart 8 = .ok (.iload_n 2, 1) := by decide +kernel
theorem dX10_minutesApart_9 : decode cX10_minutesApart 9 = .ok (.iload_n 3, 1) := by decide +kernel
theorem dX10_minutesApart_10 : decode cX10_minutesApart 10 = .ok (.iadd, 1) := by decide +kernel
theorem dX10_minutesApart_11 : decode cX10_minutesApart 11 = .ok (.if_icmp .ge 22, 3) := by decide +kernel
theorem dX10_minutesApart_14 : decode cX10_minutesApart 14 = .ok (.aload_n 0, 1) := by decide +kernel
theorem dX10_minutesApart_15 : decode cX10_minutesApart 15 = .ok (.iload_n 1, 1) := by decide +kernel
theorem dX10_minutesApart_16 : decode cX10_minutesApart 16 = .ok (.iload 5, 2) := by decide +kernel
theorem dX10_minutesApart_18 : decode cX10_minutesApart 18 = .ok (.invokevirtual 293, 3) := by decide +kernel
theorem dX10_minutesApart_21 : decode cX10_minutesApart 21 = .ok (.ifCond .ne 6, 3) := by decide +kernel
theorem dX10_minutesApart_24 : decode cX10_minutesApart 24 = .ok (.iinc 4 1, 3) := by decide +kernel
theorem dX10_minutesApart_27 : decode cX10_minutesApart 27 = .ok (.iinc 5 1, 3) := by decide +kernel
theorem dX10_minutesApart_30 : decode cX10_minutesApart 30 = .ok (.goto (-24), 3) := by decide +kernel
theorem dX10_minutesApart_33 : decode cX10_minutesApart 33 = .ok (.iload 4, 2) := by decide +kernel
theorem dX10_minutesApart_35 : decode cX10_minutesApart 35 = .ok (.ireturn, 1) := by decide +kernel
theorem dX10_isJoined_0 : decode cX10_isJoined 0 = .ok (.iconst 0, 1) := by decide +kernel
theorem dX10_isJoined_1 : decode cX10_isJoined 1 = .ok (.istore_n 3, 1) := by decide +kernel
theorem dX10_isJoined_2 : decode cX10_isJoined 2 = .ok (.iload_n 3, 1) := by decide +kernel
theorem dX10_isJoined_3 : decode cX10_isJoined 3 = .ok (.aload_n 0, 1) := by decide +kernel
theorem dX10_isJoined_4 : decode cX10_isJoined 4 = .ok (.getfield 26, 3) := by decide +kernel
theorem dX10_isJoined_7 : decode cX10_isJoined 7 = .ok (.invokevirtual 100, 3) := by decide +kernel
theorem dX10_isJoined_10 : decode cX10_isJoined 10 = .ok (.if_icmp .ge 63, 3) := by decide +kernel
theorem dX10_isJoined_13 : decode cX10_isJoined 13 = .ok (.aload_n 0, 1) := by decide +kernel
theorem dX10_isJoined_14 : decode cX10_isJoined 14 = .ok (.getfield 26, 3) := by decide +kernel
theorem dX10_isJoined_17 : decode cX10_isJoined 17 = .ok (.iload_n 3, 1) := by decide +kernel
theorem dX10_isJoined_18 : decode cX10_isJoined 18 = .ok (.invokevirtual 112, 3) := by decide +kernel
theorem dX10_isJoined_21 : decode cX10_isJoined 21 = .ok (.checkcast 116, 3) := by decide +kernel
theorem dX10_isJoined_24 : decode cX10_isJoined 24 = .ok (.astore 4, 2) := by decide +kernel
theorem dX10_isJoined_26 : decode cX10_isJoined 26 = .ok (.aload 4, 2) := by decide +kernel
theorem dX10_isJoined_28 : decode cX10_isJoined 28 = .ok (.iload_n 2, 1) := by decide +kernel
theorem dX10_isJoined_29 : decode cX10_isJoined 29 = .ok (.aload 4, 2) := by decide +kernel
theorem dX10_isJoined_31 : decode cX10_isJoined 31 = .ok (.getfield 126, 3) := by decide +kernel
theorem dX10_isJoined_34 : decode cX10_isJoined 34 = .ok (.iadd, 1) := by decide +kernel
theorem dX10_isJoined_35 : decode cX10_isJoined 35 = .ok (.aload_n 0, 1) := by decide +kernel
theorem dX10_isJoined_36 : decode cX10_isJoined 36 = .ok (.getfield 65, 3) := by decide +kernel
theorem dX10_isJoined_39 : decode cX10_isJoined 39 = .ok (.invokevirtual 130, 3) := by decide +kernel
theorem dX10_isJoined_42 : decode cX10_isJoined 42 = .ok (.istore 5, 2) := by decide +kernel
theorem dX10_isJoined_44 : decode cX10_isJoined 44 = .ok (.iload 5, 2) := by decide +kernel
theorem dX10_isJoined_46 : decode cX10_isJoined 46 = .ok (.iconst (-1), 1) := by decide +kernel
theorem dX10_isJoined_47 : decode cX10_isJoined 47 = .ok (.if_icmp .eq 20, 3) := by decide +kernel
theorem dX10_isJoined_50 : decode cX10_isJoined 50 = .ok (.iload 5, 2) := by decide +kernel
theorem dX10_isJoined_52 : decode cX10_isJoined 52 = .ok (.iload_n 1, 1) := by decide +kernel
theorem dX10_isJoined_53 : decode cX10_isJoined 53 = .ok (.if_icmp .eq 12, 3) := by decide +kernel
theorem dX10_isJoined_56 : decode cX10_isJoined 56 = .ok (.aload 4, 2) := by decide +kernel
theorem dX10_isJoined_58 : decode cX10_isJoined 58 = .ok (.getfield 197, 3) := by decide +kernel
theorem dX10_isJoined_61 : decode cX10_isJoined 61 = .ok (.iload_n 1, 1) := by decide +kernel
theorem dX10_isJoined_62 : decode cX10_isJoined 62 = .ok (.if_icmp .ne 5, 3) := by decide +kernel
theorem dX10_isJoined_65 : decode cX10_isJoined 65 = .ok (.iconst 1, 1) := by decide +kernel
theorem dX10_isJoined_66 : decode cX10_isJoined 66 = .ok (.ireturn, 1) := by decide +kernel
theorem dX10_isJoined_67 : decode cX10_isJoined 67 = .ok (.iinc 3 1, 3) := by decide +kernel
theorem dX10_isJoined_70 : decode cX10_isJoined 70 = .ok (.goto (-68), 3) := by decide +kernel
theorem dX10_isJoined_73 : decode cX10_isJoined 73 = .ok (.iconst 0, 1) := by decide +kernel
theorem dX10_isJoined_74 : decode cX10_isJoined 74 = .ok (.ireturn, 1) := by decide +kernel
theorem dX10_allNotesHold_0 : decode cX10_allNotesHold 0 = .ok (.iconst 0, 1) := by decide +kernel
theorem dX10_allNotesHold_1 : decode cX10_allNotesHold 1 = .ok (.istore_n 1, 1) := by decide +kernel
theorem dX10_allNotesHold_2 : decode cX10_allNotesHold 2 = .ok (.iload_n 1, 1) := by decide +kernel
theorem dX10_allNotesHold_3 : decode cX10_allNotesHold 3 = .ok (.aload_n 0, 1) := by decide +kernel
theorem dX10_allNotesHold_4 : decode cX10_allNotesHold 4 = .ok (.getfield 33, 3) := by decide +kernel
theorem dX10_allNotesHold_7 : decode cX10_allNotesHold 7 = .ok (.invokevirtual 246, 3) := by decide +kernel
theorem dX10_allNotesHold_10 : decode cX10_allNotesHold 10 = .ok (.if_icmp .ge 80, 3) := by decide +kernel
theorem dX10_allNotesHold_13 : decode cX10_allNotesHold 13 = .ok (.aload_n 0, 1) := by decide +kernel
theorem dX10_allNotesHold_14 : decode cX10_allNotesHold 14 = .ok (.getfield 33, 3) := by decide +kernel
theorem dX10_allNotesHold_17 : decode cX10_allNotesHold 17 = .ok (.iload_n 1, 1) := by decide +kernel
theorem dX10_allNotesHold_18 : decode cX10_allNotesHold 18 = .ok (.iconst 2, 1) := by decide +kernel
theorem dX10_allNotesHold_19 : decode cX10_allNotesHold 19 = .ok (.invokevirtual 265, 3) := by decide +kernel
theorem dX10_allNotesHold_22 : decode cX10_allNotesHold 22 = .ok (.istore_n 2, 1) := by decide +kernel
theorem dX10_allNotesHold_23 : decode cX10_allNotesHold 23 = .ok (.iload_n 2, 1) := by decide +kernel
theorem dX10_allNotesHold_24 : decode cX10_allNotesHold 24 = .ok (.invokestatic 137, 3) := by decide +kernel
theorem dX10_allNotesHold_27 : decode cX10_allNotesHold 27 = .ok (.ifCond .ne 5, 3) := by decide +kernel
theorem dX10_allNotesHold_30 : decode cX10_allNotesHold 30 = .ok (.iconst 0, 1) := by decide +kernel
theorem dX10_allNotesHold_31 : decode cX10_allNotesHold 31 = .ok (.ireturn, 1) := by decide +kernel
theorem dX10_allNotesHold_32 : decode cX10_allNotesHold 32 = .ok (.aload_n 0, 1) := by decide +kernel
theorem dX10_allNotesHold_33 : decode cX10_allNotesHold 33 = .ok (.getfield 47, 3) := by decide +kernel
theorem dX10_allNotesHold_36 : decode cX10_allNotesHold 36 = .ok (.aload_n 0, 1) := by decide +kernel
theorem dX10_allNotesHold_37 : decode cX10_allNotesHold 37 = .ok (.getfield 33, 3) := by decide +kernel
theorem dX10_allNotesHold_40 : decode cX10_allNotesHold 40 = .ok (.iload_n 1, 1) := by decide +kernel
theorem dX10_allNotesHold_41 : decode cX10_allNotesHold 41 = .ok (.iconst 0, 1) := by decide +kernel
theorem dX10_allNotesHold_42 : decode cX10_allNotesHold 42 = .ok (.invokevirtual 265, 3) := by decide +kernel
theorem dX10_allNotesHold_45 : decode cX10_allNotesHold 45 = .ok (.aload_n 0, 1) := by decide +kernel
theorem dX10_allNotesHold_46 : decode cX10_allNotesHold 46 = .ok (.getfield 33, 3) := by decide +kernel
theorem dX10_allNotesHold_49 : decode cX10_allNotesHold 49 = .ok (.iload_n 1, 1) := by decide +kernel
theorem dX10_allNotesHold_50 : decode cX10_allNotesHold 50 = .ok (.iconst 1, 1) := by decide +kernel
theorem dX10_allNotesHold_51 : decode cX10_allNotesHold 51 = .ok (.invokevirtual 265, 3) := by decide +kernel
theorem dX10_allNotesHold_54 : decode cX10_allNotesHold 54 = .ok (.iconst 1, 1) := by decide +kernel
theorem dX10_allNotesHold_55 : decode cX10_allNotesHold 55 = .ok (.iload_n 2, 1) := by decide +kernel
theorem dX10_allNotesHold_56 : decode cX10_allNotesHold 56 = .ok (.ishl, 1) := by decide +kernel
theorem dX10_allNotesHold_57 : decode cX10_allNotesHold 57 = .ok (.aload_n 0, 1) := by decide +kernel
theorem dX10_allNotesHold_58 : decode cX10_allNotesHold 58 = .ok (.getfield 58, 3) := by decide +kernel
theorem dX10_allNotesHold_61 : decode cX10_allNotesHold 61 = .ok (.invokevirtual 151, 3) := by decide +kernel
theorem dX10_allNotesHold_64 : decode cX10_allNotesHold 64 = .ok (.aload_n 0, 1) := by decide +kernel
theorem dX10_allNotesHold_65 : decode cX10_allNotesHold 65 = .ok (.getfield 58, 3) := by decide +kernel
theorem dX10_allNotesHold_68 : decode cX10_allNotesHold 68 = .ok (.iload_n 2, 1) := by decide +kernel
theorem dX10_allNotesHold_69 : decode cX10_allNotesHold 69 = .ok (.iaload, 1) := by decide +kernel
theorem dX10_allNotesHold_70 : decode cX10_allNotesHold 70 = .ok (.aload_n 0, 1) := by decide +kernel
theorem dX10_allNotesHold_71 : decode cX10_allNotesHold 71 = .ok (.getfield 33, 3) := by decide +kernel
theorem dX10_allNotesHold_74 : decode cX10_allNotesHold 74 = .ok (.iload_n 1, 1) := by decide +kernel
theorem dX10_allNotesHold_75 : decode cX10_allNotesHold 75 = .ok (.iconst 3, 1) := by decide +kernel
theorem dX10_allNotesHold_76 : decode cX10_allNotesHold 76 = .ok (.invokevirtual 265, 3) := by decide +kernel
theorem dX10_allNotesHold_79 : decode cX10_allNotesHold 79 = .ok (.if_icmp .eq 5, 3) := by decide +kernel
theorem dX10_allNotesHold_82 : decode cX10_allNotesHold 82 = .ok (.iconst 0, 1) := by decide +kernel
theorem dX10_allNotesHold_83 : decode cX10_allNotesHold 83 = .ok (.ireturn, 1) := by decide +kernel
theorem dX10_allNotesHold_84 : decode cX10_allNotesHold 84 = .ok (.iinc 1 1, 3) := by decide +kernel
theorem dX10_allNotesHold_87 : decode cX10_allNotesHold 87 = .ok (.goto (-85), 3) := by decide +kernel
theorem dX10_allNotesHold_90 : decode cX10_allNotesHold 90 = .ok (.iconst 1, 1) := by decide +kernel
theorem dX10_allNotesHold_91 : decode cX10_allNotesHold 91 = .ok (.ireturn, 1) := by decide +kernel
theorem dX10_waysTogether_0 : decode cX10_waysTogether 0 = .ok (.iconst 0, 1) := by decide +kernel
theorem dX10_waysTogether_1 : decode cX10_waysTogether 1 = .ok (.istore_n 1, 1) := by decide +kernel
theorem dX10_waysTogether_2 : decode cX10_waysTogether 2 = .ok (.iconst 0, 1) := by decide +kernel
theorem dX10_waysTogether_3 : decode cX10_waysTogether 3 = .ok (.istore_n 2, 1) := by decide +kernel
theorem dX10_waysTogether_4 : decode cX10_waysTogether 4 = .ok (.iload_n 2, 1) := by decide +kernel
theorem dX10_waysTogether_5 : decode cX10_waysTogether 5 = .ok (.bipush 8, 2) := by decide +kernel
theorem dX10_waysTogether_7 : decode cX10_waysTogether 7 = .ok (.if_icmp .ge 65, 3) := by decide +kernel
theorem dX10_waysTogether_10 : decode cX10_waysTogether 10 = .ok (.aload_n 0, 1) := by decide +kernel
theorem dX10_waysTogether_11 : decode cX10_waysTogether 11 = .ok (.getfield 47, 3) := by decide +kernel
theorem dX10_waysTogether_14 : decode cX10_waysTogether 14 = .ok (.iload_n 2, 1) := by decide +kernel
theorem dX10_waysTogether_15 : decode cX10_waysTogether 15 = .ok (.iconst 0, 1) := by decide +kernel
theorem dX10_waysTogether_16 : decode cX10_waysTogether 16 = .ok (.sipush 255, 3) := by decide +kernel
theorem dX10_waysTogether_19 : decode cX10_waysTogether 19 = .ok (.aload_n 0, 1) := by decide +kernel
theorem dX10_waysTogether_20 : decode cX10_waysTogether 20 = .ok (.getfield 58, 3) := by decide +kernel
theorem dX10_waysTogether_23 : decode cX10_waysTogether 23 = .ok (.invokevirtual 151, 3) := by decide +kernel
theorem dX10_waysTogether_26 : decode cX10_waysTogether 26 = .ok (.iconst 0, 1) := by decide +kernel
theorem dX10_waysTogether_27 : decode cX10_waysTogether 27 = .ok (.istore_n 3, 1) := by decide +kernel
theorem dX10_waysTogether_28 : decode cX10_waysTogether 28 = .ok (.iload_n 3, 1) := by decide +kernel
theorem dX10_waysTogether_29 : decode cX10_waysTogether 29 = .ok (.bipush 8, 2) := by decide +kernel
theorem dX10_waysTogether_31 : decode cX10_waysTogether 31 = .ok (.if_icmp .ge 35, 3) := by decide +kernel
theorem dX10_waysTogether_34 : decode cX10_waysTogether 34 = .ok (.iload_n 1, 1) := by decide +kernel
theorem dX10_waysTogether_35 : decode cX10_waysTogether 35 = .ok (.aload_n 0, 1) := by decide +kernel
theorem dX10_waysTogether_36 : decode cX10_waysTogether 36 = .ok (.getfield 58, 3) := by decide +kernel
theorem dX10_waysTogether_39 : decode cX10_waysTogether 39 = .ok (.iload_n 3, 1) := by decide +kernel
theorem dX10_waysTogether_40 : decode cX10_waysTogether 40 = .ok (.iaload, 1) := by decide +kernel
theorem dX10_waysTogether_41 : decode cX10_waysTogether 41 = .ok (.ldc 155, 2) := by decide +kernel
theorem dX10_waysTogether_43 : decode cX10_waysTogether 43 = .ok (.if_icmp .ne 9, 3) := by decide +kernel
theorem dX10_waysTogether_46 : decode cX10_waysTogether 46 = .ok (.sipush 1000, 3) := by decide +kernel
theorem dX10_waysTogether_49 : decode cX10_waysTogether 49 = .ok (.goto 9, 3) := by decide +kernel
theorem dX10_waysTogether_52 : decode cX10_waysTogether 52 = .ok (.aload_n 0, 1) := by decide +kernel
theorem dX10_waysTogether_53 : decode cX10_waysTogether 53 = .ok (.getfield 58, 3) := by decide +kernel
theorem dX10_waysTogether_56 : decode cX10_waysTogether 56 = .ok (.iload_n 3, 1) := by decide +kernel
theorem dX10_waysTogether_57 : decode cX10_waysTogether 57 = .ok (.iaload, 1) := by decide +kernel
theorem dX10_waysTogether_58 : decode cX10_waysTogether 58 = .ok (.iadd, 1) := by decide +kernel
theorem dX10_waysTogether_59 : decode cX10_waysTogether 59 = .ok (.istore_n 1, 1) := by decide +kernel
theorem dX10_waysTogether_60 : decode cX10_waysTogether 60 = .ok (.iinc 3 1, 3) := by decide +kernel
theorem dX10_waysTogether_63 : decode cX10_waysTogether 63 = .ok (.goto (-35), 3) := by decide +kernel
theorem dX10_waysTogether_66 : decode cX10_waysTogether 66 = .ok (.iinc 2 1, 3) := by decide +kernel
theorem dX10_waysTogether_69 : decode cX10_waysTogether 69 = .ok (.goto (-65), 3) := by decide +kernel
theorem dX10_waysTogether_72 : decode cX10_waysTogether 72 = .ok (.iload_n 1, 1) := by decide +kernel
theorem dX10_waysTogether_73 : decode cX10_waysTogether 73 = .ok (.ireturn, 1) := by decide +kernel
theorem dX10_turningBridges_0 : decode cX10_turningBridges 0 = .ok (.iconst 0, 1) := by decide +kernel
theorem dX10_turningBridges_1 : decode cX10_turningBridges 1 = .ok (.istore_n 1, 1) := by decide +kernel
theorem dX10_turningBridges_2 : decode cX10_turningBridges 2 = .ok (.iconst 0, 1) := by decide +kernel
theorem dX10_turningBridges_3 : decode cX10_turningBridges 3 = .ok (.istore_n 2, 1) := by decide +kernel
theorem dX10_turningBridges_4 : decode cX10_turningBridges 4 = .ok (.iload_n 2, 1) := by decide +kernel
theorem dX10_turningBridges_5 : decode cX10_turningBridges 5 = .ok (.aload_n 0, 1) := by decide +kernel
theorem dX10_turningBridges_6 : decode cX10_turningBridges 6 = .ok (.getfield 26, 3) := by decide +kernel
theorem dX10_turningBridges_9 : decode cX10_turningBridges 9 = .ok (.invokevirtual 100, 3) := by decide +kernel
theorem dX10_turningBridges_12 : decode cX10_turningBridges 12 = .ok (.if_icmp .ge 26, 3) := by decide +kernel
theorem dX10_turningBridges_15 : decode cX10_turningBridges 15 = .ok (.aload_n 0, 1) := by decide +kernel
theorem dX10_turningBridges_16 : decode cX10_turningBridges 16 = .ok (.getfield 26, 3) := by decide +kernel
theorem dX10_turningBridges_19 : decode cX10_turningBridges 19 = .ok (.iload_n 2, 1) := by decide +kernel
theorem dX10_turningBridges_20 : decode cX10_turningBridges 20 = .ok (.invokevirtual 112, 3) := by decide +kernel
theorem dX10_turningBridges_23 : decode cX10_turningBridges 23 = .ok (.instanceof 184, 3) := by decide +kernel
theorem dX10_turningBridges_26 : decode cX10_turningBridges 26 = .ok (.ifCond .ne 6, 3) := by decide +kernel
theorem dX10_turningBridges_29 : decode cX10_turningBridges 29 = .ok (.iinc 1 1, 3) := by decide +kernel
theorem dX10_turningBridges_32 : decode cX10_turningBridges 32 = .ok (.iinc 2 1, 3) := by decide +kernel
theorem dX10_turningBridges_35 : decode cX10_turningBridges 35 = .ok (.goto (-31), 3) := by decide +kernel
theorem dX10_turningBridges_38 : decode cX10_turningBridges 38 = .ok (.iload_n 1, 1) := by decide +kernel
theorem dX10_turningBridges_39 : decode cX10_turningBridges 39 = .ok (.ireturn, 1) := by decide +kernel
theorem dX10_with_0 : decode cX10_with 0 = .ok (.ldc2_w 296, 3) := by decide +kernel
theorem dX10_with_3 : decode cX10_with 3 = .ok (.lload_n 0, 1) := by decide +kernel
theorem dX10_with_4 : decode cX10_with 4 = .ok (.lmul, 1) := by decide +kernel
theorem dX10_with_5 : decode cX10_with 5 = .ok (.lload_n 2, 1) := by decide +kernel
theorem dX10_with_6 : decode cX10_with 6 = .ok (.ladd, 1) := by decide +kernel
theorem dX10_with_7 : decode cX10_with 7 = .ok (.lreturn, 1) := by decide +kernel
theorem dX10_withBridge_0 : decode cX10_withBridge 0 = .ok (.lload_n 1, 1) := by decide +kernel
theorem dX10_withBridge_1 : decode cX10_withBridge 1 = .ok (.lstore 4, 2) := by decide +kernel
theorem dX10_withBridge_3 : decode cX10_withBridge 3 = .ok (.iconst 0, 1) := by decide +kernel
theorem dX10_withBridge_4 : decode cX10_withBridge 4 = .ok (.istore 6, 2) := by decide +kernel
theorem dX10_withBridge_6 : decode cX10_withBridge 6 = .ok (.iload 6, 2) := by decide +kernel
theorem dX10_withBridge_8 : decode cX10_withBridge 8 = .ok (.bipush 7, 2) := by decide +kernel
theorem dX10_withBridge_10 : decode cX10_withBridge 10 = .ok (.if_icmp .gt 24, 3) := by decide +kernel
theorem dX10_withBridge_13 : decode cX10_withBridge 13 = .ok (.lload 4, 2) := by decide +kernel
theorem dX10_withBridge_15 : decode cX10_withBridge 15 = .ok (.aload_n 0, 1) := by decide +kernel
theorem dX10_withBridge_16 : decode cX10_withBridge 16 = .ok (.aload_n 3, 1) := by decide +kernel
theorem dX10_withBridge_17 : decode cX10_withBridge 17 = .ok (.iload 6, 2) := by decide +kernel
theorem dX10_withBridge_19 : decode cX10_withBridge 19 = .ok (.invokevirtual 122, 3) := by decide +kernel
theorem dX10_withBridge_22 : decode cX10_withBridge 22 = .ok (.i2l, 1) := by decide +kernel
theorem dX10_withBridge_23 : decode cX10_withBridge 23 = .ok (.invokestatic 260, 3) := by decide +kernel
theorem dX10_withBridge_26 : decode cX10_withBridge 26 = .ok (.lstore 4, 2) := by decide +kernel
theorem dX10_withBridge_28 : decode cX10_withBridge 28 = .ok (.iinc 6 1, 3) := by decide +kernel
theorem dX10_withBridge_31 : decode cX10_withBridge 31 = .ok (.goto (-25), 3) := by decide +kernel
theorem dX10_withBridge_34 : decode cX10_withBridge 34 = .ok (.bipush 10, 2) := by decide +kernel
theorem dX10_withBridge_36 : decode cX10_withBridge 36 = .ok (.istore 6, 2) := by decide +kernel
theorem dX10_withBridge_38 : decode cX10_withBridge 38 = .ok (.iload 6, 2) := by decide +kernel
theorem dX10_withBridge_40 : decode cX10_withBridge 40 = .ok (.bipush 12, 2) := by decide +kernel
theorem dX10_withBridge_42 : decode cX10_withBridge 42 = .ok (.if_icmp .gt 24, 3) := by decide +kernel
theorem dX10_withBridge_45 : decode cX10_withBridge 45 = .ok (.lload 4, 2) := by decide +kernel
theorem dX10_withBridge_47 : decode cX10_withBridge 47 = .ok (.aload_n 0, 1) := by decide +kernel
theorem dX10_withBridge_48 : decode cX10_withBridge 48 = .ok (.aload_n 3, 1) := by decide +kernel
theorem dX10_withBridge_49 : decode cX10_withBridge 49 = .ok (.iload 6, 2) := by decide +kernel
theorem dX10_withBridge_51 : decode cX10_withBridge 51 = .ok (.invokevirtual 122, 3) := by decide +kernel
theorem dX10_withBridge_54 : decode cX10_withBridge 54 = .ok (.i2l, 1) := by decide +kernel
theorem dX10_withBridge_55 : decode cX10_withBridge 55 = .ok (.invokestatic 260, 3) := by decide +kernel
theorem dX10_withBridge_58 : decode cX10_withBridge 58 = .ok (.lstore 4, 2) := by decide +kernel
theorem dX10_withBridge_60 : decode cX10_withBridge 60 = .ok (.iinc 6 1, 3) := by decide +kernel
theorem dX10_withBridge_63 : decode cX10_withBridge 63 = .ok (.goto (-25), 3) := by decide +kernel
theorem dX10_withBridge_66 : decode cX10_withBridge 66 = .ok (.iconst 0, 1) := by decide +kernel
theorem dX10_withBridge_67 : decode cX10_withBridge 67 = .ok (.istore 6, 2) := by decide +kernel
theorem dX10_withBridge_69 : decode cX10_withBridge 69 = .ok (.iload 6, 2) := by decide +kernel
theorem dX10_withBridge_71 : decode cX10_withBridge 71 = .ok (.bipush 7, 2) := by decide +kernel
theorem dX10_withBridge_73 : decode cX10_withBridge 73 = .ok (.if_icmp .gt 55, 3) := by decide +kernel
theorem dX10_withBridge_76 : decode cX10_withBridge 76 = .ok (.lload 4, 2) := by decide +kernel
theorem dX10_withBridge_78 : decode cX10_withBridge 78 = .ok (.aload_n 3, 1) := by decide +kernel
theorem dX10_withBridge_79 : decode cX10_withBridge 79 = .ok (.iload 6, 2) := by decide +kernel
theorem dX10_withBridge_81 : decode cX10_withBridge 81 = .ok (.aload_n 3, 1) := by decide +kernel
theorem dX10_withBridge_82 : decode cX10_withBridge 82 = .ok (.getfield 126, 3) := by decide +kernel
theorem dX10_withBridge_85 : decode cX10_withBridge 85 = .ok (.iadd, 1) := by decide +kernel
theorem dX10_withBridge_86 : decode cX10_withBridge 86 = .ok (.aload_n 0, 1) := by decide +kernel
theorem dX10_withBridge_87 : decode cX10_withBridge 87 = .ok (.getfield 65, 3) := by decide +kernel
theorem dX10_withBridge_90 : decode cX10_withBridge 90 = .ok (.invokevirtual 130, 3) := by decide +kernel
theorem dX10_withBridge_93 : decode cX10_withBridge 93 = .ok (.i2l, 1) := by decide +kernel
theorem dX10_withBridge_94 : decode cX10_withBridge 94 = .ok (.invokestatic 260, 3) := by decide +kernel
theorem dX10_withBridge_97 : decode cX10_withBridge 97 = .ok (.lstore 4, 2) := by decide +kernel
theorem dX10_withBridge_99 : decode cX10_withBridge 99 = .ok (.lload 4, 2) := by decide +kernel
theorem dX10_withBridge_101 : decode cX10_withBridge 101 = .ok (.aload_n 3, 1) := by decide +kernel
theorem dX10_withBridge_102 : decode cX10_withBridge 102 = .ok (.iload 6, 2) := by decide +kernel
theorem dX10_withBridge_104 : decode cX10_withBridge 104 = .ok (.aload_n 3, 1) := by decide +kernel
theorem dX10_withBridge_105 : decode cX10_withBridge 105 = .ok (.getfield 126, 3) := by decide +kernel
theorem dX10_withBridge_108 : decode cX10_withBridge 108 = .ok (.iadd, 1) := by decide +kernel
theorem dX10_withBridge_109 : decode cX10_withBridge 109 = .ok (.aload_n 0, 1) := by decide +kernel
theorem dX10_withBridge_110 : decode cX10_withBridge 110 = .ok (.getfield 65, 3) := by decide +kernel
theorem dX10_withBridge_113 : decode cX10_withBridge 113 = .ok (.invokevirtual 134, 3) := by decide +kernel
theorem dX10_withBridge_116 : decode cX10_withBridge 116 = .ok (.i2l, 1) := by decide +kernel
theorem dX10_withBridge_117 : decode cX10_withBridge 117 = .ok (.invokestatic 260, 3) := by decide +kernel
theorem dX10_withBridge_120 : decode cX10_withBridge 120 = .ok (.lstore 4, 2) := by decide +kernel
theorem dX10_withBridge_122 : decode cX10_withBridge 122 = .ok (.iinc 6 7, 3) := by decide +kernel
theorem dX10_withBridge_125 : decode cX10_withBridge 125 = .ok (.goto (-56), 3) := by decide +kernel
theorem dX10_withBridge_128 : decode cX10_withBridge 128 = .ok (.lload 4, 2) := by decide +kernel
theorem dX10_withBridge_130 : decode cX10_withBridge 130 = .ok (.lreturn, 1) := by decide +kernel
theorem dJ9_floorMod_7cf53_0 : decode cJ9_floorMod_7cf53 0 = .ok (.iload_n 0, 1) := by decide +kernel
theorem dJ9_floorMod_7cf53_1 : decode cJ9_floorMod_7cf53 1 = .ok (.iload_n 1, 1) := by decide +kernel
theorem dJ9_floorMod_7cf53_2 : decode cJ9_floorMod_7cf53 2 = .ok (.irem, 1) := by decide +kernel
theorem dJ9_floorMod_7cf53_3 : decode cJ9_floorMod_7cf53 3 = .ok (.istore_n 2, 1) := by decide +kernel
theorem dJ9_floorMod_7cf53_4 : decode cJ9_floorMod_7cf53 4 = .ok (.iload_n 0, 1) := by decide +kernel
theorem dJ9_floorMod_7cf53_5 : decode cJ9_floorMod_7cf53 5 = .ok (.iload_n 1, 1) := by decide +kernel
theorem dJ9_floorMod_7cf53_6 : decode cJ9_floorMod_7cf53 6 = .ok (.ixor, 1) := by decide +kernel
theorem dJ9_floorMod_7cf53_7 : decode cJ9_floorMod_7cf53 7 = .ok (.ifCond .ge 11, 3) := by decide +kernel
theorem dJ9_floorMod_7cf53_10 : decode cJ9_floorMod_7cf53 10 = .ok (.iload_n 2, 1) := by decide +kernel
theorem dJ9_floorMod_7cf53_11 : decode cJ9_floorMod_7cf53 11 = .ok (.ifCond .eq 7, 3) := by decide +kernel
theorem dJ9_floorMod_7cf53_14 : decode cJ9_floorMod_7cf53 14 = .ok (.iload_n 2, 1) := by decide +kernel
theorem dJ9_floorMod_7cf53_15 : decode cJ9_floorMod_7cf53 15 = .ok (.iload_n 1, 1) := by decide +kernel
theorem dJ9_floorMod_7cf53_16 : decode cJ9_floorMod_7cf53 16 = .ok (.iadd, 1) := by decide +kernel
theorem dJ9_floorMod_7cf53_17 : decode cJ9_floorMod_7cf53 17 = .ok (.ireturn, 1) := by decide +kernel
theorem dJ9_floorMod_7cf53_18 : decode cJ9_floorMod_7cf53 18 = .ok (.iload_n 2, 1) := by decide +kernel
theorem dJ9_floorMod_7cf53_19 : decode cJ9_floorMod_7cf53 19 = .ok (.ireturn, 1) := by decide +kernel
theorem dJ9_max_7cf53_0 : decode cJ9_max_7cf53 0 = .ok (.iload_n 0, 1) := by decide +kernel
theorem dJ9_max_7cf53_1 : decode cJ9_max_7cf53 1 = .ok (.iload_n 1, 1) := by decide +kernel
theorem dJ9_max_7cf53_2 : decode cJ9_max_7cf53 2 = .ok (.if_icmp .lt 7, 3) := by decide +kernel
theorem dJ9_max_7cf53_5 : decode cJ9_max_7cf53 5 = .ok (.iload_n 0, 1) := by decide +kernel
theorem dJ9_max_7cf53_6 : decode cJ9_max_7cf53 6 = .ok (.goto 4, 3) := by decide +kernel
theorem dJ9_max_7cf53_9 : decode cJ9_max_7cf53 9 = .ok (.iload_n 1, 1) := by decide +kernel
theorem dJ9_max_7cf53_10 : decode cJ9_max_7cf53 10 = .ok (.ireturn, 1) := by decide +kernel
theorem dJ9_min_7cf53_0 : decode cJ9_min_7cf53 0 = .ok (.iload_n 0, 1) := by decide +kernel
theorem dJ9_min_7cf53_1 : decode cJ9_min_7cf53 1 = .ok (.iload_n 1, 1) := by decide +kernel
theorem dJ9_min_7cf53_2 : decode cJ9_min_7cf53 2 = .ok (.if_icmp .gt 7, 3) := by decide +kernel
theorem dJ9_min_7cf53_5 : decode cJ9_min_7cf53 5 = .ok (.iload_n 0, 1) := by decide +kernel
theorem dJ9_min_7cf53_6 : decode cJ9_min_7cf53 6 = .ok (.goto 4, 3) := by decide +kernel
theorem dJ9_min_7cf53_9 : decode cJ9_min_7cf53 9 = .ok (.iload_n 1, 1) := by decide +kernel
theorem dJ9_min_7cf53_10 : decode cJ9_min_7cf53 10 = .ok (.ireturn, 1) := by decide +kernel
theorem dJxa1e45_init_da8c8_0 : decode cJxa1e45_init_da8c8 0 = .ok (.aload_n 0, 1) := by decide +kernel
theorem dJxa1e45_init_da8c8_1 : decode cJxa1e45_init_da8c8 1 = .ok (.invokespecial 1, 3) := by decide +kernel
theorem dJxa1e45_init_da8c8_4 : decode cJxa1e45_init_da8c8 4 = .ok (.return_, 1) := by decide +kernel
theorem dJxc12de_init_da8c8_0 : decode cJxc12de_init_da8c8 0 = .ok (.aload_n 0, 1) := by decide +kernel
theorem dJxc12de_init_da8c8_1 : decode cJxc12de_init_da8c8 1 = .ok (.invokespecial 1, 3) := by decide +kernel
theorem dJxc12de_init_da8c8_4 : decode cJxc12de_init_da8c8 4 = .ok (.aload_n 0, 1) := by decide +kernel
theorem dJxc12de_init_da8c8_5 : decode cJxc12de_init_da8c8 5 = .ok (.iconst 0, 1) := by decide +kernel
theorem dJxc12de_init_da8c8_6 : decode cJxc12de_init_da8c8 6 = .ok (.putfield 7, 3) := by decide +kernel
theorem dJxc12de_init_da8c8_9 : decode cJxc12de_init_da8c8 9 = .ok (.return_, 1) := by decide +kernel
theorem dJx4a65c_init_da8c8_0 : decode cJx4a65c_init_da8c8 0 = .ok (.aload_n 0, 1) := by decide +kernel
theorem dJx4a65c_init_da8c8_1 : decode cJx4a65c_init_da8c8 1 = .ok (.invokespecial 1, 3) := by decide +kernel
theorem dJx4a65c_init_da8c8_4 : decode cJx4a65c_init_da8c8 4 = .ok (.aload_n 0, 1) := by decide +kernel
theorem dJx4a65c_init_da8c8_5 : decode cJx4a65c_init_da8c8 5 = .ok (.getstatic 39, 3) := by decide +kernel
theorem dJx4a65c_init_da8c8_8 : decode cJx4a65c_init_da8c8 8 = .ok (.putfield 9, 3) := by decide +kernel
theorem dJx4a65c_init_da8c8_11 : decode cJx4a65c_init_da8c8 11 = .ok (.return_, 1) := by decide +kernel
theorem dJx4a65c_grow_92f84_0 : decode cJx4a65c_grow_92f84 0 = .ok (.aload_n 0, 1) := by decide +kernel
theorem dJx4a65c_grow_92f84_1 : decode cJx4a65c_grow_92f84 1 = .ok (.getfield 9, 3) := by decide +kernel
theorem dJx4a65c_grow_92f84_4 : decode cJx4a65c_grow_92f84 4 = .ok (.arraylength, 1) := by decide +kernel
theorem dJx4a65c_grow_92f84_5 : decode cJx4a65c_grow_92f84 5 = .ok (.istore_n 2, 1) := by decide +kernel
theorem dJx4a65c_grow_92f84_6 : decode cJx4a65c_grow_92f84 6 = .ok (.iload_n 2, 1) := by decide +kernel
theorem dJx4a65c_grow_92f84_7 : decode cJx4a65c_grow_92f84 7 = .ok (.ifCond .gt 13, 3) := by decide +kernel
theorem dJx4a65c_grow_92f84_10 : decode cJx4a65c_grow_92f84 10 = .ok (.aload_n 0, 1) := by decide +kernel
theorem dJx4a65c_grow_92f84_11 : decode cJx4a65c_grow_92f84 11 = .ok (.getfield 9, 3) := by decide +kernel
theorem dJx4a65c_grow_92f84_14 : decode cJx4a65c_grow_92f84 14 = .ok (.getstatic 39, 3) := by decide +kernel
theorem dJx4a65c_grow_92f84_17 : decode cJx4a65c_grow_92f84 17 = .ok (.if_acmp .eq 28, 3) := by decide +kernel
theorem dJx4a65c_grow_92f84_20 : decode cJx4a65c_grow_92f84 20 = .ok (.iload_n 2, 1) := by decide +kernel
theorem dJx4a65c_grow_92f84_21 : decode cJx4a65c_grow_92f84 21 = .ok (.iload_n 1, 1) := by decide +kernel
theorem dJx4a65c_grow_92f84_22 : decode cJx4a65c_grow_92f84 22 = .ok (.iload_n 2, 1) := by decide +kernel
theorem dJx4a65c_grow_92f84_23 : decode cJx4a65c_grow_92f84 23 = .ok (.isub, 1) := by decide +kernel
theorem dJx4a65c_grow_92f84_24 : decode cJx4a65c_grow_92f84 24 = .ok (.iload_n 2, 1) := by decide +kernel
theorem dJx4a65c_grow_92f84_25 : decode cJx4a65c_grow_92f84 25 = .ok (.iconst 1, 1) := by decide +kernel
theorem dJx4a65c_grow_92f84_26 : decode cJx4a65c_grow_92f84 26 = .ok (.ishr, 1) := by decide +kernel
theorem dJx4a65c_grow_92f84_27 : decode cJx4a65c_grow_92f84 27 = .ok (.invokestatic 73, 3) := by decide +kernel
theorem dJx4a65c_grow_92f84_30 : decode cJx4a65c_grow_92f84 30 = .ok (.istore_n 3, 1) := by decide +kernel
theorem dJx4a65c_grow_92f84_31 : decode cJx4a65c_grow_92f84 31 = .ok (.aload_n 0, 1) := by decide +kernel
theorem dJx4a65c_grow_92f84_32 : decode cJx4a65c_grow_92f84 32 = .ok (.aload_n 0, 1) := by decide +kernel
theorem dJx4a65c_grow_92f84_33 : decode cJx4a65c_grow_92f84 33 = .ok (.getfield 9, 3) := by decide +kernel
theorem dJx4a65c_grow_92f84_36 : decode cJx4a65c_grow_92f84 36 = .ok (.iload_n 3, 1) := by decide +kernel
theorem dJx4a65c_grow_92f84_37 : decode cJx4a65c_grow_92f84 37 = .ok (.invokestatic 66, 3) := by decide +kernel
theorem dJx4a65c_grow_92f84_40 : decode cJx4a65c_grow_92f84 40 = .ok (.dup_x1, 1) := by decide +kernel
theorem dJx4a65c_grow_92f84_41 : decode cJx4a65c_grow_92f84 41 = .ok (.putfield 9, 3) := by decide +kernel
theorem dJx4a65c_grow_92f84_44 : decode cJx4a65c_grow_92f84 44 = .ok (.areturn, 1) := by decide +kernel
theorem dJx4a65c_grow_92f84_45 : decode cJx4a65c_grow_92f84 45 = .ok (.aload_n 0, 1) := by decide +kernel
theorem dJx4a65c_grow_92f84_46 : decode cJx4a65c_grow_92f84 46 = .ok (.bipush 10, 2) := by decide +kernel
theorem dJx4a65c_grow_92f84_48 : decode cJx4a65c_grow_92f84 48 = .ok (.iload_n 1, 1) := by decide +kernel
theorem dJx4a65c_grow_92f84_49 : decode cJx4a65c_grow_92f84 49 = .ok (.invokestatic 79, 3) := by decide +kernel
theorem dJx4a65c_grow_92f84_52 : decode cJx4a65c_grow_92f84 52 = .ok (.anewarray 7, 3) := by decide +kernel
theorem dJx4a65c_grow_92f84_55 : decode cJx4a65c_grow_92f84 55 = .ok (.dup_x1, 1) := by decide +kernel
theorem dJx4a65c_grow_92f84_56 : decode cJx4a65c_grow_92f84 56 = .ok (.putfield 9, 3) := by decide +kernel
theorem dJx4a65c_grow_92f84_59 : decode cJx4a65c_grow_92f84 59 = .ok (.areturn, 1) := by decide +kernel
theorem dJx4a65c_grow_d5877_0 : decode cJx4a65c_grow_d5877 0 = .ok (.aload_n 0, 1) := by decide +kernel
theorem dJx4a65c_grow_d5877_1 : decode cJx4a65c_grow_d5877 1 = .ok (.aload_n 0, 1) := by decide +kernel
theorem dJx4a65c_grow_d5877_2 : decode cJx4a65c_grow_d5877 2 = .ok (.getfield 48, 3) := by decide +kernel
theorem dJx4a65c_grow_d5877_5 : decode cJx4a65c_grow_d5877 5 = .ok (.iconst 1, 1) := by decide +kernel
theorem dJx4a65c_grow_d5877_6 : decode cJx4a65c_grow_d5877 6 = .ok (.iadd, 1) := by decide +kernel
theorem dJx4a65c_grow_d5877_7 : decode cJx4a65c_grow_d5877 7 = .ok (.invokevirtual 69, 3) := by decide +kernel
theorem dJx4a65c_grow_d5877_10 : decode cJx4a65c_grow_d5877 10 = .ok (.areturn, 1) := by decide +kernel
theorem dJx4a65c_size_8abf5_0 : decode cJx4a65c_size_8abf5 0 = .ok (.aload_n 0, 1) := by decide +kernel
theorem dJx4a65c_size_8abf5_1 : decode cJx4a65c_size_8abf5 1 = .ok (.getfield 48, 3) := by decide +kernel
theorem dJx4a65c_size_8abf5_4 : decode cJx4a65c_size_8abf5 4 = .ok (.ireturn, 1) := by decide +kernel
theorem dJx4a65c_elementData_915e3_0 : decode cJx4a65c_elementData_915e3 0 = .ok (.aload_n 0, 1) := by decide +kernel
theorem dJx4a65c_elementData_915e3_1 : decode cJx4a65c_elementData_915e3 1 = .ok (.getfield 9, 3) := by decide +kernel
theorem dJx4a65c_elementData_915e3_4 : decode cJx4a65c_elementData_915e3 4 = .ok (.iload_n 1, 1) := by decide +kernel
theorem dJx4a65c_elementData_915e3_5 : decode cJx4a65c_elementData_915e3 5 = .ok (.aaload, 1) := by decide +kernel
theorem dJx4a65c_elementData_915e3_6 : decode cJx4a65c_elementData_915e3 6 = .ok (.areturn, 1) := by decide +kernel
theorem dJx4a65c_get_915e3_0 : decode cJx4a65c_get_915e3 0 = .ok (.iload_n 1, 1) := by decide +kernel
theorem dJx4a65c_get_915e3_1 : decode cJx4a65c_get_915e3 1 = .ok (.aload_n 0, 1) := by decide +kernel
theorem dJx4a65c_get_915e3_2 : decode cJx4a65c_get_915e3 2 = .ok (.getfield 48, 3) := by decide +kernel
theorem dJx4a65c_get_915e3_5 : decode cJx4a65c_get_915e3 5 = .ok (.invokestatic 118, 3) := by decide +kernel
theorem dJx4a65c_get_915e3_8 : decode cJx4a65c_get_915e3 8 = .ok (.pop, 1) := by decide +kernel
theorem dJx4a65c_get_915e3_9 : decode cJx4a65c_get_915e3 9 = .ok (.aload_n 0, 1) := by decide +kernel
theorem dJx4a65c_get_915e3_10 : decode cJx4a65c_get_915e3 10 = .ok (.iload_n 1, 1) := by decide +kernel
theorem dJx4a65c_get_915e3_11 : decode cJx4a65c_get_915e3 11 = .ok (.invokevirtual 123, 3) := by decide +kernel
theorem dJx4a65c_get_915e3_14 : decode cJx4a65c_get_915e3 14 = .ok (.areturn, 1) := by decide +kernel
theorem dJx4a65c_add_72be8_0 : decode cJx4a65c_add_72be8 0 = .ok (.iload_n 3, 1) := by decide +kernel
theorem dJx4a65c_add_72be8_1 : decode cJx4a65c_add_72be8 1 = .ok (.aload_n 2, 1) := by decide +kernel
theorem dJx4a65c_add_72be8_2 : decode cJx4a65c_add_72be8 2 = .ok (.arraylength, 1) := by decide +kernel
theorem dJx4a65c_add_72be8_3 : decode cJx4a65c_add_72be8 3 = .ok (.if_icmp .ne 8, 3) := by decide +kernel
theorem dJx4a65c_add_72be8_6 : decode cJx4a65c_add_72be8 6 = .ok (.aload_n 0, 1) := by decide +kernel
theorem dJx4a65c_add_72be8_7 : decode cJx4a65c_add_72be8 7 = .ok (.invokevirtual 129, 3) := by decide +kernel
theorem dJx4a65c_add_72be8_10 : decode cJx4a65c_add_72be8 10 = .ok (.astore_n 2, 1) := by decide +kernel
theorem dJx4a65c_add_72be8_11 : decode cJx4a65c_add_72be8 11 = .ok (.aload_n 2, 1) := by decide +kernel
theorem dJx4a65c_add_72be8_12 : decode cJx4a65c_add_72be8 12 = .ok (.iload_n 3, 1) := by decide +kernel
theorem dJx4a65c_add_72be8_13 : decode cJx4a65c_add_72be8 13 = .ok (.aload_n 1, 1) := by decide +kernel
theorem dJx4a65c_add_72be8_14 : decode cJx4a65c_add_72be8 14 = .ok (.aastore, 1) := by decide +kernel
theorem dJx4a65c_add_72be8_15 : decode cJx4a65c_add_72be8 15 = .ok (.aload_n 0, 1) := by decide +kernel
theorem dJx4a65c_add_72be8_16 : decode cJx4a65c_add_72be8 16 = .ok (.iload_n 3, 1) := by decide +kernel
theorem dJx4a65c_add_72be8_17 : decode cJx4a65c_add_72be8 17 = .ok (.iconst 1, 1) := by decide +kernel
theorem dJx4a65c_add_72be8_18 : decode cJx4a65c_add_72be8 18 = .ok (.iadd, 1) := by decide +kernel
theorem dJx4a65c_add_72be8_19 : decode cJx4a65c_add_72be8 19 = .ok (.putfield 48, 3) := by decide +kernel
theorem dJx4a65c_add_72be8_22 : decode cJx4a65c_add_72be8 22 = .ok (.return_, 1) := by decide +kernel
theorem dJx4a65c_add_9ea2d_0 : decode cJx4a65c_add_9ea2d 0 = .ok (.aload_n 0, 1) := by decide +kernel
theorem dJx4a65c_add_9ea2d_1 : decode cJx4a65c_add_9ea2d 1 = .ok (.dup, 1) := by decide +kernel
theorem dJx4a65c_add_9ea2d_2 : decode cJx4a65c_add_9ea2d 2 = .ok (.getfield 63, 3) := by decide +kernel
theorem dJx4a65c_add_9ea2d_5 : decode cJx4a65c_add_9ea2d 5 = .ok (.iconst 1, 1) := by decide +kernel
theorem dJx4a65c_add_9ea2d_6 : decode cJx4a65c_add_9ea2d 6 = .ok (.iadd, 1) := by decide +kernel
theorem dJx4a65c_add_9ea2d_7 : decode cJx4a65c_add_9ea2d 7 = .ok (.putfield 63, 3) := by decide +kernel
theorem dJx4a65c_add_9ea2d_10 : decode cJx4a65c_add_9ea2d 10 = .ok (.aload_n 0, 1) := by decide +kernel
theorem dJx4a65c_add_9ea2d_11 : decode cJx4a65c_add_9ea2d 11 = .ok (.aload_n 1, 1) := by decide +kernel
theorem dJx4a65c_add_9ea2d_12 : decode cJx4a65c_add_9ea2d 12 = .ok (.aload_n 0, 1) := by decide +kernel
theorem dJx4a65c_add_9ea2d_13 : decode cJx4a65c_add_9ea2d 13 = .ok (.getfield 9, 3) := by decide +kernel
theorem dJx4a65c_add_9ea2d_16 : decode cJx4a65c_add_9ea2d 16 = .ok (.aload_n 0, 1) := by decide +kernel
theorem dJx4a65c_add_9ea2d_17 : decode cJx4a65c_add_9ea2d 17 = .ok (.getfield 48, 3) := by decide +kernel
theorem dJx4a65c_add_9ea2d_20 : decode cJx4a65c_add_9ea2d 20 = .ok (.invokevirtual 131, 3) := by decide +kernel
theorem dJx4a65c_add_9ea2d_23 : decode cJx4a65c_add_9ea2d 23 = .ok (.iconst 1, 1) := by decide +kernel
theorem dJx4a65c_add_9ea2d_24 : decode cJx4a65c_add_9ea2d 24 = .ok (.ireturn, 1) := by decide +kernel
theorem dJx4a65c_remove_915e3_0 : decode cJx4a65c_remove_915e3 0 = .ok (.iload_n 1, 1) := by decide +kernel
theorem dJx4a65c_remove_915e3_1 : decode cJx4a65c_remove_915e3 1 = .ok (.aload_n 0, 1) := by decide +kernel
theorem dJx4a65c_remove_915e3_2 : decode cJx4a65c_remove_915e3 2 = .ok (.getfield 48, 3) := by decide +kernel
theorem dJx4a65c_remove_915e3_5 : decode cJx4a65c_remove_915e3 5 = .ok (.invokestatic 118, 3) := by decide +kernel
theorem dJx4a65c_remove_915e3_8 : decode cJx4a65c_remove_915e3 8 = .ok (.pop, 1) := by decide +kernel
theorem dJx4a65c_remove_915e3_9 : decode cJx4a65c_remove_915e3 9 = .ok (.aload_n 0, 1) := by decide +kernel
theorem dJx4a65c_remove_915e3_10 : decode cJx4a65c_remove_915e3 10 = .ok (.getfield 9, 3) := by decide +kernel
theorem dJx4a65c_remove_915e3_13 : decode cJx4a65c_remove_915e3 13 = .ok (.astore_n 2, 1) := by decide +kernel
theorem dJx4a65c_remove_915e3_14 : decode cJx4a65c_remove_915e3 14 = .ok (.aload_n 2, 1) := by decide +kernel
theorem dJx4a65c_remove_915e3_15 : decode cJx4a65c_remove_915e3 15 = .ok (.iload_n 1, 1) := by decide +kernel
theorem dJx4a65c_remove_915e3_16 : decode cJx4a65c_remove_915e3 16 = .ok (.aaload, 1) := by decide +kernel
theorem dJx4a65c_remove_915e3_17 : decode cJx4a65c_remove_915e3 17 = .ok (.astore_n 3, 1) := by decide +kernel
theorem dJx4a65c_remove_915e3_18 : decode cJx4a65c_remove_915e3 18 = .ok (.aload_n 0, 1) := by decide +kernel
theorem dJx4a65c_remove_915e3_19 : decode cJx4a65c_remove_915e3 19 = .ok (.aload_n 2, 1) := by decide +kernel
theorem dJx4a65c_remove_915e3_20 : decode cJx4a65c_remove_915e3 20 = .ok (.iload_n 1, 1) := by decide +kernel
theorem dJx4a65c_remove_915e3_21 : decode cJx4a65c_remove_915e3 21 = .ok (.invokevirtual 144, 3) := by decide +kernel
theorem dJx4a65c_remove_915e3_24 : decode cJx4a65c_remove_915e3 24 = .ok (.aload_n 3, 1) := by decide +kernel
theorem dJx4a65c_remove_915e3_25 : decode cJx4a65c_remove_915e3 25 = .ok (.areturn, 1) := by decide +kernel
theorem dJx4a65c_fastRemove_b59b0_0 : decode cJx4a65c_fastRemove_b59b0 0 = .ok (.aload_n 0, 1) := by decide +kernel
theorem dJx4a65c_fastRemove_b59b0_1 : decode cJx4a65c_fastRemove_b59b0 1 = .ok (.dup, 1) := by decide +kernel
theorem dJx4a65c_fastRemove_b59b0_2 : decode cJx4a65c_fastRemove_b59b0 2 = .ok (.getfield 63, 3) := by decide +kernel
theorem dJx4a65c_fastRemove_b59b0_5 : decode cJx4a65c_fastRemove_b59b0 5 = .ok (.iconst 1, 1) := by decide +kernel
theorem dJx4a65c_fastRemove_b59b0_6 : decode cJx4a65c_fastRemove_b59b0 6 = .ok (.iadd, 1) := by decide +kernel
theorem dJx4a65c_fastRemove_b59b0_7 : decode cJx4a65c_fastRemove_b59b0 7 = .ok (.putfield 63, 3) := by decide +kernel
theorem dJx4a65c_fastRemove_b59b0_10 : decode cJx4a65c_fastRemove_b59b0 10 = .ok (.aload_n 0, 1) := by decide +kernel
theorem dJx4a65c_fastRemove_b59b0_11 : decode cJx4a65c_fastRemove_b59b0 11 = .ok (.getfield 48, 3) := by decide +kernel
theorem dJx4a65c_fastRemove_b59b0_14 : decode cJx4a65c_fastRemove_b59b0 14 = .ok (.iconst 1, 1) := by decide +kernel
theorem dJx4a65c_fastRemove_b59b0_15 : decode cJx4a65c_fastRemove_b59b0 15 = .ok (.isub, 1) := by decide +kernel
theorem dJx4a65c_fastRemove_b59b0_16 : decode cJx4a65c_fastRemove_b59b0 16 = .ok (.dup, 1) := by decide +kernel
theorem dJx4a65c_fastRemove_b59b0_17 : decode cJx4a65c_fastRemove_b59b0 17 = .ok (.istore_n 3, 1) := by decide +kernel
theorem dJx4a65c_fastRemove_b59b0_18 : decode cJx4a65c_fastRemove_b59b0 18 = .ok (.iload_n 2, 1) := by decide +kernel
theorem dJx4a65c_fastRemove_b59b0_19 : decode cJx4a65c_fastRemove_b59b0 19 = .ok (.if_icmp .le 15, 3) := by decide +kernel
theorem dJx4a65c_fastRemove_b59b0_22 : decode cJx4a65c_fastRemove_b59b0 22 = .ok (.aload_n 1, 1) := by decide +kernel
theorem dJx4a65c_fastRemove_b59b0_23 : decode cJx4a65c_fastRemove_b59b0 23 = .ok (.iload_n 2, 1) := by decide +kernel
theorem dJx4a65c_fastRemove_b59b0_24 : decode cJx4a65c_fastRemove_b59b0 24 = .ok (.iconst 1, 1) := by decide +kernel
theorem dJx4a65c_fastRemove_b59b0_25 : decode cJx4a65c_fastRemove_b59b0 25 = .ok (.iadd, 1) := by decide +kernel
theorem dJx4a65c_fastRemove_b59b0_26 : decode cJx4a65c_fastRemove_b59b0 26 = .ok (.aload_n 1, 1) := by decide +kernel
theorem dJx4a65c_fastRemove_b59b0_27 : decode cJx4a65c_fastRemove_b59b0 27 = .ok (.iload_n 2, 1) := by decide +kernel
theorem dJx4a65c_fastRemove_b59b0_28 : decode cJx4a65c_fastRemove_b59b0 28 = .ok (.iload_n 3, 1) := by decide +kernel
theorem dJx4a65c_fastRemove_b59b0_29 : decode cJx4a65c_fastRemove_b59b0 29 = .ok (.iload_n 2, 1) := by decide +kernel
theorem dJx4a65c_fastRemove_b59b0_30 : decode cJx4a65c_fastRemove_b59b0 30 = .ok (.isub, 1) := by decide +kernel
theorem dJx4a65c_fastRemove_b59b0_31 : decode cJx4a65c_fastRemove_b59b0 31 = .ok (.invokestatic 112, 3) := by decide +kernel
theorem dJx4a65c_fastRemove_b59b0_34 : decode cJx4a65c_fastRemove_b59b0 34 = .ok (.aload_n 1, 1) := by decide +kernel
theorem dJx4a65c_fastRemove_b59b0_35 : decode cJx4a65c_fastRemove_b59b0 35 = .ok (.aload_n 0, 1) := by decide +kernel
theorem dJx4a65c_fastRemove_b59b0_36 : decode cJx4a65c_fastRemove_b59b0 36 = .ok (.iload_n 3, 1) := by decide +kernel
theorem dJx4a65c_fastRemove_b59b0_37 : decode cJx4a65c_fastRemove_b59b0 37 = .ok (.dup_x1, 1) := by decide +kernel
theorem dJx4a65c_fastRemove_b59b0_38 : decode cJx4a65c_fastRemove_b59b0 38 = .ok (.putfield 48, 3) := by decide +kernel
theorem dJx4a65c_fastRemove_b59b0_41 : decode cJx4a65c_fastRemove_b59b0 41 = .ok (.aconst_null, 1) := by decide +kernel
theorem dJx4a65c_fastRemove_b59b0_42 : decode cJx4a65c_fastRemove_b59b0 42 = .ok (.aastore, 1) := by decide +kernel
theorem dJx4a65c_fastRemove_b59b0_43 : decode cJx4a65c_fastRemove_b59b0 43 = .ok (.return_, 1) := by decide +kernel
theorem dJ7_fill_53178_0 : decode cJ7_fill_53178 0 = .ok (.iconst 0, 1) := by decide +kernel
theorem dJ7_fill_53178_1 : decode cJ7_fill_53178 1 = .ok (.istore_n 2, 1) := by decide +kernel
theorem dJ7_fill_53178_2 : decode cJ7_fill_53178 2 = .ok (.aload_n 0, 1) := by decide +kernel
theorem dJ7_fill_53178_3 : decode cJ7_fill_53178 3 = .ok (.arraylength, 1) := by decide +kernel
theorem dJ7_fill_53178_4 : decode cJ7_fill_53178 4 = .ok (.istore_n 3, 1) := by decide +kernel
theorem dJ7_fill_53178_5 : decode cJ7_fill_53178 5 = .ok (.iload_n 2, 1) := by decide +kernel
theorem dJ7_fill_53178_6 : decode cJ7_fill_53178 6 = .ok (.iload_n 3, 1) := by decide +kernel
theorem dJ7_fill_53178_7 : decode cJ7_fill_53178 7 = .ok (.if_icmp .ge 13, 3) := by decide +kernel
theorem dJ7_fill_53178_10 : decode cJ7_fill_53178 10 = .ok (.aload_n 0, 1) := by decide +kernel
theorem dJ7_fill_53178_11 : decode cJ7_fill_53178 11 = .ok (.iload_n 2, 1) := by decide +kernel
theorem dJ7_fill_53178_12 : decode cJ7_fill_53178 12 = .ok (.iload_n 1, 1) := by decide +kernel
theorem dJ7_fill_53178_13 : decode cJ7_fill_53178 13 = .ok (.iastore, 1) := by decide +kernel
theorem dJ7_fill_53178_14 : decode cJ7_fill_53178 14 = .ok (.iinc 2 1, 3) := by decide +kernel
theorem dJ7_fill_53178_17 : decode cJ7_fill_53178 17 = .ok (.goto (-12), 3) := by decide +kernel
theorem dJ7_fill_53178_20 : decode cJ7_fill_53178 20 = .ok (.return_, 1) := by decide +kernel
theorem dJ7_copyOf_1904c_0 : decode cJ7_copyOf_1904c 0 = .ok (.aload_n 0, 1) := by decide +kernel
theorem dJ7_copyOf_1904c_1 : decode cJ7_copyOf_1904c 1 = .ok (.iload_n 1, 1) := by decide +kernel
theorem dJ7_copyOf_1904c_2 : decode cJ7_copyOf_1904c 2 = .ok (.aload_n 0, 1) := by decide +kernel
theorem dJ7_copyOf_1904c_3 : decode cJ7_copyOf_1904c 3 = .ok (.invokevirtual 86, 3) := by decide +kernel
theorem dJ7_copyOf_1904c_6 : decode cJ7_copyOf_1904c 6 = .ok (.invokestatic 300, 3) := by decide +kernel
theorem dJ7_copyOf_1904c_9 : decode cJ7_copyOf_1904c 9 = .ok (.areturn, 1) := by decide +kernel
theorem dJ7_copyOf_6403c_0 : decode cJ7_copyOf_6403c 0 = .ok (.aload_n 2, 1) := by decide +kernel
theorem dJ7_copyOf_6403c_1 : decode cJ7_copyOf_6403c 1 = .ok (.ldc 110, 2) := by decide +kernel
theorem dJ7_copyOf_6403c_3 : decode cJ7_copyOf_6403c 3 = .ok (.if_acmp .ne 10, 3) := by decide +kernel
theorem dJ7_copyOf_6403c_6 : decode cJ7_copyOf_6403c 6 = .ok (.iload_n 1, 1) := by decide +kernel
theorem dJ7_copyOf_6403c_7 : decode cJ7_copyOf_6403c 7 = .ok (.anewarray 2, 3) := by decide +kernel
theorem dJ7_copyOf_6403c_10 : decode cJ7_copyOf_6403c 10 = .ok (.goto 14, 3) := by decide +kernel
theorem dJ7_copyOf_6403c_13 : decode cJ7_copyOf_6403c 13 = .ok (.aload_n 2, 1) := by decide +kernel
theorem dJ7_copyOf_6403c_14 : decode cJ7_copyOf_6403c 14 = .ok (.invokevirtual 90, 3) := by decide +kernel
theorem dJ7_copyOf_6403c_17 : decode cJ7_copyOf_6403c 17 = .ok (.iload_n 1, 1) := by decide +kernel
theorem dJ7_copyOf_6403c_18 : decode cJ7_copyOf_6403c 18 = .ok (.invokestatic 95, 3) := by decide +kernel
theorem dJ7_copyOf_6403c_21 : decode cJ7_copyOf_6403c 21 = .ok (.checkcast 110, 3) := by decide +kernel
theorem dJ7_copyOf_6403c_24 : decode cJ7_copyOf_6403c 24 = .ok (.astore_n 3, 1) := by decide +kernel
theorem dJ7_copyOf_6403c_25 : decode cJ7_copyOf_6403c 25 = .ok (.aload_n 0, 1) := by decide +kernel
theorem dJ7_copyOf_6403c_26 : decode cJ7_copyOf_6403c 26 = .ok (.iconst 0, 1) := by decide +kernel
theorem dJ7_copyOf_6403c_27 : decode cJ7_copyOf_6403c 27 = .ok (.aload_n 3, 1) := by decide +kernel
theorem dJ7_copyOf_6403c_28 : decode cJ7_copyOf_6403c 28 = .ok (.iconst 0, 1) := by decide +kernel
theorem dJ7_copyOf_6403c_29 : decode cJ7_copyOf_6403c 29 = .ok (.aload_n 0, 1) := by decide +kernel
theorem dJ7_copyOf_6403c_30 : decode cJ7_copyOf_6403c 30 = .ok (.arraylength, 1) := by decide +kernel
theorem dJ7_copyOf_6403c_31 : decode cJ7_copyOf_6403c 31 = .ok (.iload_n 1, 1) := by decide +kernel
theorem dJ7_copyOf_6403c_32 : decode cJ7_copyOf_6403c 32 = .ok (.invokestatic 304, 3) := by decide +kernel
theorem dJ7_copyOf_6403c_35 : decode cJ7_copyOf_6403c 35 = .ok (.invokestatic 150, 3) := by decide +kernel
theorem dJ7_copyOf_6403c_38 : decode cJ7_copyOf_6403c 38 = .ok (.aload_n 3, 1) := by decide +kernel
theorem dJ7_copyOf_6403c_39 : decode cJ7_copyOf_6403c 39 = .ok (.areturn, 1) := by decide +kernel
theorem dJ7_copyOf_59c91_0 : decode cJ7_copyOf_59c91 0 = .ok (.iload_n 1, 1) := by decide +kernel
theorem dJ7_copyOf_59c91_1 : decode cJ7_copyOf_59c91 1 = .ok (.aload_n 0, 1) := by decide +kernel
theorem dJ7_copyOf_59c91_2 : decode cJ7_copyOf_59c91 2 = .ok (.arraylength, 1) := by decide +kernel
theorem dJ7_copyOf_59c91_3 : decode cJ7_copyOf_59c91 3 = .ok (.if_icmp .ne 11, 3) := by decide +kernel
theorem dJ7_copyOf_59c91_6 : decode cJ7_copyOf_59c91 6 = .ok (.aload_n 0, 1) := by decide +kernel
theorem dJ7_copyOf_59c91_7 : decode cJ7_copyOf_59c91 7 = .ok (.invokevirtual 316, 3) := by decide +kernel
theorem dJ7_copyOf_59c91_10 : decode cJ7_copyOf_59c91 10 = .ok (.checkcast 317, 3) := by decide +kernel
theorem dJ7_copyOf_59c91_13 : decode cJ7_copyOf_59c91 13 = .ok (.areturn, 1) := by decide +kernel
theorem dJ7_copyOf_59c91_14 : decode cJ7_copyOf_59c91 14 = .ok (.iload_n 1, 1) := by decide +kernel
theorem dJ7_copyOf_59c91_15 : decode cJ7_copyOf_59c91 15 = .ok (.newarray .int, 2) := by decide +kernel
theorem dJ7_copyOf_59c91_17 : decode cJ7_copyOf_59c91 17 = .ok (.astore_n 2, 1) := by decide +kernel
theorem dJ7_copyOf_59c91_18 : decode cJ7_copyOf_59c91 18 = .ok (.aload_n 0, 1) := by decide +kernel
theorem dJ7_copyOf_59c91_19 : decode cJ7_copyOf_59c91 19 = .ok (.iconst 0, 1) := by decide +kernel
theorem dJ7_copyOf_59c91_20 : decode cJ7_copyOf_59c91 20 = .ok (.aload_n 2, 1) := by decide +kernel
theorem dJ7_copyOf_59c91_21 : decode cJ7_copyOf_59c91 21 = .ok (.iconst 0, 1) := by decide +kernel
theorem dJ7_copyOf_59c91_22 : decode cJ7_copyOf_59c91 22 = .ok (.aload_n 0, 1) := by decide +kernel
theorem dJ7_copyOf_59c91_23 : decode cJ7_copyOf_59c91 23 = .ok (.arraylength, 1) := by decide +kernel
theorem dJ7_copyOf_59c91_24 : decode cJ7_copyOf_59c91 24 = .ok (.iload_n 1, 1) := by decide +kernel
theorem dJ7_copyOf_59c91_25 : decode cJ7_copyOf_59c91 25 = .ok (.invokestatic 304, 3) := by decide +kernel
theorem dJ7_copyOf_59c91_28 : decode cJ7_copyOf_59c91 28 = .ok (.invokestatic 150, 3) := by decide +kernel
theorem dJ7_copyOf_59c91_31 : decode cJ7_copyOf_59c91 31 = .ok (.aload_n 2, 1) := by decide +kernel
theorem dJ7_copyOf_59c91_32 : decode cJ7_copyOf_59c91 32 = .ok (.areturn, 1) := by decide +kernel
theorem dJ15_checkIndex_7cf53_0 : decode cJ15_checkIndex_7cf53 0 = .ok (.iload_n 0, 1) := by decide +kernel
theorem dJ15_checkIndex_7cf53_1 : decode cJ15_checkIndex_7cf53 1 = .ok (.iload_n 1, 1) := by decide +kernel
theorem dJ15_checkIndex_7cf53_2 : decode cJ15_checkIndex_7cf53 2 = .ok (.aconst_null, 1) := by decide +kernel
theorem dJ15_checkIndex_7cf53_3 : decode cJ15_checkIndex_7cf53 3 = .ok (.invokestatic 105, 3) := by decide +kernel
theorem dJ15_checkIndex_7cf53_6 : decode cJ15_checkIndex_7cf53 6 = .ok (.ireturn, 1) := by decide +kernel
theorem dJ8_newLength_cabcc_0 : decode cJ8_newLength_cabcc 0 = .ok (.iload_n 0, 1) := by decide +kernel
theorem dJ8_newLength_cabcc_1 : decode cJ8_newLength_cabcc 1 = .ok (.iload_n 1, 1) := by decide +kernel
theorem dJ8_newLength_cabcc_2 : decode cJ8_newLength_cabcc 2 = .ok (.iload_n 2, 1) := by decide +kernel
theorem dJ8_newLength_cabcc_3 : decode cJ8_newLength_cabcc 3 = .ok (.invokestatic 194, 3) := by decide +kernel
theorem dJ8_newLength_cabcc_6 : decode cJ8_newLength_cabcc 6 = .ok (.iadd, 1) := by decide +kernel
theorem dJ8_newLength_cabcc_7 : decode cJ8_newLength_cabcc 7 = .ok (.istore_n 3, 1) := by decide +kernel
theorem dJ8_newLength_cabcc_8 : decode cJ8_newLength_cabcc 8 = .ok (.iconst 0, 1) := by decide +kernel
theorem dJ8_newLength_cabcc_9 : decode cJ8_newLength_cabcc 9 = .ok (.iload_n 3, 1) := by decide +kernel
theorem dJ8_newLength_cabcc_10 : decode cJ8_newLength_cabcc 10 = .ok (.if_icmp .ge 11, 3) := by decide +kernel
theorem dJ8_newLength_cabcc_13 : decode cJ8_newLength_cabcc 13 = .ok (.iload_n 3, 1) := by decide +kernel
theorem dJ8_newLength_cabcc_14 : decode cJ8_newLength_cabcc 14 = .ok (.ldc 200, 2) := by decide +kernel
theorem dJ8_newLength_cabcc_16 : decode cJ8_newLength_cabcc 16 = .ok (.if_icmp .gt 5, 3) := by decide +kernel
theorem dJ8_newLength_cabcc_19 : decode cJ8_newLength_cabcc 19 = .ok (.iload_n 3, 1) := by decide +kernel
theorem dJ8_newLength_cabcc_20 : decode cJ8_newLength_cabcc 20 = .ok (.ireturn, 1) := by decide +kernel
theorem dJ8_newLength_cabcc_21 : decode cJ8_newLength_cabcc 21 = .ok (.iload_n 0, 1) := by decide +kernel
theorem dJ8_newLength_cabcc_22 : decode cJ8_newLength_cabcc 22 = .ok (.iload_n 1, 1) := by decide +kernel
theorem dJ8_newLength_cabcc_23 : decode cJ8_newLength_cabcc 23 = .ok (.invokestatic 201, 3) := by decide +kernel
theorem dJ8_newLength_cabcc_26 : decode cJ8_newLength_cabcc 26 = .ok (.ireturn, 1) := by decide +kernel
theorem dJ8_hugeLength_7cf53_0 : decode cJ8_hugeLength_7cf53 0 = .ok (.iload_n 0, 1) := by decide +kernel
theorem dJ8_hugeLength_7cf53_1 : decode cJ8_hugeLength_7cf53 1 = .ok (.iload_n 1, 1) := by decide +kernel
theorem dJ8_hugeLength_7cf53_2 : decode cJ8_hugeLength_7cf53 2 = .ok (.iadd, 1) := by decide +kernel
theorem dJ8_hugeLength_7cf53_3 : decode cJ8_hugeLength_7cf53 3 = .ok (.istore_n 2, 1) := by decide +kernel
theorem dJ8_hugeLength_7cf53_4 : decode cJ8_hugeLength_7cf53 4 = .ok (.iload_n 2, 1) := by decide +kernel
theorem dJ8_hugeLength_7cf53_5 : decode cJ8_hugeLength_7cf53 5 = .ok (.ifCond .ge 44, 3) := by decide +kernel
theorem dJ8_hugeLength_7cf53_8 : decode cJ8_hugeLength_7cf53 8 = .ok (.new 204, 3) := by decide +kernel
theorem dJ8_hugeLength_7cf53_11 : decode cJ8_hugeLength_7cf53 11 = .ok (.dup, 1) := by decide +kernel
theorem dJ8_hugeLength_7cf53_12 : decode cJ8_hugeLength_7cf53 12 = .ok (.new 89, 3) := by decide +kernel
theorem dJ8_hugeLength_7cf53_15 : decode cJ8_hugeLength_7cf53 15 = .ok (.dup, 1) := by decide +kernel
theorem dJ8_hugeLength_7cf53_16 : decode cJ8_hugeLength_7cf53 16 = .ok (.invokespecial 91, 3) := by decide +kernel
theorem dJ8_hugeLength_7cf53_19 : decode cJ8_hugeLength_7cf53 19 = .ok (.ldc 206, 2) := by decide +kernel
theorem dJ8_hugeLength_7cf53_21 : decode cJ8_hugeLength_7cf53 21 = .ok (.invokevirtual 94, 3) := by decide +kernel
theorem dJ8_hugeLength_7cf53_24 : decode cJ8_hugeLength_7cf53 24 = .ok (.iload_n 0, 1) := by decide +kernel
theorem dJ8_hugeLength_7cf53_25 : decode cJ8_hugeLength_7cf53 25 = .ok (.invokevirtual 98, 3) := by decide +kernel
theorem dJ8_hugeLength_7cf53_28 : decode cJ8_hugeLength_7cf53 28 = .ok (.ldc 208, 2) := by decide +kernel
theorem dJ8_hugeLength_7cf53_30 : decode cJ8_hugeLength_7cf53 30 = .ok (.invokevirtual 94, 3) := by decide +kernel
theorem dJ8_hugeLength_7cf53_33 : decode cJ8_hugeLength_7cf53 33 = .ok (.iload_n 1, 1) := by decide +kernel
theorem dJ8_hugeLength_7cf53_34 : decode cJ8_hugeLength_7cf53 34 = .ok (.invokevirtual 98, 3) := by decide +kernel
theorem dJ8_hugeLength_7cf53_37 : decode cJ8_hugeLength_7cf53 37 = .ok (.ldc 210, 2) := by decide +kernel
theorem dJ8_hugeLength_7cf53_39 : decode cJ8_hugeLength_7cf53 39 = .ok (.invokevirtual 94, 3) := by decide +kernel
theorem dJ8_hugeLength_7cf53_42 : decode cJ8_hugeLength_7cf53 42 = .ok (.invokevirtual 101, 3) := by decide +kernel
theorem dJ8_hugeLength_7cf53_45 : decode cJ8_hugeLength_7cf53 45 = .ok (.invokespecial 212, 3) := by decide +kernel
theorem dJ8_hugeLength_7cf53_48 : decode cJ8_hugeLength_7cf53 48 = .ok (.athrow, 1) := by decide +kernel
theorem dJ8_hugeLength_7cf53_49 : decode cJ8_hugeLength_7cf53 49 = .ok (.iload_n 2, 1) := by decide +kernel
theorem dJ8_hugeLength_7cf53_50 : decode cJ8_hugeLength_7cf53 50 = .ok (.ldc 200, 2) := by decide +kernel
theorem dJ8_hugeLength_7cf53_52 : decode cJ8_hugeLength_7cf53 52 = .ok (.if_icmp .gt 6, 3) := by decide +kernel
theorem dJ8_hugeLength_7cf53_55 : decode cJ8_hugeLength_7cf53 55 = .ok (.ldc 200, 2) := by decide +kernel
theorem dJ8_hugeLength_7cf53_57 : decode cJ8_hugeLength_7cf53 57 = .ok (.ireturn, 1) := by decide +kernel
theorem dJ8_hugeLength_7cf53_58 : decode cJ8_hugeLength_7cf53 58 = .ok (.iload_n 2, 1) := by decide +kernel
theorem dJ8_hugeLength_7cf53_59 : decode cJ8_hugeLength_7cf53 59 = .ok (.ireturn, 1) := by decide +kernel
theorem dJ3_checkIndex_8e157_0 : decode cJ3_checkIndex_8e157 0 = .ok (.iload_n 0, 1) := by decide +kernel
theorem dJ3_checkIndex_8e157_1 : decode cJ3_checkIndex_8e157 1 = .ok (.ifCond .lt 8, 3) := by decide +kernel
theorem dJ3_checkIndex_8e157_4 : decode cJ3_checkIndex_8e157 4 = .ok (.iload_n 0, 1) := by decide +kernel
theorem dJ3_checkIndex_8e157_5 : decode cJ3_checkIndex_8e157 5 = .ok (.iload_n 1, 1) := by decide +kernel
theorem dJ3_checkIndex_8e157_6 : decode cJ3_checkIndex_8e157 6 = .ok (.if_icmp .lt 10, 3) := by decide +kernel
theorem dJ3_checkIndex_8e157_9 : decode cJ3_checkIndex_8e157 9 = .ok (.aload_n 2, 1) := by decide +kernel
theorem dJ3_checkIndex_8e157_10 : decode cJ3_checkIndex_8e157 10 = .ok (.iload_n 0, 1) := by decide +kernel
theorem dJ3_checkIndex_8e157_11 : decode cJ3_checkIndex_8e157 11 = .ok (.iload_n 1, 1) := by decide +kernel
theorem dJ3_checkIndex_8e157_12 : decode cJ3_checkIndex_8e157 12 = .ok (.invokestatic 95, 3) := by decide +kernel
theorem dJ3_checkIndex_8e157_15 : decode cJ3_checkIndex_8e157 15 = .ok (.athrow, 1) := by decide +kernel
theorem dJ3_checkIndex_8e157_16 : decode cJ3_checkIndex_8e157 16 = .ok (.iload_n 0, 1) := by decide +kernel
theorem dJ3_checkIndex_8e157_17 : decode cJ3_checkIndex_8e157 17 = .ok (.ireturn, 1) := by decide +kernel
end
section
def gW : List Cond := lw_tbl.filter goodWord
theorem gW_in {w : Cond} (i : Nat) (h : lw_tbl[i]? = some w) (g : goodWord w = true) : w ∈ gW := List.mem_filter.mpr ⟨List.mem_of_getElem? h, g⟩
theorem gW_good : ∀ w ∈ gW, (w.onTables && w.keeps) = true ∨ ∃ ty, w = .arrayClass ty := fun w h => good_of_word (List.mem_filter.mp h).2
theorem gW_tbl : ∀ w ∈ gW, w ∈ lw_tbl := fun w h => (List.mem_filter.mp h).1
abbrev wS (y : MethodName) (cc : ByteArray) (n : Nat) (r : Option FieldType) : List Cond := .code y cc n r :: gW
theorem gW_sub {Ts : List Cond} {y' : MethodName} {cc' : ByteArray} {n' : Nat} {r' : Option FieldType} (hT : ∀ w ∈ gW, w ∈ Ts) (h : Cond.code y' cc' n' r' ∈ gW) : GoodIn Ts (wS y' cc' n' r') := fun w hw => by
  rcases List.mem_cons.mp hw with rfl | hw
  · exact ⟨hT _ h, gW_good _ h⟩
  · exact ⟨hT _ hw, gW_good _ hw⟩
/-- the frame of a walk: program, env, start, method, args, below, method's row, code, own cells, locals, end -/
abbrev Gx : Type := Program × Env × State × MethodId × Array Value × List Frame × Method × Code × (Nat → Prop) × Nat × (State → Prop)
def jC (l : Launch) (R : Room) (D : va_G) (tys : List (ClassId × FieldType)) (G : Gx) (cc : ByteArray) (nL : Nat) (own : String) : Prop :=
  match G with
  | (p, _, s, m, args, _, meth, c, A, nL', _) => p.tables.exec = Jvm.exec ∧ c.code = cc ∧ c.maxLocals = nL ∧ nL' = nL ∧ s.vm.findClass own = some m.cls ∧ (∀ w ∈ gW, w.before args s = true) ∧ va_K D vwCl tys s ∧ (∀ q, s.heap.size ≤ q → A q) ∧ meth.locks = false
def J (l : Launch) (R : Room) (D : va_G) (G : Gx) (cs : Nat × Nat) (ws : va_W) (lv : List (Nat × Value)) (st : List Value) (pc : Nat) : Prop :=
  match G with
  | (p, e, s, m, args, below, meth, c, A, nL, Q) => ∀ (H : Heap) (locs : List Loc) (ls : Array Slot), va_P D vwCl ws H → va_D A ws → va_S A s.heap H locs → lv_has ls nL lv → W p l e R s m args below meth c H locs cs.1 cs.2 Q (F0 m pc ls st)
/-- what a contract says of its end: what it answers, the world behind it -/
def jQ (D : va_G) (tys : List (ClassId × FieldType)) (ret : Option Value) (ws' : va_W) (A : Nat → Prop) : Array Value → State → Outcome → State → Prop := fun _ st oc t => (oc = .returned ret ∧ va_P D vwCl ws' t.heap ∧ va_K D vwCl tys t ∧ va_D A ws') ∧ va_F A st t
def jR (D : va_G) (tys : List (ClassId × FieldType)) (G : Gx) (cs : Nat × Nat) (rt : Option FieldType) (ret : Option Value) (ws' : va_W) : Prop :=
  match G with
  | (_, _, s, _, args, below, meth, _, A, _, Q) => meth.sig.returnType = rt ∧ Q = MQ below (jQ D tys ret ws' A) args s cs.1 cs.2 A
/-- a contract: from the world ws with the arguments av it answers ret, and the world is ws' -/
def Con (l : Launch) (D : va_G) (tys : List (ClassId × FieldType)) (y : MethodName) (wy : List Cond) (rm : Room) (av : List Value) (ws : va_W) (ret : Option Value) (ws' : va_W) : Prop :=
  ∀ sz : Nat, Met l y wy rm (va_Pc av (fun U => U.heap.size = sz ∧ va_P D vwCl ws U.heap ∧ va_K D vwCl tys U ∧ va_D (fun _ => True) ws)) (jQ D tys ret ws' (va_A ws sz)) rm.cells rm.slots (va_A ws sz)
theorem Con.of {l : Launch} {D : va_G} {tys : List (ClassId × FieldType)} {y : MethodName} {cc : ByteArray} {maxL : Nat} {rt : Option FieldType} {rm : Room} {av : List Value} {ws : va_W} {ret : Option Value} {ws' : va_W} (hy : plainName y.cls = true) (hn : (lg_sl av).length ≤ maxL)
    (body : ∀ G : Gx, jC l rm D tys G cc maxL y.cls → jR D tys G (rm.cells, rm.slots) rt ret ws' → J l rm D G (0, 0) ws (lv_args 0 av) [] 0) : Con l D tys y (wS y cc maxL rt) rm av ws ret ws' := by
  intro sz
  refine Met.ofW (cc := cc) (maxL := maxL) (ret := rt) hy rfl ?_
  intro p e s m args below meth c s₁ B hml hv
  obtain ⟨rfl, hsz, hP, hK, hD0⟩ := hv
  subst hsz
  have hts := atoms_spec (ws := wS y cc maxL rt) B.pre
  have hC : jC l rm D tys (p, e, s, m, av.toArray, below, meth, c, va_A ws s.heap.size, maxL, MQ below (jQ D tys ret ws' (va_A ws s.heap.size)) av.toArray s rm.cells rm.slots (va_A ws s.heap.size)) cc maxL y.cls :=
    ⟨B.exec, B.bytes, hml, rfl, findClass_of_methodNamed B.named, fun w hw => hts w (List.mem_cons_of_mem _ hw), hK, fun q h => Or.inr h, B.notSynchronized⟩
  have h := body (p, e, s, m, av.toArray, below, meth, c, va_A ws s.heap.size, maxL, MQ below (jQ D tys ret ws' (va_A ws s.heap.size)) av.toArray s rm.cells rm.slots (va_A ws s.heap.size)) hC ⟨B.returns, rfl⟩
  rw [lg_entry_eq]
  exact h s.heap [] _ hP hD0.self va_S.rf (lv_entry av hn)
section JR
variable {l : Launch} {R : Room} {D : va_G} {tys : List (ClassId × FieldType)} {G : Gx} {cc : ByteArray} {nL : Nat} {own : String} {cs : Nat × Nat} {ws : va_W} {lv : List (Nat × Value)} {st : List Value} {pc : Nat}
theorem J.sub {lv' : List (Nat × Value)} (ks : List Nat) (h : lv_pick lv ks = lv') (k : J l R D G cs ws lv' st pc) : J l R D G cs ws lv st pc := by
  obtain ⟨p, e, s, m, args, below, meth, c, A, nL', Q⟩ := G
  exact fun H locs ls h1 h2 h3 h4 => k H locs ls h1 h2 h3 (lv_sub h4 ks h)
theorem J.widen {cs' : Nat × Nat} (h1 : cs.1 ≤ cs'.1) (h2 : cs.2 ≤ cs'.2) (k : J l R D G cs' ws lv st pc) : J l R D G cs ws lv st pc := by
  obtain ⟨p, e, s, m, args, below, meth, c, A, nL', Q⟩ := G
  exact fun H locs ls a1 a2 a3 a4 => W.widen h1 h2 (k H locs ls a1 a2 a3 a4)
theorem jC.word (C : jC l R D tys G cc nL own) {w : Cond} (h : w ∈ gW) : w.before G.2.2.2.2.1 G.2.2.1 = true := by
  obtain ⟨p, e, s, m, args, below, meth, c, A, nL', Q⟩ := G
  exact C.2.2.2.2.2.1 w h
theorem j_istore_n {k : Fin 4} {i : Nat} {x : Int32} {lv' : List (Nat × Value)} (C : jC l R D tys G cc nL own) (d : decode cc pc = .ok (.istore_n k, 1)) (hi : (k : Nat) = i) (hn : i < nL) (hl : (i, Value.int x) :: lv.filter (fun q => !(q.1 == i) && !(q.1 + 1 == i && q.2.category == 2)) = lv') (kk : J l R D G cs ws lv' st (pc + 1)) : J l R D G cs ws lv (.int x :: st) pc := by
  obtain ⟨p, e, s, m, args, below, meth, c, A, nL', Q⟩ := G
  obtain ⟨a1, a2, a3, rfl, a5⟩ := C
  exact fun H locs ls h1 h2 h3 h4 => lv_istore_n a1 a2 d hi h4 hn hl (fun ls' h => kk H locs ls' h1 h2 h3 h)
theorem j_istore {i : Nat} {x : Int32} {lv' : List (Nat × Value)} (C : jC l R D tys G cc nL own) (d : decode cc pc = .ok (.istore i, 2)) (hn : i < nL) (hl : (i, Value.int x) :: lv.filter (fun q => !(q.1 == i) && !(q.1 + 1 == i && q.2.category == 2)) = lv') (kk : J l R D G cs ws lv' st (pc + 2)) : J l R D G cs ws lv (.int x :: st) pc := by
  obtain ⟨p, e, s, m, args, below, meth, c, A, nL', Q⟩ := G
  obtain ⟨a1, a2, a3, rfl, a5⟩ := C
  exact fun H locs ls h1 h2 h3 h4 => lv_istore a1 a2 d h4 hn hl (fun ls' h => kk H locs ls' h1 h2 h3 h)
theorem j_astore_n {k : Fin 4} {i : Nat} {x : Nat} {lv' : List (Nat × Value)} (C : jC l R D tys G cc nL own) (d : decode cc pc = .ok (.astore_n k, 1)) (hi : (k : Nat) = i) (hn : i < nL) (hl : (i, Value.ref x) :: lv.filter (fun q => !(q.1 == i) && !(q.1 + 1 == i && q.2.category == 2)) = lv') (kk : J l R D G cs ws lv' st (pc + 1)) : J l R D G cs ws lv (.ref x :: st) pc := by
  obtain ⟨p, e, s, m, args, below, meth, c, A, nL', Q⟩ := G
  obtain ⟨a1, a2, a3, rfl, a5⟩ := C
  exact fun H locs ls h1 h2 h3 h4 => lv_astore_n a1 a2 d hi h4 hn hl (fun ls' h => kk H locs ls' h1 h2 h3 h)
theorem j_astore {i : Nat} {x : Nat} {lv' : List (Nat × Value)} (C : jC l R D tys G cc nL own) (d : decode cc pc = .ok (.astore i, 2)) (hn : i < nL) (hl : (i, Value.ref x) :: lv.filter (fun q => !(q.1 == i) && !(q.1 + 1 == i && q.2.category == 2)) = lv') (kk : J l R D G cs ws lv' st (pc + 2)) : J l R D G cs ws lv (.ref x :: st) pc := by
  obtain ⟨p, e, s, m, args, below, meth, c, A, nL', Q⟩ := G
  obtain ⟨a1, a2, a3, rfl, a5⟩ := C
  exact fun H locs ls h1 h2 h3 h4 => lv_astore a1 a2 d h4 hn hl (fun ls' h => kk H locs ls' h1 h2 h3 h)
theorem j_lstore_n {k : Fin 4} {i : Nat} {x : Int64} {lv' : List (Nat × Value)} (C : jC l R D tys G cc nL own) (d : decode cc pc = .ok (.lstore_n k, 1)) (hi : (k : Nat) = i) (hn : i + 1 < nL) (hl : (i, Value.long x) :: lv.filter (fun q => !(q.1 == i) && (!(q.1 == i + 1) && !(q.1 + 1 == i && q.2.category == 2))) = lv') (kk : J l R D G cs ws lv' st (pc + 1)) : J l R D G cs ws lv (.long x :: st) pc := by
  obtain ⟨p, e, s, m, args, below, meth, c, A, nL', Q⟩ := G
  obtain ⟨a1, a2, a3, rfl, a5⟩ := C
  exact fun H locs ls h1 h2 h3 h4 => lv_lstore_n a1 a2 d hi h4 hn hl (fun ls' h => kk H locs ls' h1 h2 h3 h)
theorem j_lstore {i : Nat} {x : Int64} {lv' : List (Nat × Value)} (C : jC l R D tys G cc nL own) (d : decode cc pc = .ok (.lstore i, 2)) (hn : i + 1 < nL) (hl : (i, Value.long x) :: lv.filter (fun q => !(q.1 == i) && (!(q.1 == i + 1) && !(q.1 + 1 == i && q.2.category == 2))) = lv') (kk : J l R D G cs ws lv' st (pc + 2)) : J l R D G cs ws lv (.long x :: st) pc := by
  obtain ⟨p, e, s, m, args, below, meth, c, A, nL', Q⟩ := G
  obtain ⟨a1, a2, a3, rfl, a5⟩ := C
  exact fun H locs ls h1 h2 h3 h4 => lv_lstore a1 a2 d h4 hn hl (fun ls' h => kk H locs ls' h1 h2 h3 h)
theorem j_iinc {i k : Nat} {n : Int} {x v : Int32} {lv' : List (Nat × Value)} (C : jC l R D tys G cc nL own) (d : decode cc pc = .ok (.iinc i n, 3)) (k : Nat) (hk : lv[k]? = some (i, .int x)) (hv : x + Int32.ofInt n = v) (hn : i < nL) (hl : (i, Value.int v) :: lv.filter (fun q => !(q.1 == i) && !(q.1 + 1 == i && q.2.category == 2)) = lv') (kk : J l R D G cs ws lv' st (pc + 3)) : J l R D G cs ws lv st pc := by
  obtain ⟨p, e, s, m, args, below, meth, c, A, nL', Q⟩ := G
  obtain ⟨a1, a2, a3, rfl, a5⟩ := C
  exact fun H locs ls h1 h2 h3 h4 => lv_iinc a1 a2 d h4 hk hv hn hl (fun ls' h => kk H locs ls' h1 h2 h3 h)
theorem j_goto {off : Int} {tgt : Nat} (C : jC l R D tys G cc nL own) (d : decode cc pc = .ok (.goto off, 3)) (ht : (pc : Int) + off = (tgt : Int)) (kk : J l R D G cs ws lv st tgt) : J l R D G cs ws lv st pc := by
  obtain ⟨p, e, s, m, args, below, meth, c, A, nL', Q⟩ := G
  obtain ⟨a1, a2, a5⟩ := C
  exact fun H locs ls h1 h2 h3 h4 => lv_goto a1 a2 d ht (kk H locs ls h1 h2 h3 h4)
theorem j_lcmp {x y : Int64} (C : jC l R D tys G cc nL own) (d : decode cc pc = .ok (.lcmp, 1)) (kk : J l R D G cs ws lv (.int (lg_cmp x y) :: st) (pc + 1)) : J l R D G cs ws lv (.long y :: .long x :: st) pc := by
  obtain ⟨p, e, s, m, args, below, meth, c, A, nL', Q⟩ := G
  obtain ⟨a1, a2, a5⟩ := C
  exact fun H locs ls h1 h2 h3 h4 => W.lcmp a1 a2 d (kk H locs ls h1 h2 h3 h4)
theorem j_ldc {index : Nat} {v : Int32} (C : jC l R D tys G cc nL own) (d : decode cc pc = .ok (.ldc index, 2)) (hw : Cond.constant own index v ∈ gW) (kk : J l R D G cs ws lv (.int v :: st) (pc + 2)) : J l R D G cs ws lv st pc := by
  obtain ⟨p, e, s, m, args, below, meth, c, A, nL', Q⟩ := G
  obtain ⟨a1, a2, a3, a4, a5, a6, a7⟩ := C
  exact fun H locs ls h1 h2 h3 h4 => lv_ldc a1 a2 a5 (a6 _ hw) d (kk H locs ls h1 h2 h3 h4)
theorem j_ldc2 {index : Nat} {v : Int64} (C : jC l R D tys G cc nL own) (d : decode cc pc = .ok (.ldc2_w index, 3)) (hw : Cond.constantLong own index v ∈ gW) (kk : J l R D G cs ws lv (.long v :: st) (pc + 3)) : J l R D G cs ws lv st pc := by
  obtain ⟨p, e, s, m, args, below, meth, c, A, nL', Q⟩ := G
  obtain ⟨a1, a2, a3, a4, a5, a6, a7⟩ := C
  exact fun H locs ls h1 h2 h3 h4 => lv_ldc2 a1 a2 a5 (a6 _ hw) d (kk H locs ls h1 h2 h3 h4)
theorem j_iconst {n : Int} {v : Int32} (C : jC l R D tys G cc nL own) (d : decode cc pc = .ok (.iconst n, 1)) (hv : Int32.ofInt n = v) (kk : J l R D G cs ws lv (.int v :: st) (pc + 1)) : J l R D G cs ws lv (st) pc := by
  obtain ⟨p, e, s, m, args, below, meth, c, A, nL', Q⟩ := G
  obtain ⟨a1, a2, a5⟩ := C
  exact fun H locs ls h1 h2 h3 h4 => lv_iconst a1 a2 d hv (kk H locs ls h1 h2 h3 h4)
theorem j_bipush {n : Int} {v : Int32} (C : jC l R D tys G cc nL own) (d : decode cc pc = .ok (.bipush n, 2)) (hv : (Int8.ofInt n).toInt32 = v) (kk : J l R D G cs ws lv (.int v :: st) (pc + 2)) : J l R D G cs ws lv (st) pc := by
  obtain ⟨p, e, s, m, args, below, meth, c, A, nL', Q⟩ := G
  obtain ⟨a1, a2, a5⟩ := C
  exact fun H locs ls h1 h2 h3 h4 => lv_bipush a1 a2 d hv (kk H locs ls h1 h2 h3 h4)
theorem j_sipush {n : Int} {v : Int32} (C : jC l R D tys G cc nL own) (d : decode cc pc = .ok (.sipush n, 3)) (hv : (Int16.ofInt n).toInt32 = v) (kk : J l R D G cs ws lv (.int v :: st) (pc + 3)) : J l R D G cs ws lv (st) pc := by
  obtain ⟨p, e, s, m, args, below, meth, c, A, nL', Q⟩ := G
  obtain ⟨a1, a2, a5⟩ := C
  exact fun H locs ls h1 h2 h3 h4 => lv_sipush a1 a2 d hv (kk H locs ls h1 h2 h3 h4)
theorem j_lconst {n : Fin 2} {v : Int64} (C : jC l R D tys G cc nL own) (d : decode cc pc = .ok (.lconst n, 1)) (hv : Int64.ofNat (n : Nat) = v) (kk : J l R D G cs ws lv (.long v :: st) (pc + 1)) : J l R D G cs ws lv (st) pc := by
  obtain ⟨p, e, s, m, args, below, meth, c, A, nL', Q⟩ := G
  obtain ⟨a1, a2, a5⟩ := C
  exact fun H locs ls h1 h2 h3 h4 => lv_lconst a1 a2 d hv (kk H locs ls h1 h2 h3 h4)
theorem j_iload_n {k : Fin 4} {i : Nat} {x : Int32} (C : jC l R D tys G cc nL own) (d : decode cc pc = .ok (.iload_n k, 1)) (hi : (k : Nat) = i) (j : Nat) (hl : lv[j]? = some (i, .int x)) (kk : J l R D G cs ws lv (.int x :: st) (pc + 1)) : J l R D G cs ws lv (st) pc := by
  obtain ⟨p, e, s, m, args, below, meth, c, A, nL', Q⟩ := G
  obtain ⟨a1, a2, a5⟩ := C
  exact fun H locs ls h1 h2 h3 h4 => lv_iload_n a1 a2 d hi (lv_at h4 j hl) (kk H locs ls h1 h2 h3 h4)
theorem j_iload {i : Nat} {x : Int32} (C : jC l R D tys G cc nL own) (d : decode cc pc = .ok (.iload i, 2)) (j : Nat) (hl : lv[j]? = some (i, .int x)) (kk : J l R D G cs ws lv (.int x :: st) (pc + 2)) : J l R D G cs ws lv (st) pc := by
  obtain ⟨p, e, s, m, args, below, meth, c, A, nL', Q⟩ := G
  obtain ⟨a1, a2, a5⟩ := C
  exact fun H locs ls h1 h2 h3 h4 => lv_iload a1 a2 d (lv_at h4 j hl) (kk H locs ls h1 h2 h3 h4)
theorem j_lload_n {k : Fin 4} {i : Nat} {x : Int64} (C : jC l R D tys G cc nL own) (d : decode cc pc = .ok (.lload_n k, 1)) (hi : (k : Nat) = i) (j : Nat) (hl : lv[j]? = some (i, .long x)) (kk : J l R D G cs ws lv (.long x :: st) (pc + 1)) : J l R D G cs ws lv (st) pc := by
  obtain ⟨p, e, s, m, args, below, meth, c, A, nL', Q⟩ := G
  obtain ⟨a1, a2, a5⟩ := C
  exact fun H locs ls h1 h2 h3 h4 => lv_lload_n a1 a2 d hi (lv_at h4 j hl) (kk H locs ls h1 h2 h3 h4)
theorem j_lload {i : Nat} {x : Int64} (C : jC l R D tys G cc nL own) (d : decode cc pc = .ok (.lload i, 2)) (j : Nat) (hl : lv[j]? = some (i, .long x)) (kk : J l R D G cs ws lv (.long x :: st) (pc + 2)) : J l R D G cs ws lv (st) pc := by
  obtain ⟨p, e, s, m, args, below, meth, c, A, nL', Q⟩ := G
  obtain ⟨a1, a2, a5⟩ := C
  exact fun H locs ls h1 h2 h3 h4 => lv_lload a1 a2 d (lv_at h4 j hl) (kk H locs ls h1 h2 h3 h4)
theorem j_aload_n {k : Fin 4} {i : Nat} {x : Nat} (C : jC l R D tys G cc nL own) (d : decode cc pc = .ok (.aload_n k, 1)) (hi : (k : Nat) = i) (j : Nat) (hl : lv[j]? = some (i, .ref x)) (kk : J l R D G cs ws lv (.ref x :: st) (pc + 1)) : J l R D G cs ws lv (st) pc := by
  obtain ⟨p, e, s, m, args, below, meth, c, A, nL', Q⟩ := G
  obtain ⟨a1, a2, a5⟩ := C
  exact fun H locs ls h1 h2 h3 h4 => lv_aload_n a1 a2 d hi (lv_at h4 j hl) (kk H locs ls h1 h2 h3 h4)
theorem j_aload {i : Nat} {x : Nat} (C : jC l R D tys G cc nL own) (d : decode cc pc = .ok (.aload i, 2)) (j : Nat) (hl : lv[j]? = some (i, .ref x)) (kk : J l R D G cs ws lv (.ref x :: st) (pc + 2)) : J l R D G cs ws lv (st) pc := by
  obtain ⟨p, e, s, m, args, below, meth, c, A, nL', Q⟩ := G
  obtain ⟨a1, a2, a5⟩ := C
  exact fun H locs ls h1 h2 h3 h4 => lv_aload a1 a2 d (lv_at h4 j hl) (kk H locs ls h1 h2 h3 h4)
theorem j_iadd {x y : Int32} (C : jC l R D tys G cc nL own) (d : decode cc pc = .ok (.iadd, 1))  (kk : J l R D G cs ws lv (.int (x + y) :: st) (pc + 1)) : J l R D G cs ws lv (.int y :: .int x :: st) pc := by
  obtain ⟨p, e, s, m, args, below, meth, c, A, nL', Q⟩ := G
  obtain ⟨a1, a2, a5⟩ := C
  exact fun H locs ls h1 h2 h3 h4 => lv_iadd a1 a2 d  (kk H locs ls h1 h2 h3 h4)
theorem j_isub {x y : Int32} (C : jC l R D tys G cc nL own) (d : decode cc pc = .ok (.isub, 1))  (kk : J l R D G cs ws lv (.int (x - y) :: st) (pc + 1)) : J l R D G cs ws lv (.int y :: .int x :: st) pc := by
  obtain ⟨p, e, s, m, args, below, meth, c, A, nL', Q⟩ := G
  obtain ⟨a1, a2, a5⟩ := C
  exact fun H locs ls h1 h2 h3 h4 => lv_isub a1 a2 d  (kk H locs ls h1 h2 h3 h4)
theorem j_imul {x y : Int32} (C : jC l R D tys G cc nL own) (d : decode cc pc = .ok (.imul, 1))  (kk : J l R D G cs ws lv (.int (x * y) :: st) (pc + 1)) : J l R D G cs ws lv (.int y :: .int x :: st) pc := by
  obtain ⟨p, e, s, m, args, below, meth, c, A, nL', Q⟩ := G
  obtain ⟨a1, a2, a5⟩ := C
  exact fun H locs ls h1 h2 h3 h4 => lv_imul a1 a2 d  (kk H locs ls h1 h2 h3 h4)
theorem j_iand {x y : Int32} (C : jC l R D tys G cc nL own) (d : decode cc pc = .ok (.iand, 1))  (kk : J l R D G cs ws lv (.int (x &&& y) :: st) (pc + 1)) : J l R D G cs ws lv (.int y :: .int x :: st) pc := by
  obtain ⟨p, e, s, m, args, below, meth, c, A, nL', Q⟩ := G
  obtain ⟨a1, a2, a5⟩ := C
  exact fun H locs ls h1 h2 h3 h4 => lv_iand a1 a2 d  (kk H locs ls h1 h2 h3 h4)
theorem j_ior {x y : Int32} (C : jC l R D tys G cc nL own) (d : decode cc pc = .ok (.ior, 1))  (kk : J l R D G cs ws lv (.int (x ||| y) :: st) (pc + 1)) : J l R D G cs ws lv (.int y :: .int x :: st) pc := by
  obtain ⟨p, e, s, m, args, below, meth, c, A, nL', Q⟩ := G
  obtain ⟨a1, a2, a5⟩ := C
  exact fun H locs ls h1 h2 h3 h4 => lv_ior a1 a2 d  (kk H locs ls h1 h2 h3 h4)
theorem j_ixor {x y : Int32} (C : jC l R D tys G cc nL own) (d : decode cc pc = .ok (.ixor, 1))  (kk : J l R D G cs ws lv (.int (x ^^^ y) :: st) (pc + 1)) : J l R D G cs ws lv (.int y :: .int x :: st) pc := by
  obtain ⟨p, e, s, m, args, below, meth, c, A, nL', Q⟩ := G
  obtain ⟨a1, a2, a5⟩ := C
  exact fun H locs ls h1 h2 h3 h4 => lv_ixor a1 a2 d  (kk H locs ls h1 h2 h3 h4)
theorem j_ishl {x y : Int32} (C : jC l R D tys G cc nL own) (d : decode cc pc = .ok (.ishl, 1))  (kk : J l R D G cs ws lv (.int (x <<< (y &&& 31)) :: st) (pc + 1)) : J l R D G cs ws lv (.int y :: .int x :: st) pc := by
  obtain ⟨p, e, s, m, args, below, meth, c, A, nL', Q⟩ := G
  obtain ⟨a1, a2, a5⟩ := C
  exact fun H locs ls h1 h2 h3 h4 => lv_ishl a1 a2 d  (kk H locs ls h1 h2 h3 h4)
theorem j_ishr {x y : Int32} (C : jC l R D tys G cc nL own) (d : decode cc pc = .ok (.ishr, 1))  (kk : J l R D G cs ws lv (.int (x >>> (y &&& 31)) :: st) (pc + 1)) : J l R D G cs ws lv (.int y :: .int x :: st) pc := by
  obtain ⟨p, e, s, m, args, below, meth, c, A, nL', Q⟩ := G
  obtain ⟨a1, a2, a5⟩ := C
  exact fun H locs ls h1 h2 h3 h4 => lv_ishr a1 a2 d  (kk H locs ls h1 h2 h3 h4)
theorem j_idiv {x y : Int32} (C : jC l R D tys G cc nL own) (d : decode cc pc = .ok (.idiv, 1)) (hne : ¬ y = 0) (kk : J l R D G cs ws lv (.int (x / y) :: st) (pc + 1)) : J l R D G cs ws lv (.int y :: .int x :: st) pc := by
  obtain ⟨p, e, s, m, args, below, meth, c, A, nL', Q⟩ := G
  obtain ⟨a1, a2, a5⟩ := C
  exact fun H locs ls h1 h2 h3 h4 => lv_idiv a1 a2 d hne (kk H locs ls h1 h2 h3 h4)
theorem j_irem {x y : Int32} (C : jC l R D tys G cc nL own) (d : decode cc pc = .ok (.irem, 1)) (hne : ¬ y = 0) (kk : J l R D G cs ws lv (.int (x - x / y * y) :: st) (pc + 1)) : J l R D G cs ws lv (.int y :: .int x :: st) pc := by
  obtain ⟨p, e, s, m, args, below, meth, c, A, nL', Q⟩ := G
  obtain ⟨a1, a2, a5⟩ := C
  exact fun H locs ls h1 h2 h3 h4 => lv_irem a1 a2 d hne (kk H locs ls h1 h2 h3 h4)
theorem j_ladd {x y : Int64} (C : jC l R D tys G cc nL own) (d : decode cc pc = .ok (.ladd, 1))  (kk : J l R D G cs ws lv (.long (x + y) :: st) (pc + 1)) : J l R D G cs ws lv (.long y :: .long x :: st) pc := by
  obtain ⟨p, e, s, m, args, below, meth, c, A, nL', Q⟩ := G
  obtain ⟨a1, a2, a5⟩ := C
  exact fun H locs ls h1 h2 h3 h4 => lv_ladd a1 a2 d  (kk H locs ls h1 h2 h3 h4)
theorem j_lsub {x y : Int64} (C : jC l R D tys G cc nL own) (d : decode cc pc = .ok (.lsub, 1))  (kk : J l R D G cs ws lv (.long (x - y) :: st) (pc + 1)) : J l R D G cs ws lv (.long y :: .long x :: st) pc := by
  obtain ⟨p, e, s, m, args, below, meth, c, A, nL', Q⟩ := G
  obtain ⟨a1, a2, a5⟩ := C
  exact fun H locs ls h1 h2 h3 h4 => lv_lsub a1 a2 d  (kk H locs ls h1 h2 h3 h4)
theorem j_lmul {x y : Int64} (C : jC l R D tys G cc nL own) (d : decode cc pc = .ok (.lmul, 1))  (kk : J l R D G cs ws lv (.long (x * y) :: st) (pc + 1)) : J l R D G cs ws lv (.long y :: .long x :: st) pc := by
  obtain ⟨p, e, s, m, args, below, meth, c, A, nL', Q⟩ := G
  obtain ⟨a1, a2, a5⟩ := C
  exact fun H locs ls h1 h2 h3 h4 => lv_lmul a1 a2 d  (kk H locs ls h1 h2 h3 h4)
theorem j_land {x y : Int64} (C : jC l R D tys G cc nL own) (d : decode cc pc = .ok (.land, 1))  (kk : J l R D G cs ws lv (.long (x &&& y) :: st) (pc + 1)) : J l R D G cs ws lv (.long y :: .long x :: st) pc := by
  obtain ⟨p, e, s, m, args, below, meth, c, A, nL', Q⟩ := G
  obtain ⟨a1, a2, a5⟩ := C
  exact fun H locs ls h1 h2 h3 h4 => lv_land a1 a2 d  (kk H locs ls h1 h2 h3 h4)
theorem j_lor {x y : Int64} (C : jC l R D tys G cc nL own) (d : decode cc pc = .ok (.lor, 1))  (kk : J l R D G cs ws lv (.long (x ||| y) :: st) (pc + 1)) : J l R D G cs ws lv (.long y :: .long x :: st) pc := by
  obtain ⟨p, e, s, m, args, below, meth, c, A, nL', Q⟩ := G
  obtain ⟨a1, a2, a5⟩ := C
  exact fun H locs ls h1 h2 h3 h4 => lv_lor a1 a2 d  (kk H locs ls h1 h2 h3 h4)
theorem j_ldiv {x y : Int64} (C : jC l R D tys G cc nL own) (d : decode cc pc = .ok (.ldiv, 1)) (hne : ¬ y = 0) (kk : J l R D G cs ws lv (.long (x / y) :: st) (pc + 1)) : J l R D G cs ws lv (.long y :: .long x :: st) pc := by
  obtain ⟨p, e, s, m, args, below, meth, c, A, nL', Q⟩ := G
  obtain ⟨a1, a2, a5⟩ := C
  exact fun H locs ls h1 h2 h3 h4 => lv_ldiv a1 a2 d hne (kk H locs ls h1 h2 h3 h4)
theorem j_lrem {x y : Int64} (C : jC l R D tys G cc nL own) (d : decode cc pc = .ok (.lrem, 1)) (hne : ¬ y = 0) (kk : J l R D G cs ws lv (.long (x - x / y * y) :: st) (pc + 1)) : J l R D G cs ws lv (.long y :: .long x :: st) pc := by
  obtain ⟨p, e, s, m, args, below, meth, c, A, nL', Q⟩ := G
  obtain ⟨a1, a2, a5⟩ := C
  exact fun H locs ls h1 h2 h3 h4 => lv_lrem a1 a2 d hne (kk H locs ls h1 h2 h3 h4)
theorem j_lshl {x : Int64} {y : Int32} (C : jC l R D tys G cc nL own) (d : decode cc pc = .ok (.lshl, 1))  (kk : J l R D G cs ws lv (.long (x <<< (y.toInt64 &&& 63)) :: st) (pc + 1)) : J l R D G cs ws lv (.int y :: .long x :: st) pc := by
  obtain ⟨p, e, s, m, args, below, meth, c, A, nL', Q⟩ := G
  obtain ⟨a1, a2, a5⟩ := C
  exact fun H locs ls h1 h2 h3 h4 => lv_lshl a1 a2 d rfl (kk H locs ls h1 h2 h3 h4)
theorem j_lushr {x : Int64} {y : Int32} (C : jC l R D tys G cc nL own) (d : decode cc pc = .ok (.lushr, 1))  (kk : J l R D G cs ws lv (.long ((x.toUInt64 >>> (y.toInt64.toUInt64 &&& Int64.toUInt64 63)).toInt64) :: st) (pc + 1)) : J l R D G cs ws lv (.int y :: .long x :: st) pc := by
  obtain ⟨p, e, s, m, args, below, meth, c, A, nL', Q⟩ := G
  obtain ⟨a1, a2, a5⟩ := C
  exact fun H locs ls h1 h2 h3 h4 => lv_lushr a1 a2 d rfl (kk H locs ls h1 h2 h3 h4)
theorem j_i2l {x : Int32} (C : jC l R D tys G cc nL own) (d : decode cc pc = .ok (.i2l, 1))  (kk : J l R D G cs ws lv (.long x.toInt64 :: st) (pc + 1)) : J l R D G cs ws lv (.int x :: st) pc := by
  obtain ⟨p, e, s, m, args, below, meth, c, A, nL', Q⟩ := G
  obtain ⟨a1, a2, a5⟩ := C
  exact fun H locs ls h1 h2 h3 h4 => lv_i2l a1 a2 d rfl (kk H locs ls h1 h2 h3 h4)
theorem j_l2i {x : Int64} (C : jC l R D tys G cc nL own) (d : decode cc pc = .ok (.l2i, 1))  (kk : J l R D G cs ws lv (.int x.toInt32 :: st) (pc + 1)) : J l R D G cs ws lv (.long x :: st) pc := by
  obtain ⟨p, e, s, m, args, below, meth, c, A, nL', Q⟩ := G
  obtain ⟨a1, a2, a5⟩ := C
  exact fun H locs ls h1 h2 h3 h4 => lv_l2i a1 a2 d rfl (kk H locs ls h1 h2 h3 h4)
theorem j_dup {va : Value} (C : jC l R D tys G cc nL own) (d : decode cc pc = .ok (.dup, 1)) (hva : va.category = 1) (kk : J l R D G cs ws lv (va :: va :: st) (pc + 1)) : J l R D G cs ws lv (va :: st) pc := by
  obtain ⟨p, e, s, m, args, below, meth, c, A, nL', Q⟩ := G
  obtain ⟨a1, a2, a5⟩ := C
  exact fun H locs ls h1 h2 h3 h4 => lv_dup a1 a2 d hva (kk H locs ls h1 h2 h3 h4)
theorem j_pop {va : Value} (C : jC l R D tys G cc nL own) (d : decode cc pc = .ok (.pop, 1)) (hva : va.category = 1) (kk : J l R D G cs ws lv (st) (pc + 1)) : J l R D G cs ws lv (va :: st) pc := by
  obtain ⟨p, e, s, m, args, below, meth, c, A, nL', Q⟩ := G
  obtain ⟨a1, a2, a5⟩ := C
  exact fun H locs ls h1 h2 h3 h4 => lv_pop a1 a2 d hva (kk H locs ls h1 h2 h3 h4)
theorem j_dup_x1 {va vb : Value} (C : jC l R D tys G cc nL own) (d : decode cc pc = .ok (.dup_x1, 1)) (hva : va.category = 1) (hvb : vb.category = 1) (kk : J l R D G cs ws lv (va :: vb :: va :: st) (pc + 1)) : J l R D G cs ws lv (va :: vb :: st) pc := by
  obtain ⟨p, e, s, m, args, below, meth, c, A, nL', Q⟩ := G
  obtain ⟨a1, a2, a5⟩ := C
  exact fun H locs ls h1 h2 h3 h4 => lv_dup_x1 a1 a2 d hva hvb (kk H locs ls h1 h2 h3 h4)
theorem j_dup2_11 {va vb : Value} (C : jC l R D tys G cc nL own) (d : decode cc pc = .ok (.dup2, 1)) (hva : va.category = 1) (hvb : vb.category = 1) (kk : J l R D G cs ws lv (va :: vb :: va :: vb :: st) (pc + 1)) : J l R D G cs ws lv (va :: vb :: st) pc := by
  obtain ⟨p, e, s, m, args, below, meth, c, A, nL', Q⟩ := G
  obtain ⟨a1, a2, a5⟩ := C
  exact fun H locs ls h1 h2 h3 h4 => lv_dup2_11 a1 a2 d hva hvb (kk H locs ls h1 h2 h3 h4)
theorem j_icmp_eq {x y : Int32} {off : Int} {tgt : Nat} (C : jC l R D tys G cc nL own) (d : decode cc pc = .ok (.if_icmp .eq off, 3)) (ht : (pc : Int) + off = (tgt : Int)) (kt : x = y → J l R D G cs ws lv st tgt) (kf : ¬ x = y → J l R D G cs ws lv st (pc + 3)) : J l R D G cs ws lv (.int y :: .int x :: st) pc := by
  obtain ⟨p, e, s, m, args, below, meth, c, A, nL', Q⟩ := G
  obtain ⟨a1, a2, a5⟩ := C
  exact fun H locs ls h1 h2 h3 h4 => lv_icmp_eq a1 a2 d ht (fun q => kt q H locs ls h1 h2 h3 h4) (fun q => kf q H locs ls h1 h2 h3 h4)
theorem j_if_eq {x : Int32} {off : Int} {tgt : Nat} (C : jC l R D tys G cc nL own) (d : decode cc pc = .ok (.ifCond .eq off, 3)) (ht : (pc : Int) + off = (tgt : Int)) (kt : x = 0 → J l R D G cs ws lv st tgt) (kf : ¬ x = 0 → J l R D G cs ws lv st (pc + 3)) : J l R D G cs ws lv (.int x :: st) pc := by
  obtain ⟨p, e, s, m, args, below, meth, c, A, nL', Q⟩ := G
  obtain ⟨a1, a2, a5⟩ := C
  exact fun H locs ls h1 h2 h3 h4 => lv_if_eq a1 a2 d ht (fun q => kt q H locs ls h1 h2 h3 h4) (fun q => kf q H locs ls h1 h2 h3 h4)
theorem j_icmp_ne {x y : Int32} {off : Int} {tgt : Nat} (C : jC l R D tys G cc nL own) (d : decode cc pc = .ok (.if_icmp .ne off, 3)) (ht : (pc : Int) + off = (tgt : Int)) (kt : ¬ x = y → J l R D G cs ws lv st tgt) (kf : x = y → J l R D G cs ws lv st (pc + 3)) : J l R D G cs ws lv (.int y :: .int x :: st) pc := by
  obtain ⟨p, e, s, m, args, below, meth, c, A, nL', Q⟩ := G
  obtain ⟨a1, a2, a5⟩ := C
  exact fun H locs ls h1 h2 h3 h4 => lv_icmp_ne a1 a2 d ht (fun q => kt q H locs ls h1 h2 h3 h4) (fun q => kf q H locs ls h1 h2 h3 h4)
theorem j_if_ne {x : Int32} {off : Int} {tgt : Nat} (C : jC l R D tys G cc nL own) (d : decode cc pc = .ok (.ifCond .ne off, 3)) (ht : (pc : Int) + off = (tgt : Int)) (kt : ¬ x = 0 → J l R D G cs ws lv st tgt) (kf : x = 0 → J l R D G cs ws lv st (pc + 3)) : J l R D G cs ws lv (.int x :: st) pc := by
  obtain ⟨p, e, s, m, args, below, meth, c, A, nL', Q⟩ := G
  obtain ⟨a1, a2, a5⟩ := C
  exact fun H locs ls h1 h2 h3 h4 => lv_if_ne a1 a2 d ht (fun q => kt q H locs ls h1 h2 h3 h4) (fun q => kf q H locs ls h1 h2 h3 h4)
theorem j_icmp_lt {x y : Int32} {off : Int} {tgt : Nat} (C : jC l R D tys G cc nL own) (d : decode cc pc = .ok (.if_icmp .lt off, 3)) (ht : (pc : Int) + off = (tgt : Int)) (kt : x < y → J l R D G cs ws lv st tgt) (kf : ¬ x < y → J l R D G cs ws lv st (pc + 3)) : J l R D G cs ws lv (.int y :: .int x :: st) pc := by
  obtain ⟨p, e, s, m, args, below, meth, c, A, nL', Q⟩ := G
  obtain ⟨a1, a2, a5⟩ := C
  exact fun H locs ls h1 h2 h3 h4 => lv_icmp_lt a1 a2 d ht (fun q => kt q H locs ls h1 h2 h3 h4) (fun q => kf q H locs ls h1 h2 h3 h4)
theorem j_if_lt {x : Int32} {off : Int} {tgt : Nat} (C : jC l R D tys G cc nL own) (d : decode cc pc = .ok (.ifCond .lt off, 3)) (ht : (pc : Int) + off = (tgt : Int)) (kt : x < 0 → J l R D G cs ws lv st tgt) (kf : ¬ x < 0 → J l R D G cs ws lv st (pc + 3)) : J l R D G cs ws lv (.int x :: st) pc := by
  obtain ⟨p, e, s, m, args, below, meth, c, A, nL', Q⟩ := G
  obtain ⟨a1, a2, a5⟩ := C
  exact fun H locs ls h1 h2 h3 h4 => lv_if_lt a1 a2 d ht (fun q => kt q H locs ls h1 h2 h3 h4) (fun q => kf q H locs ls h1 h2 h3 h4)
theorem j_icmp_ge {x y : Int32} {off : Int} {tgt : Nat} (C : jC l R D tys G cc nL own) (d : decode cc pc = .ok (.if_icmp .ge off, 3)) (ht : (pc : Int) + off = (tgt : Int)) (kt : y ≤ x → J l R D G cs ws lv st tgt) (kf : ¬ y ≤ x → J l R D G cs ws lv st (pc + 3)) : J l R D G cs ws lv (.int y :: .int x :: st) pc := by
  obtain ⟨p, e, s, m, args, below, meth, c, A, nL', Q⟩ := G
  obtain ⟨a1, a2, a5⟩ := C
  exact fun H locs ls h1 h2 h3 h4 => lv_icmp_ge a1 a2 d ht (fun q => kt q H locs ls h1 h2 h3 h4) (fun q => kf q H locs ls h1 h2 h3 h4)
theorem j_if_ge {x : Int32} {off : Int} {tgt : Nat} (C : jC l R D tys G cc nL own) (d : decode cc pc = .ok (.ifCond .ge off, 3)) (ht : (pc : Int) + off = (tgt : Int)) (kt : 0 ≤ x → J l R D G cs ws lv st tgt) (kf : ¬ 0 ≤ x → J l R D G cs ws lv st (pc + 3)) : J l R D G cs ws lv (.int x :: st) pc := by
  obtain ⟨p, e, s, m, args, below, meth, c, A, nL', Q⟩ := G
  obtain ⟨a1, a2, a5⟩ := C
  exact fun H locs ls h1 h2 h3 h4 => lv_if_ge a1 a2 d ht (fun q => kt q H locs ls h1 h2 h3 h4) (fun q => kf q H locs ls h1 h2 h3 h4)
theorem j_icmp_gt {x y : Int32} {off : Int} {tgt : Nat} (C : jC l R D tys G cc nL own) (d : decode cc pc = .ok (.if_icmp .gt off, 3)) (ht : (pc : Int) + off = (tgt : Int)) (kt : y < x → J l R D G cs ws lv st tgt) (kf : ¬ y < x → J l R D G cs ws lv st (pc + 3)) : J l R D G cs ws lv (.int y :: .int x :: st) pc := by
  obtain ⟨p, e, s, m, args, below, meth, c, A, nL', Q⟩ := G
  obtain ⟨a1, a2, a5⟩ := C
  exact fun H locs ls h1 h2 h3 h4 => lv_icmp_gt a1 a2 d ht (fun q => kt q H locs ls h1 h2 h3 h4) (fun q => kf q H locs ls h1 h2 h3 h4)
theorem j_if_gt {x : Int32} {off : Int} {tgt : Nat} (C : jC l R D tys G cc nL own) (d : decode cc pc = .ok (.ifCond .gt off, 3)) (ht : (pc : Int) + off = (tgt : Int)) (kt : 0 < x → J l R D G cs ws lv st tgt) (kf : ¬ 0 < x → J l R D G cs ws lv st (pc + 3)) : J l R D G cs ws lv (.int x :: st) pc := by
  obtain ⟨p, e, s, m, args, below, meth, c, A, nL', Q⟩ := G
  obtain ⟨a1, a2, a5⟩ := C
  exact fun H locs ls h1 h2 h3 h4 => lv_if_gt a1 a2 d ht (fun q => kt q H locs ls h1 h2 h3 h4) (fun q => kf q H locs ls h1 h2 h3 h4)
theorem j_icmp_le {x y : Int32} {off : Int} {tgt : Nat} (C : jC l R D tys G cc nL own) (d : decode cc pc = .ok (.if_icmp .le off, 3)) (ht : (pc : Int) + off = (tgt : Int)) (kt : x ≤ y → J l R D G cs ws lv st tgt) (kf : ¬ x ≤ y → J l R D G cs ws lv st (pc + 3)) : J l R D G cs ws lv (.int y :: .int x :: st) pc := by
  obtain ⟨p, e, s, m, args, below, meth, c, A, nL', Q⟩ := G
  obtain ⟨a1, a2, a5⟩ := C
  exact fun H locs ls h1 h2 h3 h4 => lv_icmp_le a1 a2 d ht (fun q => kt q H locs ls h1 h2 h3 h4) (fun q => kf q H locs ls h1 h2 h3 h4)
theorem j_if_le {x : Int32} {off : Int} {tgt : Nat} (C : jC l R D tys G cc nL own) (d : decode cc pc = .ok (.ifCond .le off, 3)) (ht : (pc : Int) + off = (tgt : Int)) (kt : x ≤ 0 → J l R D G cs ws lv st tgt) (kf : ¬ x ≤ 0 → J l R D G cs ws lv st (pc + 3)) : J l R D G cs ws lv (.int x :: st) pc := by
  obtain ⟨p, e, s, m, args, below, meth, c, A, nL', Q⟩ := G
  obtain ⟨a1, a2, a5⟩ := C
  exact fun H locs ls h1 h2 h3 h4 => lv_if_le a1 a2 d ht (fun q => kt q H locs ls h1 h2 h3 h4) (fun q => kf q H locs ls h1 h2 h3 h4)
theorem j_tableIn {dflt lo hi : Int} {offs : Array Int} {len : Nat} {x : Int32} {off : Int} {tgt : Nat} (C : jC l R D tys G cc nL own) (d : decode cc pc = .ok (.tableswitch dflt lo hi offs, len)) (h1 : ¬ x.toInt < lo) (h2 : ¬ hi < x.toInt) (ho : offs[(x.toInt - lo).toNat]? = some off) (ht : (pc : Int) + off = (tgt : Int)) (kk : J l R D G cs ws lv st tgt) : J l R D G cs ws lv (.int x :: st) pc := by
  obtain ⟨p, e, s, m, args, below, meth, c, A, nL', Q⟩ := G
  obtain ⟨a1, a2, a5⟩ := C
  exact fun H locs ls g1 g2 g3 g4 => lv_tableIn a1 a2 d h1 h2 ho ht (kk H locs ls g1 g2 g3 g4)
theorem j_tableOut {dflt lo hi : Int} {offs : Array Int} {len : Nat} {x : Int32} {tgt : Nat} (C : jC l R D tys G cc nL own) (d : decode cc pc = .ok (.tableswitch dflt lo hi offs, len)) (h : x.toInt < lo ∨ hi < x.toInt) (ht : (pc : Int) + dflt = (tgt : Int)) (kk : J l R D G cs ws lv st tgt) : J l R D G cs ws lv (.int x :: st) pc := by
  obtain ⟨p, e, s, m, args, below, meth, c, A, nL', Q⟩ := G
  obtain ⟨a1, a2, a5⟩ := C
  exact fun H locs ls g1 g2 g3 g4 => lv_tableOut a1 a2 d h ht (kk H locs ls g1 g2 g3 g4)
theorem j_get {ref : String} {Cn : String} {T : u_T} {N ci index a : Nat} {fs : List Value} {v : Value} (C : jC l R D tys G cc nL own) (hin : ∀ w ∈ u_ws Cn T N, w ∈ gW) (q0 : Nat) (he : ws[q0]? = some (a, .inr (ci, fs))) (hc : vwCl[ci]? = some (Cn, T, N)) (k : Nat) (hk : k < N) (hlink : Cond.fieldLink own index ref (T k).2.1 (T k).2.2.1 ∈ gW) (hsame : (T k).1 = ref) (hv : fs[k]? = some v) (d : decode cc pc = .ok (.getfield index, 3)) (kk : J l R D G cs ws lv (v :: st) (pc + 3)) : J l R D G cs ws lv (.ref a :: st) pc := by
  obtain ⟨p, e, s, m, args, below, meth, c, A, nL', Q⟩ := G
  obtain ⟨a1, a2, a3, a4, a5, a6, a7, a8⟩ := C
  subst hsame
  exact fun H locs ls g1 g2 g3 g4 => va_get a1 a2 a6 hin a5 a7 g1 q0 he hc k hk (a6 _ hlink) (fun _ h => h) hv d (kk H locs ls g1 g2 g3 g4)
theorem j_put {ref : String} {Cn : String} {T : u_T} {N ci index a : Nat} {fs : List Value} {v : Value} {ws' : va_W} {ty : FieldType} (C : jC l R D tys G cc nL own) (hin : ∀ w ∈ u_ws Cn T N, w ∈ gW) (ty0 : Nat → FieldType) (hty : ∀ k, k < N → parseFieldDescriptor (T k).2.2.1 = some (ty0 k)) (hnm : ∀ a, a < N → ∀ b, b < N → a ≠ b → (T a).2.1 ≠ (T b).2.1) (q0 : Nat) (he : ws[q0]? = some (a, .inr (ci, fs))) (hc : vwCl[ci]? = some (Cn, T, N)) (k : Nat) (hk : k < N) (hlink : Cond.fieldLink own index ref (T k).2.1 (T k).2.2.1 ∈ gW) (hsame : (T k).1 = ref) (hfin : (T k).2.2.2 = false) (hd : parseFieldDescriptor (T k).2.2.1 = some ty) (hn : narrow ty v = v) (hfit : fits ty v = true) (hl : k < fs.length) (hw : ws.set q0 (a, .inr (ci, fs.set k v)) = ws') (d : decode cc pc = .ok (.putfield index, 3)) (kk : J l R D G cs ws' lv st (pc + 3)) : J l R D G cs ws lv (v :: .ref a :: st) pc := by
  obtain ⟨p, e, s, m, args, below, meth, c, A, nL', Q⟩ := G
  obtain ⟨a1, a2, a3, a4, a5, a6, a7, a8⟩ := C
  subst hsame
  subst hw
  exact fun H locs ls g1 g2 g3 g4 => va_put a1 a2 a6 hin ty0 hty hnm a5 a7 g1 g2 g3 q0 he hc k hk (a6 _ hlink) (fun _ h => h) hfin hd hn hfit hl d (fun H1 locs1 b1 b2 b3 => kk H1 locs1 ls b1 b2 b3 g4)
theorem j_iald {a : Nat} {cA : ClassId} {n : Nat} {f : Nat → Int32} {i : Int32} (C : jC l R D tys G cc nL own) (q0 t0 : Nat) (ha : ws[q0]? = some (a, .inl (cA, n, .inl f))) (ht : tys[t0]? = some (cA, .int)) (hin : vp_in i n) (d : decode cc pc = .ok (.iaload, 1)) (kk : J l R D G cs ws lv (.int (f i.toNatClampNeg) :: st) (pc + 1)) : J l R D G cs ws lv (.int i :: .ref a :: st) pc := by
  obtain ⟨p, e, s, m, args, below, meth, c, A, nL', Q⟩ := G
  obtain ⟨a1, a2, a3, a4, a5, a6, a7, a8⟩ := C
  exact fun H locs ls g1 g2 g3 g4 => va_iald a1 a2 a7 g1 q0 t0 ha ht hin d (kk H locs ls g1 g2 g3 g4)
theorem j_iast {a : Nat} {cA : ClassId} {n : Nat} {f : Nat → Int32} {i x : Int32} {ws' : va_W} (C : jC l R D tys G cc nL own) (q0 t0 : Nat) (ha : ws[q0]? = some (a, .inl (cA, n, .inl f))) (ht : tys[t0]? = some (cA, .int)) (hin : vp_in i n) (hw : ws.set q0 (a, .inl (cA, n, .inl (upd f i.toNatClampNeg x))) = ws') (d : decode cc pc = .ok (.iastore, 1)) (kk : J l R D G cs ws' lv st (pc + 1)) : J l R D G cs ws lv (.int x :: .int i :: .ref a :: st) pc := by
  obtain ⟨p, e, s, m, args, below, meth, c, A, nL', Q⟩ := G
  obtain ⟨a1, a2, a3, a4, a5, a6, a7, a8⟩ := C
  subst hw
  exact fun H locs ls g1 g2 g3 g4 => va_iast a1 a2 a7 g1 g2 g3 q0 t0 ha ht hin d (fun H1 locs1 b1 b2 b3 => kk H1 locs1 ls b1 b2 b3 g4)
theorem j_alen {a : Nat} {cA : ClassId} {x : vp_A} {ty : FieldType} {v : Int32} (C : jC l R D tys G cc nL own) (q0 t0 : Nat) (ha : ws[q0]? = some (a, .inl (cA, x))) (ht : tys[t0]? = some (cA, ty)) (hv : Int32.ofNat x.1 = v) (d : decode cc pc = .ok (.arraylength, 1)) (kk : J l R D G cs ws lv (.int v :: st) (pc + 1)) : J l R D G cs ws lv (.ref a :: st) pc := by
  obtain ⟨p, e, s, m, args, below, meth, c, A, nL', Q⟩ := G
  obtain ⟨a1, a2, a3, a4, a5, a6, a7, a8⟩ := C
  exact fun H locs ls g1 g2 g3 g4 => va_alen a1 a2 a7 g1 q0 t0 ha ht hv d (kk H locs ls g1 g2 g3 g4)
theorem j_iret {x : Int32} (C : jC l R D tys G cc nL own) (hr : jR D tys G cs (some .int) (some (.int x)) ws) (d : decode cc pc = .ok (.ireturn, 1)) : J l R D G cs ws lv [.int x] pc := by
  obtain ⟨p, e, s, m, args, below, meth, c, A, nL', Q⟩ := G
  obtain ⟨a1, a2, a3, a4, a5, a6, a7, a8, a9⟩ := C
  obtain ⟨h1, rfl⟩ := hr
  exact fun H locs ls g1 g2 g3 g4 => W.iret (hlocks := a9) a1 a2 h1 (fun t ht hW => ⟨⟨rfl, by rw [ht]; exact g1, va_K.moved hW.alike a7, g2⟩, g3.F ht⟩) g3.2.2 d
theorem j_zret {x : Int32} (C : jC l R D tys G cc nL own) (hr : jR D tys G cs (some .boolean) (some (.int x)) ws) (hn : narrow .boolean (.int x) = .int x) (d : decode cc pc = .ok (.ireturn, 1)) : J l R D G cs ws lv [.int x] pc := by
  obtain ⟨p, e, s, m, args, below, meth, c, A, nL', Q⟩ := G
  obtain ⟨a1, a2, a3, a4, a5, a6, a7, a8, a9⟩ := C
  obtain ⟨h1, rfl⟩ := hr
  exact fun H locs ls g1 g2 g3 g4 => W.zret (hlocks := a9) a1 a2 h1 hn (fun t ht hW => ⟨⟨rfl, by rw [ht]; exact g1, va_K.moved hW.alike a7, g2⟩, g3.F ht⟩) g3.2.2 d
theorem j_lret {x : Int64} (C : jC l R D tys G cc nL own) (hr : jR D tys G cs (some .long) (some (.long x)) ws) (d : decode cc pc = .ok (.lreturn, 1)) : J l R D G cs ws lv [.long x] pc := by
  obtain ⟨p, e, s, m, args, below, meth, c, A, nL', Q⟩ := G
  obtain ⟨a1, a2, a3, a4, a5, a6, a7, a8, a9⟩ := C
  obtain ⟨h1, rfl⟩ := hr
  exact fun H locs ls g1 g2 g3 g4 => W.lret (hlocks := a9) a1 a2 h1 (fun t ht hW => ⟨⟨rfl, by rw [ht]; exact g1, va_K.moved hW.alike a7, g2⟩, g3.F ht⟩) g3.2.2 d
theorem j_vret (C : jC l R D tys G cc nL own) (hr : jR D tys G cs none none ws) (d : decode cc pc = .ok (.return_, 1)) : J l R D G cs ws lv [] pc := by
  obtain ⟨p, e, s, m, args, below, meth, c, A, nL', Q⟩ := G
  obtain ⟨a1, a2, a3, a4, a5, a6, a7, a8, a9⟩ := C
  obtain ⟨h1, rfl⟩ := hr
  exact fun H locs ls g1 g2 g3 g4 => W.vret (hlocks := a9) a1 a2 h1 (fun t ht hW => ⟨⟨rfl, by rw [ht]; exact g1, va_K.moved hW.alike a7, g2⟩, g3.F ht⟩) g3.2.2 d
end JR
end
section
section JC
variable {l : Launch} {R : Room} {D : va_G} {tys : List (ClassId × FieldType)} {G : Gx} {cc : ByteArray} {nL : Nat} {own : String} {cs : Nat × Nat} {ws : va_W} {lv : List (Nat × Value)} {st : List Value} {pc : Nat}
theorem jS_after {A : Nat → Prop} {wc : va_W} {H0 H H1 : Heap} {locs L : List Loc} (hS : va_S A H0 H locs) (hF : ∀ q, va_A wc H.size q → A q) (hz : H.size ≤ H1.size) (hk : ∀ q : Nat, q < H.size → ¬ va_A wc H.size q → H1[q]? = H[q]?) (hL : ∀ q ∈ L, va_A wc H.size q.base) : va_S A H0 H1 (locs ++ L) :=
  ⟨Nat.le_trans hS.1 hz, fun q h1 h2 => by rw [hk q (Nat.lt_of_lt_of_le h1 hS.1) (fun z => h2 (hF q z))]; exact hS.2.1 q h1 h2, fun q hq => by
    rcases List.mem_append.mp hq with h | h
    · exact hS.2.2 q h
    · exact hF _ (hL q h)⟩
theorem jF_all {A : Nat → Prop} {ws : va_W} {H0 H : Heap} {locs : List Loc} (hA : ∀ q, H0.size ≤ q → A q) (hD : va_D A ws) (hS : va_S A H0 H locs) : ∀ q, va_A ws H.size q → A q := fun q h => by
  rcases h with ⟨k, e, h⟩ | h
  · exact hD.2 k _ h
  · exact hA q (Nat.le_trans hS.1 h)
theorem jBlind {av : List Value} {D : va_G} {tys : List (ClassId × FieldType)} {ws : va_W} {sz : Nat} : FrameBlind (va_Pc av (fun U => U.heap.size = sz ∧ va_P D vwCl ws U.heap ∧ va_K D vwCl tys U ∧ va_D (fun _ => True) ws)) := fun a U g mk q => by
  obtain ⟨q0, q1, qP, qK, qD⟩ := q
  exact ⟨q0, q1, qP, va_K.moved (u := U) (U := U.calling g mk a) (Vm.Alike.refl U.vm) qK, qD⟩
theorem j_callV {y : MethodName} {bytes : ByteArray} {maxL index n b ci : Nat} {rt : Option FieldType} {rm : Room} {As rest : List Value} {ret : Option Value} {ws' : va_W} {fs : List Value} {Tq : u_T} {Nq : Nat}
    (C : jC l R D tys G cc nL own) (hM : Con l D tys y (wS y bytes maxL rt) rm (.ref b :: As) ws ret ws')
    (hcode : Cond.code y bytes maxL rt ∈ gW) (hlink : Cond.methodLink own index y ∈ gW) (hinst : Cond.instanceMethod y ∈ gW) (hsel : Cond.selects y.cls y y ∈ gW) (hini : Cond.initialized y.cls ∈ gW)
    (hd : y.cls ≠ "java/lang/invoke/MethodHandle" ∧ y.cls ≠ "java/lang/invoke/VarHandle" ∧ (parseMethodDescriptor y.desc).map (fun d => d.parameters.length) = some n)
    (hR : rm.frames + 1 ≤ R.frames ∧ 8 + (maxL + 11) + rm.locals ≤ R.locals) (q0 : Nat) (he : ws[q0]? = some (b, .inr (ci, fs))) (hc : vwCl[ci]? = some (y.cls, Tq, Nq))
    (hn : As.length = n) (hrest : (rest.map fun v => v.category).sum ≤ 8) (d : decode cc pc = .ok (.invokevirtual index, 3)) (hcells : cs.1 + rm.cells ≤ R.cells ∧ cs.2 + rm.slots ≤ R.slots)
    (hst : st = As.reverse ++ .ref b :: rest) (kk : J l R D G (cs.1 + rm.cells, cs.2 + rm.slots) ws' lv (ret.toList ++ rest) (pc + 3)) : J l R D G cs ws lv st pc := by
  obtain ⟨p, e, s, m, args, below, meth, c, A, nL', Q⟩ := G
  obtain ⟨a1, a2, a3, rfl, a5, a6, a7, a8, a9⟩ := C
  intro H locs ls g1 g2 g3 g4
  have hF := jF_all a8 g2 g3
  have hG : GoodIn gW (wsV own index y.cls y (wS y bytes maxL rt)) := fun w hw => by
    rcases List.mem_append.mp hw with h | h
    · simp only [List.mem_cons, List.not_mem_nil, or_false] at h
      rcases h with rfl | rfl | rfl | rfl
      · exact ⟨hlink, gW_good _ hlink⟩
      · exact ⟨hinst, gW_good _ hinst⟩
      · exact ⟨hsel, gW_good _ hsel⟩
      · exact ⟨hini, gW_good _ hini⟩
    · exact gW_sub (fun _ h => h) hcode w h
  have hrun := va_runV (As := As) (rest := rest) (g := F0 m pc ls st) (cells := cs.1) (slots := cs.2) (R := R) (below := below) (p := p) (e := e) (locs := locs) (meth := meth) ⟨a1, a2, a3, a5, a6⟩ (hM H.size) (cwV n a6 hG rfl rfl rfl ⟨rfl, hd⟩ hR) ⟨jBlind, va_recv a7 g1 hc he, fun U hU hW => ⟨rfl, by rw [hU], by rw [hU]; exact g1, va_K.moved hW.alike a7, g2.weaken (fun _ _ _ _ => trivial)⟩⟩ rfl hn g4.1 hst (lv_room (m := m) (pc := pc) (ls := ls) (rest := st) hrest) d hcells
  intro T hT X
  obtain ⟨v, st₀, t, T', L, h0, X', hL, e1, e2, ⟨⟨hv, hP1, hK1, hD1⟩, hz, hk⟩, stp⟩ := hrun T hT X
  cases hv
  rw [h0] at hz hk
  obtain ⟨t2, b1, b2⟩ := kk T'.heap (locs ++ L) ls (by rw [e1]; exact hP1) (hD1.weaken (fun _ _ _ h => hF _ h)) (jS_after g3 hF (by rw [e1]; exact hz) (by rw [e1]; exact hk) hL) g4 T' rfl X'
  exact ⟨t2, stp t2 b1, b2⟩
theorem j_callS {y : MethodName} {bytes : ByteArray} {maxL index n : Nat} {rt : Option FieldType} {rm : Room} {As rest : List Value} {ret : Option Value}
    (C : jC l R D tys G cc nL own) (hM : Con l D tys y (wS y bytes maxL rt) rm As [] ret [])
    (hcode : Cond.code y bytes maxL rt ∈ gW) (hlink : Cond.methodLink own index y ∈ gW) (hstat : Cond.static y ∈ gW) (hini : Cond.initialized y.cls ∈ gW)
    (hd : y.cls ≠ "java/lang/invoke/MethodHandle" ∧ y.cls ≠ "java/lang/invoke/VarHandle" ∧ (parseMethodDescriptor y.desc).map (fun d => d.parameters.length) = some n)
    (hR : rm.frames + 1 ≤ R.frames ∧ 8 + (maxL + 11) + rm.locals ≤ R.locals)
    (hn : As.length = n) (hrest : (rest.map fun v => v.category).sum ≤ 8) (d : decode cc pc = .ok (.invokestatic index, 3)) (hcells : cs.1 + rm.cells ≤ R.cells ∧ cs.2 + rm.slots ≤ R.slots)
    (hst : st = As.reverse ++ rest) (kk : J l R D G (cs.1 + rm.cells, cs.2 + rm.slots) ws lv (ret.toList ++ rest) (pc + 3)) : J l R D G cs ws lv st pc := by
  obtain ⟨p, e, s, m, args, below, meth, c, A, nL', Q⟩ := G
  obtain ⟨a1, a2, a3, rfl, a5, a6, a7, a8, a9⟩ := C
  intro H locs ls g1 g2 g3 g4
  have hF : ∀ q, va_A [] H.size q → A q := fun q h => by
    rcases h with ⟨k, e, h⟩ | h
    · simp at h
    · exact a8 q (Nat.le_trans g3.1 h)
  have hrun := va_runS (As := As) (rest := rest) (g := F0 m pc ls st) (cells := cs.1) (slots := cs.2) (R := R) (below := below) (p := p) (e := e) (locs := locs) (meth := meth) (H := H) ⟨a1, a2, a3, a5, a6⟩ (hM H.size) ⟨callB_of n a6 (gW_sub (fun _ h => h) hcode) rfl rfl rfl (a6 _ hini) (a6 _ hlink) hd hR, a6 _ hstat⟩ ⟨jBlind, fun U hU hW => ⟨rfl, by rw [hU], fun k q h => by simp at h, va_K.moved hW.alike a7, ⟨fun i j p q h => by simp at h, fun k q h => by simp at h⟩⟩⟩ rfl hn g4.1 hst (lv_room (m := m) (pc := pc) (ls := ls) (rest := st) hrest) d hcells
  intro T hT X
  obtain ⟨v, st₀, t, T', L, h0, X', hL, e1, e2, ⟨⟨hv, hP1, hK1, hD1⟩, hz, hk⟩, stp⟩ := hrun T hT X
  cases hv
  rw [h0] at hz hk
  have hkeep : va_P D vwCl ws T'.heap := g1.kept (fun k x hx => by
    rw [e1]
    have hlt := (g1 k x hx).lt
    exact hk _ hlt (fun z => by
      rcases z with ⟨k, e, h⟩ | h
      · simp at h
      · omega))
  obtain ⟨t2, b1, b2⟩ := kk T'.heap (locs ++ L) ls hkeep g2 (jS_after g3 hF (by rw [e1]; exact hz) (by rw [e1]; exact hk) hL) g4 T' rfl X'
  exact ⟨t2, stp t2 b1, b2⟩
end JC
/-- mirrors: a place looked at before it is used -/
def rd {α : Type} (f : Nat → Int32) (n : Nat) (i : Int32) (k : Int32 → Option α) : Option α := if 0 ≤ i.toInt ∧ i.toInt < n then k (f i.toNatClampNeg) else none
def wr {α : Type} (n : Nat) (i : Int32) (k : Nat → Option α) : Option α := if 0 ≤ i.toInt ∧ i.toInt < n then k i.toNatClampNeg else none
def gd {α : Type} (c : Prop) [Decidable c] (k : Option α) : Option α := if c then k else none
def nm {α β : Type} (x : α) (k : α → Option β) : Option β := k x
theorem rd_some {α : Type} {f : Nat → Int32} {n : Nat} {i : Int32} {k : Int32 → Option α} {r : α} (h : rd f n i k = some r) : vp_in i n ∧ k (f i.toNatClampNeg) = some r := by
  unfold rd at h
  split at h
  · exact ⟨vp_in_iff.mpr (by assumption), h⟩
  · cases h
theorem wr_some {α : Type} {n : Nat} {i : Int32} {k : Nat → Option α} {r : α} (h : wr n i k = some r) : vp_in i n ∧ k i.toNatClampNeg = some r := by
  unfold wr at h
  split at h
  · exact ⟨vp_in_iff.mpr (by assumption), h⟩
  · cases h
theorem gd_some {α : Type} {c : Prop} [Decidable c] {k : Option α} {r : α} (h : gd c k = some r) : c ∧ k = some r := by
  unfold gd at h
  split at h
  · exact ⟨by assumption, h⟩
  · cases h
theorem bd_some {α β : Type} {x : Option α} {f : α → Option β} {r : β} (h : x.bind f = some r) : ∃ y, x = some y ∧ f y = some r := by
  cases x with
  | none => cases h
  | some y => exact ⟨y, rfl, h⟩
theorem ip {α : Type} {c : Prop} [Decidable c] {x y : Option α} {r : α} (hc : c) (h : (if c then x else y) = some r) : x = some r := by rwa [if_pos hc] at h
theorem im {α : Type} {c : Prop} [Decidable c] {x y : Option α} {r : α} (hc : ¬ c) (h : (if c then x else y) = some r) : y = some r := by rwa [if_neg hc] at h
theorem nm_some {α β : Type} {x : α} {k : α → Option β} {r : β} (h : nm x k = some r) : k x = some r := h
end
section
theorem wn_X11 : Cond.initialized RX11 ∈ gW := gW_in 66 (by decide +kernel) (by decide +kernel)
theorem wf_X11_7 : Cond.fieldLink RX11 7 "NineBridgesModel" "page" "[I" ∈ gW := gW_in 972 (by decide +kernel) (by decide +kernel)
theorem wf_X11_13 : Cond.fieldLink RX11 13 "NineBridgesModel" "readRow" "[I" ∈ gW := gW_in 975 (by decide +kernel) (by decide +kernel)
theorem wf_X11_16 : Cond.fieldLink RX11 16 "NineBridgesModel" "rows" "[I" ∈ gW := gW_in 977 (by decide +kernel) (by decide +kernel)
theorem wf_X11_19 : Cond.fieldLink RX11 19 "NineBridgesModel" "there" "[I" ∈ gW := gW_in 982 (by decide +kernel) (by decide +kernel)
theorem wf_X11_22 : Cond.fieldLink RX11 22 "NineBridgesModel" "waits" "[I" ∈ gW := gW_in 985 (by decide +kernel) (by decide +kernel)
theorem wf_X11_25 : Cond.fieldLink RX11 25 "NineBridgesModel" "goesOn" "[I" ∈ gW := gW_in 986 (by decide +kernel) (by decide +kernel)
theorem wf_X11_28 : Cond.fieldLink RX11 28 "NineBridgesModel" "goesBack" "[I" ∈ gW := gW_in 987 (by decide +kernel) (by decide +kernel)
theorem wf_X11_31 : Cond.fieldLink RX11 31 "NineBridgesModel" "cameFrom" "[I" ∈ gW := gW_in 988 (by decide +kernel) (by decide +kernel)
theorem wf_X11_34 : Cond.fieldLink RX11 34 "NineBridgesModel" "cameBy" "[I" ∈ gW := gW_in 989 (by decide +kernel) (by decide +kernel)
theorem wf_X11_37 : Cond.fieldLink RX11 37 "NineBridgesModel" "line" "[I" ∈ gW := gW_in 990 (by decide +kernel) (by decide +kernel)
theorem wf_X11_40 : Cond.fieldLink RX11 40 "NineBridgesModel" "other" "[I" ∈ gW := gW_in 992 (by decide +kernel) (by decide +kernel)
theorem wf_X11_43 : Cond.fieldLink RX11 43 "NineBridgesModel" "noteRows" "[I" ∈ gW := gW_in 994 (by decide +kernel) (by decide +kernel)
theorem wf_X11_46 : Cond.fieldLink RX11 46 "NineBridgesModel" "keptOffsets" "[I" ∈ gW := gW_in 998 (by decide +kernel) (by decide +kernel)
theorem wf_X11_49 : Cond.fieldLink RX11 49 "NineBridgesModel" "keptRows" "[I" ∈ gW := gW_in 999 (by decide +kernel) (by decide +kernel)
theorem wf_X11_52 : Cond.fieldLink RX11 52 "NineBridgesModel" "keptBridges" "I" ∈ gW := gW_in 995 (by decide +kernel) (by decide +kernel)
theorem wf_X11_56 : Cond.fieldLink RX11 56 "NineBridgesModel" "without" "I" ∈ gW := gW_in 979 (by decide +kernel) (by decide +kernel)
theorem wf_X11_59 : Cond.fieldLink RX11 59 "NineBridgesModel" "stuck" "I" ∈ gW := gW_in 980 (by decide +kernel) (by decide +kernel)
theorem wf_X11_64 : Cond.fieldLink RX11 64 "NineBridgesModel" "pageMany" "I" ∈ gW := gW_in 973 (by decide +kernel) (by decide +kernel)
theorem wf_X11_73 : Cond.fieldLink RX11 73 "NineBridgesModel" "state" "I" ∈ gW := gW_in 974 (by decide +kernel) (by decide +kernel)
theorem wf_X11_104 : Cond.fieldLink RX11 104 "NineBridgesModel" "bridges" "I" ∈ gW := gW_in 976 (by decide +kernel) (by decide +kernel)
theorem wf_X11_112 : Cond.fieldLink RX11 112 "NineBridgesModel" "frostNow" "I" ∈ gW := gW_in 978 (by decide +kernel) (by decide +kernel)
theorem wf_X11_128 : Cond.fieldLink RX11 128 "NineBridgesModel" "stuckEnd" "I" ∈ gW := gW_in 981 (by decide +kernel) (by decide +kernel)
theorem wf_X11_181 : Cond.fieldLink RX11 181 "NineBridgesModel" "waitSum" "I" ∈ gW := gW_in 983 (by decide +kernel) (by decide +kernel)
theorem wf_X11_184 : Cond.fieldLink RX11 184 "NineBridgesModel" "waitMost" "I" ∈ gW := gW_in 984 (by decide +kernel) (by decide +kernel)
theorem wf_X11_193 : Cond.fieldLink RX11 193 "NineBridgesModel" "lineMany" "I" ∈ gW := gW_in 991 (by decide +kernel) (by decide +kernel)
theorem wf_X11_213 : Cond.fieldLink RX11 213 "NineBridgesModel" "notes" "I" ∈ gW := gW_in 993 (by decide +kernel) (by decide +kernel)
theorem wf_X11_223 : Cond.fieldLink RX11 223 "NineBridgesModel" "keptFrost" "I" ∈ gW := gW_in 996 (by decide +kernel) (by decide +kernel)
theorem wf_X11_226 : Cond.fieldLink RX11 226 "NineBridgesModel" "keptNotes" "I" ∈ gW := gW_in 997 (by decide +kernel) (by decide +kernel)
theorem wf_X11_237 : Cond.fieldLink RX11 237 "NineBridgesModel" "hash" "J" ∈ gW := gW_in 1000 (by decide +kernel) (by decide +kernel)
theorem wk_X11_62 : Cond.constantLong RX11 62 (255) ∈ gW := gW_in 1064 (by decide +kernel) (by decide +kernel)
theorem wk_X11_67 : Cond.constantLong RX11 67 (9) ∈ gW := gW_in 1102 (by decide +kernel) (by decide +kernel)
theorem wk_X11_76 : Cond.constantLong RX11 76 (97) ∈ gW := gW_in 1088 (by decide +kernel) (by decide +kernel)
theorem wk_X11_78 : Cond.constantLong RX11 78 (104) ∈ gW := gW_in 1089 (by decide +kernel) (by decide +kernel)
theorem wk_X11_80 : Cond.constantLong RX11 80 (7) ∈ gW := gW_in 1097 (by decide +kernel) (by decide +kernel)
theorem wk_X11_110 : Cond.constantLong RX11 110 (3) ∈ gW := gW_in 1115 (by decide +kernel) (by decide +kernel)
theorem wk_X11_137 : Cond.constantLong RX11 137 (9999) ∈ gW := gW_in 1148 (by decide +kernel) (by decide +kernel)
theorem wk_X11_142 : Cond.constant RX11 142 (100000) ∈ gW := gW_in 1187 (by decide +kernel) (by decide +kernel)
theorem wk_X11_151 : Cond.constantLong RX11 151 (999) ∈ gW := gW_in 1175 (by decide +kernel) (by decide +kernel)
theorem wk_X11_175 : Cond.constantLong RX11 175 (400) ∈ gW := gW_in 1211 (by decide +kernel) (by decide +kernel)
theorem wk_X11_187 : Cond.constantLong RX11 187 (60) ∈ gW := gW_in 1220 (by decide +kernel) (by decide +kernel)
theorem wk_X11_211 : Cond.constantLong RX11 211 (99) ∈ gW := gW_in 1265 (by decide +kernel) (by decide +kernel)
theorem wk_X11_235 : Cond.constantLong RX11 235 (31) ∈ gW := gW_in 1319 (by decide +kernel) (by decide +kernel)
theorem wk_X11_245 : Cond.constantLong RX11 245 (557) ∈ gW := gW_in 1310 (by decide +kernel) (by decide +kernel)
theorem wm_X11_69 : Cond.methodLink RX11 69 yX11_in ∈ gW := gW_in 1090 (by decide +kernel) (by decide +kernel)
theorem wm_X11_82 : Cond.methodLink RX11 82 yX11_signOf ∈ gW := gW_in 1081 (by decide +kernel) (by decide +kernel)
theorem wm_X11_86 : Cond.methodLink RX11 86 yX11_goPivot ∈ gW := gW_in 1084 (by decide +kernel) (by decide +kernel)
theorem wm_X11_90 : Cond.methodLink RX11 90 yX11_goEnd ∈ gW := gW_in 1093 (by decide +kernel) (by decide +kernel)
theorem wm_X11_93 : Cond.methodLink RX11 93 yX11_goDigit ∈ gW := gW_in 1098 (by decide +kernel) (by decide +kernel)
theorem wm_X11_97 : Cond.methodLink RX11 97 yX11_go ∈ gW := gW_in 1077 (by decide +kernel) (by decide +kernel)
theorem wm_X11_100 : Cond.methodLink RX11 100 yX11_faultOf ∈ gW := gW_in 1073 (by decide +kernel) (by decide +kernel)
theorem wm_X11_107 : Cond.methodLink RX11 107 yX11_isBridge ∈ gW := gW_in 1111 (by decide +kernel) (by decide +kernel)
theorem wm_X11_115 : Cond.methodLink RX11 115 yX11_placesOf ∈ gW := gW_in 1128 (by decide +kernel) (by decide +kernel)
theorem wm_X11_118 : Cond.methodLink RX11 118 yX11_placeOf ∈ gW := gW_in 1132 (by decide +kernel) (by decide +kernel)
theorem wm_X11_121 : Cond.methodLink RX11 121 yX11_roundOf ∈ gW := gW_in 1124 (by decide +kernel) (by decide +kernel)
theorem wm_X11_124 : Cond.methodLink RX11 124 yX11_tellAbout ∈ gW := gW_in 1120 (by decide +kernel) (by decide +kernel)
theorem wm_X11_131 : Cond.methodLink RX11 131 yX11_whereIn ∈ gW := gW_in 1153 (by decide +kernel) (by decide +kernel)
theorem wm_X11_134 : Cond.methodLink RX11 134 yX11_joinsNow ∈ gW := gW_in 1149 (by decide +kernel) (by decide +kernel)
theorem wm_X11_139 : Cond.methodLink RX11 139 yX11_lastsNow ∈ gW := gW_in 1161 (by decide +kernel) (by decide +kernel)
theorem wm_X11_143 : Cond.methodLink RX11 143 yX11_mayGo ∈ gW := gW_in 1188 (by decide +kernel) (by decide +kernel)
theorem wm_X11_147 : Cond.methodLink RX11 147 yX11_layThere ∈ gW := gW_in 1183 (by decide +kernel) (by decide +kernel)
theorem wm_X11_153 : Cond.methodLink RX11 153 yX11_isIslet ∈ gW := gW_in 1169 (by decide +kernel) (by decide +kernel)
theorem wm_X11_156 : Cond.methodLink RX11 156 yX11_isMinute ∈ gW := gW_in 1172 (by decide +kernel) (by decide +kernel)
theorem wm_X11_159 : Cond.methodLink RX11 159 yX11_isCarrier ∈ gW := gW_in 1176 (by decide +kernel) (by decide +kernel)
theorem wm_X11_163 : Cond.methodLink RX11 163 yX11_soonestOf ∈ gW := gW_in 1179 (by decide +kernel) (by decide +kernel)
theorem wm_X11_167 : Cond.methodLink RX11 167 yX11_common ∈ gW := gW_in 1204 (by decide +kernel) (by decide +kernel)
theorem wm_X11_171 : Cond.methodLink RX11 171 yX11_againOf ∈ gW := gW_in 1200 (by decide +kernel) (by decide +kernel)
theorem wm_X11_177 : Cond.methodLink RX11 177 yX11_cutOf ∈ gW := gW_in 1212 (by decide +kernel) (by decide +kernel)
theorem wm_X11_189 : Cond.methodLink RX11 189 yX11_layWaits ∈ gW := gW_in 1221 (by decide +kernel) (by decide +kernel)
theorem wm_X11_196 : Cond.methodLink RX11 196 yX11_comeTo ∈ gW := gW_in 1241 (by decide +kernel) (by decide +kernel)
theorem wm_X11_200 : Cond.methodLink RX11 200 yX11_lookOn ∈ gW := gW_in 1245 (by decide +kernel) (by decide +kernel)
theorem wm_X11_203 : Cond.methodLink RX11 203 yX11_takeWay ∈ gW := gW_in 1249 (by decide +kernel) (by decide +kernel)
theorem wm_X11_207 : Cond.methodLink RX11 207 yX11_oneMore ∈ gW := gW_in 1237 (by decide +kernel) (by decide +kernel)
theorem wm_X11_216 : Cond.methodLink RX11 216 yX11_areSo ∈ gW := gW_in 1274 (by decide +kernel) (by decide +kernel)
theorem wm_X11_220 : Cond.methodLink RX11 220 yX11_allSoonest ∈ gW := gW_in 1282 (by decide +kernel) (by decide +kernel)
theorem wm_X11_229 : Cond.methodLink RX11 229 yX11_turning ∈ gW := gW_in 1302 (by decide +kernel) (by decide +kernel)
theorem wm_X11_232 : Cond.methodLink RX11 232 yX11_countOf ∈ gW := gW_in 1298 (by decide +kernel) (by decide +kernel)
theorem wm_X11_241 : Cond.methodLink RX11 241 yX11_say ∈ gW := gW_in 1315 (by decide +kernel) (by decide +kernel)
theorem wm_X11_247 : Cond.methodLink RX11 247 yX11_sayBridge ∈ gW := gW_in 1311 (by decide +kernel) (by decide +kernel)
theorem wc_X11_init : Cond.code yX11_init cX11_init 1 none ∈ gW := gW_in 970 (by decide +kernel) (by decide +kernel)
theorem wi_X11_init : Cond.instanceMethod yX11_init ∈ gW := gW_in 969 (by decide +kernel) (by decide +kernel)
theorem wc_X11_in : Cond.code yX11_in cX11_in 6 (some .boolean) ∈ gW := gW_in 1092 (by decide +kernel) (by decide +kernel)
theorem wt_X11_in : Cond.static yX11_in ∈ gW := gW_in 1091 (by decide +kernel) (by decide +kernel)
theorem wc_X11_letters : Cond.code yX11_letters cX11_letters 9 (some .int) ∈ gW := gW_in 1063 (by decide +kernel) (by decide +kernel)
theorem wi_X11_letters : Cond.instanceMethod yX11_letters ∈ gW := gW_in 1061 (by decide +kernel) (by decide +kernel)
theorem ws_X11_letters : Cond.selects RX11 yX11_letters yX11_letters ∈ gW := gW_in 1062 (by decide +kernel) (by decide +kernel)
theorem wc_X11_blank : Cond.code yX11_blank cX11_blank 2 (some .int) ∈ gW := gW_in 1068 (by decide +kernel) (by decide +kernel)
theorem wi_X11_blank : Cond.instanceMethod yX11_blank ∈ gW := gW_in 1066 (by decide +kernel) (by decide +kernel)
theorem ws_X11_blank : Cond.selects RX11 yX11_blank yX11_blank ∈ gW := gW_in 1067 (by decide +kernel) (by decide +kernel)
theorem wc_X11_signOf : Cond.code yX11_signOf cX11_signOf 1 (some .int) ∈ gW := gW_in 1083 (by decide +kernel) (by decide +kernel)
theorem wt_X11_signOf : Cond.static yX11_signOf ∈ gW := gW_in 1082 (by decide +kernel) (by decide +kernel)
theorem wc_X11_goDigit : Cond.code yX11_goDigit cX11_goDigit 4 (some .boolean) ∈ gW := gW_in 1101 (by decide +kernel) (by decide +kernel)
theorem wi_X11_goDigit : Cond.instanceMethod yX11_goDigit ∈ gW := gW_in 1100 (by decide +kernel) (by decide +kernel)
theorem ws_X11_goDigit : Cond.selects RX11 yX11_goDigit yX11_goDigit ∈ gW := gW_in 30 (by decide +kernel) (by decide +kernel)
theorem wc_X11_goPivot : Cond.code yX11_goPivot cX11_goPivot 2 (some .boolean) ∈ gW := gW_in 1087 (by decide +kernel) (by decide +kernel)
theorem wi_X11_goPivot : Cond.instanceMethod yX11_goPivot ∈ gW := gW_in 1086 (by decide +kernel) (by decide +kernel)
theorem ws_X11_goPivot : Cond.selects RX11 yX11_goPivot yX11_goPivot ∈ gW := gW_in 28 (by decide +kernel) (by decide +kernel)
theorem wc_X11_goEnd : Cond.code yX11_goEnd cX11_goEnd 5 (some .boolean) ∈ gW := gW_in 1096 (by decide +kernel) (by decide +kernel)
theorem wi_X11_goEnd : Cond.instanceMethod yX11_goEnd ∈ gW := gW_in 1095 (by decide +kernel) (by decide +kernel)
theorem ws_X11_goEnd : Cond.selects RX11 yX11_goEnd yX11_goEnd ∈ gW := gW_in 29 (by decide +kernel) (by decide +kernel)
theorem wc_X11_go : Cond.code yX11_go cX11_go 3 (some .boolean) ∈ gW := gW_in 1080 (by decide +kernel) (by decide +kernel)
theorem wi_X11_go : Cond.instanceMethod yX11_go ∈ gW := gW_in 1079 (by decide +kernel) (by decide +kernel)
theorem ws_X11_go : Cond.selects RX11 yX11_go yX11_go ∈ gW := gW_in 27 (by decide +kernel) (by decide +kernel)
theorem wc_X11_faultOf : Cond.code yX11_faultOf cX11_faultOf 2 (some .int) ∈ gW := gW_in 1076 (by decide +kernel) (by decide +kernel)
theorem wi_X11_faultOf : Cond.instanceMethod yX11_faultOf ∈ gW := gW_in 1075 (by decide +kernel) (by decide +kernel)
theorem ws_X11_faultOf : Cond.selects RX11 yX11_faultOf yX11_faultOf ∈ gW := gW_in 26 (by decide +kernel) (by decide +kernel)
theorem wc_X11_fault : Cond.code yX11_fault cX11_fault 1 (some .int) ∈ gW := gW_in 1072 (by decide +kernel) (by decide +kernel)
theorem wi_X11_fault : Cond.instanceMethod yX11_fault ∈ gW := gW_in 1070 (by decide +kernel) (by decide +kernel)
theorem ws_X11_fault : Cond.selects RX11 yX11_fault yX11_fault ∈ gW := gW_in 1071 (by decide +kernel) (by decide +kernel)
theorem wc_X11_bridge : Cond.code yX11_bridge cX11_bridge 2 (some .int) ∈ gW := gW_in 1106 (by decide +kernel) (by decide +kernel)
theorem wi_X11_bridge : Cond.instanceMethod yX11_bridge ∈ gW := gW_in 1104 (by decide +kernel) (by decide +kernel)
theorem ws_X11_bridge : Cond.selects RX11 yX11_bridge yX11_bridge ∈ gW := gW_in 1105 (by decide +kernel) (by decide +kernel)
theorem wc_X11_isBridge : Cond.code yX11_isBridge cX11_isBridge 2 (some .boolean) ∈ gW := gW_in 1114 (by decide +kernel) (by decide +kernel)
theorem wi_X11_isBridge : Cond.instanceMethod yX11_isBridge ∈ gW := gW_in 1113 (by decide +kernel) (by decide +kernel)
theorem ws_X11_isBridge : Cond.selects RX11 yX11_isBridge yX11_isBridge ∈ gW := gW_in 31 (by decide +kernel) (by decide +kernel)
theorem wc_X11_isIslet : Cond.code yX11_isIslet cX11_isIslet 1 (some .boolean) ∈ gW := gW_in 1171 (by decide +kernel) (by decide +kernel)
theorem wt_X11_isIslet : Cond.static yX11_isIslet ∈ gW := gW_in 1170 (by decide +kernel) (by decide +kernel)
theorem wc_X11_as : Cond.code yX11_as cX11_as 5 (some .int) ∈ gW := gW_in 1110 (by decide +kernel) (by decide +kernel)
theorem wi_X11_as : Cond.instanceMethod yX11_as ∈ gW := gW_in 1108 (by decide +kernel) (by decide +kernel)
theorem ws_X11_as : Cond.selects RX11 yX11_as yX11_as ∈ gW := gW_in 1109 (by decide +kernel) (by decide +kernel)
theorem wc_X11_placeOf : Cond.code yX11_placeOf cX11_placeOf 4 (some .int) ∈ gW := gW_in 1135 (by decide +kernel) (by decide +kernel)
theorem wi_X11_placeOf : Cond.instanceMethod yX11_placeOf ∈ gW := gW_in 1134 (by decide +kernel) (by decide +kernel)
theorem ws_X11_placeOf : Cond.selects RX11 yX11_placeOf yX11_placeOf ∈ gW := gW_in 35 (by decide +kernel) (by decide +kernel)
theorem wc_X11_placesOf : Cond.code yX11_placesOf cX11_placesOf 3 (some .int) ∈ gW := gW_in 1131 (by decide +kernel) (by decide +kernel)
theorem wi_X11_placesOf : Cond.instanceMethod yX11_placesOf ∈ gW := gW_in 1130 (by decide +kernel) (by decide +kernel)
theorem ws_X11_placesOf : Cond.selects RX11 yX11_placesOf yX11_placesOf ∈ gW := gW_in 34 (by decide +kernel) (by decide +kernel)
theorem wc_X11_roundOf : Cond.code yX11_roundOf cX11_roundOf 2 (some .int) ∈ gW := gW_in 1127 (by decide +kernel) (by decide +kernel)
theorem wi_X11_roundOf : Cond.instanceMethod yX11_roundOf ∈ gW := gW_in 1126 (by decide +kernel) (by decide +kernel)
theorem ws_X11_roundOf : Cond.selects RX11 yX11_roundOf yX11_roundOf ∈ gW := gW_in 33 (by decide +kernel) (by decide +kernel)
theorem wc_X11_tellAbout : Cond.code yX11_tellAbout cX11_tellAbout 3 (some .int) ∈ gW := gW_in 1123 (by decide +kernel) (by decide +kernel)
theorem wi_X11_tellAbout : Cond.instanceMethod yX11_tellAbout ∈ gW := gW_in 1122 (by decide +kernel) (by decide +kernel)
theorem ws_X11_tellAbout : Cond.selects RX11 yX11_tellAbout yX11_tellAbout ∈ gW := gW_in 32 (by decide +kernel) (by decide +kernel)
theorem wc_X11_about : Cond.code yX11_about cX11_about 3 (some .int) ∈ gW := gW_in 1119 (by decide +kernel) (by decide +kernel)
theorem wi_X11_about : Cond.instanceMethod yX11_about ∈ gW := gW_in 1117 (by decide +kernel) (by decide +kernel)
theorem ws_X11_about : Cond.selects RX11 yX11_about yX11_about ∈ gW := gW_in 1118 (by decide +kernel) (by decide +kernel)
theorem wc_X11_offset : Cond.code yX11_offset cX11_offset 4 (some .int) ∈ gW := gW_in 1139 (by decide +kernel) (by decide +kernel)
theorem wi_X11_offset : Cond.instanceMethod yX11_offset ∈ gW := gW_in 1137 (by decide +kernel) (by decide +kernel)
theorem ws_X11_offset : Cond.selects RX11 yX11_offset yX11_offset ∈ gW := gW_in 1138 (by decide +kernel) (by decide +kernel)
theorem wc_X11_frost : Cond.code yX11_frost cX11_frost 3 (some .int) ∈ gW := gW_in 1143 (by decide +kernel) (by decide +kernel)
theorem wi_X11_frost : Cond.instanceMethod yX11_frost ∈ gW := gW_in 1141 (by decide +kernel) (by decide +kernel)
theorem ws_X11_frost : Cond.selects RX11 yX11_frost yX11_frost ∈ gW := gW_in 1142 (by decide +kernel) (by decide +kernel)
theorem wc_X11_whereIn : Cond.code yX11_whereIn cX11_whereIn 4 (some .int) ∈ gW := gW_in 1156 (by decide +kernel) (by decide +kernel)
theorem wi_X11_whereIn : Cond.instanceMethod yX11_whereIn ∈ gW := gW_in 1155 (by decide +kernel) (by decide +kernel)
theorem ws_X11_whereIn : Cond.selects RX11 yX11_whereIn yX11_whereIn ∈ gW := gW_in 37 (by decide +kernel) (by decide +kernel)
theorem wc_X11_joinsNow : Cond.code yX11_joinsNow cX11_joinsNow 7 (some .int) ∈ gW := gW_in 1152 (by decide +kernel) (by decide +kernel)
theorem wi_X11_joinsNow : Cond.instanceMethod yX11_joinsNow ∈ gW := gW_in 1151 (by decide +kernel) (by decide +kernel)
theorem ws_X11_joinsNow : Cond.selects RX11 yX11_joinsNow yX11_joinsNow ∈ gW := gW_in 36 (by decide +kernel) (by decide +kernel)
theorem wc_X11_lastsNow : Cond.code yX11_lastsNow cX11_lastsNow 3 (some .int) ∈ gW := gW_in 1164 (by decide +kernel) (by decide +kernel)
theorem wi_X11_lastsNow : Cond.instanceMethod yX11_lastsNow ∈ gW := gW_in 1163 (by decide +kernel) (by decide +kernel)
theorem ws_X11_lastsNow : Cond.selects RX11 yX11_lastsNow yX11_lastsNow ∈ gW := gW_in 38 (by decide +kernel) (by decide +kernel)
theorem wc_X11_joins : Cond.code yX11_joins cX11_joins 3 (some .int) ∈ gW := gW_in 1147 (by decide +kernel) (by decide +kernel)
theorem wi_X11_joins : Cond.instanceMethod yX11_joins ∈ gW := gW_in 1145 (by decide +kernel) (by decide +kernel)
theorem ws_X11_joins : Cond.selects RX11 yX11_joins yX11_joins ∈ gW := gW_in 1146 (by decide +kernel) (by decide +kernel)
theorem wc_X11_lasts : Cond.code yX11_lasts cX11_lasts 3 (some .int) ∈ gW := gW_in 1160 (by decide +kernel) (by decide +kernel)
theorem wi_X11_lasts : Cond.instanceMethod yX11_lasts ∈ gW := gW_in 1158 (by decide +kernel) (by decide +kernel)
theorem ws_X11_lasts : Cond.selects RX11 yX11_lasts yX11_lasts ∈ gW := gW_in 1159 (by decide +kernel) (by decide +kernel)
theorem wc_X11_mayGo : Cond.code yX11_mayGo cX11_mayGo 5 (some .boolean) ∈ gW := gW_in 1191 (by decide +kernel) (by decide +kernel)
theorem wi_X11_mayGo : Cond.instanceMethod yX11_mayGo ∈ gW := gW_in 1190 (by decide +kernel) (by decide +kernel)
theorem ws_X11_mayGo : Cond.selects RX11 yX11_mayGo yX11_mayGo ∈ gW := gW_in 41 (by decide +kernel) (by decide +kernel)
theorem wc_X11_layThere : Cond.code yX11_layThere cX11_layThere 12 none ∈ gW := gW_in 1186 (by decide +kernel) (by decide +kernel)
theorem wi_X11_layThere : Cond.instanceMethod yX11_layThere ∈ gW := gW_in 1185 (by decide +kernel) (by decide +kernel)
theorem ws_X11_layThere : Cond.selects RX11 yX11_layThere yX11_layThere ∈ gW := gW_in 40 (by decide +kernel) (by decide +kernel)
theorem wc_X11_soonestOf : Cond.code yX11_soonestOf cX11_soonestOf 6 (some .int) ∈ gW := gW_in 1182 (by decide +kernel) (by decide +kernel)
theorem wi_X11_soonestOf : Cond.instanceMethod yX11_soonestOf ∈ gW := gW_in 1181 (by decide +kernel) (by decide +kernel)
theorem ws_X11_soonestOf : Cond.selects RX11 yX11_soonestOf yX11_soonestOf ∈ gW := gW_in 39 (by decide +kernel) (by decide +kernel)
theorem wc_X11_isCarrier : Cond.code yX11_isCarrier cX11_isCarrier 2 (some .boolean) ∈ gW := gW_in 1178 (by decide +kernel) (by decide +kernel)
theorem wt_X11_isCarrier : Cond.static yX11_isCarrier ∈ gW := gW_in 1177 (by decide +kernel) (by decide +kernel)
theorem wc_X11_isMinute : Cond.code yX11_isMinute cX11_isMinute 1 (some .boolean) ∈ gW := gW_in 1174 (by decide +kernel) (by decide +kernel)
theorem wt_X11_isMinute : Cond.static yX11_isMinute ∈ gW := gW_in 1173 (by decide +kernel) (by decide +kernel)
theorem wc_X11_soonest : Cond.code yX11_soonest cX11_soonest 6 (some .int) ∈ gW := gW_in 1168 (by decide +kernel) (by decide +kernel)
theorem wi_X11_soonest : Cond.instanceMethod yX11_soonest ∈ gW := gW_in 1166 (by decide +kernel) (by decide +kernel)
theorem ws_X11_soonest : Cond.selects RX11 yX11_soonest yX11_soonest ∈ gW := gW_in 1167 (by decide +kernel) (by decide +kernel)
theorem wc_X11_last : Cond.code yX11_last cX11_last 13 (some .int) ∈ gW := gW_in 1195 (by decide +kernel) (by decide +kernel)
theorem wi_X11_last : Cond.instanceMethod yX11_last ∈ gW := gW_in 1193 (by decide +kernel) (by decide +kernel)
theorem ws_X11_last : Cond.selects RX11 yX11_last yX11_last ∈ gW := gW_in 1194 (by decide +kernel) (by decide +kernel)
theorem wc_X11_common : Cond.code yX11_common cX11_common 10 (some .long) ∈ gW := gW_in 1206 (by decide +kernel) (by decide +kernel)
theorem wt_X11_common : Cond.static yX11_common ∈ gW := gW_in 1205 (by decide +kernel) (by decide +kernel)
theorem wc_X11_againOf : Cond.code yX11_againOf cX11_againOf 4 (some .long) ∈ gW := gW_in 1203 (by decide +kernel) (by decide +kernel)
theorem wi_X11_againOf : Cond.instanceMethod yX11_againOf ∈ gW := gW_in 1202 (by decide +kernel) (by decide +kernel)
theorem ws_X11_againOf : Cond.selects RX11 yX11_againOf yX11_againOf ∈ gW := gW_in 42 (by decide +kernel) (by decide +kernel)
theorem wc_X11_again : Cond.code yX11_again cX11_again 1 (some .long) ∈ gW := gW_in 1199 (by decide +kernel) (by decide +kernel)
theorem wi_X11_again : Cond.instanceMethod yX11_again ∈ gW := gW_in 1197 (by decide +kernel) (by decide +kernel)
theorem ws_X11_again : Cond.selects RX11 yX11_again yX11_again ∈ gW := gW_in 1198 (by decide +kernel) (by decide +kernel)
theorem wc_X11_cutOf : Cond.code yX11_cutOf cX11_cutOf 9 (some .int) ∈ gW := gW_in 1215 (by decide +kernel) (by decide +kernel)
theorem wi_X11_cutOf : Cond.instanceMethod yX11_cutOf ∈ gW := gW_in 1214 (by decide +kernel) (by decide +kernel)
theorem ws_X11_cutOf : Cond.selects RX11 yX11_cutOf yX11_cutOf ∈ gW := gW_in 43 (by decide +kernel) (by decide +kernel)
theorem wc_X11_cut : Cond.code yX11_cut cX11_cut 4 (some .int) ∈ gW := gW_in 1210 (by decide +kernel) (by decide +kernel)
theorem wi_X11_cut : Cond.instanceMethod yX11_cut ∈ gW := gW_in 1208 (by decide +kernel) (by decide +kernel)
theorem ws_X11_cut : Cond.selects RX11 yX11_cut yX11_cut ∈ gW := gW_in 1209 (by decide +kernel) (by decide +kernel)
theorem wc_X11_layWaits : Cond.code yX11_layWaits cX11_layWaits 8 none ∈ gW := gW_in 1224 (by decide +kernel) (by decide +kernel)
theorem wi_X11_layWaits : Cond.instanceMethod yX11_layWaits ∈ gW := gW_in 1223 (by decide +kernel) (by decide +kernel)
theorem ws_X11_layWaits : Cond.selects RX11 yX11_layWaits yX11_layWaits ∈ gW := gW_in 44 (by decide +kernel) (by decide +kernel)
theorem wc_X11_worst : Cond.code yX11_worst cX11_worst 6 (some .int) ∈ gW := gW_in 1219 (by decide +kernel) (by decide +kernel)
theorem wi_X11_worst : Cond.instanceMethod yX11_worst ∈ gW := gW_in 1217 (by decide +kernel) (by decide +kernel)
theorem ws_X11_worst : Cond.selects RX11 yX11_worst yX11_worst ∈ gW := gW_in 1218 (by decide +kernel) (by decide +kernel)
theorem wc_X11_mean : Cond.code yX11_mean cX11_mean 8 (some .int) ∈ gW := gW_in 1228 (by decide +kernel) (by decide +kernel)
theorem wi_X11_mean : Cond.instanceMethod yX11_mean ∈ gW := gW_in 1226 (by decide +kernel) (by decide +kernel)
theorem ws_X11_mean : Cond.selects RX11 yX11_mean yX11_mean ∈ gW := gW_in 1227 (by decide +kernel) (by decide +kernel)
theorem wc_X11_set : Cond.code yX11_set cX11_set 9 (some .int) ∈ gW := gW_in 1232 (by decide +kernel) (by decide +kernel)
theorem wi_X11_set : Cond.instanceMethod yX11_set ∈ gW := gW_in 1230 (by decide +kernel) (by decide +kernel)
theorem ws_X11_set : Cond.selects RX11 yX11_set yX11_set ∈ gW := gW_in 1231 (by decide +kernel) (by decide +kernel)
theorem wc_X11_comeTo : Cond.code yX11_comeTo cX11_comeTo 4 none ∈ gW := gW_in 1244 (by decide +kernel) (by decide +kernel)
theorem wi_X11_comeTo : Cond.instanceMethod yX11_comeTo ∈ gW := gW_in 1243 (by decide +kernel) (by decide +kernel)
theorem ws_X11_comeTo : Cond.selects RX11 yX11_comeTo yX11_comeTo ∈ gW := gW_in 46 (by decide +kernel) (by decide +kernel)
theorem wc_X11_lookOn : Cond.code yX11_lookOn cX11_lookOn 11 none ∈ gW := gW_in 1248 (by decide +kernel) (by decide +kernel)
theorem wi_X11_lookOn : Cond.instanceMethod yX11_lookOn ∈ gW := gW_in 1247 (by decide +kernel) (by decide +kernel)
theorem ws_X11_lookOn : Cond.selects RX11 yX11_lookOn yX11_lookOn ∈ gW := gW_in 47 (by decide +kernel) (by decide +kernel)
theorem wc_X11_takeWay : Cond.code yX11_takeWay cX11_takeWay 7 none ∈ gW := gW_in 1252 (by decide +kernel) (by decide +kernel)
theorem wi_X11_takeWay : Cond.instanceMethod yX11_takeWay ∈ gW := gW_in 1251 (by decide +kernel) (by decide +kernel)
theorem ws_X11_takeWay : Cond.selects RX11 yX11_takeWay yX11_takeWay ∈ gW := gW_in 48 (by decide +kernel) (by decide +kernel)
theorem wc_X11_oneMore : Cond.code yX11_oneMore cX11_oneMore 9 (some .boolean) ∈ gW := gW_in 1240 (by decide +kernel) (by decide +kernel)
theorem wi_X11_oneMore : Cond.instanceMethod yX11_oneMore ∈ gW := gW_in 1239 (by decide +kernel) (by decide +kernel)
theorem ws_X11_oneMore : Cond.selects RX11 yX11_oneMore yX11_oneMore ∈ gW := gW_in 45 (by decide +kernel) (by decide +kernel)
theorem wc_X11_crowd : Cond.code yX11_crowd cX11_crowd 8 (some .int) ∈ gW := gW_in 1236 (by decide +kernel) (by decide +kernel)
theorem wi_X11_crowd : Cond.instanceMethod yX11_crowd ∈ gW := gW_in 1234 (by decide +kernel) (by decide +kernel)
theorem ws_X11_crowd : Cond.selects RX11 yX11_crowd yX11_crowd ∈ gW := gW_in 1235 (by decide +kernel) (by decide +kernel)
theorem wc_X11_stranded : Cond.code yX11_stranded cX11_stranded 6 (some .int) ∈ gW := gW_in 1256 (by decide +kernel) (by decide +kernel)
theorem wi_X11_stranded : Cond.instanceMethod yX11_stranded ∈ gW := gW_in 1254 (by decide +kernel) (by decide +kernel)
theorem ws_X11_stranded : Cond.selects RX11 yX11_stranded yX11_stranded ∈ gW := gW_in 1255 (by decide +kernel) (by decide +kernel)
theorem wc_X11_meeting : Cond.code yX11_meeting cX11_meeting 11 (some .int) ∈ gW := gW_in 1260 (by decide +kernel) (by decide +kernel)
theorem wi_X11_meeting : Cond.instanceMethod yX11_meeting ∈ gW := gW_in 1258 (by decide +kernel) (by decide +kernel)
theorem ws_X11_meeting : Cond.selects RX11 yX11_meeting yX11_meeting ∈ gW := gW_in 1259 (by decide +kernel) (by decide +kernel)
theorem wc_X11_note : Cond.code yX11_note cX11_note 5 (some .int) ∈ gW := gW_in 1264 (by decide +kernel) (by decide +kernel)
theorem wi_X11_note : Cond.instanceMethod yX11_note ∈ gW := gW_in 1262 (by decide +kernel) (by decide +kernel)
theorem ws_X11_note : Cond.selects RX11 yX11_note yX11_note ∈ gW := gW_in 1263 (by decide +kernel) (by decide +kernel)
theorem wc_X11_forget : Cond.code yX11_forget cX11_forget 2 (some .int) ∈ gW := gW_in 1269 (by decide +kernel) (by decide +kernel)
theorem wi_X11_forget : Cond.instanceMethod yX11_forget ∈ gW := gW_in 1267 (by decide +kernel) (by decide +kernel)
theorem ws_X11_forget : Cond.selects RX11 yX11_forget yX11_forget ∈ gW := gW_in 1268 (by decide +kernel) (by decide +kernel)
theorem wc_X11_areSo : Cond.code yX11_areSo cX11_areSo 3 (some .boolean) ∈ gW := gW_in 1277 (by decide +kernel) (by decide +kernel)
theorem wi_X11_areSo : Cond.instanceMethod yX11_areSo ∈ gW := gW_in 1276 (by decide +kernel) (by decide +kernel)
theorem ws_X11_areSo : Cond.selects RX11 yX11_areSo yX11_areSo ∈ gW := gW_in 49 (by decide +kernel) (by decide +kernel)
theorem wc_X11_lost : Cond.code yX11_lost cX11_lost 5 (some .int) ∈ gW := gW_in 1273 (by decide +kernel) (by decide +kernel)
theorem wi_X11_lost : Cond.instanceMethod yX11_lost ∈ gW := gW_in 1271 (by decide +kernel) (by decide +kernel)
theorem ws_X11_lost : Cond.selects RX11 yX11_lost yX11_lost ∈ gW := gW_in 1272 (by decide +kernel) (by decide +kernel)
theorem wc_X11_allSoonest : Cond.code yX11_allSoonest cX11_allSoonest 6 (some .int) ∈ gW := gW_in 1285 (by decide +kernel) (by decide +kernel)
theorem wi_X11_allSoonest : Cond.instanceMethod yX11_allSoonest ∈ gW := gW_in 1284 (by decide +kernel) (by decide +kernel)
theorem ws_X11_allSoonest : Cond.selects RX11 yX11_allSoonest yX11_allSoonest ∈ gW := gW_in 50 (by decide +kernel) (by decide +kernel)
theorem wc_X11_worth : Cond.code yX11_worth cX11_worth 6 (some .int) ∈ gW := gW_in 1281 (by decide +kernel) (by decide +kernel)
theorem wi_X11_worth : Cond.instanceMethod yX11_worth ∈ gW := gW_in 1279 (by decide +kernel) (by decide +kernel)
theorem ws_X11_worth : Cond.selects RX11 yX11_worth yX11_worth ∈ gW := gW_in 1280 (by decide +kernel) (by decide +kernel)
theorem wc_X11_image : Cond.code yX11_image cX11_image 2 (some .int) ∈ gW := gW_in 1289 (by decide +kernel) (by decide +kernel)
theorem wi_X11_image : Cond.instanceMethod yX11_image ∈ gW := gW_in 1287 (by decide +kernel) (by decide +kernel)
theorem ws_X11_image : Cond.selects RX11 yX11_image yX11_image ∈ gW := gW_in 1288 (by decide +kernel) (by decide +kernel)
theorem wc_X11_restore : Cond.code yX11_restore cX11_restore 2 (some .int) ∈ gW := gW_in 1293 (by decide +kernel) (by decide +kernel)
theorem wi_X11_restore : Cond.instanceMethod yX11_restore ∈ gW := gW_in 1291 (by decide +kernel) (by decide +kernel)
theorem ws_X11_restore : Cond.selects RX11 yX11_restore yX11_restore ∈ gW := gW_in 1292 (by decide +kernel) (by decide +kernel)
theorem wc_X11_turning : Cond.code yX11_turning cX11_turning 3 (some .int) ∈ gW := gW_in 1305 (by decide +kernel) (by decide +kernel)
theorem wi_X11_turning : Cond.instanceMethod yX11_turning ∈ gW := gW_in 1304 (by decide +kernel) (by decide +kernel)
theorem ws_X11_turning : Cond.selects RX11 yX11_turning yX11_turning ∈ gW := gW_in 52 (by decide +kernel) (by decide +kernel)
theorem wc_X11_countOf : Cond.code yX11_countOf cX11_countOf 2 (some .int) ∈ gW := gW_in 1301 (by decide +kernel) (by decide +kernel)
theorem wi_X11_countOf : Cond.instanceMethod yX11_countOf ∈ gW := gW_in 1300 (by decide +kernel) (by decide +kernel)
theorem ws_X11_countOf : Cond.selects RX11 yX11_countOf yX11_countOf ∈ gW := gW_in 51 (by decide +kernel) (by decide +kernel)
theorem wc_X11_count : Cond.code yX11_count cX11_count 2 (some .int) ∈ gW := gW_in 1297 (by decide +kernel) (by decide +kernel)
theorem wi_X11_count : Cond.instanceMethod yX11_count ∈ gW := gW_in 1295 (by decide +kernel) (by decide +kernel)
theorem ws_X11_count : Cond.selects RX11 yX11_count yX11_count ∈ gW := gW_in 1296 (by decide +kernel) (by decide +kernel)
theorem wc_X11_say : Cond.code yX11_say cX11_say 3 none ∈ gW := gW_in 1318 (by decide +kernel) (by decide +kernel)
theorem wi_X11_say : Cond.instanceMethod yX11_say ∈ gW := gW_in 1317 (by decide +kernel) (by decide +kernel)
theorem ws_X11_say : Cond.selects RX11 yX11_say yX11_say ∈ gW := gW_in 54 (by decide +kernel) (by decide +kernel)
theorem wc_X11_sayBridge : Cond.code yX11_sayBridge cX11_sayBridge 3 none ∈ gW := gW_in 1314 (by decide +kernel) (by decide +kernel)
theorem wi_X11_sayBridge : Cond.instanceMethod yX11_sayBridge ∈ gW := gW_in 1313 (by decide +kernel) (by decide +kernel)
theorem ws_X11_sayBridge : Cond.selects RX11 yX11_sayBridge yX11_sayBridge ∈ gW := gW_in 53 (by decide +kernel) (by decide +kernel)
theorem wc_X11_digest : Cond.code yX11_digest cX11_digest 2 (some .long) ∈ gW := gW_in 1309 (by decide +kernel) (by decide +kernel)
theorem wi_X11_digest : Cond.instanceMethod yX11_digest ∈ gW := gW_in 1307 (by decide +kernel) (by decide +kernel)
theorem ws_X11_digest : Cond.selects RX11 yX11_digest yX11_digest ∈ gW := gW_in 1308 (by decide +kernel) (by decide +kernel)
end
section
set_option maxRecDepth 100000 in
theorem iM : ∀ w ∈ u_ws RX11 TX11 29, w ∈ gW := by decide +kernel
end
section
abbrev MSt : Type := (Nat → Int32) × (Nat → Nat → Int32) × Int64
abbrev siM (u : MSt) (k : Nat) (v : Int32) : MSt := (va_up u.1 k v, u.2)
abbrev saM (u : MSt) (k j : Nat) (v : Int32) : MSt := (u.1, va_up u.2.1 k (upd (u.2.1 k) j v), u.2.2)
abbrev shM (u : MSt) (v : Int64) : MSt := (u.1, u.2.1, v)
def wM (cI : ClassId) (o : Nat) (q : Nat → Nat) (u : MSt) : va_W := [(o, .inr (12, [.ref (q 0), .int (u.1 1), .int (u.1 2), .ref (q 3), .int (u.1 4), .ref (q 5), .int (u.1 6), .int (u.1 7), .int (u.1 8), .int (u.1 9), .ref (q 10), .int (u.1 11), .int (u.1 12), .ref (q 13), .ref (q 14), .ref (q 15), .ref (q 16), .ref (q 17), .ref (q 18), .int (u.1 19), .ref (q 20), .int (u.1 21), .ref (q 22), .int (u.1 23), .int (u.1 24), .int (u.1 25), .ref (q 26), .ref (q 27), .long u.2.2])), (q 0, .inl (cI, 20, .inl (u.2.1 0))), (q 3, .inl (cI, 10, .inl (u.2.1 3))), (q 5, .inl (cI, 100, .inl (u.2.1 5))), (q 10, .inl (cI, 8, .inl (u.2.1 10))), (q 13, .inl (cI, 488, .inl (u.2.1 13))), (q 14, .inl (cI, 610, .inl (u.2.1 14))), (q 15, .inl (cI, 610, .inl (u.2.1 15))), (q 16, .inl (cI, 488, .inl (u.2.1 16))), (q 17, .inl (cI, 488, .inl (u.2.1 17))), (q 18, .inl (cI, 488, .inl (u.2.1 18))), (q 20, .inl (cI, 8, .inl (u.2.1 20))), (q 22, .inl (cI, 24, .inl (u.2.1 22))), (q 26, .inl (cI, 10, .inl (u.2.1 26))), (q 27, .inl (cI, 24, .inl (u.2.1 27)))]
section MR
variable {l : Launch} {R : Room} {D : va_G} {cI : ClassId} {o : Nat} {q : Nat → Nat} {u : MSt} {G : Gx} {cc : ByteArray} {nL : Nat} {cs : Nat × Nat} {lv : List (Nat × Value)} {st : List Value} {pc : Nat}
theorem jM_g0 (C : jC l R D [(cI, .int)] G cc nL RX11) (d : decode cc pc = .ok (.getfield 7, 3)) (kk : J l R D G cs (wM cI o q u) lv (.ref (q 0) :: st) (pc + 3)) : J l R D G cs (wM cI o q u) lv (.ref o :: st) pc := j_get C iM 0 rfl rfl 0 (by decide) wf_X11_7 rfl rfl d kk
theorem jM_l0 {i : Int32} (C : jC l R D [(cI, .int)] G cc nL RX11) (d : decode cc pc = .ok (.iaload, 1)) (hin : vp_in i 20) (kk : J l R D G cs (wM cI o q u) lv (.int (u.2.1 0 i.toNatClampNeg) :: st) (pc + 1)) : J l R D G cs (wM cI o q u) lv (.int i :: .ref (q 0) :: st) pc := j_iald C 1 0 rfl rfl hin d kk
theorem jM_s0 {i x : Int32} (C : jC l R D [(cI, .int)] G cc nL RX11) (d : decode cc pc = .ok (.iastore, 1)) (hin : vp_in i 20) (kk : J l R D G cs (wM cI o q (saM u 0 i.toNatClampNeg x)) lv st (pc + 1)) : J l R D G cs (wM cI o q u) lv (.int x :: .int i :: .ref (q 0) :: st) pc := j_iast C 1 0 rfl rfl hin rfl d kk
theorem jM_g1 (C : jC l R D [(cI, .int)] G cc nL RX11) (d : decode cc pc = .ok (.getfield 64, 3)) (kk : J l R D G cs (wM cI o q u) lv (.int (u.1 1) :: st) (pc + 3)) : J l R D G cs (wM cI o q u) lv (.ref o :: st) pc := j_get C iM 0 rfl rfl 1 (by decide) wf_X11_64 rfl rfl d kk
theorem jM_p1 {x : Int32} (C : jC l R D [(cI, .int)] G cc nL RX11) (d : decode cc pc = .ok (.putfield 64, 3)) (kk : J l R D G cs (wM cI o q (siM u 1 x)) lv st (pc + 3)) : J l R D G cs (wM cI o q u) lv (.int x :: .ref o :: st) pc := j_put (ty := .int) C iM tyX11 tyX11_ok nmX11 0 rfl rfl 1 (by decide) wf_X11_64 rfl rfl (by decide +kernel) rfl rfl (Nat.le_of_ble_eq_true rfl) rfl d kk
theorem jM_g2 (C : jC l R D [(cI, .int)] G cc nL RX11) (d : decode cc pc = .ok (.getfield 73, 3)) (kk : J l R D G cs (wM cI o q u) lv (.int (u.1 2) :: st) (pc + 3)) : J l R D G cs (wM cI o q u) lv (.ref o :: st) pc := j_get C iM 0 rfl rfl 2 (by decide) wf_X11_73 rfl rfl d kk
theorem jM_p2 {x : Int32} (C : jC l R D [(cI, .int)] G cc nL RX11) (d : decode cc pc = .ok (.putfield 73, 3)) (kk : J l R D G cs (wM cI o q (siM u 2 x)) lv st (pc + 3)) : J l R D G cs (wM cI o q u) lv (.int x :: .ref o :: st) pc := j_put (ty := .int) C iM tyX11 tyX11_ok nmX11 0 rfl rfl 2 (by decide) wf_X11_73 rfl rfl (by decide +kernel) rfl rfl (Nat.le_of_ble_eq_true rfl) rfl d kk
theorem jM_g3 (C : jC l R D [(cI, .int)] G cc nL RX11) (d : decode cc pc = .ok (.getfield 13, 3)) (kk : J l R D G cs (wM cI o q u) lv (.ref (q 3) :: st) (pc + 3)) : J l R D G cs (wM cI o q u) lv (.ref o :: st) pc := j_get C iM 0 rfl rfl 3 (by decide) wf_X11_13 rfl rfl d kk
theorem jM_l3 {i : Int32} (C : jC l R D [(cI, .int)] G cc nL RX11) (d : decode cc pc = .ok (.iaload, 1)) (hin : vp_in i 10) (kk : J l R D G cs (wM cI o q u) lv (.int (u.2.1 3 i.toNatClampNeg) :: st) (pc + 1)) : J l R D G cs (wM cI o q u) lv (.int i :: .ref (q 3) :: st) pc := j_iald C 2 0 rfl rfl hin d kk
theorem jM_s3 {i x : Int32} (C : jC l R D [(cI, .int)] G cc nL RX11) (d : decode cc pc = .ok (.iastore, 1)) (hin : vp_in i 10) (kk : J l R D G cs (wM cI o q (saM u 3 i.toNatClampNeg x)) lv st (pc + 1)) : J l R D G cs (wM cI o q u) lv (.int x :: .int i :: .ref (q 3) :: st) pc := j_iast C 2 0 rfl rfl hin rfl d kk
theorem jM_g4 (C : jC l R D [(cI, .int)] G cc nL RX11) (d : decode cc pc = .ok (.getfield 104, 3)) (kk : J l R D G cs (wM cI o q u) lv (.int (u.1 4) :: st) (pc + 3)) : J l R D G cs (wM cI o q u) lv (.ref o :: st) pc := j_get C iM 0 rfl rfl 4 (by decide) wf_X11_104 rfl rfl d kk
theorem jM_p4 {x : Int32} (C : jC l R D [(cI, .int)] G cc nL RX11) (d : decode cc pc = .ok (.putfield 104, 3)) (kk : J l R D G cs (wM cI o q (siM u 4 x)) lv st (pc + 3)) : J l R D G cs (wM cI o q u) lv (.int x :: .ref o :: st) pc := j_put (ty := .int) C iM tyX11 tyX11_ok nmX11 0 rfl rfl 4 (by decide) wf_X11_104 rfl rfl (by decide +kernel) rfl rfl (Nat.le_of_ble_eq_true rfl) rfl d kk
theorem jM_g5 (C : jC l R D [(cI, .int)] G cc nL RX11) (d : decode cc pc = .ok (.getfield 16, 3)) (kk : J l R D G cs (wM cI o q u) lv (.ref (q 5) :: st) (pc + 3)) : J l R D G cs (wM cI o q u) lv (.ref o :: st) pc := j_get C iM 0 rfl rfl 5 (by decide) wf_X11_16 rfl rfl d kk
theorem jM_l5 {i : Int32} (C : jC l R D [(cI, .int)] G cc nL RX11) (d : decode cc pc = .ok (.iaload, 1)) (hin : vp_in i 100) (kk : J l R D G cs (wM cI o q u) lv (.int (u.2.1 5 i.toNatClampNeg) :: st) (pc + 1)) : J l R D G cs (wM cI o q u) lv (.int i :: .ref (q 5) :: st) pc := j_iald C 3 0 rfl rfl hin d kk
theorem jM_s5 {i x : Int32} (C : jC l R D [(cI, .int)] G cc nL RX11) (d : decode cc pc = .ok (.iastore, 1)) (hin : vp_in i 100) (kk : J l R D G cs (wM cI o q (saM u 5 i.toNatClampNeg x)) lv st (pc + 1)) : J l R D G cs (wM cI o q u) lv (.int x :: .int i :: .ref (q 5) :: st) pc := j_iast C 3 0 rfl rfl hin rfl d kk
theorem jM_g6 (C : jC l R D [(cI, .int)] G cc nL RX11) (d : decode cc pc = .ok (.getfield 112, 3)) (kk : J l R D G cs (wM cI o q u) lv (.int (u.1 6) :: st) (pc + 3)) : J l R D G cs (wM cI o q u) lv (.ref o :: st) pc := j_get C iM 0 rfl rfl 6 (by decide) wf_X11_112 rfl rfl d kk
theorem jM_p6 {x : Int32} (C : jC l R D [(cI, .int)] G cc nL RX11) (d : decode cc pc = .ok (.putfield 112, 3)) (kk : J l R D G cs (wM cI o q (siM u 6 x)) lv st (pc + 3)) : J l R D G cs (wM cI o q u) lv (.int x :: .ref o :: st) pc := j_put (ty := .int) C iM tyX11 tyX11_ok nmX11 0 rfl rfl 6 (by decide) wf_X11_112 rfl rfl (by decide +kernel) rfl rfl (Nat.le_of_ble_eq_true rfl) rfl d kk
theorem jM_g7 (C : jC l R D [(cI, .int)] G cc nL RX11) (d : decode cc pc = .ok (.getfield 56, 3)) (kk : J l R D G cs (wM cI o q u) lv (.int (u.1 7) :: st) (pc + 3)) : J l R D G cs (wM cI o q u) lv (.ref o :: st) pc := j_get C iM 0 rfl rfl 7 (by decide) wf_X11_56 rfl rfl d kk
theorem jM_p7 {x : Int32} (C : jC l R D [(cI, .int)] G cc nL RX11) (d : decode cc pc = .ok (.putfield 56, 3)) (kk : J l R D G cs (wM cI o q (siM u 7 x)) lv st (pc + 3)) : J l R D G cs (wM cI o q u) lv (.int x :: .ref o :: st) pc := j_put (ty := .int) C iM tyX11 tyX11_ok nmX11 0 rfl rfl 7 (by decide) wf_X11_56 rfl rfl (by decide +kernel) rfl rfl (Nat.le_of_ble_eq_true rfl) rfl d kk
theorem jM_g8 (C : jC l R D [(cI, .int)] G cc nL RX11) (d : decode cc pc = .ok (.getfield 59, 3)) (kk : J l R D G cs (wM cI o q u) lv (.int (u.1 8) :: st) (pc + 3)) : J l R D G cs (wM cI o q u) lv (.ref o :: st) pc := j_get C iM 0 rfl rfl 8 (by decide) wf_X11_59 rfl rfl d kk
theorem jM_p8 {x : Int32} (C : jC l R D [(cI, .int)] G cc nL RX11) (d : decode cc pc = .ok (.putfield 59, 3)) (kk : J l R D G cs (wM cI o q (siM u 8 x)) lv st (pc + 3)) : J l R D G cs (wM cI o q u) lv (.int x :: .ref o :: st) pc := j_put (ty := .int) C iM tyX11 tyX11_ok nmX11 0 rfl rfl 8 (by decide) wf_X11_59 rfl rfl (by decide +kernel) rfl rfl (Nat.le_of_ble_eq_true rfl) rfl d kk
theorem jM_g9 (C : jC l R D [(cI, .int)] G cc nL RX11) (d : decode cc pc = .ok (.getfield 128, 3)) (kk : J l R D G cs (wM cI o q u) lv (.int (u.1 9) :: st) (pc + 3)) : J l R D G cs (wM cI o q u) lv (.ref o :: st) pc := j_get C iM 0 rfl rfl 9 (by decide) wf_X11_128 rfl rfl d kk
theorem jM_p9 {x : Int32} (C : jC l R D [(cI, .int)] G cc nL RX11) (d : decode cc pc = .ok (.putfield 128, 3)) (kk : J l R D G cs (wM cI o q (siM u 9 x)) lv st (pc + 3)) : J l R D G cs (wM cI o q u) lv (.int x :: .ref o :: st) pc := j_put (ty := .int) C iM tyX11 tyX11_ok nmX11 0 rfl rfl 9 (by decide) wf_X11_128 rfl rfl (by decide +kernel) rfl rfl (Nat.le_of_ble_eq_true rfl) rfl d kk
theorem jM_g10 (C : jC l R D [(cI, .int)] G cc nL RX11) (d : decode cc pc = .ok (.getfield 19, 3)) (kk : J l R D G cs (wM cI o q u) lv (.ref (q 10) :: st) (pc + 3)) : J l R D G cs (wM cI o q u) lv (.ref o :: st) pc := j_get C iM 0 rfl rfl 10 (by decide) wf_X11_19 rfl rfl d kk
theorem jM_l10 {i : Int32} (C : jC l R D [(cI, .int)] G cc nL RX11) (d : decode cc pc = .ok (.iaload, 1)) (hin : vp_in i 8) (kk : J l R D G cs (wM cI o q u) lv (.int (u.2.1 10 i.toNatClampNeg) :: st) (pc + 1)) : J l R D G cs (wM cI o q u) lv (.int i :: .ref (q 10) :: st) pc := j_iald C 4 0 rfl rfl hin d kk
theorem jM_s10 {i x : Int32} (C : jC l R D [(cI, .int)] G cc nL RX11) (d : decode cc pc = .ok (.iastore, 1)) (hin : vp_in i 8) (kk : J l R D G cs (wM cI o q (saM u 10 i.toNatClampNeg x)) lv st (pc + 1)) : J l R D G cs (wM cI o q u) lv (.int x :: .int i :: .ref (q 10) :: st) pc := j_iast C 4 0 rfl rfl hin rfl d kk
theorem jM_g11 (C : jC l R D [(cI, .int)] G cc nL RX11) (d : decode cc pc = .ok (.getfield 181, 3)) (kk : J l R D G cs (wM cI o q u) lv (.int (u.1 11) :: st) (pc + 3)) : J l R D G cs (wM cI o q u) lv (.ref o :: st) pc := j_get C iM 0 rfl rfl 11 (by decide) wf_X11_181 rfl rfl d kk
theorem jM_p11 {x : Int32} (C : jC l R D [(cI, .int)] G cc nL RX11) (d : decode cc pc = .ok (.putfield 181, 3)) (kk : J l R D G cs (wM cI o q (siM u 11 x)) lv st (pc + 3)) : J l R D G cs (wM cI o q u) lv (.int x :: .ref o :: st) pc := j_put (ty := .int) C iM tyX11 tyX11_ok nmX11 0 rfl rfl 11 (by decide) wf_X11_181 rfl rfl (by decide +kernel) rfl rfl (Nat.le_of_ble_eq_true rfl) rfl d kk
theorem jM_g12 (C : jC l R D [(cI, .int)] G cc nL RX11) (d : decode cc pc = .ok (.getfield 184, 3)) (kk : J l R D G cs (wM cI o q u) lv (.int (u.1 12) :: st) (pc + 3)) : J l R D G cs (wM cI o q u) lv (.ref o :: st) pc := j_get C iM 0 rfl rfl 12 (by decide) wf_X11_184 rfl rfl d kk
theorem jM_p12 {x : Int32} (C : jC l R D [(cI, .int)] G cc nL RX11) (d : decode cc pc = .ok (.putfield 184, 3)) (kk : J l R D G cs (wM cI o q (siM u 12 x)) lv st (pc + 3)) : J l R D G cs (wM cI o q u) lv (.int x :: .ref o :: st) pc := j_put (ty := .int) C iM tyX11 tyX11_ok nmX11 0 rfl rfl 12 (by decide) wf_X11_184 rfl rfl (by decide +kernel) rfl rfl (Nat.le_of_ble_eq_true rfl) rfl d kk
theorem jM_g13 (C : jC l R D [(cI, .int)] G cc nL RX11) (d : decode cc pc = .ok (.getfield 22, 3)) (kk : J l R D G cs (wM cI o q u) lv (.ref (q 13) :: st) (pc + 3)) : J l R D G cs (wM cI o q u) lv (.ref o :: st) pc := j_get C iM 0 rfl rfl 13 (by decide) wf_X11_22 rfl rfl d kk
theorem jM_l13 {i : Int32} (C : jC l R D [(cI, .int)] G cc nL RX11) (d : decode cc pc = .ok (.iaload, 1)) (hin : vp_in i 488) (kk : J l R D G cs (wM cI o q u) lv (.int (u.2.1 13 i.toNatClampNeg) :: st) (pc + 1)) : J l R D G cs (wM cI o q u) lv (.int i :: .ref (q 13) :: st) pc := j_iald C 5 0 rfl rfl hin d kk
theorem jM_s13 {i x : Int32} (C : jC l R D [(cI, .int)] G cc nL RX11) (d : decode cc pc = .ok (.iastore, 1)) (hin : vp_in i 488) (kk : J l R D G cs (wM cI o q (saM u 13 i.toNatClampNeg x)) lv st (pc + 1)) : J l R D G cs (wM cI o q u) lv (.int x :: .int i :: .ref (q 13) :: st) pc := j_iast C 5 0 rfl rfl hin rfl d kk
theorem jM_g14 (C : jC l R D [(cI, .int)] G cc nL RX11) (d : decode cc pc = .ok (.getfield 25, 3)) (kk : J l R D G cs (wM cI o q u) lv (.ref (q 14) :: st) (pc + 3)) : J l R D G cs (wM cI o q u) lv (.ref o :: st) pc := j_get C iM 0 rfl rfl 14 (by decide) wf_X11_25 rfl rfl d kk
theorem jM_l14 {i : Int32} (C : jC l R D [(cI, .int)] G cc nL RX11) (d : decode cc pc = .ok (.iaload, 1)) (hin : vp_in i 610) (kk : J l R D G cs (wM cI o q u) lv (.int (u.2.1 14 i.toNatClampNeg) :: st) (pc + 1)) : J l R D G cs (wM cI o q u) lv (.int i :: .ref (q 14) :: st) pc := j_iald C 6 0 rfl rfl hin d kk
theorem jM_s14 {i x : Int32} (C : jC l R D [(cI, .int)] G cc nL RX11) (d : decode cc pc = .ok (.iastore, 1)) (hin : vp_in i 610) (kk : J l R D G cs (wM cI o q (saM u 14 i.toNatClampNeg x)) lv st (pc + 1)) : J l R D G cs (wM cI o q u) lv (.int x :: .int i :: .ref (q 14) :: st) pc := j_iast C 6 0 rfl rfl hin rfl d kk
theorem jM_g15 (C : jC l R D [(cI, .int)] G cc nL RX11) (d : decode cc pc = .ok (.getfield 28, 3)) (kk : J l R D G cs (wM cI o q u) lv (.ref (q 15) :: st) (pc + 3)) : J l R D G cs (wM cI o q u) lv (.ref o :: st) pc := j_get C iM 0 rfl rfl 15 (by decide) wf_X11_28 rfl rfl d kk
theorem jM_l15 {i : Int32} (C : jC l R D [(cI, .int)] G cc nL RX11) (d : decode cc pc = .ok (.iaload, 1)) (hin : vp_in i 610) (kk : J l R D G cs (wM cI o q u) lv (.int (u.2.1 15 i.toNatClampNeg) :: st) (pc + 1)) : J l R D G cs (wM cI o q u) lv (.int i :: .ref (q 15) :: st) pc := j_iald C 7 0 rfl rfl hin d kk
theorem jM_s15 {i x : Int32} (C : jC l R D [(cI, .int)] G cc nL RX11) (d : decode cc pc = .ok (.iastore, 1)) (hin : vp_in i 610) (kk : J l R D G cs (wM cI o q (saM u 15 i.toNatClampNeg x)) lv st (pc + 1)) : J l R D G cs (wM cI o q u) lv (.int x :: .int i :: .ref (q 15) :: st) pc := j_iast C 7 0 rfl rfl hin rfl d kk
theorem jM_g16 (C : jC l R D [(cI, .int)] G cc nL RX11) (d : decode cc pc = .ok (.getfield 31, 3)) (kk : J l R D G cs (wM cI o q u) lv (.ref (q 16) :: st) (pc + 3)) : J l R D G cs (wM cI o q u) lv (.ref o :: st) pc := j_get C iM 0 rfl rfl 16 (by decide) wf_X11_31 rfl rfl d kk
theorem jM_l16 {i : Int32} (C : jC l R D [(cI, .int)] G cc nL RX11) (d : decode cc pc = .ok (.iaload, 1)) (hin : vp_in i 488) (kk : J l R D G cs (wM cI o q u) lv (.int (u.2.1 16 i.toNatClampNeg) :: st) (pc + 1)) : J l R D G cs (wM cI o q u) lv (.int i :: .ref (q 16) :: st) pc := j_iald C 8 0 rfl rfl hin d kk
theorem jM_s16 {i x : Int32} (C : jC l R D [(cI, .int)] G cc nL RX11) (d : decode cc pc = .ok (.iastore, 1)) (hin : vp_in i 488) (kk : J l R D G cs (wM cI o q (saM u 16 i.toNatClampNeg x)) lv st (pc + 1)) : J l R D G cs (wM cI o q u) lv (.int x :: .int i :: .ref (q 16) :: st) pc := j_iast C 8 0 rfl rfl hin rfl d kk
theorem jM_g17 (C : jC l R D [(cI, .int)] G cc nL RX11) (d : decode cc pc = .ok (.getfield 34, 3)) (kk : J l R D G cs (wM cI o q u) lv (.ref (q 17) :: st) (pc + 3)) : J l R D G cs (wM cI o q u) lv (.ref o :: st) pc := j_get C iM 0 rfl rfl 17 (by decide) wf_X11_34 rfl rfl d kk
theorem jM_l17 {i : Int32} (C : jC l R D [(cI, .int)] G cc nL RX11) (d : decode cc pc = .ok (.iaload, 1)) (hin : vp_in i 488) (kk : J l R D G cs (wM cI o q u) lv (.int (u.2.1 17 i.toNatClampNeg) :: st) (pc + 1)) : J l R D G cs (wM cI o q u) lv (.int i :: .ref (q 17) :: st) pc := j_iald C 9 0 rfl rfl hin d kk
theorem jM_s17 {i x : Int32} (C : jC l R D [(cI, .int)] G cc nL RX11) (d : decode cc pc = .ok (.iastore, 1)) (hin : vp_in i 488) (kk : J l R D G cs (wM cI o q (saM u 17 i.toNatClampNeg x)) lv st (pc + 1)) : J l R D G cs (wM cI o q u) lv (.int x :: .int i :: .ref (q 17) :: st) pc := j_iast C 9 0 rfl rfl hin rfl d kk
theorem jM_g18 (C : jC l R D [(cI, .int)] G cc nL RX11) (d : decode cc pc = .ok (.getfield 37, 3)) (kk : J l R D G cs (wM cI o q u) lv (.ref (q 18) :: st) (pc + 3)) : J l R D G cs (wM cI o q u) lv (.ref o :: st) pc := j_get C iM 0 rfl rfl 18 (by decide) wf_X11_37 rfl rfl d kk
theorem jM_l18 {i : Int32} (C : jC l R D [(cI, .int)] G cc nL RX11) (d : decode cc pc = .ok (.iaload, 1)) (hin : vp_in i 488) (kk : J l R D G cs (wM cI o q u) lv (.int (u.2.1 18 i.toNatClampNeg) :: st) (pc + 1)) : J l R D G cs (wM cI o q u) lv (.int i :: .ref (q 18) :: st) pc := j_iald C 10 0 rfl rfl hin d kk
theorem jM_s18 {i x : Int32} (C : jC l R D [(cI, .int)] G cc nL RX11) (d : decode cc pc = .ok (.iastore, 1)) (hin : vp_in i 488) (kk : J l R D G cs (wM cI o q (saM u 18 i.toNatClampNeg x)) lv st (pc + 1)) : J l R D G cs (wM cI o q u) lv (.int x :: .int i :: .ref (q 18) :: st) pc := j_iast C 10 0 rfl rfl hin rfl d kk
theorem jM_g19 (C : jC l R D [(cI, .int)] G cc nL RX11) (d : decode cc pc = .ok (.getfield 193, 3)) (kk : J l R D G cs (wM cI o q u) lv (.int (u.1 19) :: st) (pc + 3)) : J l R D G cs (wM cI o q u) lv (.ref o :: st) pc := j_get C iM 0 rfl rfl 19 (by decide) wf_X11_193 rfl rfl d kk
theorem jM_p19 {x : Int32} (C : jC l R D [(cI, .int)] G cc nL RX11) (d : decode cc pc = .ok (.putfield 193, 3)) (kk : J l R D G cs (wM cI o q (siM u 19 x)) lv st (pc + 3)) : J l R D G cs (wM cI o q u) lv (.int x :: .ref o :: st) pc := j_put (ty := .int) C iM tyX11 tyX11_ok nmX11 0 rfl rfl 19 (by decide) wf_X11_193 rfl rfl (by decide +kernel) rfl rfl (Nat.le_of_ble_eq_true rfl) rfl d kk
theorem jM_g20 (C : jC l R D [(cI, .int)] G cc nL RX11) (d : decode cc pc = .ok (.getfield 40, 3)) (kk : J l R D G cs (wM cI o q u) lv (.ref (q 20) :: st) (pc + 3)) : J l R D G cs (wM cI o q u) lv (.ref o :: st) pc := j_get C iM 0 rfl rfl 20 (by decide) wf_X11_40 rfl rfl d kk
theorem jM_l20 {i : Int32} (C : jC l R D [(cI, .int)] G cc nL RX11) (d : decode cc pc = .ok (.iaload, 1)) (hin : vp_in i 8) (kk : J l R D G cs (wM cI o q u) lv (.int (u.2.1 20 i.toNatClampNeg) :: st) (pc + 1)) : J l R D G cs (wM cI o q u) lv (.int i :: .ref (q 20) :: st) pc := j_iald C 11 0 rfl rfl hin d kk
theorem jM_s20 {i x : Int32} (C : jC l R D [(cI, .int)] G cc nL RX11) (d : decode cc pc = .ok (.iastore, 1)) (hin : vp_in i 8) (kk : J l R D G cs (wM cI o q (saM u 20 i.toNatClampNeg x)) lv st (pc + 1)) : J l R D G cs (wM cI o q u) lv (.int x :: .int i :: .ref (q 20) :: st) pc := j_iast C 11 0 rfl rfl hin rfl d kk
theorem jM_g21 (C : jC l R D [(cI, .int)] G cc nL RX11) (d : decode cc pc = .ok (.getfield 213, 3)) (kk : J l R D G cs (wM cI o q u) lv (.int (u.1 21) :: st) (pc + 3)) : J l R D G cs (wM cI o q u) lv (.ref o :: st) pc := j_get C iM 0 rfl rfl 21 (by decide) wf_X11_213 rfl rfl d kk
theorem jM_p21 {x : Int32} (C : jC l R D [(cI, .int)] G cc nL RX11) (d : decode cc pc = .ok (.putfield 213, 3)) (kk : J l R D G cs (wM cI o q (siM u 21 x)) lv st (pc + 3)) : J l R D G cs (wM cI o q u) lv (.int x :: .ref o :: st) pc := j_put (ty := .int) C iM tyX11 tyX11_ok nmX11 0 rfl rfl 21 (by decide) wf_X11_213 rfl rfl (by decide +kernel) rfl rfl (Nat.le_of_ble_eq_true rfl) rfl d kk
theorem jM_g22 (C : jC l R D [(cI, .int)] G cc nL RX11) (d : decode cc pc = .ok (.getfield 43, 3)) (kk : J l R D G cs (wM cI o q u) lv (.ref (q 22) :: st) (pc + 3)) : J l R D G cs (wM cI o q u) lv (.ref o :: st) pc := j_get C iM 0 rfl rfl 22 (by decide) wf_X11_43 rfl rfl d kk
theorem jM_l22 {i : Int32} (C : jC l R D [(cI, .int)] G cc nL RX11) (d : decode cc pc = .ok (.iaload, 1)) (hin : vp_in i 24) (kk : J l R D G cs (wM cI o q u) lv (.int (u.2.1 22 i.toNatClampNeg) :: st) (pc + 1)) : J l R D G cs (wM cI o q u) lv (.int i :: .ref (q 22) :: st) pc := j_iald C 12 0 rfl rfl hin d kk
theorem jM_s22 {i x : Int32} (C : jC l R D [(cI, .int)] G cc nL RX11) (d : decode cc pc = .ok (.iastore, 1)) (hin : vp_in i 24) (kk : J l R D G cs (wM cI o q (saM u 22 i.toNatClampNeg x)) lv st (pc + 1)) : J l R D G cs (wM cI o q u) lv (.int x :: .int i :: .ref (q 22) :: st) pc := j_iast C 12 0 rfl rfl hin rfl d kk
theorem jM_g23 (C : jC l R D [(cI, .int)] G cc nL RX11) (d : decode cc pc = .ok (.getfield 52, 3)) (kk : J l R D G cs (wM cI o q u) lv (.int (u.1 23) :: st) (pc + 3)) : J l R D G cs (wM cI o q u) lv (.ref o :: st) pc := j_get C iM 0 rfl rfl 23 (by decide) wf_X11_52 rfl rfl d kk
theorem jM_p23 {x : Int32} (C : jC l R D [(cI, .int)] G cc nL RX11) (d : decode cc pc = .ok (.putfield 52, 3)) (kk : J l R D G cs (wM cI o q (siM u 23 x)) lv st (pc + 3)) : J l R D G cs (wM cI o q u) lv (.int x :: .ref o :: st) pc := j_put (ty := .int) C iM tyX11 tyX11_ok nmX11 0 rfl rfl 23 (by decide) wf_X11_52 rfl rfl (by decide +kernel) rfl rfl (Nat.le_of_ble_eq_true rfl) rfl d kk
theorem jM_g24 (C : jC l R D [(cI, .int)] G cc nL RX11) (d : decode cc pc = .ok (.getfield 223, 3)) (kk : J l R D G cs (wM cI o q u) lv (.int (u.1 24) :: st) (pc + 3)) : J l R D G cs (wM cI o q u) lv (.ref o :: st) pc := j_get C iM 0 rfl rfl 24 (by decide) wf_X11_223 rfl rfl d kk
theorem jM_p24 {x : Int32} (C : jC l R D [(cI, .int)] G cc nL RX11) (d : decode cc pc = .ok (.putfield 223, 3)) (kk : J l R D G cs (wM cI o q (siM u 24 x)) lv st (pc + 3)) : J l R D G cs (wM cI o q u) lv (.int x :: .ref o :: st) pc := j_put (ty := .int) C iM tyX11 tyX11_ok nmX11 0 rfl rfl 24 (by decide) wf_X11_223 rfl rfl (by decide +kernel) rfl rfl (Nat.le_of_ble_eq_true rfl) rfl d kk
theorem jM_g25 (C : jC l R D [(cI, .int)] G cc nL RX11) (d : decode cc pc = .ok (.getfield 226, 3)) (kk : J l R D G cs (wM cI o q u) lv (.int (u.1 25) :: st) (pc + 3)) : J l R D G cs (wM cI o q u) lv (.ref o :: st) pc := j_get C iM 0 rfl rfl 25 (by decide) wf_X11_226 rfl rfl d kk
theorem jM_p25 {x : Int32} (C : jC l R D [(cI, .int)] G cc nL RX11) (d : decode cc pc = .ok (.putfield 226, 3)) (kk : J l R D G cs (wM cI o q (siM u 25 x)) lv st (pc + 3)) : J l R D G cs (wM cI o q u) lv (.int x :: .ref o :: st) pc := j_put (ty := .int) C iM tyX11 tyX11_ok nmX11 0 rfl rfl 25 (by decide) wf_X11_226 rfl rfl (by decide +kernel) rfl rfl (Nat.le_of_ble_eq_true rfl) rfl d kk
theorem jM_g26 (C : jC l R D [(cI, .int)] G cc nL RX11) (d : decode cc pc = .ok (.getfield 46, 3)) (kk : J l R D G cs (wM cI o q u) lv (.ref (q 26) :: st) (pc + 3)) : J l R D G cs (wM cI o q u) lv (.ref o :: st) pc := j_get C iM 0 rfl rfl 26 (by decide) wf_X11_46 rfl rfl d kk
theorem jM_l26 {i : Int32} (C : jC l R D [(cI, .int)] G cc nL RX11) (d : decode cc pc = .ok (.iaload, 1)) (hin : vp_in i 10) (kk : J l R D G cs (wM cI o q u) lv (.int (u.2.1 26 i.toNatClampNeg) :: st) (pc + 1)) : J l R D G cs (wM cI o q u) lv (.int i :: .ref (q 26) :: st) pc := j_iald C 13 0 rfl rfl hin d kk
theorem jM_s26 {i x : Int32} (C : jC l R D [(cI, .int)] G cc nL RX11) (d : decode cc pc = .ok (.iastore, 1)) (hin : vp_in i 10) (kk : J l R D G cs (wM cI o q (saM u 26 i.toNatClampNeg x)) lv st (pc + 1)) : J l R D G cs (wM cI o q u) lv (.int x :: .int i :: .ref (q 26) :: st) pc := j_iast C 13 0 rfl rfl hin rfl d kk
theorem jM_g27 (C : jC l R D [(cI, .int)] G cc nL RX11) (d : decode cc pc = .ok (.getfield 49, 3)) (kk : J l R D G cs (wM cI o q u) lv (.ref (q 27) :: st) (pc + 3)) : J l R D G cs (wM cI o q u) lv (.ref o :: st) pc := j_get C iM 0 rfl rfl 27 (by decide) wf_X11_49 rfl rfl d kk
theorem jM_l27 {i : Int32} (C : jC l R D [(cI, .int)] G cc nL RX11) (d : decode cc pc = .ok (.iaload, 1)) (hin : vp_in i 24) (kk : J l R D G cs (wM cI o q u) lv (.int (u.2.1 27 i.toNatClampNeg) :: st) (pc + 1)) : J l R D G cs (wM cI o q u) lv (.int i :: .ref (q 27) :: st) pc := j_iald C 14 0 rfl rfl hin d kk
theorem jM_s27 {i x : Int32} (C : jC l R D [(cI, .int)] G cc nL RX11) (d : decode cc pc = .ok (.iastore, 1)) (hin : vp_in i 24) (kk : J l R D G cs (wM cI o q (saM u 27 i.toNatClampNeg x)) lv st (pc + 1)) : J l R D G cs (wM cI o q u) lv (.int x :: .int i :: .ref (q 27) :: st) pc := j_iast C 14 0 rfl rfl hin rfl d kk
theorem jM_g28 (C : jC l R D [(cI, .int)] G cc nL RX11) (d : decode cc pc = .ok (.getfield 237, 3)) (kk : J l R D G cs (wM cI o q u) lv (.long u.2.2 :: st) (pc + 3)) : J l R D G cs (wM cI o q u) lv (.ref o :: st) pc := j_get C iM 0 rfl rfl 28 (by decide) wf_X11_237 rfl rfl d kk
theorem jM_p28 {x : Int64} (C : jC l R D [(cI, .int)] G cc nL RX11) (d : decode cc pc = .ok (.putfield 237, 3)) (kk : J l R D G cs (wM cI o q (shM u x)) lv st (pc + 3)) : J l R D G cs (wM cI o q u) lv (.long x :: .ref o :: st) pc := j_put (ty := .long) C iM tyX11 tyX11_ok nmX11 0 rfl rfl 28 (by decide) wf_X11_237 rfl rfl (by decide +kernel) rfl rfl (Nat.le_of_ble_eq_true rfl) rfl d kk
end MR
end
section
theorem zz_look : 1 + 1 = 2 := rfl
end
