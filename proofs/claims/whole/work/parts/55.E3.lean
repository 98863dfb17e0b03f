theorem w1_51 : Cond.fieldLinkNest "NineBridges$Bridge" 34 "NineBridges$Reader" "ends" "[I" "NineBridges" ∈ nW := tn_1 (List.mem_of_getElem? (i := 51) rfl) rfl
theorem w1_54 : Cond.fieldLinkNest "NineBridges$Bridge" 9 "NineBridges$Reader" "pivot" "I" "NineBridges" ∈ nW := tn_1 (List.mem_of_getElem? (i := 54) rfl) rfl
theorem w1_56 : Cond.fieldLinkNest "NineBridges$Bridge" 38 "NineBridges$Reader" "endCount" "I" "NineBridges" ∈ nW := tn_1 (List.mem_of_getElem? (i := 56) rfl) rfl
theorem w1_58 : Cond.fieldLinkNest "NineBridges$Bridge" 18 "NineBridges$Reader" "stand" "I" "NineBridges" ∈ nW := tn_1 (List.mem_of_getElem? (i := 58) rfl) rfl
theorem w1_60 : Cond.fieldLinkNest "NineBridges$Bridge" 22 "NineBridges$Reader" "turn" "I" "NineBridges" ∈ nW := tn_1 (List.mem_of_getElem? (i := 60) rfl) rfl
theorem w1_62 : Cond.fieldLinkNest "NineBridges$Bridge" 30 "NineBridges$Reader" "shift" "I" "NineBridges" ∈ nW := tn_1 (List.mem_of_getElem? (i := 62) rfl) rfl
theorem w1_64 : Cond.fieldLinkNest "NineBridges$Bridge" 26 "NineBridges$Reader" "bears" "I" "NineBridges" ∈ nW := tn_1 (List.mem_of_getElem? (i := 64) rfl) rfl
theorem w2_79 : Cond.classLink "NineBridges$Reader" 60 "NineBridges$Frosty" ∈ gW := tb_2 (List.mem_of_getElem? (i := 79) rfl) rfl
theorem w2_80 : Cond.instantiable "NineBridges$Frosty" 6 ∈ gW := tb_2 (List.mem_of_getElem? (i := 80) rfl) rfl
theorem w2_81 : Cond.methodLink "NineBridges$Reader" 62 ⟨"NineBridges$Frosty", "<init>", "(LNineBridges$Reader;)V"⟩ ∈ gW := tb_2 (List.mem_of_getElem? (i := 81) rfl) rfl
theorem w2_82 : Cond.instanceMethod ⟨"NineBridges$Frosty", "<init>", "(LNineBridges$Reader;)V"⟩ ∈ gW := tb_2 (List.mem_of_getElem? (i := 82) rfl) rfl
theorem w2_83 : Cond.code ⟨"NineBridges$Frosty", "<init>", "(LNineBridges$Reader;)V"⟩ prog_5_method_1_code 2 none ∈ gW := tb_2 (List.mem_of_getElem? (i := 83) rfl) rfl
theorem w2_84 : Cond.methodLink "NineBridges$Frosty" 1 ⟨"NineBridges$Bridge", "<init>", "(LNineBridges$Reader;)V"⟩ ∈ gW := tb_2 (List.mem_of_getElem? (i := 84) rfl) rfl
theorem w2_85 : Cond.instanceMethod ⟨"NineBridges$Bridge", "<init>", "(LNineBridges$Reader;)V"⟩ ∈ gW := tb_2 (List.mem_of_getElem? (i := 85) rfl) rfl
theorem w2_86 : Cond.code ⟨"NineBridges$Bridge", "<init>", "(LNineBridges$Reader;)V"⟩ prog_2_method_1_code 2 none ∈ gW := tb_2 (List.mem_of_getElem? (i := 86) rfl) rfl
theorem w2_87 : Cond.methodLink "NineBridges$Bridge" 3 ⟨"java/lang/Object", "<init>", "()V"⟩ ∈ gW := tb_2 (List.mem_of_getElem? (i := 87) rfl) rfl
theorem w2_91 : Cond.methodLink "NineBridges$Bridge" 47 ⟨"java/util/Arrays", "copyOf", "([II)[I"⟩ ∈ gW := tb_2 (List.mem_of_getElem? (i := 91) rfl) rfl
theorem w2_92 : Cond.static ⟨"java/util/Arrays", "copyOf", "([II)[I"⟩ ∈ gW := tb_2 (List.mem_of_getElem? (i := 92) rfl) rfl
theorem w2_93 : Cond.code ⟨"java/util/Arrays", "copyOf", "([II)[I"⟩ prog_22_method_123_code 3 (some (.array .int)) ∈ gW := tb_2 (List.mem_of_getElem? (i := 93) rfl) rfl
theorem w2_94 : Cond.methodLink "java/util/Arrays" 316 ⟨"[I", "clone", "()Ljava/lang/Object;"⟩ ∈ gW := tb_2 (List.mem_of_getElem? (i := 94) rfl) rfl
theorem w2_95 : Cond.sameMethod "[I" "java/lang/Object" "clone" "()Ljava/lang/Object;" ∈ gW := tb_2 (List.mem_of_getElem? (i := 95) rfl) rfl
theorem w2_96 : Cond.native ⟨"java/lang/Object", "clone", "()Ljava/lang/Object;"⟩ ∈ gW := tb_2 (List.mem_of_getElem? (i := 96) rfl) rfl
theorem w2_97 : Cond.instanceMethod ⟨"java/lang/Object", "clone", "()Ljava/lang/Object;"⟩ ∈ gW := tb_2 (List.mem_of_getElem? (i := 97) rfl) rfl
theorem w2_98 : Cond.selects "[I" ⟨"[I", "clone", "()Ljava/lang/Object;"⟩ ⟨"java/lang/Object", "clone", "()Ljava/lang/Object;"⟩ ∈ gW := tb_2 (List.mem_of_getElem? (i := 98) rfl) rfl
theorem w2_99 : Cond.castable "[I" "java/lang/Cloneable" ∈ nW := tn_2 (List.mem_of_getElem? (i := 99) rfl) rfl
theorem w2_100 : Cond.classLink "java/util/Arrays" 317 "[I" ∈ gW := tb_2 (List.mem_of_getElem? (i := 100) rfl) rfl
theorem w2_101 : Cond.methodLink "java/util/Arrays" 304 ⟨"java/lang/Math", "min", "(II)I"⟩ ∈ gW := tb_2 (List.mem_of_getElem? (i := 101) rfl) rfl
theorem w2_104 : Cond.methodLink "java/util/Arrays" 150 ⟨"java/lang/System", "arraycopy", "(Ljava/lang/Object;ILjava/lang/Object;II)V"⟩ ∈ gW := tb_2 (List.mem_of_getElem? (i := 104) rfl) rfl
theorem w2_107 : Cond.fieldLink "NineBridges$Bridge" 15 "NineBridges$Bridge" "pivot" "I" ∈ gW := tb_2 (List.mem_of_getElem? (i := 107) rfl) rfl
theorem w2_116 : Cond.fieldLink "NineBridges$Bridge" 29 "NineBridges$Bridge" "bears" "I" ∈ gW := tb_2 (List.mem_of_getElem? (i := 116) rfl) rfl
theorem w2_119 : Cond.fieldLink "NineBridges$Bridge" 33 "NineBridges$Bridge" "shift" "I" ∈ gW := tb_2 (List.mem_of_getElem? (i := 119) rfl) rfl
theorem w2_135 : Cond.classLink "NineBridges$Reader" 65 "NineBridges$Swinging" ∈ gW := tb_2 (List.mem_of_getElem? (i := 135) rfl) rfl
theorem w2_136 : Cond.instantiable "NineBridges$Swinging" 6 ∈ gW := tb_2 (List.mem_of_getElem? (i := 136) rfl) rfl
theorem w2_137 : Cond.methodLink "NineBridges$Reader" 67 ⟨"NineBridges$Swinging", "<init>", "(LNineBridges$Reader;)V"⟩ ∈ gW := tb_2 (List.mem_of_getElem? (i := 137) rfl) rfl
theorem w2_138 : Cond.instanceMethod ⟨"NineBridges$Swinging", "<init>", "(LNineBridges$Reader;)V"⟩ ∈ gW := tb_2 (List.mem_of_getElem? (i := 138) rfl) rfl
theorem w2_139 : Cond.code ⟨"NineBridges$Swinging", "<init>", "(LNineBridges$Reader;)V"⟩ prog_10_method_1_code 2 none ∈ gW := tb_2 (List.mem_of_getElem? (i := 139) rfl) rfl
theorem w2_140 : Cond.methodLink "NineBridges$Swinging" 1 ⟨"NineBridges$Frosty", "<init>", "(LNineBridges$Reader;)V"⟩ ∈ gW := tb_2 (List.mem_of_getElem? (i := 140) rfl) rfl
theorem w2_148 : Cond.classLink "NineBridges$Reader" 68 "NineBridges$Fixed" ∈ gW := tb_2 (List.mem_of_getElem? (i := 148) rfl) rfl
theorem w2_149 : Cond.instantiable "NineBridges$Fixed" 6 ∈ gW := tb_2 (List.mem_of_getElem? (i := 149) rfl) rfl
theorem w2_150 : Cond.methodLink "NineBridges$Reader" 70 ⟨"NineBridges$Fixed", "<init>", "(LNineBridges$Reader;)V"⟩ ∈ gW := tb_2 (List.mem_of_getElem? (i := 150) rfl) rfl
theorem w2_151 : Cond.instanceMethod ⟨"NineBridges$Fixed", "<init>", "(LNineBridges$Reader;)V"⟩ ∈ gW := tb_2 (List.mem_of_getElem? (i := 151) rfl) rfl
theorem w2_152 : Cond.code ⟨"NineBridges$Fixed", "<init>", "(LNineBridges$Reader;)V"⟩ prog_4_method_1_code 2 none ∈ gW := tb_2 (List.mem_of_getElem? (i := 152) rfl) rfl
theorem w2_153 : Cond.methodLink "NineBridges$Fixed" 3 ⟨"NineBridges$Bridge", "<init>", "(LNineBridges$Reader;)V"⟩ ∈ gW := tb_2 (List.mem_of_getElem? (i := 153) rfl) rfl
theorem w2_161 : Cond.classLink "NineBridges$Reader" 71 "NineBridges$Bridge" ∈ gW := tb_2 (List.mem_of_getElem? (i := 161) rfl) rfl
theorem w2_162 : Cond.instantiable "NineBridges$Bridge" 6 ∈ gW := tb_2 (List.mem_of_getElem? (i := 162) rfl) rfl
theorem w2_163 : Cond.methodLink "NineBridges$Reader" 73 ⟨"NineBridges$Bridge", "<init>", "(LNineBridges$Reader;)V"⟩ ∈ gW := tb_2 (List.mem_of_getElem? (i := 163) rfl) rfl
def rmE_copyOf : Room := { frames := 1, cells := 1, slots := 3, locals := 60 }
theorem wdE_copyOf : yJ7_copyOf_59c91.cls ≠ "java/lang/invoke/MethodHandle" ∧ yJ7_copyOf_59c91.cls ≠ "java/lang/invoke/VarHandle" ∧ (parseMethodDescriptor yJ7_copyOf_59c91.desc).map (fun d => d.parameters.length) = some 2 := by decide +kernel
set_option maxRecDepth 100000 in
set_option maxHeartbeats 8000000 in
theorem e_copyOf {l : Launch} {D : va_G} {cI cO cR : ClassId} {t0 a : Nat} {n : Int32} {f : Nat → Int32} (h1 : 0 ≤ n.toInt) (h2 : n.toInt ≤ 3) : ConE l D (tX cI cO cR) t0 yJ7_copyOf_59c91 (wS yJ7_copyOf_59c91 cJ7_copyOf_59c91 3 (some (.array .int))) rmE_copyOf [.ref a, .int n] [(a, .inl (cI, 3, .inl f))] (fun rv w => ∃ (e : Nat) (g : Nat → Int32), rv = some (.ref e) ∧ w = [(a, .inl (cI, 3, .inl f)), (e, .inl (cI, n.toNatClampNeg, .inl g))] ∧ ∀ j, j < n.toNatClampNeg → g j = f j) := by
  have hz : ((n.toNatClampNeg : Nat) : Int) = n.toInt := Int.toNat_of_nonneg h1
  refine ConE.of (by decide +kernel) (Nat.le_of_ble_eq_true rfl) (fun G C hR E hN => ?_)
  show J l rmE_copyOf D G (0, 0) [(a, .inl (cI, 3, .inl f))] [(0, .ref a), (1, .int n)] [] 0
  refine j_iload_n C dJ7_copyOf_59c91_0 rfl 1 rfl ?_
  refine j_aload_n C dJ7_copyOf_59c91_1 rfl 0 rfl ?_
  refine j_alen (v := 3) C 0 0 rfl rfl rfl dJ7_copyOf_59c91_2 ?_
  refine j_icmp_ne (tgt := 14) C dJ7_copyOf_59c91_3 (by decide) (fun hne => ?_) (fun heq => ?_)
  · have hlt : n < 3 := by
      refine Int32.lt_iff_toInt_lt.mpr ?_
      have e3 : (3 : Int32).toInt = 3 := rfl
      have : ¬ n.toInt = 3 := fun q => hne (Int32.toInt_inj.mp (q.trans e3.symm))
      omega
    have hn0 : ¬ n < 0 := fun h => by
      have h6 := Int32.lt_iff_toInt_lt.mp h
      have h7 : (0 : Int32).toInt = 0 := rfl
      omega
    refine j_iload_n C dJ7_copyOf_59c91_14 rfl 1 rfl ?_
    refine j_newa (N' := n.toNatClampNeg) C w1_43 0 rfl hn0 rfl (by omega) (by decide) (by show 0 + n.toNatClampNeg ≤ 3; omega) dJ7_copyOf_59c91_15 (fun q => ?_)
    refine J.widen (cs' := (1, 3)) (Nat.le_refl 1) (by show 0 + n.toNatClampNeg ≤ 3; omega) ?_
    show J l rmE_copyOf D G (1, 3) [(a, .inl (cI, 3, .inl f)), (q, .inl (cI, n.toNatClampNeg, .inl (fun _ => 0)))] [(0, .ref a), (1, .int n)] [.ref q] 17
    refine j_astore_n C dJ7_copyOf_59c91_17 rfl (by decide) rfl ?_
    refine j_aload_n C dJ7_copyOf_59c91_18 rfl 1 rfl ?_
    refine j_iconst (v := 0) C dJ7_copyOf_59c91_19 (by decide) ?_
    refine j_aload_n C dJ7_copyOf_59c91_20 rfl 0 rfl ?_
    refine j_iconst (v := 0) C dJ7_copyOf_59c91_21 (by decide) ?_
    refine j_aload_n C dJ7_copyOf_59c91_22 rfl 1 rfl ?_
    refine j_alen (v := 3) C 0 0 rfl rfl rfl dJ7_copyOf_59c91_23 ?_
    refine j_iload_n C dJ7_copyOf_59c91_24 rfl 2 rfl ?_
    refine j_callS (cs' := (1, 3)) (As := [.int 3, .int n]) (rest := [.int 0, .ref q, .int 0, .ref a]) C (qJ9_min_7cf53 (N := 0) (rr := n) (by rw [mmin_eq, if_pos hlt])) w2_103 w2_101 w2_102 w1_14 wd_J9_min_7cf53 ⟨by decide, by decide⟩ rfl (Nat.le_of_ble_eq_true rfl) dJ7_copyOf_59c91_25 ⟨by decide, by decide⟩ rfl rfl ?_
    refine j_copyi (ws' := [(a, .inl (cI, 3, .inl f)), (q, .inl (cI, n.toNatClampNeg, .inl (va_cpy f (fun _ => 0) 0 0 n.toNatClampNeg)))]) C w2_104 w2_106 w2_105 w1_16 0 1 0 0 rfl rfl rfl rfl (by decide) (by decide) hn0 (by show 0 + n.toNatClampNeg ≤ 3; omega) (by show 0 + n.toNatClampNeg ≤ n.toNatClampNeg; omega) (by decide) (Nat.le_of_ble_eq_true rfl) rfl dJ7_copyOf_59c91_28 ?_
    refine j_aload_n C dJ7_copyOf_59c91_31 rfl 0 rfl ?_
    exact j_aretE C hR (Or.inr ⟨_, rfl⟩) ⟨q, _, rfl, rfl, fun j hj => sb_cpy0 hj⟩ dJ7_copyOf_59c91_32
  · subst heq
    refine j_aload_n C dJ7_copyOf_59c91_6 rfl 0 rfl ?_
    refine j_clone C w2_94 w2_95 w2_96 w2_97 w2_98 w2_99 0 0 rfl rfl (by decide) (Nat.le_of_ble_eq_true rfl) (by decide) (by decide) dJ7_copyOf_59c91_7 (fun q => ?_)
    show J l rmE_copyOf D G (1, 3) [(a, .inl (cI, 3, .inl f)), (q, .inl (cI, 3, .inl f))] [(0, .ref a), (1, .int 3)] [.ref q] 10
    refine j_castA C w2_100 1 0 rfl rfl dJ7_copyOf_59c91_10 ?_
    exact j_aretE C hR (Or.inr ⟨_, rfl⟩) ⟨q, f, rfl, rfl, fun _ _ => rfl⟩ dJ7_copyOf_59c91_13
def rmE_Binit : Room := { frames := 2, cells := 1, slots := 3, locals := 90 }
theorem wdE_Binit : yX0_init.cls ≠ "java/lang/invoke/MethodHandle" ∧ yX0_init.cls ≠ "java/lang/invoke/VarHandle" ∧ (parseMethodDescriptor yX0_init.desc).map (fun d => d.parameters.length) = some 1 := by decide +kernel
set_option maxRecDepth 100000 in
set_option maxHeartbeats 8000000 in
theorem e_Binit_X0 {l : Launch} {D : va_G} {cI cO cR : ClassId} {t0 h r a : Nat} {v1 v2 v3 v4 v5 v6 v7 v8 : Int32} {f : Nat → Int32} (h1 : 0 ≤ v4.toInt) (h2 : v4.toInt ≤ 3) : ConE l D (tX cI cO cR) t0 yX0_init (wS yX0_init cX0_init 2 none) rmE_Binit [.ref h, .ref r] [(h, .inr (1, [.int 0, .int 0, .int 0, .int 0, .null, .int 0])), (r, .inr (8, [.ref a, .int v1, .int v2, .int v3, .int v4, .int v5, .int v6, .int v7, .int v8])), (a, .inl (cI, 3, .inl f))] (fun rv w => ∃ (e : Nat) (g : Nat → Int32), rv = none ∧ w = [(h, .inr (1, [.int v3, .int v5, .int v6, .int v8, .ref e, .int v7])), (r, .inr (8, [.ref a, .int v1, .int v2, .int v3, .int v4, .int v5, .int v6, .int v7, .int v8])), (a, .inl (cI, 3, .inl f)), (e, .inl (cI, v4.toNatClampNeg, .inl g))] ∧ ∀ j, j < v4.toNatClampNeg → g j = f j) := by
  refine ConE.of (by decide +kernel) (Nat.le_of_ble_eq_true rfl) (fun G C hR E hN => ?_)
  show J l rmE_Binit D G (0, 0) [(h, .inr (1, [.int 0, .int 0, .int 0, .int 0, .null, .int 0])), (r, .inr (8, [.ref a, .int v1, .int v2, .int v3, .int v4, .int v5, .int v6, .int v7, .int v8])), (a, .inl (cI, 3, .inl f))] [(0, .ref h), (1, .ref r)] [] 0
  refine j_aload_n C dX0_init_0 rfl 0 rfl ?_
  refine j_objInit C w2_87 w1_28 w1_29 (by decide) (Nat.le_of_ble_eq_true rfl) dX0_init_1 ?_
  refine j_aload_n C dX0_init_4 rfl 0 rfl ?_
  refine j_aload_n C dX0_init_5 rfl 1 rfl ?_
  refine j_getN C iX7 1 rfl rfl 3 (by decide) w1_54 rfl rfl dX0_init_6 ?_
  refine j_putF (ty := .int) C hN iX0 tyX0 tyX0_ok nmX0 0 rfl rfl 0 (by decide) w2_107 rfl rfl rfl (by decide +kernel) rfl rfl (Nat.le_of_ble_eq_true rfl) rfl dX0_init_9 ?_
  show J l rmE_Binit D G (0, 0) [(h, .inr (1, [.int v3, .int 0, .int 0, .int 0, .null, .int 0])), (r, .inr (8, [.ref a, .int v1, .int v2, .int v3, .int v4, .int v5, .int v6, .int v7, .int v8])), (a, .inl (cI, 3, .inl f))] [(0, .ref h), (1, .ref r)] [] 12
  refine j_aload_n C dX0_init_12 rfl 0 rfl ?_
  refine j_aload_n C dX0_init_13 rfl 1 rfl ?_
  refine j_getN C iX7 1 rfl rfl 5 (by decide) w1_58 rfl rfl dX0_init_14 ?_
  refine j_putF (ty := .int) C hN iX0 tyX0 tyX0_ok nmX0 0 rfl rfl 1 (by decide) w2_110 rfl rfl rfl (by decide +kernel) rfl rfl (Nat.le_of_ble_eq_true rfl) rfl dX0_init_17 ?_
  show J l rmE_Binit D G (0, 0) [(h, .inr (1, [.int v3, .int v5, .int 0, .int 0, .null, .int 0])), (r, .inr (8, [.ref a, .int v1, .int v2, .int v3, .int v4, .int v5, .int v6, .int v7, .int v8])), (a, .inl (cI, 3, .inl f))] [(0, .ref h), (1, .ref r)] [] 20
  refine j_aload_n C dX0_init_20 rfl 0 rfl ?_
  refine j_aload_n C dX0_init_21 rfl 1 rfl ?_
  refine j_getN C iX7 1 rfl rfl 6 (by decide) w1_60 rfl rfl dX0_init_22 ?_
  refine j_putF (ty := .int) C hN iX0 tyX0 tyX0_ok nmX0 0 rfl rfl 2 (by decide) w2_112 rfl rfl rfl (by decide +kernel) rfl rfl (Nat.le_of_ble_eq_true rfl) rfl dX0_init_25 ?_
  show J l rmE_Binit D G (0, 0) [(h, .inr (1, [.int v3, .int v5, .int v6, .int 0, .null, .int 0])), (r, .inr (8, [.ref a, .int v1, .int v2, .int v3, .int v4, .int v5, .int v6, .int v7, .int v8])), (a, .inl (cI, 3, .inl f))] [(0, .ref h), (1, .ref r)] [] 28
  refine j_aload_n C dX0_init_28 rfl 0 rfl ?_
  refine j_aload_n C dX0_init_29 rfl 1 rfl ?_
  refine j_getN C iX7 1 rfl rfl 8 (by decide) w1_64 rfl rfl dX0_init_30 ?_
  refine j_putF (ty := .int) C hN iX0 tyX0 tyX0_ok nmX0 0 rfl rfl 3 (by decide) w2_116 rfl rfl rfl (by decide +kernel) rfl rfl (Nat.le_of_ble_eq_true rfl) rfl dX0_init_33 ?_
  show J l rmE_Binit D G (0, 0) [(h, .inr (1, [.int v3, .int v5, .int v6, .int v8, .null, .int 0])), (r, .inr (8, [.ref a, .int v1, .int v2, .int v3, .int v4, .int v5, .int v6, .int v7, .int v8])), (a, .inl (cI, 3, .inl f))] [(0, .ref h), (1, .ref r)] [] 36
  refine j_aload_n C dX0_init_36 rfl 0 rfl ?_
  refine j_aload_n C dX0_init_37 rfl 1 rfl ?_
  refine j_getN C iX7 1 rfl rfl 7 (by decide) w1_62 rfl rfl dX0_init_38 ?_
  refine j_put (ty := .int) C iX0 tyX0 tyX0_ok nmX0 0 rfl rfl 5 (by decide) w2_119 rfl rfl (by decide +kernel) rfl rfl (Nat.le_of_ble_eq_true rfl) rfl dX0_init_41 ?_
  show J l rmE_Binit D G (0, 0) [(h, .inr (1, [.int v3, .int v5, .int v6, .int v8, .null, .int v7])), (r, .inr (8, [.ref a, .int v1, .int v2, .int v3, .int v4, .int v5, .int v6, .int v7, .int v8])), (a, .inl (cI, 3, .inl f))] [(0, .ref h), (1, .ref r)] [] 44
  refine j_aload_n C dX0_init_44 rfl 0 rfl ?_
  refine j_aload_n C dX0_init_45 rfl 1 rfl ?_
  refine j_getN C iX7 1 rfl rfl 0 (by decide) w1_51 rfl rfl dX0_init_46 ?_
  refine j_iconst (v := 0) C dX0_init_49 (by decide) ?_
  refine j_aload_n C dX0_init_50 rfl 1 rfl ?_
  refine j_getN C iX7 1 rfl rfl 4 (by decide) w1_56 rfl rfl dX0_init_51 ?_
  have hmax : (if (0 : Int32) < v4 then v4 else 0) = v4 := by
    by_cases hq : (0 : Int32) < v4
    · rw [if_pos hq]
    · rw [if_neg hq]
      apply Int32.toInt_inj.mp
      have h7 : (0 : Int32).toInt = 0 := rfl
      have h8 : ¬ (0 : Int32).toInt < v4.toInt := fun q => hq (Int32.lt_iff_toInt_lt.mpr q)
      omega
  refine j_callS (cs' := (0, 0)) (As := [.int 0, .int v4]) (rest := [.ref a, .ref h]) C (qJ9_max_7cf53 (N := 0) (rr := v4) (by rw [mmax_eq, hmax])) w2_90 w2_88 w2_89 w1_14 wd_J9_max_7cf53 ⟨by decide, by decide⟩ rfl (Nat.le_of_ble_eq_true rfl) dX0_init_54 ⟨by decide, by decide⟩ rfl rfl ?_
  refine j_callSQ (cs' := (1, 3)) (As := [.ref a, .int v4]) (rest := [.ref h]) (X := [(h, .inr (1, [.int v3, .int v5, .int v6, .int v8, .null, .int v7])), (r, .inr (8, [.ref a, .int v1, .int v2, .int v3, .int v4, .int v5, .int v6, .int v7, .int v8])), (a, .inl (cI, 3, .inl f))]) (pl := []) (cx := [(a, .inl (cI, 3, .inl f))]) (wr := [(h, .inr (1, [.int v3, .int v5, .int v6, .int v8, .null, .int v7])), (r, .inr (8, [.ref a, .int v1, .int v2, .int v3, .int v4, .int v5, .int v6, .int v7, .int v8]))]) C E rfl (e_copyOf h1 h2) w2_93 w2_91 w2_92 w1_15 wdE_copyOf ⟨by decide, by decide⟩ [2] [0, 1] rfl rfl rfl (by decide) (by decide) rfl (Nat.le_of_ble_eq_true rfl) dX0_init_57 ⟨by decide, by decide⟩ rfl rfl (fun rv w1 hP => ?_)
  obtain ⟨e, g, rfl, rfl, hg⟩ := hP
  show J l rmE_Binit D G (1, 3) [(h, .inr (1, [.int v3, .int v5, .int v6, .int v8, .null, .int v7])), (r, .inr (8, [.ref a, .int v1, .int v2, .int v3, .int v4, .int v5, .int v6, .int v7, .int v8])), (a, .inl (cI, 3, .inl f)), (e, .inl (cI, v4.toNatClampNeg, .inl g))] [(0, .ref h), (1, .ref r)] [.ref e, .ref h] 60
  refine j_putF (ty := (.array .int)) C hN iX0 tyX0 tyX0_ok nmX0 0 rfl rfl 4 (by decide) w2_118 rfl rfl rfl (by decide +kernel) rfl rfl (Nat.le_of_ble_eq_true rfl) rfl dX0_init_60 ?_
  show J l rmE_Binit D G (1, 3) [(h, .inr (1, [.int v3, .int v5, .int v6, .int v8, .ref e, .int v7])), (r, .inr (8, [.ref a, .int v1, .int v2, .int v3, .int v4, .int v5, .int v6, .int v7, .int v8])), (a, .inl (cI, 3, .inl f)), (e, .inl (cI, v4.toNatClampNeg, .inl g))] [(0, .ref h), (1, .ref r)] [] 63
  exact j_vretE C hR ⟨e, g, rfl, rfl, hg⟩ dX0_init_63
set_option maxRecDepth 100000 in
set_option maxHeartbeats 8000000 in
theorem e_Binit_X2 {l : Launch} {D : va_G} {cI cO cR : ClassId} {t0 h r a : Nat} {v1 v2 v3 v4 v5 v6 v7 v8 : Int32} {f : Nat → Int32} (h1 : 0 ≤ v4.toInt) (h2 : v4.toInt ≤ 3) : ConE l D (tX cI cO cR) t0 yX0_init (wS yX0_init cX0_init 2 none) rmE_Binit [.ref h, .ref r] [(h, .inr (3, [.int 0, .int 0, .int 0, .int 0, .null, .int 0])), (r, .inr (8, [.ref a, .int v1, .int v2, .int v3, .int v4, .int v5, .int v6, .int v7, .int v8])), (a, .inl (cI, 3, .inl f))] (fun rv w => ∃ (e : Nat) (g : Nat → Int32), rv = none ∧ w = [(h, .inr (3, [.int v3, .int v5, .int v6, .int v8, .ref e, .int v7])), (r, .inr (8, [.ref a, .int v1, .int v2, .int v3, .int v4, .int v5, .int v6, .int v7, .int v8])), (a, .inl (cI, 3, .inl f)), (e, .inl (cI, v4.toNatClampNeg, .inl g))] ∧ ∀ j, j < v4.toNatClampNeg → g j = f j) := by
  refine ConE.of (by decide +kernel) (Nat.le_of_ble_eq_true rfl) (fun G C hR E hN => ?_)
  show J l rmE_Binit D G (0, 0) [(h, .inr (3, [.int 0, .int 0, .int 0, .int 0, .null, .int 0])), (r, .inr (8, [.ref a, .int v1, .int v2, .int v3, .int v4, .int v5, .int v6, .int v7, .int v8])), (a, .inl (cI, 3, .inl f))] [(0, .ref h), (1, .ref r)] [] 0
  refine j_aload_n C dX0_init_0 rfl 0 rfl ?_
  refine j_objInit C w2_87 w1_28 w1_29 (by decide) (Nat.le_of_ble_eq_true rfl) dX0_init_1 ?_
  refine j_aload_n C dX0_init_4 rfl 0 rfl ?_
  refine j_aload_n C dX0_init_5 rfl 1 rfl ?_
  refine j_getN C iX7 1 rfl rfl 3 (by decide) w1_54 rfl rfl dX0_init_6 ?_
  refine j_putF (ty := .int) C hN iX2 tyX2 tyX2_ok nmX2 0 rfl rfl 0 (by decide) w2_107 rfl rfl rfl (by decide +kernel) rfl rfl (Nat.le_of_ble_eq_true rfl) rfl dX0_init_9 ?_
  show J l rmE_Binit D G (0, 0) [(h, .inr (3, [.int v3, .int 0, .int 0, .int 0, .null, .int 0])), (r, .inr (8, [.ref a, .int v1, .int v2, .int v3, .int v4, .int v5, .int v6, .int v7, .int v8])), (a, .inl (cI, 3, .inl f))] [(0, .ref h), (1, .ref r)] [] 12
  refine j_aload_n C dX0_init_12 rfl 0 rfl ?_
  refine j_aload_n C dX0_init_13 rfl 1 rfl ?_
  refine j_getN C iX7 1 rfl rfl 5 (by decide) w1_58 rfl rfl dX0_init_14 ?_
  refine j_putF (ty := .int) C hN iX2 tyX2 tyX2_ok nmX2 0 rfl rfl 1 (by decide) w2_110 rfl rfl rfl (by decide +kernel) rfl rfl (Nat.le_of_ble_eq_true rfl) rfl dX0_init_17 ?_
  show J l rmE_Binit D G (0, 0) [(h, .inr (3, [.int v3, .int v5, .int 0, .int 0, .null, .int 0])), (r, .inr (8, [.ref a, .int v1, .int v2, .int v3, .int v4, .int v5, .int v6, .int v7, .int v8])), (a, .inl (cI, 3, .inl f))] [(0, .ref h), (1, .ref r)] [] 20
  refine j_aload_n C dX0_init_20 rfl 0 rfl ?_
  refine j_aload_n C dX0_init_21 rfl 1 rfl ?_
  refine j_getN C iX7 1 rfl rfl 6 (by decide) w1_60 rfl rfl dX0_init_22 ?_
  refine j_putF (ty := .int) C hN iX2 tyX2 tyX2_ok nmX2 0 rfl rfl 2 (by decide) w2_112 rfl rfl rfl (by decide +kernel) rfl rfl (Nat.le_of_ble_eq_true rfl) rfl dX0_init_25 ?_
  show J l rmE_Binit D G (0, 0) [(h, .inr (3, [.int v3, .int v5, .int v6, .int 0, .null, .int 0])), (r, .inr (8, [.ref a, .int v1, .int v2, .int v3, .int v4, .int v5, .int v6, .int v7, .int v8])), (a, .inl (cI, 3, .inl f))] [(0, .ref h), (1, .ref r)] [] 28
  refine j_aload_n C dX0_init_28 rfl 0 rfl ?_
  refine j_aload_n C dX0_init_29 rfl 1 rfl ?_
  refine j_getN C iX7 1 rfl rfl 8 (by decide) w1_64 rfl rfl dX0_init_30 ?_
  refine j_putF (ty := .int) C hN iX2 tyX2 tyX2_ok nmX2 0 rfl rfl 3 (by decide) w2_116 rfl rfl rfl (by decide +kernel) rfl rfl (Nat.le_of_ble_eq_true rfl) rfl dX0_init_33 ?_
  show J l rmE_Binit D G (0, 0) [(h, .inr (3, [.int v3, .int v5, .int v6, .int v8, .null, .int 0])), (r, .inr (8, [.ref a, .int v1, .int v2, .int v3, .int v4, .int v5, .int v6, .int v7, .int v8])), (a, .inl (cI, 3, .inl f))] [(0, .ref h), (1, .ref r)] [] 36
  refine j_aload_n C dX0_init_36 rfl 0 rfl ?_
  refine j_aload_n C dX0_init_37 rfl 1 rfl ?_
  refine j_getN C iX7 1 rfl rfl 7 (by decide) w1_62 rfl rfl dX0_init_38 ?_
  refine j_put (ty := .int) C iX2 tyX2 tyX2_ok nmX2 0 rfl rfl 5 (by decide) w2_119 rfl rfl (by decide +kernel) rfl rfl (Nat.le_of_ble_eq_true rfl) rfl dX0_init_41 ?_
  show J l rmE_Binit D G (0, 0) [(h, .inr (3, [.int v3, .int v5, .int v6, .int v8, .null, .int v7])), (r, .inr (8, [.ref a, .int v1, .int v2, .int v3, .int v4, .int v5, .int v6, .int v7, .int v8])), (a, .inl (cI, 3, .inl f))] [(0, .ref h), (1, .ref r)] [] 44
  refine j_aload_n C dX0_init_44 rfl 0 rfl ?_
  refine j_aload_n C dX0_init_45 rfl 1 rfl ?_
  refine j_getN C iX7 1 rfl rfl 0 (by decide) w1_51 rfl rfl dX0_init_46 ?_
  refine j_iconst (v := 0) C dX0_init_49 (by decide) ?_
  refine j_aload_n C dX0_init_50 rfl 1 rfl ?_
  refine j_getN C iX7 1 rfl rfl 4 (by decide) w1_56 rfl rfl dX0_init_51 ?_
  have hmax : (if (0 : Int32) < v4 then v4 else 0) = v4 := by
    by_cases hq : (0 : Int32) < v4
    · rw [if_pos hq]
    · rw [if_neg hq]
      apply Int32.toInt_inj.mp
      have h7 : (0 : Int32).toInt = 0 := rfl
      have h8 : ¬ (0 : Int32).toInt < v4.toInt := fun q => hq (Int32.lt_iff_toInt_lt.mpr q)
      omega
  refine j_callS (cs' := (0, 0)) (As := [.int 0, .int v4]) (rest := [.ref a, .ref h]) C (qJ9_max_7cf53 (N := 0) (rr := v4) (by rw [mmax_eq, hmax])) w2_90 w2_88 w2_89 w1_14 wd_J9_max_7cf53 ⟨by decide, by decide⟩ rfl (Nat.le_of_ble_eq_true rfl) dX0_init_54 ⟨by decide, by decide⟩ rfl rfl ?_
  refine j_callSQ (cs' := (1, 3)) (As := [.ref a, .int v4]) (rest := [.ref h]) (X := [(h, .inr (3, [.int v3, .int v5, .int v6, .int v8, .null, .int v7])), (r, .inr (8, [.ref a, .int v1, .int v2, .int v3, .int v4, .int v5, .int v6, .int v7, .int v8])), (a, .inl (cI, 3, .inl f))]) (pl := []) (cx := [(a, .inl (cI, 3, .inl f))]) (wr := [(h, .inr (3, [.int v3, .int v5, .int v6, .int v8, .null, .int v7])), (r, .inr (8, [.ref a, .int v1, .int v2, .int v3, .int v4, .int v5, .int v6, .int v7, .int v8]))]) C E rfl (e_copyOf h1 h2) w2_93 w2_91 w2_92 w1_15 wdE_copyOf ⟨by decide, by decide⟩ [2] [0, 1] rfl rfl rfl (by decide) (by decide) rfl (Nat.le_of_ble_eq_true rfl) dX0_init_57 ⟨by decide, by decide⟩ rfl rfl (fun rv w1 hP => ?_)
  obtain ⟨e, g, rfl, rfl, hg⟩ := hP
  show J l rmE_Binit D G (1, 3) [(h, .inr (3, [.int v3, .int v5, .int v6, .int v8, .null, .int v7])), (r, .inr (8, [.ref a, .int v1, .int v2, .int v3, .int v4, .int v5, .int v6, .int v7, .int v8])), (a, .inl (cI, 3, .inl f)), (e, .inl (cI, v4.toNatClampNeg, .inl g))] [(0, .ref h), (1, .ref r)] [.ref e, .ref h] 60
  refine j_putF (ty := (.array .int)) C hN iX2 tyX2 tyX2_ok nmX2 0 rfl rfl 4 (by decide) w2_118 rfl rfl rfl (by decide +kernel) rfl rfl (Nat.le_of_ble_eq_true rfl) rfl dX0_init_60 ?_
  show J l rmE_Binit D G (1, 3) [(h, .inr (3, [.int v3, .int v5, .int v6, .int v8, .ref e, .int v7])), (r, .inr (8, [.ref a, .int v1, .int v2, .int v3, .int v4, .int v5, .int v6, .int v7, .int v8])), (a, .inl (cI, 3, .inl f)), (e, .inl (cI, v4.toNatClampNeg, .inl g))] [(0, .ref h), (1, .ref r)] [] 63
  exact j_vretE C hR ⟨e, g, rfl, rfl, hg⟩ dX0_init_63
set_option maxRecDepth 100000 in
set_option maxHeartbeats 8000000 in
theorem e_Binit_X3 {l : Launch} {D : va_G} {cI cO cR : ClassId} {t0 h r a : Nat} {v1 v2 v3 v4 v5 v6 v7 v8 : Int32} {f : Nat → Int32} (h1 : 0 ≤ v4.toInt) (h2 : v4.toInt ≤ 3) : ConE l D (tX cI cO cR) t0 yX0_init (wS yX0_init cX0_init 2 none) rmE_Binit [.ref h, .ref r] [(h, .inr (4, [.int 0, .int 0, .int 0, .int 0, .null, .int 0])), (r, .inr (8, [.ref a, .int v1, .int v2, .int v3, .int v4, .int v5, .int v6, .int v7, .int v8])), (a, .inl (cI, 3, .inl f))] (fun rv w => ∃ (e : Nat) (g : Nat → Int32), rv = none ∧ w = [(h, .inr (4, [.int v3, .int v5, .int v6, .int v8, .ref e, .int v7])), (r, .inr (8, [.ref a, .int v1, .int v2, .int v3, .int v4, .int v5, .int v6, .int v7, .int v8])), (a, .inl (cI, 3, .inl f)), (e, .inl (cI, v4.toNatClampNeg, .inl g))] ∧ ∀ j, j < v4.toNatClampNeg → g j = f j) := by
  refine ConE.of (by decide +kernel) (Nat.le_of_ble_eq_true rfl) (fun G C hR E hN => ?_)
  show J l rmE_Binit D G (0, 0) [(h, .inr (4, [.int 0, .int 0, .int 0, .int 0, .null, .int 0])), (r, .inr (8, [.ref a, .int v1, .int v2, .int v3, .int v4, .int v5, .int v6, .int v7, .int v8])), (a, .inl (cI, 3, .inl f))] [(0, .ref h), (1, .ref r)] [] 0
  refine j_aload_n C dX0_init_0 rfl 0 rfl ?_
  refine j_objInit C w2_87 w1_28 w1_29 (by decide) (Nat.le_of_ble_eq_true rfl) dX0_init_1 ?_
  refine j_aload_n C dX0_init_4 rfl 0 rfl ?_
  refine j_aload_n C dX0_init_5 rfl 1 rfl ?_
  refine j_getN C iX7 1 rfl rfl 3 (by decide) w1_54 rfl rfl dX0_init_6 ?_
  refine j_putF (ty := .int) C hN iX3 tyX3 tyX3_ok nmX3 0 rfl rfl 0 (by decide) w2_107 rfl rfl rfl (by decide +kernel) rfl rfl (Nat.le_of_ble_eq_true rfl) rfl dX0_init_9 ?_
  show J l rmE_Binit D G (0, 0) [(h, .inr (4, [.int v3, .int 0, .int 0, .int 0, .null, .int 0])), (r, .inr (8, [.ref a, .int v1, .int v2, .int v3, .int v4, .int v5, .int v6, .int v7, .int v8])), (a, .inl (cI, 3, .inl f))] [(0, .ref h), (1, .ref r)] [] 12
  refine j_aload_n C dX0_init_12 rfl 0 rfl ?_
  refine j_aload_n C dX0_init_13 rfl 1 rfl ?_
  refine j_getN C iX7 1 rfl rfl 5 (by decide) w1_58 rfl rfl dX0_init_14 ?_
  refine j_putF (ty := .int) C hN iX3 tyX3 tyX3_ok nmX3 0 rfl rfl 1 (by decide) w2_110 rfl rfl rfl (by decide +kernel) rfl rfl (Nat.le_of_ble_eq_true rfl) rfl dX0_init_17 ?_
  show J l rmE_Binit D G (0, 0) [(h, .inr (4, [.int v3, .int v5, .int 0, .int 0, .null, .int 0])), (r, .inr (8, [.ref a, .int v1, .int v2, .int v3, .int v4, .int v5, .int v6, .int v7, .int v8])), (a, .inl (cI, 3, .inl f))] [(0, .ref h), (1, .ref r)] [] 20
  refine j_aload_n C dX0_init_20 rfl 0 rfl ?_
  refine j_aload_n C dX0_init_21 rfl 1 rfl ?_
  refine j_getN C iX7 1 rfl rfl 6 (by decide) w1_60 rfl rfl dX0_init_22 ?_
  refine j_putF (ty := .int) C hN iX3 tyX3 tyX3_ok nmX3 0 rfl rfl 2 (by decide) w2_112 rfl rfl rfl (by decide +kernel) rfl rfl (Nat.le_of_ble_eq_true rfl) rfl dX0_init_25 ?_
  show J l rmE_Binit D G (0, 0) [(h, .inr (4, [.int v3, .int v5, .int v6, .int 0, .null, .int 0])), (r, .inr (8, [.ref a, .int v1, .int v2, .int v3, .int v4, .int v5, .int v6, .int v7, .int v8])), (a, .inl (cI, 3, .inl f))] [(0, .ref h), (1, .ref r)] [] 28
  refine j_aload_n C dX0_init_28 rfl 0 rfl ?_
  refine j_aload_n C dX0_init_29 rfl 1 rfl ?_
  refine j_getN C iX7 1 rfl rfl 8 (by decide) w1_64 rfl rfl dX0_init_30 ?_
  refine j_putF (ty := .int) C hN iX3 tyX3 tyX3_ok nmX3 0 rfl rfl 3 (by decide) w2_116 rfl rfl rfl (by decide +kernel) rfl rfl (Nat.le_of_ble_eq_true rfl) rfl dX0_init_33 ?_
  show J l rmE_Binit D G (0, 0) [(h, .inr (4, [.int v3, .int v5, .int v6, .int v8, .null, .int 0])), (r, .inr (8, [.ref a, .int v1, .int v2, .int v3, .int v4, .int v5, .int v6, .int v7, .int v8])), (a, .inl (cI, 3, .inl f))] [(0, .ref h), (1, .ref r)] [] 36
  refine j_aload_n C dX0_init_36 rfl 0 rfl ?_
  refine j_aload_n C dX0_init_37 rfl 1 rfl ?_
  refine j_getN C iX7 1 rfl rfl 7 (by decide) w1_62 rfl rfl dX0_init_38 ?_
  refine j_put (ty := .int) C iX3 tyX3 tyX3_ok nmX3 0 rfl rfl 5 (by decide) w2_119 rfl rfl (by decide +kernel) rfl rfl (Nat.le_of_ble_eq_true rfl) rfl dX0_init_41 ?_
  show J l rmE_Binit D G (0, 0) [(h, .inr (4, [.int v3, .int v5, .int v6, .int v8, .null, .int v7])), (r, .inr (8, [.ref a, .int v1, .int v2, .int v3, .int v4, .int v5, .int v6, .int v7, .int v8])), (a, .inl (cI, 3, .inl f))] [(0, .ref h), (1, .ref r)] [] 44
  refine j_aload_n C dX0_init_44 rfl 0 rfl ?_
  refine j_aload_n C dX0_init_45 rfl 1 rfl ?_
  refine j_getN C iX7 1 rfl rfl 0 (by decide) w1_51 rfl rfl dX0_init_46 ?_
  refine j_iconst (v := 0) C dX0_init_49 (by decide) ?_
  refine j_aload_n C dX0_init_50 rfl 1 rfl ?_
  refine j_getN C iX7 1 rfl rfl 4 (by decide) w1_56 rfl rfl dX0_init_51 ?_
  have hmax : (if (0 : Int32) < v4 then v4 else 0) = v4 := by
    by_cases hq : (0 : Int32) < v4
    · rw [if_pos hq]
    · rw [if_neg hq]
      apply Int32.toInt_inj.mp
      have h7 : (0 : Int32).toInt = 0 := rfl
      have h8 : ¬ (0 : Int32).toInt < v4.toInt := fun q => hq (Int32.lt_iff_toInt_lt.mpr q)
      omega
  refine j_callS (cs' := (0, 0)) (As := [.int 0, .int v4]) (rest := [.ref a, .ref h]) C (qJ9_max_7cf53 (N := 0) (rr := v4) (by rw [mmax_eq, hmax])) w2_90 w2_88 w2_89 w1_14 wd_J9_max_7cf53 ⟨by decide, by decide⟩ rfl (Nat.le_of_ble_eq_true rfl) dX0_init_54 ⟨by decide, by decide⟩ rfl rfl ?_
  refine j_callSQ (cs' := (1, 3)) (As := [.ref a, .int v4]) (rest := [.ref h]) (X := [(h, .inr (4, [.int v3, .int v5, .int v6, .int v8, .null, .int v7])), (r, .inr (8, [.ref a, .int v1, .int v2, .int v3, .int v4, .int v5, .int v6, .int v7, .int v8])), (a, .inl (cI, 3, .inl f))]) (pl := []) (cx := [(a, .inl (cI, 3, .inl f))]) (wr := [(h, .inr (4, [.int v3, .int v5, .int v6, .int v8, .null, .int v7])), (r, .inr (8, [.ref a, .int v1, .int v2, .int v3, .int v4, .int v5, .int v6, .int v7, .int v8]))]) C E rfl (e_copyOf h1 h2) w2_93 w2_91 w2_92 w1_15 wdE_copyOf ⟨by decide, by decide⟩ [2] [0, 1] rfl rfl rfl (by decide) (by decide) rfl (Nat.le_of_ble_eq_true rfl) dX0_init_57 ⟨by decide, by decide⟩ rfl rfl (fun rv w1 hP => ?_)
  obtain ⟨e, g, rfl, rfl, hg⟩ := hP
  show J l rmE_Binit D G (1, 3) [(h, .inr (4, [.int v3, .int v5, .int v6, .int v8, .null, .int v7])), (r, .inr (8, [.ref a, .int v1, .int v2, .int v3, .int v4, .int v5, .int v6, .int v7, .int v8])), (a, .inl (cI, 3, .inl f)), (e, .inl (cI, v4.toNatClampNeg, .inl g))] [(0, .ref h), (1, .ref r)] [.ref e, .ref h] 60
  refine j_putF (ty := (.array .int)) C hN iX3 tyX3 tyX3_ok nmX3 0 rfl rfl 4 (by decide) w2_118 rfl rfl rfl (by decide +kernel) rfl rfl (Nat.le_of_ble_eq_true rfl) rfl dX0_init_60 ?_
  show J l rmE_Binit D G (1, 3) [(h, .inr (4, [.int v3, .int v5, .int v6, .int v8, .ref e, .int v7])), (r, .inr (8, [.ref a, .int v1, .int v2, .int v3, .int v4, .int v5, .int v6, .int v7, .int v8])), (a, .inl (cI, 3, .inl f)), (e, .inl (cI, v4.toNatClampNeg, .inl g))] [(0, .ref h), (1, .ref r)] [] 63
  exact j_vretE C hR ⟨e, g, rfl, rfl, hg⟩ dX0_init_63
set_option maxRecDepth 100000 in
set_option maxHeartbeats 8000000 in
theorem e_Binit_X8 {l : Launch} {D : va_G} {cI cO cR : ClassId} {t0 h r a : Nat} {v1 v2 v3 v4 v5 v6 v7 v8 : Int32} {f : Nat → Int32} (h1 : 0 ≤ v4.toInt) (h2 : v4.toInt ≤ 3) : ConE l D (tX cI cO cR) t0 yX0_init (wS yX0_init cX0_init 2 none) rmE_Binit [.ref h, .ref r] [(h, .inr (9, [.int 0, .int 0, .int 0, .int 0, .null, .int 0])), (r, .inr (8, [.ref a, .int v1, .int v2, .int v3, .int v4, .int v5, .int v6, .int v7, .int v8])), (a, .inl (cI, 3, .inl f))] (fun rv w => ∃ (e : Nat) (g : Nat → Int32), rv = none ∧ w = [(h, .inr (9, [.int v3, .int v5, .int v6, .int v8, .ref e, .int v7])), (r, .inr (8, [.ref a, .int v1, .int v2, .int v3, .int v4, .int v5, .int v6, .int v7, .int v8])), (a, .inl (cI, 3, .inl f)), (e, .inl (cI, v4.toNatClampNeg, .inl g))] ∧ ∀ j, j < v4.toNatClampNeg → g j = f j) := by
  refine ConE.of (by decide +kernel) (Nat.le_of_ble_eq_true rfl) (fun G C hR E hN => ?_)
  show J l rmE_Binit D G (0, 0) [(h, .inr (9, [.int 0, .int 0, .int 0, .int 0, .null, .int 0])), (r, .inr (8, [.ref a, .int v1, .int v2, .int v3, .int v4, .int v5, .int v6, .int v7, .int v8])), (a, .inl (cI, 3, .inl f))] [(0, .ref h), (1, .ref r)] [] 0
  refine j_aload_n C dX0_init_0 rfl 0 rfl ?_
  refine j_objInit C w2_87 w1_28 w1_29 (by decide) (Nat.le_of_ble_eq_true rfl) dX0_init_1 ?_
  refine j_aload_n C dX0_init_4 rfl 0 rfl ?_
  refine j_aload_n C dX0_init_5 rfl 1 rfl ?_
  refine j_getN C iX7 1 rfl rfl 3 (by decide) w1_54 rfl rfl dX0_init_6 ?_
  refine j_putF (ty := .int) C hN iX8 tyX8 tyX8_ok nmX8 0 rfl rfl 0 (by decide) w2_107 rfl rfl rfl (by decide +kernel) rfl rfl (Nat.le_of_ble_eq_true rfl) rfl dX0_init_9 ?_
  show J l rmE_Binit D G (0, 0) [(h, .inr (9, [.int v3, .int 0, .int 0, .int 0, .null, .int 0])), (r, .inr (8, [.ref a, .int v1, .int v2, .int v3, .int v4, .int v5, .int v6, .int v7, .int v8])), (a, .inl (cI, 3, .inl f))] [(0, .ref h), (1, .ref r)] [] 12
  refine j_aload_n C dX0_init_12 rfl 0 rfl ?_
  refine j_aload_n C dX0_init_13 rfl 1 rfl ?_
  refine j_getN C iX7 1 rfl rfl 5 (by decide) w1_58 rfl rfl dX0_init_14 ?_
  refine j_putF (ty := .int) C hN iX8 tyX8 tyX8_ok nmX8 0 rfl rfl 1 (by decide) w2_110 rfl rfl rfl (by decide +kernel) rfl rfl (Nat.le_of_ble_eq_true rfl) rfl dX0_init_17 ?_
  show J l rmE_Binit D G (0, 0) [(h, .inr (9, [.int v3, .int v5, .int 0, .int 0, .null, .int 0])), (r, .inr (8, [.ref a, .int v1, .int v2, .int v3, .int v4, .int v5, .int v6, .int v7, .int v8])), (a, .inl (cI, 3, .inl f))] [(0, .ref h), (1, .ref r)] [] 20
  refine j_aload_n C dX0_init_20 rfl 0 rfl ?_
  refine j_aload_n C dX0_init_21 rfl 1 rfl ?_
  refine j_getN C iX7 1 rfl rfl 6 (by decide) w1_60 rfl rfl dX0_init_22 ?_
  refine j_putF (ty := .int) C hN iX8 tyX8 tyX8_ok nmX8 0 rfl rfl 2 (by decide) w2_112 rfl rfl rfl (by decide +kernel) rfl rfl (Nat.le_of_ble_eq_true rfl) rfl dX0_init_25 ?_
  show J l rmE_Binit D G (0, 0) [(h, .inr (9, [.int v3, .int v5, .int v6, .int 0, .null, .int 0])), (r, .inr (8, [.ref a, .int v1, .int v2, .int v3, .int v4, .int v5, .int v6, .int v7, .int v8])), (a, .inl (cI, 3, .inl f))] [(0, .ref h), (1, .ref r)] [] 28
  refine j_aload_n C dX0_init_28 rfl 0 rfl ?_
  refine j_aload_n C dX0_init_29 rfl 1 rfl ?_
  refine j_getN C iX7 1 rfl rfl 8 (by decide) w1_64 rfl rfl dX0_init_30 ?_
  refine j_putF (ty := .int) C hN iX8 tyX8 tyX8_ok nmX8 0 rfl rfl 3 (by decide) w2_116 rfl rfl rfl (by decide +kernel) rfl rfl (Nat.le_of_ble_eq_true rfl) rfl dX0_init_33 ?_
  show J l rmE_Binit D G (0, 0) [(h, .inr (9, [.int v3, .int v5, .int v6, .int v8, .null, .int 0])), (r, .inr (8, [.ref a, .int v1, .int v2, .int v3, .int v4, .int v5, .int v6, .int v7, .int v8])), (a, .inl (cI, 3, .inl f))] [(0, .ref h), (1, .ref r)] [] 36
  refine j_aload_n C dX0_init_36 rfl 0 rfl ?_
  refine j_aload_n C dX0_init_37 rfl 1 rfl ?_
  refine j_getN C iX7 1 rfl rfl 7 (by decide) w1_62 rfl rfl dX0_init_38 ?_
  refine j_put (ty := .int) C iX8 tyX8 tyX8_ok nmX8 0 rfl rfl 5 (by decide) w2_119 rfl rfl (by decide +kernel) rfl rfl (Nat.le_of_ble_eq_true rfl) rfl dX0_init_41 ?_
  show J l rmE_Binit D G (0, 0) [(h, .inr (9, [.int v3, .int v5, .int v6, .int v8, .null, .int v7])), (r, .inr (8, [.ref a, .int v1, .int v2, .int v3, .int v4, .int v5, .int v6, .int v7, .int v8])), (a, .inl (cI, 3, .inl f))] [(0, .ref h), (1, .ref r)] [] 44
  refine j_aload_n C dX0_init_44 rfl 0 rfl ?_
  refine j_aload_n C dX0_init_45 rfl 1 rfl ?_
  refine j_getN C iX7 1 rfl rfl 0 (by decide) w1_51 rfl rfl dX0_init_46 ?_
  refine j_iconst (v := 0) C dX0_init_49 (by decide) ?_
  refine j_aload_n C dX0_init_50 rfl 1 rfl ?_
  refine j_getN C iX7 1 rfl rfl 4 (by decide) w1_56 rfl rfl dX0_init_51 ?_
  have hmax : (if (0 : Int32) < v4 then v4 else 0) = v4 := by
    by_cases hq : (0 : Int32) < v4
    · rw [if_pos hq]
    · rw [if_neg hq]
      apply Int32.toInt_inj.mp
      have h7 : (0 : Int32).toInt = 0 := rfl
      have h8 : ¬ (0 : Int32).toInt < v4.toInt := fun q => hq (Int32.lt_iff_toInt_lt.mpr q)
      omega
  refine j_callS (cs' := (0, 0)) (As := [.int 0, .int v4]) (rest := [.ref a, .ref h]) C (qJ9_max_7cf53 (N := 0) (rr := v4) (by rw [mmax_eq, hmax])) w2_90 w2_88 w2_89 w1_14 wd_J9_max_7cf53 ⟨by decide, by decide⟩ rfl (Nat.le_of_ble_eq_true rfl) dX0_init_54 ⟨by decide, by decide⟩ rfl rfl ?_
  refine j_callSQ (cs' := (1, 3)) (As := [.ref a, .int v4]) (rest := [.ref h]) (X := [(h, .inr (9, [.int v3, .int v5, .int v6, .int v8, .null, .int v7])), (r, .inr (8, [.ref a, .int v1, .int v2, .int v3, .int v4, .int v5, .int v6, .int v7, .int v8])), (a, .inl (cI, 3, .inl f))]) (pl := []) (cx := [(a, .inl (cI, 3, .inl f))]) (wr := [(h, .inr (9, [.int v3, .int v5, .int v6, .int v8, .null, .int v7])), (r, .inr (8, [.ref a, .int v1, .int v2, .int v3, .int v4, .int v5, .int v6, .int v7, .int v8]))]) C E rfl (e_copyOf h1 h2) w2_93 w2_91 w2_92 w1_15 wdE_copyOf ⟨by decide, by decide⟩ [2] [0, 1] rfl rfl rfl (by decide) (by decide) rfl (Nat.le_of_ble_eq_true rfl) dX0_init_57 ⟨by decide, by decide⟩ rfl rfl (fun rv w1 hP => ?_)
  obtain ⟨e, g, rfl, rfl, hg⟩ := hP
  show J l rmE_Binit D G (1, 3) [(h, .inr (9, [.int v3, .int v5, .int v6, .int v8, .null, .int v7])), (r, .inr (8, [.ref a, .int v1, .int v2, .int v3, .int v4, .int v5, .int v6, .int v7, .int v8])), (a, .inl (cI, 3, .inl f)), (e, .inl (cI, v4.toNatClampNeg, .inl g))] [(0, .ref h), (1, .ref r)] [.ref e, .ref h] 60
  refine j_putF (ty := (.array .int)) C hN iX8 tyX8 tyX8_ok nmX8 0 rfl rfl 4 (by decide) w2_118 rfl rfl rfl (by decide +kernel) rfl rfl (Nat.le_of_ble_eq_true rfl) rfl dX0_init_60 ?_
  show J l rmE_Binit D G (1, 3) [(h, .inr (9, [.int v3, .int v5, .int v6, .int v8, .ref e, .int v7])), (r, .inr (8, [.ref a, .int v1, .int v2, .int v3, .int v4, .int v5, .int v6, .int v7, .int v8])), (a, .inl (cI, 3, .inl f)), (e, .inl (cI, v4.toNatClampNeg, .inl g))] [(0, .ref h), (1, .ref r)] [] 63
  exact j_vretE C hR ⟨e, g, rfl, rfl, hg⟩ dX0_init_63
def rmE_Xi : Room := { frames := 3, cells := 1, slots := 3, locals := 120 }
def rmE_Xj : Room := { frames := 4, cells := 1, slots := 3, locals := 150 }
theorem wdE_X2i : yX2_init.cls ≠ "java/lang/invoke/MethodHandle" ∧ yX2_init.cls ≠ "java/lang/invoke/VarHandle" ∧ (parseMethodDescriptor yX2_init.desc).map (fun d => d.parameters.length) = some 1 := by decide +kernel
theorem wdE_X3i : yX3_init.cls ≠ "java/lang/invoke/MethodHandle" ∧ yX3_init.cls ≠ "java/lang/invoke/VarHandle" ∧ (parseMethodDescriptor yX3_init.desc).map (fun d => d.parameters.length) = some 1 := by decide +kernel
theorem wdE_X8i : yX8_init.cls ≠ "java/lang/invoke/MethodHandle" ∧ yX8_init.cls ≠ "java/lang/invoke/VarHandle" ∧ (parseMethodDescriptor yX8_init.desc).map (fun d => d.parameters.length) = some 1 := by decide +kernel
set_option maxRecDepth 100000 in
set_option maxHeartbeats 8000000 in
theorem e_X2init_X2 {l : Launch} {D : va_G} {cI cO cR : ClassId} {t0 h r a : Nat} {v1 v2 v3 v4 v5 v6 v7 v8 : Int32} {f : Nat → Int32} (h1 : 0 ≤ v4.toInt) (h2 : v4.toInt ≤ 3) : ConE l D (tX cI cO cR) t0 yX2_init (wS yX2_init cX2_init 2 none) rmE_Xi [.ref h, .ref r] [(h, .inr (3, [.int 0, .int 0, .int 0, .int 0, .null, .int 0])), (r, .inr (8, [.ref a, .int v1, .int v2, .int v3, .int v4, .int v5, .int v6, .int v7, .int v8])), (a, .inl (cI, 3, .inl f))] (fun rv w => ∃ (e : Nat) (g : Nat → Int32), rv = none ∧ w = [(h, .inr (3, [.int v3, .int v5, .int v6, .int v8, .ref e, .int v7])), (r, .inr (8, [.ref a, .int v1, .int v2, .int v3, .int v4, .int v5, .int v6, .int v7, .int v8])), (a, .inl (cI, 3, .inl f)), (e, .inl (cI, v4.toNatClampNeg, .inl g))] ∧ ∀ j, j < v4.toNatClampNeg → g j = f j) := by
  refine ConE.of (by decide +kernel) (Nat.le_of_ble_eq_true rfl) (fun G C hR E hN => ?_)
  show J l rmE_Xi D G (0, 0) [(h, .inr (3, [.int 0, .int 0, .int 0, .int 0, .null, .int 0])), (r, .inr (8, [.ref a, .int v1, .int v2, .int v3, .int v4, .int v5, .int v6, .int v7, .int v8])), (a, .inl (cI, 3, .inl f))] [(0, .ref h), (1, .ref r)] [] 0
  refine j_aload_n C dX2_init_0 rfl 0 rfl ?_
  refine j_aload_n C dX2_init_1 rfl 1 rfl ?_
  refine j_callI (cs' := (1, 3)) (As := [.ref r]) (rest := []) (wc := [(h, .inr (3, [.int 0, .int 0, .int 0, .int 0, .null, .int 0])), (r, .inr (8, [.ref a, .int v1, .int v2, .int v3, .int v4, .int v5, .int v6, .int v7, .int v8])), (a, .inl (cI, 3, .inl f))]) (wr := []) none C E (e_Binit_X2 h1 h2) w2_86 w2_153 w2_85 w1_12 rfl wdE_Binit ⟨by decide, by decide⟩ [0, 1, 2] [] rfl rfl rfl (by decide) (by decide) rfl (Nat.le_of_ble_eq_true rfl) dX2_init_2 ⟨by decide, by decide⟩ rfl rfl (fun rv w1 hP => ?_)
  obtain ⟨e, g, rfl, rfl, hg⟩ := hP
  exact j_vretE C hR ⟨e, g, rfl, rfl, hg⟩ dX2_init_5
set_option maxRecDepth 100000 in
set_option maxHeartbeats 8000000 in
theorem e_X3init_X3 {l : Launch} {D : va_G} {cI cO cR : ClassId} {t0 h r a : Nat} {v1 v2 v3 v4 v5 v6 v7 v8 : Int32} {f : Nat → Int32} (h1 : 0 ≤ v4.toInt) (h2 : v4.toInt ≤ 3) : ConE l D (tX cI cO cR) t0 yX3_init (wS yX3_init cX3_init 2 none) rmE_Xi [.ref h, .ref r] [(h, .inr (4, [.int 0, .int 0, .int 0, .int 0, .null, .int 0])), (r, .inr (8, [.ref a, .int v1, .int v2, .int v3, .int v4, .int v5, .int v6, .int v7, .int v8])), (a, .inl (cI, 3, .inl f))] (fun rv w => ∃ (e : Nat) (g : Nat → Int32), rv = none ∧ w = [(h, .inr (4, [.int v3, .int v5, .int v6, .int v8, .ref e, .int v7])), (r, .inr (8, [.ref a, .int v1, .int v2, .int v3, .int v4, .int v5, .int v6, .int v7, .int v8])), (a, .inl (cI, 3, .inl f)), (e, .inl (cI, v4.toNatClampNeg, .inl g))] ∧ ∀ j, j < v4.toNatClampNeg → g j = f j) := by
  refine ConE.of (by decide +kernel) (Nat.le_of_ble_eq_true rfl) (fun G C hR E hN => ?_)
  show J l rmE_Xi D G (0, 0) [(h, .inr (4, [.int 0, .int 0, .int 0, .int 0, .null, .int 0])), (r, .inr (8, [.ref a, .int v1, .int v2, .int v3, .int v4, .int v5, .int v6, .int v7, .int v8])), (a, .inl (cI, 3, .inl f))] [(0, .ref h), (1, .ref r)] [] 0
  refine j_aload_n C dX3_init_0 rfl 0 rfl ?_
  refine j_aload_n C dX3_init_1 rfl 1 rfl ?_
  refine j_callI (cs' := (1, 3)) (As := [.ref r]) (rest := []) (wc := [(h, .inr (4, [.int 0, .int 0, .int 0, .int 0, .null, .int 0])), (r, .inr (8, [.ref a, .int v1, .int v2, .int v3, .int v4, .int v5, .int v6, .int v7, .int v8])), (a, .inl (cI, 3, .inl f))]) (wr := []) none C E (e_Binit_X3 h1 h2) w2_86 w2_84 w2_85 w1_12 rfl wdE_Binit ⟨by decide, by decide⟩ [0, 1, 2] [] rfl rfl rfl (by decide) (by decide) rfl (Nat.le_of_ble_eq_true rfl) dX3_init_2 ⟨by decide, by decide⟩ rfl rfl (fun rv w1 hP => ?_)
  obtain ⟨e, g, rfl, rfl, hg⟩ := hP
  exact j_vretE C hR ⟨e, g, rfl, rfl, hg⟩ dX3_init_5
set_option maxRecDepth 100000 in
set_option maxHeartbeats 8000000 in
theorem e_X3init_X8 {l : Launch} {D : va_G} {cI cO cR : ClassId} {t0 h r a : Nat} {v1 v2 v3 v4 v5 v6 v7 v8 : Int32} {f : Nat → Int32} (h1 : 0 ≤ v4.toInt) (h2 : v4.toInt ≤ 3) : ConE l D (tX cI cO cR) t0 yX3_init (wS yX3_init cX3_init 2 none) rmE_Xi [.ref h, .ref r] [(h, .inr (9, [.int 0, .int 0, .int 0, .int 0, .null, .int 0])), (r, .inr (8, [.ref a, .int v1, .int v2, .int v3, .int v4, .int v5, .int v6, .int v7, .int v8])), (a, .inl (cI, 3, .inl f))] (fun rv w => ∃ (e : Nat) (g : Nat → Int32), rv = none ∧ w = [(h, .inr (9, [.int v3, .int v5, .int v6, .int v8, .ref e, .int v7])), (r, .inr (8, [.ref a, .int v1, .int v2, .int v3, .int v4, .int v5, .int v6, .int v7, .int v8])), (a, .inl (cI, 3, .inl f)), (e, .inl (cI, v4.toNatClampNeg, .inl g))] ∧ ∀ j, j < v4.toNatClampNeg → g j = f j) := by
  refine ConE.of (by decide +kernel) (Nat.le_of_ble_eq_true rfl) (fun G C hR E hN => ?_)
  show J l rmE_Xi D G (0, 0) [(h, .inr (9, [.int 0, .int 0, .int 0, .int 0, .null, .int 0])), (r, .inr (8, [.ref a, .int v1, .int v2, .int v3, .int v4, .int v5, .int v6, .int v7, .int v8])), (a, .inl (cI, 3, .inl f))] [(0, .ref h), (1, .ref r)] [] 0
  refine j_aload_n C dX3_init_0 rfl 0 rfl ?_
  refine j_aload_n C dX3_init_1 rfl 1 rfl ?_
  refine j_callI (cs' := (1, 3)) (As := [.ref r]) (rest := []) (wc := [(h, .inr (9, [.int 0, .int 0, .int 0, .int 0, .null, .int 0])), (r, .inr (8, [.ref a, .int v1, .int v2, .int v3, .int v4, .int v5, .int v6, .int v7, .int v8])), (a, .inl (cI, 3, .inl f))]) (wr := []) none C E (e_Binit_X8 h1 h2) w2_86 w2_84 w2_85 w1_12 rfl wdE_Binit ⟨by decide, by decide⟩ [0, 1, 2] [] rfl rfl rfl (by decide) (by decide) rfl (Nat.le_of_ble_eq_true rfl) dX3_init_2 ⟨by decide, by decide⟩ rfl rfl (fun rv w1 hP => ?_)
  obtain ⟨e, g, rfl, rfl, hg⟩ := hP
  exact j_vretE C hR ⟨e, g, rfl, rfl, hg⟩ dX3_init_5
set_option maxRecDepth 100000 in
set_option maxHeartbeats 8000000 in
theorem e_X8init_X8 {l : Launch} {D : va_G} {cI cO cR : ClassId} {t0 h r a : Nat} {v1 v2 v3 v4 v5 v6 v7 v8 : Int32} {f : Nat → Int32} (h1 : 0 ≤ v4.toInt) (h2 : v4.toInt ≤ 3) : ConE l D (tX cI cO cR) t0 yX8_init (wS yX8_init cX8_init 2 none) rmE_Xj [.ref h, .ref r] [(h, .inr (9, [.int 0, .int 0, .int 0, .int 0, .null, .int 0])), (r, .inr (8, [.ref a, .int v1, .int v2, .int v3, .int v4, .int v5, .int v6, .int v7, .int v8])), (a, .inl (cI, 3, .inl f))] (fun rv w => ∃ (e : Nat) (g : Nat → Int32), rv = none ∧ w = [(h, .inr (9, [.int v3, .int v5, .int v6, .int v8, .ref e, .int v7])), (r, .inr (8, [.ref a, .int v1, .int v2, .int v3, .int v4, .int v5, .int v6, .int v7, .int v8])), (a, .inl (cI, 3, .inl f)), (e, .inl (cI, v4.toNatClampNeg, .inl g))] ∧ ∀ j, j < v4.toNatClampNeg → g j = f j) := by
  refine ConE.of (by decide +kernel) (Nat.le_of_ble_eq_true rfl) (fun G C hR E hN => ?_)
  show J l rmE_Xj D G (0, 0) [(h, .inr (9, [.int 0, .int 0, .int 0, .int 0, .null, .int 0])), (r, .inr (8, [.ref a, .int v1, .int v2, .int v3, .int v4, .int v5, .int v6, .int v7, .int v8])), (a, .inl (cI, 3, .inl f))] [(0, .ref h), (1, .ref r)] [] 0
  refine j_aload_n C dX8_init_0 rfl 0 rfl ?_
  refine j_aload_n C dX8_init_1 rfl 1 rfl ?_
  refine j_callI (cs' := (1, 3)) (As := [.ref r]) (rest := []) (wc := [(h, .inr (9, [.int 0, .int 0, .int 0, .int 0, .null, .int 0])), (r, .inr (8, [.ref a, .int v1, .int v2, .int v3, .int v4, .int v5, .int v6, .int v7, .int v8])), (a, .inl (cI, 3, .inl f))]) (wr := []) none C E (e_X3init_X8 h1 h2) w2_83 w2_140 w2_82 w1_13 rfl wdE_X3i ⟨by decide, by decide⟩ [0, 1, 2] [] rfl rfl rfl (by decide) (by decide) rfl (Nat.le_of_ble_eq_true rfl) dX8_init_2 ⟨by decide, by decide⟩ rfl rfl (fun rv w1 hP => ?_)
  obtain ⟨e, g, rfl, rfl, hg⟩ := hP
  exact j_vretE C hR ⟨e, g, rfl, rfl, hg⟩ dX8_init_5
def rmE_made : Room := { frames := 5, cells := 2, slots := 9, locals := 180 }
theorem wdE_made : yX7_made.cls ≠ "java/lang/invoke/MethodHandle" ∧ yX7_made.cls ≠ "java/lang/invoke/VarHandle" ∧ (parseMethodDescriptor yX7_made.desc).map (fun d => d.parameters.length) = some 0 := by decide +kernel
/-- the class of a bridge that the reader makes, by its kind -/
def clsK (k : Int32) : Nat := if k = 1 then 4 else if k = 2 then 9 else if k = 3 then 3 else 1
set_option maxRecDepth 100000 in
set_option maxHeartbeats 8000000 in
theorem e_made {l : Launch} {D : va_G} {cI cO cR : ClassId} {t0 r a : Nat} {v1 v2 v3 v4 v5 v6 v7 v8 : Int32} {f : Nat → Int32} (h1 : 0 ≤ v4.toInt) (h2 : v4.toInt ≤ 3) : ConE l D (tX cI cO cR) t0 yX7_made (wS yX7_made cX7_made 1 (some (.object "NineBridges$Bridge"))) rmE_made [.ref r] [(r, .inr (8, [.ref a, .int v1, .int v2, .int v3, .int v4, .int v5, .int v6, .int v7, .int v8])), (a, .inl (cI, 3, .inl f))] (fun rv w => ∃ (h e : Nat) (g : Nat → Int32), rv = some (.ref h) ∧ w = [(h, .inr (clsK v2, [.int v3, .int v5, .int v6, .int v8, .ref e, .int v7])), (r, .inr (8, [.ref a, .int v1, .int v2, .int v3, .int v4, .int v5, .int v6, .int v7, .int v8])), (a, .inl (cI, 3, .inl f)), (e, .inl (cI, v4.toNatClampNeg, .inl g))] ∧ ∀ j, j < v4.toNatClampNeg → g j = f j) := by
  refine ConE.of (by decide +kernel) (Nat.le_of_ble_eq_true rfl) (fun G C hR E hN => ?_)
  show J l rmE_made D G (0, 0) [(r, .inr (8, [.ref a, .int v1, .int v2, .int v3, .int v4, .int v5, .int v6, .int v7, .int v8])), (a, .inl (cI, 3, .inl f))] [(0, .ref r)] [] 0
  refine j_aload_n C dX7_made_0 rfl 0 rfl ?_
  refine j_get C iX7 0 rfl rfl 2 (by decide) w1_53 rfl rfl dX7_made_1 ?_
  have hsw : v2 = 1 ∨ v2 = 2 ∨ v2 = 3 ∨ ((v2.toInt < 1 ∨ 3 < v2.toInt) ∧ clsK v2 = 1) := by
    by_cases q1 : v2 = 1
    · exact Or.inl q1
    by_cases q2 : v2 = 2
    · exact Or.inr (Or.inl q2)
    by_cases q3 : v2 = 3
    · exact Or.inr (Or.inr (Or.inl q3))
    refine Or.inr (Or.inr (Or.inr ⟨?_, by unfold clsK; rw [if_neg q1, if_neg q2, if_neg q3]⟩))
    have z1 := lsw_ne q1 (n := 1) rfl
    have z2 := lsw_ne q2 (n := 2) rfl
    have z3 := lsw_ne q3 (n := 3) rfl
    omega
  rcases hsw with q1 | q1 | q1 | ⟨q1, hk⟩
  · have hk : clsK v2 = 4 := by rw [q1]; rfl
    refine j_tableIn (tgt := 32) C dX7_made_4 (by rw [q1]; decide) (by rw [q1]; decide) (by rw [q1]; rfl) (by decide) ?_
    refine j_new (ci := 4) (fs := [.int 0, .int 0, .int 0, .int 0, .null, .int 0]) C iX3 tyX3 tyX3_ok w2_79 w2_80 w1_13 rfl (fun j hj => by rcases (show j = 0 ∨ j = 1 ∨ j = 2 ∨ j = 3 ∨ j = 4 ∨ j = 5 by omega) with rfl | rfl | rfl | rfl | rfl | rfl <;> rfl) (by decide) (by decide) dX7_made_32 (fun h => ?_)
    show J l rmE_made D G (1, 6) [(r, .inr (8, [.ref a, .int v1, .int v2, .int v3, .int v4, .int v5, .int v6, .int v7, .int v8])), (a, .inl (cI, 3, .inl f)), (h, .inr (4, [.int 0, .int 0, .int 0, .int 0, .null, .int 0]))] [(0, .ref r)] [.ref h] 35
    refine j_dup C dX7_made_35 rfl ?_
    refine j_aload_n C dX7_made_36 rfl 0 rfl ?_
    refine j_callI (cs' := (2, 9)) (As := [.ref r]) (rest := [.ref h]) (wc := [(h, .inr (4, [.int 0, .int 0, .int 0, .int 0, .null, .int 0])), (r, .inr (8, [.ref a, .int v1, .int v2, .int v3, .int v4, .int v5, .int v6, .int v7, .int v8])), (a, .inl (cI, 3, .inl f))]) (wr := []) none C E (e_X3init_X3 h1 h2) w2_83 w2_81 w2_82 w1_13 rfl wdE_X3i ⟨by decide, by decide⟩ [2, 0, 1] [] rfl rfl rfl (by decide) (by decide) rfl (Nat.le_of_ble_eq_true rfl) dX7_made_37 ⟨by decide, by decide⟩ rfl rfl (fun rv w1 hP => ?_)
    obtain ⟨e, g, rfl, rfl, hg⟩ := hP
    exact j_aretE C hR (Or.inl ⟨_, rfl⟩) ⟨h, e, g, rfl, by rw [hk]; rfl, hg⟩ dX7_made_40
  · have hk : clsK v2 = 9 := by rw [q1]; rfl
    refine j_tableIn (tgt := 41) C dX7_made_4 (by rw [q1]; decide) (by rw [q1]; decide) (by rw [q1]; rfl) (by decide) ?_
    refine j_new (ci := 9) (fs := [.int 0, .int 0, .int 0, .int 0, .null, .int 0]) C iX8 tyX8 tyX8_ok w2_135 w2_136 w1_17 rfl (fun j hj => by rcases (show j = 0 ∨ j = 1 ∨ j = 2 ∨ j = 3 ∨ j = 4 ∨ j = 5 by omega) with rfl | rfl | rfl | rfl | rfl | rfl <;> rfl) (by decide) (by decide) dX7_made_41 (fun h => ?_)
    show J l rmE_made D G (1, 6) [(r, .inr (8, [.ref a, .int v1, .int v2, .int v3, .int v4, .int v5, .int v6, .int v7, .int v8])), (a, .inl (cI, 3, .inl f)), (h, .inr (9, [.int 0, .int 0, .int 0, .int 0, .null, .int 0]))] [(0, .ref r)] [.ref h] 44
    refine j_dup C dX7_made_44 rfl ?_
    refine j_aload_n C dX7_made_45 rfl 0 rfl ?_
    refine j_callI (cs' := (2, 9)) (As := [.ref r]) (rest := [.ref h]) (wc := [(h, .inr (9, [.int 0, .int 0, .int 0, .int 0, .null, .int 0])), (r, .inr (8, [.ref a, .int v1, .int v2, .int v3, .int v4, .int v5, .int v6, .int v7, .int v8])), (a, .inl (cI, 3, .inl f))]) (wr := []) none C E (e_X8init_X8 h1 h2) w2_139 w2_137 w2_138 w1_17 rfl wdE_X8i ⟨by decide, by decide⟩ [2, 0, 1] [] rfl rfl rfl (by decide) (by decide) rfl (Nat.le_of_ble_eq_true rfl) dX7_made_46 ⟨by decide, by decide⟩ rfl rfl (fun rv w1 hP => ?_)
    obtain ⟨e, g, rfl, rfl, hg⟩ := hP
    exact j_aretE C hR (Or.inl ⟨_, rfl⟩) ⟨h, e, g, rfl, by rw [hk]; rfl, hg⟩ dX7_made_49
  · have hk : clsK v2 = 3 := by rw [q1]; rfl
    refine j_tableIn (tgt := 50) C dX7_made_4 (by rw [q1]; decide) (by rw [q1]; decide) (by rw [q1]; rfl) (by decide) ?_
    refine j_new (ci := 3) (fs := [.int 0, .int 0, .int 0, .int 0, .null, .int 0]) C iX2 tyX2 tyX2_ok w2_148 w2_149 w1_18 rfl (fun j hj => by rcases (show j = 0 ∨ j = 1 ∨ j = 2 ∨ j = 3 ∨ j = 4 ∨ j = 5 by omega) with rfl | rfl | rfl | rfl | rfl | rfl <;> rfl) (by decide) (by decide) dX7_made_50 (fun h => ?_)
    show J l rmE_made D G (1, 6) [(r, .inr (8, [.ref a, .int v1, .int v2, .int v3, .int v4, .int v5, .int v6, .int v7, .int v8])), (a, .inl (cI, 3, .inl f)), (h, .inr (3, [.int 0, .int 0, .int 0, .int 0, .null, .int 0]))] [(0, .ref r)] [.ref h] 53
    refine j_dup C dX7_made_53 rfl ?_
    refine j_aload_n C dX7_made_54 rfl 0 rfl ?_
    refine j_callI (cs' := (2, 9)) (As := [.ref r]) (rest := [.ref h]) (wc := [(h, .inr (3, [.int 0, .int 0, .int 0, .int 0, .null, .int 0])), (r, .inr (8, [.ref a, .int v1, .int v2, .int v3, .int v4, .int v5, .int v6, .int v7, .int v8])), (a, .inl (cI, 3, .inl f))]) (wr := []) none C E (e_X2init_X2 h1 h2) w2_152 w2_150 w2_151 w1_18 rfl wdE_X2i ⟨by decide, by decide⟩ [2, 0, 1] [] rfl rfl rfl (by decide) (by decide) rfl (Nat.le_of_ble_eq_true rfl) dX7_made_55 ⟨by decide, by decide⟩ rfl rfl (fun rv w1 hP => ?_)
    obtain ⟨e, g, rfl, rfl, hg⟩ := hP
    exact j_aretE C hR (Or.inl ⟨_, rfl⟩) ⟨h, e, g, rfl, by rw [hk]; rfl, hg⟩ dX7_made_58
  · refine j_tableOut (tgt := 59) C dX7_made_4 q1 (by decide) ?_
    refine j_new (ci := 1) (fs := [.int 0, .int 0, .int 0, .int 0, .null, .int 0]) C iX0 tyX0 tyX0_ok w2_161 w2_162 w1_12 rfl (fun j hj => by rcases (show j = 0 ∨ j = 1 ∨ j = 2 ∨ j = 3 ∨ j = 4 ∨ j = 5 by omega) with rfl | rfl | rfl | rfl | rfl | rfl <;> rfl) (by decide) (by decide) dX7_made_59 (fun h => ?_)
    show J l rmE_made D G (1, 6) [(r, .inr (8, [.ref a, .int v1, .int v2, .int v3, .int v4, .int v5, .int v6, .int v7, .int v8])), (a, .inl (cI, 3, .inl f)), (h, .inr (1, [.int 0, .int 0, .int 0, .int 0, .null, .int 0]))] [(0, .ref r)] [.ref h] 62
    refine j_dup C dX7_made_62 rfl ?_
    refine j_aload_n C dX7_made_63 rfl 0 rfl ?_
    refine j_callI (cs' := (2, 9)) (As := [.ref r]) (rest := [.ref h]) (wc := [(h, .inr (1, [.int 0, .int 0, .int 0, .int 0, .null, .int 0])), (r, .inr (8, [.ref a, .int v1, .int v2, .int v3, .int v4, .int v5, .int v6, .int v7, .int v8])), (a, .inl (cI, 3, .inl f))]) (wr := []) none C E (e_Binit_X0 h1 h2) w2_86 w2_163 w2_85 w1_12 rfl wdE_Binit ⟨by decide, by decide⟩ [2, 0, 1] [] rfl rfl rfl (by decide) (by decide) rfl (Nat.le_of_ble_eq_true rfl) dX7_made_64 ⟨by decide, by decide⟩ rfl rfl (fun rv w1 hP => ?_)
    obtain ⟨e, g, rfl, rfl, hg⟩ := hP
    exact j_aretE C hR (Or.inl ⟨_, rfl⟩) ⟨h, e, g, rfl, by rw [hk]; rfl, hg⟩ dX7_made_67
