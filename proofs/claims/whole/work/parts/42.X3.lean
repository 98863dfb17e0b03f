def rmX7_takes : Room := { frames := 2, cells := 0, slots := 0, locals := 43 }
theorem wd_X7_takes : yX7_takes.cls ≠ "java/lang/invoke/MethodHandle" ∧ yX7_takes.cls ≠ "java/lang/invoke/VarHandle" ∧ (parseMethodDescriptor yX7_takes.desc).map (fun d => d.parameters.length) = some 1 := by decide +kernel
def mX7_takes_130 (N : Nat) (u : USt) (s0 : Int32) : Option (Int32 × USt) := gd (s0 = 0 ∨ s0 = 1) (some (s0, u))
set_option maxRecDepth 100000 in
set_option maxHeartbeats 4000000 in
theorem kX7_takes_130 {l : Launch} {D : va_G} {cI cO cR : ClassId} {q : Nat → Nat} {t0 : Nat} {b : BSt} {G : Gx} {N : Nat} {rr : (Int32 × USt)} (C : jC l rmX7_takes D (tX cI cO cR) G cX7_takes 2 RX7) (hR : jR D (tX cI cO cR) G (0, 0) (some .boolean) (some (.int rr.1)) (wX cI cO cR q t0 rr.2 b))  (u : USt) (s0 : Int32) (hm : mX7_takes_130 N u s0 = some rr) : J l rmX7_takes D G (0, 0) (wX cI cO cR q t0 u b) [] [.int s0] 130 := by
  unfold mX7_takes_130 at hm
  obtain ⟨g, hm⟩ := gd_some hm
  cases hm
  exact j_zret C hR (jz01 g) dX7_takes_130
def mX7_takes_125 (N : Nat) (u : USt) : Option (Int32 × USt) := mX7_takes_130 N u 1
set_option maxRecDepth 100000 in
set_option maxHeartbeats 4000000 in
theorem kX7_takes_125 {l : Launch} {D : va_G} {cI cO cR : ClassId} {q : Nat → Nat} {t0 : Nat} {b : BSt} {G : Gx} {N : Nat} {rr : (Int32 × USt)} (C : jC l rmX7_takes D (tX cI cO cR) G cX7_takes 2 RX7) (hR : jR D (tX cI cO cR) G (0, 0) (some .boolean) (some (.int rr.1)) (wX cI cO cR q t0 rr.2 b))  (u : USt) (hm : mX7_takes_125 N u = some rr) : J l rmX7_takes D G (0, 0) (wX cI cO cR q t0 u b) [] [] 125 := by
  unfold mX7_takes_125 at hm
  refine j_iconst (v := 1) C dX7_takes_125 (by decide) ?_
  refine j_goto (tgt := 130) C dX7_takes_126 (by decide) ?_
  exact kX7_takes_130 C hR u 1 hm
def mX7_takes_129 (N : Nat) (u : USt) : Option (Int32 × USt) := mX7_takes_130 N u 0
set_option maxRecDepth 100000 in
set_option maxHeartbeats 4000000 in
theorem kX7_takes_129 {l : Launch} {D : va_G} {cI cO cR : ClassId} {q : Nat → Nat} {t0 : Nat} {b : BSt} {G : Gx} {N : Nat} {rr : (Int32 × USt)} (C : jC l rmX7_takes D (tX cI cO cR) G cX7_takes 2 RX7) (hR : jR D (tX cI cO cR) G (0, 0) (some .boolean) (some (.int rr.1)) (wX cI cO cR q t0 rr.2 b))  (u : USt) (hm : mX7_takes_129 N u = some rr) : J l rmX7_takes D G (0, 0) (wX cI cO cR q t0 u b) [] [] 129 := by
  unfold mX7_takes_129 at hm
  refine j_iconst (v := 0) C dX7_takes_129 (by decide) ?_
  exact kX7_takes_130 C hR u 0 hm
def mX7_takes_155 (N : Nat) (u : USt) (x1 : Int32) : Option (Int32 × USt) := bp (mX7_takesDigit N u x1) (fun r1 u2 => gd (r1 = 0 ∨ r1 = 1) (some (r1, u2)))
set_option maxRecDepth 100000 in
set_option maxHeartbeats 4000000 in
theorem kX7_takes_155 {l : Launch} {D : va_G} {cI cO cR : ClassId} {q : Nat → Nat} {t0 : Nat} {b : BSt} {G : Gx} {N : Nat} {rr : (Int32 × USt)} (C : jC l rmX7_takes D (tX cI cO cR) G cX7_takes 2 RX7) (hR : jR D (tX cI cO cR) G (0, 0) (some .boolean) (some (.int rr.1)) (wX cI cO cR q t0 rr.2 b))  (u : USt) (x1 : Int32) (hm : mX7_takes_155 N u x1 = some rr) : J l rmX7_takes D G (0, 0) (wX cI cO cR q t0 u b) [(0, .ref (q 3)), (1, .int x1)] [] 155 := by
  unfold mX7_takes_155 at hm
  refine j_aload_n C dX7_takes_155 rfl 0 rfl ?_
  refine j_iload_n C dX7_takes_156 rfl 1 rfl ?_
  refine j_bindp hm (fun r1 u2 hr1 hm => ?_)
  refine j_callV (cs' := (0, 0)) (As := [.int x1]) (rest := []) C (qX7_takesDigit hr1) w2_62 w2_59 w2_61 w0_4 w1_3 wd_X7_takesDigit ⟨by decide, by decide⟩ 3 rfl rfl rfl (Nat.le_of_ble_eq_true rfl) dX7_takes_157 ⟨by decide, by decide⟩ rfl rfl ?_
  obtain ⟨g, hm⟩ := gd_some hm
  cases hm
  exact j_zret C hR (jz01 g) dX7_takes_160
def mX7_takes_85 (N : Nat) (u : USt) (s0 : Int32) : Option (Int32 × USt) := gd (s0 = 0 ∨ s0 = 1) (some (s0, u))
set_option maxRecDepth 100000 in
set_option maxHeartbeats 4000000 in
theorem kX7_takes_85 {l : Launch} {D : va_G} {cI cO cR : ClassId} {q : Nat → Nat} {t0 : Nat} {b : BSt} {G : Gx} {N : Nat} {rr : (Int32 × USt)} (C : jC l rmX7_takes D (tX cI cO cR) G cX7_takes 2 RX7) (hR : jR D (tX cI cO cR) G (0, 0) (some .boolean) (some (.int rr.1)) (wX cI cO cR q t0 rr.2 b))  (u : USt) (s0 : Int32) (hm : mX7_takes_85 N u s0 = some rr) : J l rmX7_takes D G (0, 0) (wX cI cO cR q t0 u b) [] [.int s0] 85 := by
  unfold mX7_takes_85 at hm
  obtain ⟨g, hm⟩ := gd_some hm
  cases hm
  exact j_zret C hR (jz01 g) dX7_takes_85
def mX7_takes_80 (N : Nat) (u : USt) : Option (Int32 × USt) := mX7_takes_85 N u 1
set_option maxRecDepth 100000 in
set_option maxHeartbeats 4000000 in
theorem kX7_takes_80 {l : Launch} {D : va_G} {cI cO cR : ClassId} {q : Nat → Nat} {t0 : Nat} {b : BSt} {G : Gx} {N : Nat} {rr : (Int32 × USt)} (C : jC l rmX7_takes D (tX cI cO cR) G cX7_takes 2 RX7) (hR : jR D (tX cI cO cR) G (0, 0) (some .boolean) (some (.int rr.1)) (wX cI cO cR q t0 rr.2 b))  (u : USt) (hm : mX7_takes_80 N u = some rr) : J l rmX7_takes D G (0, 0) (wX cI cO cR q t0 u b) [] [] 80 := by
  unfold mX7_takes_80 at hm
  refine j_iconst (v := 1) C dX7_takes_80 (by decide) ?_
  refine j_goto (tgt := 85) C dX7_takes_81 (by decide) ?_
  exact kX7_takes_85 C hR u 1 hm
def mX7_takes (N : Nat) (u : USt) (x1 : Int32) : Option (Int32 × USt) := nm (u.1 1) (fun f1 => if (Int32.toInt f1) < 0 ∨ 10 < (Int32.toInt f1) then (some (0, u)) else if f1 = 0 then (bp (mX7_takesSign N u x1) (fun r2 u3 => if ¬ r2 = 0 then (mX7_takes_80 N u3) else (bp (mX7_takesPivot N u3 x1) (fun r4 u5 => if r4 = 0 then (mX7_takes_85 N u5 0) else (mX7_takes_80 N u5))))) else if f1 = 1 then (bp (mX7_takesPivot N u x1) (fun r6 u7 => gd (r6 = 0 ∨ r6 = 1) (some (r6, u7)))) else if f1 = 2 then (bp (mX7_takesMark N u x1 58) (fun r8 u9 => gd (r8 = 0 ∨ r8 = 1) (some (r8, u9)))) else if f1 = 3 then (bp (mX7_takesEnd N u x1) (fun r10 u11 => if ¬ r10 = 0 then (mX7_takes_125 N u11) else (nm (u11.1 4) (fun f12 => if f12 ≤ 0 then (mX7_takes_129 N u11) else (bp (mX7_takesMark N u11 x1 44) (fun r13 u14 => if r13 = 0 then (mX7_takes_129 N u14) else (mX7_takes_125 N u14))))))) else if f1 = 4 then (mX7_takes_155 N u x1) else if f1 = 5 then (bp (mX7_takesMark N u x1 47) (fun r15 u16 => gd (r15 = 0 ∨ r15 = 1) (some (r15, u16)))) else if f1 = 6 then (mX7_takes_155 N u x1) else if f1 = 7 then (bp (mX7_takesMark N u x1 43) (fun r17 u18 => gd (r17 = 0 ∨ r17 = 1) (some (r17, u18)))) else if f1 = 8 then (mX7_takes_155 N u x1) else if f1 = 9 then (bp (mX7_takesMark N u x1 119) (fun r19 u20 => gd (r19 = 0 ∨ r19 = 1) (some (r19, u20)))) else if f1 = 10 then (mX7_takes_155 N u x1) else none)
set_option maxRecDepth 100000 in
set_option maxHeartbeats 4000000 in
theorem qX7_takes {l : Launch} {D : va_G} {cI cO cR : ClassId} {q : Nat → Nat} {t0 : Nat} {u : USt} {b : BSt} {N : Nat} {x1 : Int32} {rr : (Int32 × USt)} (hm : mX7_takes N u x1 = some rr) : Con l D (tX cI cO cR) yX7_takes (wS yX7_takes cX7_takes 2 (some .boolean)) rmX7_takes [.ref (q 3), .int x1] (wX cI cO cR q t0 u b) (some (.int rr.1)) (wX cI cO cR q t0 rr.2 b) := by
  refine Con.of (by decide +kernel) (Nat.le_of_ble_eq_true rfl) (fun G C hR => ?_)
  unfold mX7_takes at hm
  show J l rmX7_takes D G (0, 0) (wX cI cO cR q t0 u b) [(0, .ref (q 3)), (1, .int x1)] [] 0
  refine j_aload_n C dX7_takes_0 rfl 0 rfl ?_
  refine jX_g3_1_X7 C dX7_takes_1 ?_
  refine j_nmi hm (fun f1 hm => ?_)
  refine j_tswD (tgt := 161) C dX7_takes_4 (by decide) hm (fun hm => ?_) (fun hm => ?_)
  · refine j_iconst (v := 0) C dX7_takes_161 (by decide) ?_
    cases hm
    exact j_zret C hR (by decide) dX7_takes_162
  refine j_tswK (k := 0) (tgt := 64) C dX7_takes_4 (by decide) (by decide) rfl (by decide) hm (fun hm => ?_) (fun hm => ?_)
  · refine j_aload_n C dX7_takes_64 rfl 0 rfl ?_
    refine j_iload_n C dX7_takes_65 rfl 1 rfl ?_
    refine j_bindp hm (fun r2 u3 hr2 hm => ?_)
    refine j_callV (cs' := (0, 0)) (As := [.int x1]) (rest := []) C (qX7_takesSign hr2) w2_43 w2_40 w2_42 w0_0 w1_3 wd_X7_takesSign ⟨by decide, by decide⟩ 3 rfl rfl rfl (Nat.le_of_ble_eq_true rfl) dX7_takes_66 ⟨by decide, by decide⟩ rfl rfl ?_
    refine j_if_neq (tgt := 80) C dX7_takes_69 (by decide) hm (fun hm => ?_) (fun hm => ?_)
    · exact J.sub [] rfl (kX7_takes_80 C hR u3 hm)
    · refine j_aload_n C dX7_takes_72 rfl 0 rfl ?_
      refine j_iload_n C dX7_takes_73 rfl 1 rfl ?_
      refine j_bindp hm (fun r4 u5 hr4 hm => ?_)
      refine j_callV (cs' := (0, 0)) (As := [.int x1]) (rest := []) C (qX7_takesPivot hr4) w2_47 w2_44 w2_46 w0_1 w1_3 wd_X7_takesPivot ⟨by decide, by decide⟩ 3 rfl rfl rfl (Nat.le_of_ble_eq_true rfl) dX7_takes_74 ⟨by decide, by decide⟩ rfl rfl ?_
      refine j_if_eqq (tgt := 84) C dX7_takes_77 (by decide) hm (fun hm => ?_) (fun hm => ?_)
      · refine j_iconst (v := 0) C dX7_takes_84 (by decide) ?_
        exact J.sub [] rfl (kX7_takes_85 C hR u5 0 hm)
      · exact J.sub [] rfl (kX7_takes_80 C hR u5 hm)
  refine j_tswK (k := 1) (tgt := 86) C dX7_takes_4 (by decide) (by decide) rfl (by decide) hm (fun hm => ?_) (fun hm => ?_)
  · refine j_aload_n C dX7_takes_86 rfl 0 rfl ?_
    refine j_iload_n C dX7_takes_87 rfl 1 rfl ?_
    refine j_bindp hm (fun r6 u7 hr6 hm => ?_)
    refine j_callV (cs' := (0, 0)) (As := [.int x1]) (rest := []) C (qX7_takesPivot hr6) w2_47 w2_44 w2_46 w0_1 w1_3 wd_X7_takesPivot ⟨by decide, by decide⟩ 3 rfl rfl rfl (Nat.le_of_ble_eq_true rfl) dX7_takes_88 ⟨by decide, by decide⟩ rfl rfl ?_
    obtain ⟨g, hm⟩ := gd_some hm
    cases hm
    exact j_zret C hR (jz01 g) dX7_takes_91
  refine j_tswK (k := 2) (tgt := 92) C dX7_takes_4 (by decide) (by decide) rfl (by decide) hm (fun hm => ?_) (fun hm => ?_)
  · refine j_aload_n C dX7_takes_92 rfl 0 rfl ?_
    refine j_iload_n C dX7_takes_93 rfl 1 rfl ?_
    refine j_bipush (v := 58) C dX7_takes_94 (by decide) ?_
    refine j_bindp hm (fun r8 u9 hr8 hm => ?_)
    refine j_callV (cs' := (0, 0)) (As := [.int x1, .int 58]) (rest := []) C (qX7_takesMark hr8) w2_54 w2_51 w2_53 w0_2 w1_3 wd_X7_takesMark ⟨by decide, by decide⟩ 3 rfl rfl rfl (Nat.le_of_ble_eq_true rfl) dX7_takes_96 ⟨by decide, by decide⟩ rfl rfl ?_
    obtain ⟨g, hm⟩ := gd_some hm
    cases hm
    exact j_zret C hR (jz01 g) dX7_takes_99
  refine j_tswK (k := 3) (tgt := 100) C dX7_takes_4 (by decide) (by decide) rfl (by decide) hm (fun hm => ?_) (fun hm => ?_)
  · refine j_aload_n C dX7_takes_100 rfl 0 rfl ?_
    refine j_iload_n C dX7_takes_101 rfl 1 rfl ?_
    refine j_bindp hm (fun r10 u11 hr10 hm => ?_)
    refine j_callV (cs' := (0, 0)) (As := [.int x1]) (rest := []) C (qX7_takesEnd hr10) w2_58 w2_55 w2_57 w0_3 w1_3 wd_X7_takesEnd ⟨by decide, by decide⟩ 3 rfl rfl rfl (Nat.le_of_ble_eq_true rfl) dX7_takes_102 ⟨by decide, by decide⟩ rfl rfl ?_
    refine j_if_neq (tgt := 125) C dX7_takes_105 (by decide) hm (fun hm => ?_) (fun hm => ?_)
    · exact J.sub [] rfl (kX7_takes_125 C hR u11 hm)
    · refine j_aload_n C dX7_takes_108 rfl 0 rfl ?_
      refine jX_g3_4_X7 C dX7_takes_109 ?_
      refine j_nmi hm (fun f12 hm => ?_)
      refine j_if_leq (tgt := 129) C dX7_takes_112 (by decide) hm (fun hm => ?_) (fun hm => ?_)
      · exact J.sub [] rfl (kX7_takes_129 C hR u11 hm)
      · refine j_aload_n C dX7_takes_115 rfl 0 rfl ?_
        refine j_iload_n C dX7_takes_116 rfl 1 rfl ?_
        refine j_bipush (v := 44) C dX7_takes_117 (by decide) ?_
        refine j_bindp hm (fun r13 u14 hr13 hm => ?_)
        refine j_callV (cs' := (0, 0)) (As := [.int x1, .int 44]) (rest := []) C (qX7_takesMark hr13) w2_54 w2_51 w2_53 w0_2 w1_3 wd_X7_takesMark ⟨by decide, by decide⟩ 3 rfl rfl rfl (Nat.le_of_ble_eq_true rfl) dX7_takes_119 ⟨by decide, by decide⟩ rfl rfl ?_
        refine j_if_eqq (tgt := 129) C dX7_takes_122 (by decide) hm (fun hm => ?_) (fun hm => ?_)
        · exact J.sub [] rfl (kX7_takes_129 C hR u14 hm)
        · exact J.sub [] rfl (kX7_takes_125 C hR u14 hm)
  refine j_tswK (k := 4) (tgt := 155) C dX7_takes_4 (by decide) (by decide) rfl (by decide) hm (fun hm => ?_) (fun hm => ?_)
  · exact kX7_takes_155 C hR u x1 hm
  refine j_tswK (k := 5) (tgt := 131) C dX7_takes_4 (by decide) (by decide) rfl (by decide) hm (fun hm => ?_) (fun hm => ?_)
  · refine j_aload_n C dX7_takes_131 rfl 0 rfl ?_
    refine j_iload_n C dX7_takes_132 rfl 1 rfl ?_
    refine j_bipush (v := 47) C dX7_takes_133 (by decide) ?_
    refine j_bindp hm (fun r15 u16 hr15 hm => ?_)
    refine j_callV (cs' := (0, 0)) (As := [.int x1, .int 47]) (rest := []) C (qX7_takesMark hr15) w2_54 w2_51 w2_53 w0_2 w1_3 wd_X7_takesMark ⟨by decide, by decide⟩ 3 rfl rfl rfl (Nat.le_of_ble_eq_true rfl) dX7_takes_135 ⟨by decide, by decide⟩ rfl rfl ?_
    obtain ⟨g, hm⟩ := gd_some hm
    cases hm
    exact j_zret C hR (jz01 g) dX7_takes_138
  refine j_tswK (k := 6) (tgt := 155) C dX7_takes_4 (by decide) (by decide) rfl (by decide) hm (fun hm => ?_) (fun hm => ?_)
  · exact kX7_takes_155 C hR u x1 hm
  refine j_tswK (k := 7) (tgt := 139) C dX7_takes_4 (by decide) (by decide) rfl (by decide) hm (fun hm => ?_) (fun hm => ?_)
  · refine j_aload_n C dX7_takes_139 rfl 0 rfl ?_
    refine j_iload_n C dX7_takes_140 rfl 1 rfl ?_
    refine j_bipush (v := 43) C dX7_takes_141 (by decide) ?_
    refine j_bindp hm (fun r17 u18 hr17 hm => ?_)
    refine j_callV (cs' := (0, 0)) (As := [.int x1, .int 43]) (rest := []) C (qX7_takesMark hr17) w2_54 w2_51 w2_53 w0_2 w1_3 wd_X7_takesMark ⟨by decide, by decide⟩ 3 rfl rfl rfl (Nat.le_of_ble_eq_true rfl) dX7_takes_143 ⟨by decide, by decide⟩ rfl rfl ?_
    obtain ⟨g, hm⟩ := gd_some hm
    cases hm
    exact j_zret C hR (jz01 g) dX7_takes_146
  refine j_tswK (k := 8) (tgt := 155) C dX7_takes_4 (by decide) (by decide) rfl (by decide) hm (fun hm => ?_) (fun hm => ?_)
  · exact kX7_takes_155 C hR u x1 hm
  refine j_tswK (k := 9) (tgt := 147) C dX7_takes_4 (by decide) (by decide) rfl (by decide) hm (fun hm => ?_) (fun hm => ?_)
  · refine j_aload_n C dX7_takes_147 rfl 0 rfl ?_
    refine j_iload_n C dX7_takes_148 rfl 1 rfl ?_
    refine j_bipush (v := 119) C dX7_takes_149 (by decide) ?_
    refine j_bindp hm (fun r19 u20 hr19 hm => ?_)
    refine j_callV (cs' := (0, 0)) (As := [.int x1, .int 119]) (rest := []) C (qX7_takesMark hr19) w2_54 w2_51 w2_53 w0_2 w1_3 wd_X7_takesMark ⟨by decide, by decide⟩ 3 rfl rfl rfl (Nat.le_of_ble_eq_true rfl) dX7_takes_151 ⟨by decide, by decide⟩ rfl rfl ?_
    obtain ⟨g, hm⟩ := gd_some hm
    cases hm
    exact j_zret C hR (jz01 g) dX7_takes_154
  refine j_tswK (k := 10) (tgt := 155) C dX7_takes_4 (by decide) (by decide) rfl (by decide) hm (fun hm => ?_) (fun hm => ?_)
  · exact kX7_takes_155 C hR u x1 hm
  cases hm
def rmX6_readBy : Room := { frames := 3, cells := 0, slots := 0, locals := 64 }
theorem wd_X6_readBy : yX6_readBy.cls ≠ "java/lang/invoke/MethodHandle" ∧ yX6_readBy.cls ≠ "java/lang/invoke/VarHandle" ∧ (parseMethodDescriptor yX6_readBy.desc).map (fun d => d.parameters.length) = some 1 := by decide +kernel
def mX6_readBy_6 (N : Nat) (k6 : USt → Int32 → Option (Int32 × USt)) (u : USt) (x2 : Int32) : Option (Int32 × USt) := nm (u.1 0) (fun f1 => if f1 ≤ x2 then (nm (u.1 0) (fun f2 => some (f2, u))) else (rdX u 2 x2 (fun ra3 => bp (mX7_takes N u ra3) (fun r4 u5 => if ¬ r4 = 0 then (k6 u5 (x2 + 1)) else (some (x2, u5))))))
set_option maxRecDepth 100000 in
set_option maxHeartbeats 4000000 in
theorem kX6_readBy_6 {l : Launch} {D : va_G} {cI cO cR : ClassId} {q : Nat → Nat} {t0 : Nat} {b : BSt} {G : Gx} {N : Nat} {rr : (Int32 × USt)} (C : jC l rmX6_readBy D (tX cI cO cR) G cX6_readBy 3 RX6) (hR : jR D (tX cI cO cR) G (0, 0) (some .int) (some (.int rr.1)) (wX cI cO cR q t0 rr.2 b)) (k6 : USt → Int32 → Option (Int32 × USt)) (K6 : ∀ (u : USt) (x2 : Int32), k6 u x2 = some rr → J l rmX6_readBy D G (0, 0) (wX cI cO cR q t0 u b) [(0, .ref (q 1)), (1, .ref (q 3)), (2, .int x2)] [] 6) (u : USt) (x2 : Int32) (hm : mX6_readBy_6 N k6 u x2 = some rr) : J l rmX6_readBy D G (0, 0) (wX cI cO cR q t0 u b) [(0, .ref (q 1)), (1, .ref (q 3)), (2, .int x2)] [] 6 := by
  unfold mX6_readBy_6 at hm
  refine j_iload_n C dX6_readBy_6 rfl 2 rfl ?_
  refine j_aload_n C dX6_readBy_7 rfl 0 rfl ?_
  refine jX_g1_1_X6 C dX6_readBy_8 ?_
  refine j_nmi hm (fun f1 hm => ?_)
  refine j_icmp_geq (tgt := 35) C dX6_readBy_11 (by decide) hm (fun hm => ?_) (fun hm => ?_)
  · refine j_aload_n C dX6_readBy_35 rfl 0 rfl ?_
    refine jX_g1_1_X6 C dX6_readBy_36 ?_
    refine j_nmi hm (fun f2 hm => ?_)
    cases hm
    exact j_iret C hR dX6_readBy_39
  · refine j_aload_n C dX6_readBy_14 rfl 1 rfl ?_
    refine j_aload_n C dX6_readBy_15 rfl 0 rfl ?_
    refine jX_g1_0_X6 C dX6_readBy_16 ?_
    refine j_iload_n C dX6_readBy_19 rfl 2 rfl ?_
    refine jX_L C dX6_readBy_20 hm (fun ra3 hm => ?_)
    refine j_bindp hm (fun r4 u5 hr4 hm => ?_)
    refine j_callV (cs' := (0, 0)) (As := [.int ra3]) (rest := []) C (qX7_takes hr4) w2_39 w2_36 w2_37 w2_38 w1_3 wd_X7_takes ⟨by decide, by decide⟩ 3 rfl rfl rfl (Nat.le_of_ble_eq_true rfl) dX6_readBy_21 ⟨by decide, by decide⟩ rfl rfl ?_
    refine j_if_neq (tgt := 29) C dX6_readBy_24 (by decide) hm (fun hm => ?_) (fun hm => ?_)
    · refine j_iinc (v := (x2 + 1)) C dX6_readBy_29 2 rfl rfl (by decide) rfl ?_
      refine j_goto (tgt := 6) C dX6_readBy_32 (by decide) ?_
      exact J.sub [1, 2, 0] rfl (K6 u5 (x2 + 1) hm)
    · refine j_iload_n C dX6_readBy_27 rfl 2 rfl ?_
      cases hm
      exact j_iret C hR dX6_readBy_28
def mX6_readBy_h6 (N : Nat) : Nat → USt → Int32 → Option (Int32 × USt)
  | 0, _, _ => none
  | n + 1, u, x2 => mX6_readBy_6 N (mX6_readBy_h6 N n) u x2
theorem kX6_readBy_h6 {l : Launch} {D : va_G} {cI cO cR : ClassId} {q : Nat → Nat} {t0 : Nat} {b : BSt} {G : Gx} {N : Nat} {rr : (Int32 × USt)} (C : jC l rmX6_readBy D (tX cI cO cR) G cX6_readBy 3 RX6) (hR : jR D (tX cI cO cR) G (0, 0) (some .int) (some (.int rr.1)) (wX cI cO cR q t0 rr.2 b))  : ∀ (n : Nat) (u : USt) (x2 : Int32), mX6_readBy_h6 N n u x2 = some rr → J l rmX6_readBy D G (0, 0) (wX cI cO cR q t0 u b) [(0, .ref (q 1)), (1, .ref (q 3)), (2, .int x2)] [] 6 := by
  intro n
  induction n with
  | zero =>
    intro u x2 hm
    have hm : (none : Option (Int32 × USt)) = some rr := hm
    cases hm
  | succ n ih =>
    intro u x2 hm
    exact kX6_readBy_6 C hR _ ih u x2 hm
def mX6_readBy (N : Nat) (u : USt) : Option (Int32 × USt) := (mX7_begin N u).bind (fun u2 => mX6_readBy_h6 N N u2 0)
set_option maxRecDepth 100000 in
set_option maxHeartbeats 4000000 in
theorem qX6_readBy {l : Launch} {D : va_G} {cI cO cR : ClassId} {q : Nat → Nat} {t0 : Nat} {u : USt} {b : BSt} {N : Nat}  {rr : (Int32 × USt)} (hm : mX6_readBy N u = some rr) : Con l D (tX cI cO cR) yX6_readBy (wS yX6_readBy cX6_readBy 3 (some .int)) rmX6_readBy [.ref (q 1), .ref (q 3)] (wX cI cO cR q t0 u b) (some (.int rr.1)) (wX cI cO cR q t0 rr.2 b) := by
  refine Con.of (by decide +kernel) (Nat.le_of_ble_eq_true rfl) (fun G C hR => ?_)
  unfold mX6_readBy at hm
  show J l rmX6_readBy D G (0, 0) (wX cI cO cR q t0 u b) [(0, .ref (q 1)), (1, .ref (q 3))] [] 0
  refine j_aload_n C dX6_readBy_0 rfl 1 rfl ?_
  refine j_bind hm (fun u2 hr1 hm => ?_)
  refine j_callV (cs' := (0, 0)) (As := []) (rest := []) C (qX7_begin hr1) w2_35 w2_32 w2_33 w2_34 w1_3 wd_X7_begin ⟨by decide, by decide⟩ 3 rfl rfl rfl (Nat.le_of_ble_eq_true rfl) dX6_readBy_1 ⟨by decide, by decide⟩ rfl rfl ?_
  refine j_iconst (v := 0) C dX6_readBy_4 (by decide) ?_
  refine j_istore_n C dX6_readBy_5 rfl (by decide) rfl ?_
  exact J.sub [1, 2, 0] rfl (kX6_readBy_h6 C hR N u2 0 hm)
def rmX7_isWhole : Room := { frames := 0, cells := 0, slots := 0, locals := 0 }
theorem wd_X7_isWhole : yX7_isWhole.cls ≠ "java/lang/invoke/MethodHandle" ∧ yX7_isWhole.cls ≠ "java/lang/invoke/VarHandle" ∧ (parseMethodDescriptor yX7_isWhole.desc).map (fun d => d.parameters.length) = some 0 := by decide +kernel
def mX7_isWhole_23 (N : Nat) (u : USt) (s0 : Int32) : Option Int32 := gd (s0 = 0 ∨ s0 = 1) (some s0)
set_option maxRecDepth 100000 in
set_option maxHeartbeats 4000000 in
theorem kX7_isWhole_23 {l : Launch} {D : va_G} {cI cO cR : ClassId} {q : Nat → Nat} {t0 : Nat} {u : USt} {b : BSt} {G : Gx} {N : Nat} {rr : Int32} (C : jC l rmX7_isWhole D (tX cI cO cR) G cX7_isWhole 1 RX7) (hR : jR D (tX cI cO cR) G (0, 0) (some .boolean) (some (.int rr)) (wX cI cO cR q t0 u b))  (s0 : Int32) (hm : mX7_isWhole_23 N u s0 = some rr) : J l rmX7_isWhole D G (0, 0) (wX cI cO cR q t0 u b) [] [.int s0] 23 := by
  unfold mX7_isWhole_23 at hm
  obtain ⟨g, hm⟩ := gd_some hm
  cases hm
  exact j_zret C hR (jz01 g) dX7_isWhole_23
def mX7_isWhole_18 (N : Nat) (u : USt) : Option Int32 := mX7_isWhole_23 N u 1
set_option maxRecDepth 100000 in
set_option maxHeartbeats 4000000 in
theorem kX7_isWhole_18 {l : Launch} {D : va_G} {cI cO cR : ClassId} {q : Nat → Nat} {t0 : Nat} {u : USt} {b : BSt} {G : Gx} {N : Nat} {rr : Int32} (C : jC l rmX7_isWhole D (tX cI cO cR) G cX7_isWhole 1 RX7) (hR : jR D (tX cI cO cR) G (0, 0) (some .boolean) (some (.int rr)) (wX cI cO cR q t0 u b))   (hm : mX7_isWhole_18 N u = some rr) : J l rmX7_isWhole D G (0, 0) (wX cI cO cR q t0 u b) [] [] 18 := by
  unfold mX7_isWhole_18 at hm
  refine j_iconst (v := 1) C dX7_isWhole_18 (by decide) ?_
  refine j_goto (tgt := 23) C dX7_isWhole_19 (by decide) ?_
  exact kX7_isWhole_23 C hR 1 hm
def mX7_isWhole (N : Nat) (u : USt) : Option Int32 := if (u.1 1) = 9 then (mX7_isWhole_18 N u) else (if ¬ (u.1 1) = 11 then (mX7_isWhole_23 N u 0) else (mX7_isWhole_18 N u))
set_option maxRecDepth 100000 in
set_option maxHeartbeats 4000000 in
theorem qX7_isWhole {l : Launch} {D : va_G} {cI cO cR : ClassId} {q : Nat → Nat} {t0 : Nat} {u : USt} {b : BSt} {N : Nat}  {rr : Int32} (hm : mX7_isWhole N u = some rr) : Con l D (tX cI cO cR) yX7_isWhole (wS yX7_isWhole cX7_isWhole 1 (some .boolean)) rmX7_isWhole [.ref (q 3)] (wX cI cO cR q t0 u b) (some (.int rr)) (wX cI cO cR q t0 u b) := by
  refine Con.of (by decide +kernel) (Nat.le_of_ble_eq_true rfl) (fun G C hR => ?_)
  unfold mX7_isWhole at hm
  show J l rmX7_isWhole D G (0, 0) (wX cI cO cR q t0 u b) [(0, .ref (q 3))] [] 0
  refine j_aload_n C dX7_isWhole_0 rfl 0 rfl ?_
  refine jX_g3_1_X7 C dX7_isWhole_1 ?_
  refine j_bipush (v := 9) C dX7_isWhole_4 (by decide) ?_
  refine j_icmp_eqq (tgt := 18) C dX7_isWhole_6 (by decide) hm (fun hm => ?_) (fun hm => ?_)
  · exact J.sub [] rfl (kX7_isWhole_18 C hR hm)
  · refine j_aload_n C dX7_isWhole_9 rfl 0 rfl ?_
    refine jX_g3_1_X7 C dX7_isWhole_10 ?_
    refine j_bipush (v := 11) C dX7_isWhole_13 (by decide) ?_
    refine j_icmp_neq (tgt := 22) C dX7_isWhole_15 (by decide) hm (fun hm => ?_) (fun hm => ?_)
    · refine j_iconst (v := 0) C dX7_isWhole_22 (by decide) ?_
      exact J.sub [] rfl (kX7_isWhole_23 C hR 0 hm)
    · exact J.sub [] rfl (kX7_isWhole_18 C hR hm)
def rmX8_kind : Room := { frames := 0, cells := 0, slots := 0, locals := 0 }
theorem wd_X8_kind : yX8_kind.cls ≠ "java/lang/invoke/MethodHandle" ∧ yX8_kind.cls ≠ "java/lang/invoke/VarHandle" ∧ (parseMethodDescriptor yX8_kind.desc).map (fun d => d.parameters.length) = some 0 := by decide +kernel
def mX8_kind (N : Nat) (b : BSt) (a0 : Nat) : Option Int32 := some 2
set_option maxRecDepth 100000 in
set_option maxHeartbeats 4000000 in
theorem qX8_kind {l : Launch} {D : va_G} {cI cO cR : ClassId} {q : Nat → Nat} {t0 : Nat} {u : USt} {b : BSt} {N : Nat} {a0 : Nat} {rr : Int32} (hm : mX8_kind N b a0 = some rr) : Con l D (tX cI cO cR) yX8_kind (wS yX8_kind cX8_kind 1 (some .int)) rmX8_kind [.ref (bA b a0)] (wX cI cO cR q t0 u b) (some (.int rr)) (wX cI cO cR q t0 u b) := by
  refine Con.of (by decide +kernel) (Nat.le_of_ble_eq_true rfl) (fun G C hR => ?_)
  unfold mX8_kind at hm
  show J l rmX8_kind D G (0, 0) (wX cI cO cR q t0 u b) [(0, .ref (bA b a0))] [] 0
  refine j_iconst (v := 2) C dX8_kind_0 (by decide) ?_
  cases hm
  exact j_iret C hR dX8_kind_1
def rmX9_open : Room := { frames := 1, cells := 0, slots := 0, locals := 21 }
theorem wd_X9_open : yX9_open.cls ≠ "java/lang/invoke/MethodHandle" ∧ yX9_open.cls ≠ "java/lang/invoke/VarHandle" ∧ (parseMethodDescriptor yX9_open.desc).map (fun d => d.parameters.length) = some 4 := by decide +kernel
def mX9_open (N : Nat) (u : USt) (x1 : Int32) (x2 : Int32) (x3 : Int32) (x4 : Int32) : Option USt := nm (siX u 15 x1) (fun u1 => (mJ9_min_7cf53 N x2 999).bind (fun r2 => (mJ9_max_7cf53 N 0 r2).bind (fun r3 => nm (siX u1 16 r3) (fun u4 => (mJ9_max_7cf53 N 1 x3).bind (fun r5 => nm (siX u4 17 r5) (fun u6 => (mJ9_min_7cf53 N x4 10).bind (fun r7 => (mJ9_max_7cf53 N 0 r7).bind (fun r8 => nm (siX u6 18 r8) (fun u9 => some u9)))))))))
set_option maxRecDepth 100000 in
set_option maxHeartbeats 4000000 in
theorem qX9_open {l : Launch} {D : va_G} {cI cO cR : ClassId} {q : Nat → Nat} {t0 : Nat} {u : USt} {b : BSt} {N : Nat} {x1 : Int32} {x2 : Int32} {x3 : Int32} {x4 : Int32} {rr : USt} (hm : mX9_open N u x1 x2 x3 x4 = some rr) : Con l D (tX cI cO cR) yX9_open (wS yX9_open cX9_open 5 none) rmX9_open [.ref (q 12), .int x1, .int x2, .int x3, .int x4] (wX cI cO cR q t0 u b) none (wX cI cO cR q t0 rr b) := by
  refine Con.of (by decide +kernel) (Nat.le_of_ble_eq_true rfl) (fun G C hR => ?_)
  unfold mX9_open at hm
  show J l rmX9_open D G (0, 0) (wX cI cO cR q t0 u b) [(0, .ref (q 12)), (1, .int x1), (2, .int x2), (3, .int x3), (4, .int x4)] [] 0
  refine j_aload_n C dX9_open_0 rfl 0 rfl ?_
  refine j_iload_n C dX9_open_1 rfl 1 rfl ?_
  refine jX_p12_5_X9 C dX9_open_2 ?_
  refine j_nmu hm (w := fun u => wX cI cO cR q t0 u b) (fun u1 hm => ?_)
  refine j_aload_n C dX9_open_5 rfl 0 rfl ?_
  refine j_iconst (v := 0) C dX9_open_6 (by decide) ?_
  refine j_iload_n C dX9_open_7 rfl 2 rfl ?_
  refine j_sipush (v := 999) C dX9_open_8 (by decide) ?_
  refine j_bind hm (fun r2 hr2 hm => ?_)
  refine j_callS (cs' := (0, 0)) (As := [.int x2, .int 999]) (rest := [.int 0, .ref (q 12)]) C (qJ9_min_7cf53 hr2) w2_103 w3_159 w2_102 w1_14 wd_J9_min_7cf53 ⟨by decide, by decide⟩ rfl (Nat.le_of_ble_eq_true rfl) dX9_open_11 ⟨by decide, by decide⟩ rfl rfl ?_
  refine j_bind hm (fun r3 hr3 hm => ?_)
  refine j_callS (cs' := (0, 0)) (As := [.int 0, .int r2]) (rest := [.ref (q 12)]) C (qJ9_max_7cf53 hr3) w2_90 w3_160 w2_89 w1_14 wd_J9_max_7cf53 ⟨by decide, by decide⟩ rfl (Nat.le_of_ble_eq_true rfl) dX9_open_14 ⟨by decide, by decide⟩ rfl rfl ?_
  refine jX_p12_6_X9 C dX9_open_17 ?_
  refine j_nmu hm (w := fun u => wX cI cO cR q t0 u b) (fun u4 hm => ?_)
  refine j_aload_n C dX9_open_20 rfl 0 rfl ?_
  refine j_iconst (v := 1) C dX9_open_21 (by decide) ?_
  refine j_iload_n C dX9_open_22 rfl 3 rfl ?_
  refine j_bind hm (fun r5 hr5 hm => ?_)
  refine j_callS (cs' := (0, 0)) (As := [.int 1, .int x3]) (rest := [.ref (q 12)]) C (qJ9_max_7cf53 hr5) w2_90 w3_160 w2_89 w1_14 wd_J9_max_7cf53 ⟨by decide, by decide⟩ rfl (Nat.le_of_ble_eq_true rfl) dX9_open_23 ⟨by decide, by decide⟩ rfl rfl ?_
  refine jX_p12_7_X9 C dX9_open_26 ?_
  refine j_nmu hm (w := fun u => wX cI cO cR q t0 u b) (fun u6 hm => ?_)
  refine j_aload_n C dX9_open_29 rfl 0 rfl ?_
  refine j_iconst (v := 0) C dX9_open_30 (by decide) ?_
  refine j_iload C dX9_open_31 4 rfl ?_
  refine j_bipush (v := 10) C dX9_open_33 (by decide) ?_
  refine j_bind hm (fun r7 hr7 hm => ?_)
  refine j_callS (cs' := (0, 0)) (As := [.int x4, .int 10]) (rest := [.int 0, .ref (q 12)]) C (qJ9_min_7cf53 hr7) w2_103 w3_159 w2_102 w1_14 wd_J9_min_7cf53 ⟨by decide, by decide⟩ rfl (Nat.le_of_ble_eq_true rfl) dX9_open_35 ⟨by decide, by decide⟩ rfl rfl ?_
  refine j_bind hm (fun r8 hr8 hm => ?_)
  refine j_callS (cs' := (0, 0)) (As := [.int 0, .int r7]) (rest := [.ref (q 12)]) C (qJ9_max_7cf53 hr8) w2_90 w3_160 w2_89 w1_14 wd_J9_max_7cf53 ⟨by decide, by decide⟩ rfl (Nat.le_of_ble_eq_true rfl) dX9_open_38 ⟨by decide, by decide⟩ rfl rfl ?_
  refine jX_p12_8_X9 C dX9_open_41 ?_
  refine j_nmu hm (w := fun u => wX cI cO cR q t0 u b) (fun u9 hm => ?_)
  cases hm
  exact j_vret C hR dX9_open_44
theorem jX_v_X9_51 {l : Launch} {R : Room} {D : va_G} {cI cO cR : ClassId} {q : Nat → Nat} {t0 : Nat} {u : USt} {b : BSt} {G : Gx} {cc : ByteArray} {nL : Nat} {lv : List (Nat × Value)} {pc : Nat} {N k : Nat} {z0 r : Int32} {rest : List Value} (C : jC l R D (tX cI cO cR) G cc nL RX9) (hv : vX0_roundMinutes N b k z0 = some r) (hR : 2 + 1 ≤ R.frames ∧ 8 + (2 + 11) + 40 ≤ R.locals) (hrest : (rest.map fun v => v.category).sum ≤ 8) (d : decode cc pc = .ok (.invokevirtual 51, 3)) (hz : R.cells = 0 ∧ R.slots = 0) (kk : J l R D G (0, 0) (wX cI cO cR q t0 u b) lv (.int r :: rest) (pc + 3)) : J l R D G (0, 0) (wX cI cO cR q t0 u b) lv (.int z0 :: .ref (bA b k) :: rest) pc := by
  unfold vX0_roundMinutes at hv
  obtain ⟨x, rfl, hk, hc, hv⟩ := bwt_some hv
  have he := (wX_b (cI := cI) (cO := cO) (cR := cR) (q := q) (t0 := t0) (u := u) hk).1
  rcases okc_or hc with e | e | e | e
  · refine j_callU (cs' := (0, 0)) (As := [.int z0]) (rest := rest) C (qX0_roundMinutes (ip e hv)) w3_51 w3_51 w3_165 w3_45 w3_43 w3_44 w3_43 w1_12 wd_X0_roundMinutes ⟨Nat.le_trans (by decide) hR.1, Nat.le_trans (by decide) hR.2⟩ (45 + 2 * k) (bCell_at he e) rfl rfl hrest d ⟨by rw [hz.1]; decide, by rw [hz.2]; decide⟩ rfl rfl kk
  · refine j_callU (cs' := (0, 0)) (As := [.int z0]) (rest := rest) C (qX2_roundMinutes (ip e (im (by rw [e]; decide) hv))) w3_48 w3_51 w3_165 w3_45 w3_43 w3_46 w3_47 w1_18 wd_X0_roundMinutes ⟨Nat.le_trans (by decide) hR.1, Nat.le_trans (by decide) hR.2⟩ (45 + 2 * k) (bCell_at he e) rfl rfl hrest d ⟨by rw [hz.1]; decide, by rw [hz.2]; decide⟩ rfl rfl kk
  · refine j_callU (cs' := (0, 0)) (As := [.int z0]) (rest := rest) C (qX0_roundMinutes (ip e (im (by rw [e]; decide) (im (by rw [e]; decide) hv)))) w3_51 w3_51 w3_165 w3_45 w3_43 w3_49 w3_43 w1_12 wd_X0_roundMinutes ⟨Nat.le_trans (by decide) hR.1, Nat.le_trans (by decide) hR.2⟩ (45 + 2 * k) (bCell_at he e) rfl rfl hrest d ⟨by rw [hz.1]; decide, by rw [hz.2]; decide⟩ rfl rfl kk
  · refine j_callU (cs' := (0, 0)) (As := [.int z0]) (rest := rest) C (qX0_roundMinutes (ip e (im (by rw [e]; decide) (im (by rw [e]; decide) (im (by rw [e]; decide) hv))))) w3_51 w3_51 w3_165 w3_45 w3_43 w3_50 w3_43 w1_12 wd_X0_roundMinutes ⟨Nat.le_trans (by decide) hR.1, Nat.le_trans (by decide) hR.2⟩ (45 + 2 * k) (bCell_at he e) rfl rfl hrest d ⟨by rw [hz.1]; decide, by rw [hz.2]; decide⟩ rfl rfl kk
def vX0_standsStill (N : Nat) (b : BSt) (k : Nat) (z0 : Int32) (z1 : Int32) : Option Int32 := bwt b k (fun v => if v.2.2.1 = 1 then mX0_standsStill N b k z0 z1 else (if v.2.2.1 = 3 then mX2_standsStill N b k z0 z1 else (if v.2.2.1 = 4 then mX0_standsStill N b k z0 z1 else (if v.2.2.1 = 9 then mX0_standsStill N b k z0 z1 else (none)))))
theorem jX_v_X9_57 {l : Launch} {R : Room} {D : va_G} {cI cO cR : ClassId} {q : Nat → Nat} {t0 : Nat} {u : USt} {b : BSt} {G : Gx} {cc : ByteArray} {nL : Nat} {lv : List (Nat × Value)} {pc : Nat} {N k : Nat} {z0 z1 r : Int32} {rest : List Value} (C : jC l R D (tX cI cO cR) G cc nL RX9) (hv : vX0_standsStill N b k z0 z1 = some r) (hR : 1 + 1 ≤ R.frames ∧ 8 + (4 + 11) + 21 ≤ R.locals) (hrest : (rest.map fun v => v.category).sum ≤ 8) (d : decode cc pc = .ok (.invokevirtual 57, 3)) (hz : R.cells = 0 ∧ R.slots = 0) (kk : J l R D G (0, 0) (wX cI cO cR q t0 u b) lv (.int r :: rest) (pc + 3)) : J l R D G (0, 0) (wX cI cO cR q t0 u b) lv (.int z1 :: .int z0 :: .ref (bA b k) :: rest) pc := by
  unfold vX0_standsStill at hv
  obtain ⟨x, rfl, hk, hc, hv⟩ := bwt_some hv
  have he := (wX_b (cI := cI) (cO := cO) (cR := cR) (q := q) (t0 := t0) (u := u) hk).1
  rcases okc_or hc with e | e | e | e
  · refine j_callU (cs' := (0, 0)) (As := [.int z0, .int z1]) (rest := rest) C (qX0_standsStill (ip e hv)) w3_139 w3_139 w3_166 w3_133 w3_131 w3_132 w3_131 w1_12 wd_X0_standsStill ⟨Nat.le_trans (by decide) hR.1, Nat.le_trans (by decide) hR.2⟩ (45 + 2 * k) (bCell_at he e) rfl rfl hrest d ⟨by rw [hz.1]; decide, by rw [hz.2]; decide⟩ rfl rfl kk
  · refine j_callU (cs' := (0, 0)) (As := [.int z0, .int z1]) (rest := rest) C (qX2_standsStill (ip e (im (by rw [e]; decide) hv))) w3_136 w3_139 w3_166 w3_133 w3_131 w3_134 w3_135 w1_18 wd_X0_standsStill ⟨Nat.le_trans (by decide) hR.1, Nat.le_trans (by decide) hR.2⟩ (45 + 2 * k) (bCell_at he e) rfl rfl hrest d ⟨by rw [hz.1]; decide, by rw [hz.2]; decide⟩ rfl rfl kk
  · refine j_callU (cs' := (0, 0)) (As := [.int z0, .int z1]) (rest := rest) C (qX0_standsStill (ip e (im (by rw [e]; decide) (im (by rw [e]; decide) hv)))) w3_139 w3_139 w3_166 w3_133 w3_131 w3_137 w3_131 w1_12 wd_X0_standsStill ⟨Nat.le_trans (by decide) hR.1, Nat.le_trans (by decide) hR.2⟩ (45 + 2 * k) (bCell_at he e) rfl rfl hrest d ⟨by rw [hz.1]; decide, by rw [hz.2]; decide⟩ rfl rfl kk
  · refine j_callU (cs' := (0, 0)) (As := [.int z0, .int z1]) (rest := rest) C (qX0_standsStill (ip e (im (by rw [e]; decide) (im (by rw [e]; decide) (im (by rw [e]; decide) hv))))) w3_139 w3_139 w3_166 w3_133 w3_131 w3_138 w3_131 w1_12 wd_X0_standsStill ⟨Nat.le_trans (by decide) hR.1, Nat.le_trans (by decide) hR.2⟩ (45 + 2 * k) (bCell_at he e) rfl rfl hrest d ⟨by rw [hz.1]; decide, by rw [hz.2]; decide⟩ rfl rfl kk
def vX0_endAt (N : Nat) (b : BSt) (k : Nat) (z0 : Int32) (z1 : Int32) : Option Int32 := bwt b k (fun v => if v.2.2.1 = 1 then mX0_endAt N b k z0 z1 else (if v.2.2.1 = 3 then mX2_endAt N b k z0 z1 else (if v.2.2.1 = 4 then mX0_endAt N b k z0 z1 else (if v.2.2.1 = 9 then mX0_endAt N b k z0 z1 else (none)))))
theorem jX_v_X9_61 {l : Launch} {R : Room} {D : va_G} {cI cO cR : ClassId} {q : Nat → Nat} {t0 : Nat} {u : USt} {b : BSt} {G : Gx} {cc : ByteArray} {nL : Nat} {lv : List (Nat × Value)} {pc : Nat} {N k : Nat} {z0 z1 r : Int32} {rest : List Value} (C : jC l R D (tX cI cO cR) G cc nL RX9) (hv : vX0_endAt N b k z0 z1 = some r) (hR : 3 + 1 ≤ R.frames ∧ 8 + (6 + 11) + 61 ≤ R.locals) (hrest : (rest.map fun v => v.category).sum ≤ 8) (d : decode cc pc = .ok (.invokevirtual 61, 3)) (hz : R.cells = 0 ∧ R.slots = 0) (kk : J l R D G (0, 0) (wX cI cO cR q t0 u b) lv (.int r :: rest) (pc + 3)) : J l R D G (0, 0) (wX cI cO cR q t0 u b) lv (.int z1 :: .int z0 :: .ref (bA b k) :: rest) pc := by
  unfold vX0_endAt at hv
  obtain ⟨x, rfl, hk, hc, hv⟩ := bwt_some hv
  have he := (wX_b (cI := cI) (cO := cO) (cR := cR) (q := q) (t0 := t0) (u := u) hk).1
  rcases okc_or hc with e | e | e | e
  · refine j_callU (cs' := (0, 0)) (As := [.int z0, .int z1]) (rest := rest) C (qX0_endAt (ip e hv)) w3_109 w3_109 w3_167 w3_99 w3_97 w3_98 w3_97 w1_12 wd_X0_endAt ⟨Nat.le_trans (by decide) hR.1, Nat.le_trans (by decide) hR.2⟩ (45 + 2 * k) (bCell_at he e) rfl rfl hrest d ⟨by rw [hz.1]; decide, by rw [hz.2]; decide⟩ rfl rfl kk
  · refine j_callU (cs' := (0, 0)) (As := [.int z0, .int z1]) (rest := rest) C (qX2_endAt (ip e (im (by rw [e]; decide) hv))) w3_102 w3_109 w3_167 w3_99 w3_97 w3_100 w3_101 w1_18 wd_X0_endAt ⟨Nat.le_trans (by decide) hR.1, Nat.le_trans (by decide) hR.2⟩ (45 + 2 * k) (bCell_at he e) rfl rfl hrest d ⟨by rw [hz.1]; decide, by rw [hz.2]; decide⟩ rfl rfl kk
  · refine j_callU (cs' := (0, 0)) (As := [.int z0, .int z1]) (rest := rest) C (qX0_endAt (ip e (im (by rw [e]; decide) (im (by rw [e]; decide) hv)))) w3_109 w3_109 w3_167 w3_99 w3_97 w3_107 w3_97 w1_12 wd_X0_endAt ⟨Nat.le_trans (by decide) hR.1, Nat.le_trans (by decide) hR.2⟩ (45 + 2 * k) (bCell_at he e) rfl rfl hrest d ⟨by rw [hz.1]; decide, by rw [hz.2]; decide⟩ rfl rfl kk
  · refine j_callU (cs' := (0, 0)) (As := [.int z0, .int z1]) (rest := rest) C (qX0_endAt (ip e (im (by rw [e]; decide) (im (by rw [e]; decide) (im (by rw [e]; decide) hv))))) w3_109 w3_109 w3_167 w3_99 w3_97 w3_108 w3_97 w1_12 wd_X0_endAt ⟨Nat.le_trans (by decide) hR.1, Nat.le_trans (by decide) hR.2⟩ (45 + 2 * k) (bCell_at he e) rfl rfl hrest d ⟨by rw [hz.1]; decide, by rw [hz.2]; decide⟩ rfl rfl kk
def rmX9_lay : Room := { frames := 4, cells := 0, slots := 0, locals := 86 }
theorem wd_X9_lay : yX9_lay.cls ≠ "java/lang/invoke/MethodHandle" ∧ yX9_lay.cls ≠ "java/lang/invoke/VarHandle" ∧ (parseMethodDescriptor yX9_lay.desc).map (fun d => d.parameters.length) = some 4 := by decide +kernel
def mX9_lay_12 (N : Nat) (b : BSt) (u : USt) : Option USt := some u
set_option maxRecDepth 100000 in
set_option maxHeartbeats 4000000 in
theorem kX9_lay_12 {l : Launch} {D : va_G} {cI cO cR : ClassId} {q : Nat → Nat} {t0 : Nat} {b : BSt} {G : Gx} {N : Nat} {rr : USt} (C : jC l rmX9_lay D (tX cI cO cR) G cX9_lay 11 RX9) (hR : jR D (tX cI cO cR) G (0, 0) none none (wX cI cO cR q t0 rr b))  (u : USt) (hm : mX9_lay_12 N b u = some rr) : J l rmX9_lay D G (0, 0) (wX cI cO cR q t0 u b) [] [] 12 := by
  unfold mX9_lay_12 at hm
  cases hm
  exact j_vret C hR dX9_lay_12
def mX9_lay_141 (N : Nat) (b : BSt) (k35 : USt → Int32 → Nat → Int32 → Int32 → Int32 → Nat → Int32 → Int32 → Option USt) (u : USt) (x1 : Int32) (a2 : Nat) (x3 : Int32) (x4 : Int32) (x5 : Int32) (a6 : Nat) (x7 : Int32) (x8 : Int32) : Option USt := k35 u x1 a2 x3 x4 x5 a6 x7 (x8 + 1)
set_option maxRecDepth 100000 in
set_option maxHeartbeats 4000000 in
theorem kX9_lay_141 {l : Launch} {D : va_G} {cI cO cR : ClassId} {q : Nat → Nat} {t0 : Nat} {b : BSt} {G : Gx} {N : Nat} {rr : USt} (C : jC l rmX9_lay D (tX cI cO cR) G cX9_lay 11 RX9) (hR : jR D (tX cI cO cR) G (0, 0) none none (wX cI cO cR q t0 rr b)) (k35 : USt → Int32 → Nat → Int32 → Int32 → Int32 → Nat → Int32 → Int32 → Option USt) (K35 : ∀ (u : USt) (x1 : Int32) (a2 : Nat) (x3 : Int32) (x4 : Int32) (x5 : Int32) (a6 : Nat) (x7 : Int32) (x8 : Int32), k35 u x1 a2 x3 x4 x5 a6 x7 x8 = some rr → J l rmX9_lay D G (0, 0) (wX cI cO cR q t0 u b) [(0, .ref (q 12)), (1, .int x1), (2, .ref (bA b a2)), (3, .int x3), (4, .int x4), (5, .int x5), (6, .ref (q a6)), (7, .int x7), (8, .int x8)] [] 35) (u : USt) (x1 : Int32) (a2 : Nat) (x3 : Int32) (x4 : Int32) (x5 : Int32) (a6 : Nat) (x7 : Int32) (x8 : Int32) (hm : mX9_lay_141 N b k35 u x1 a2 x3 x4 x5 a6 x7 x8 = some rr) : J l rmX9_lay D G (0, 0) (wX cI cO cR q t0 u b) [(0, .ref (q 12)), (1, .int x1), (2, .ref (bA b a2)), (3, .int x3), (4, .int x4), (5, .int x5), (6, .ref (q a6)), (7, .int x7), (8, .int x8)] [] 141 := by
  unfold mX9_lay_141 at hm
  refine j_iinc (v := (x8 + 1)) C dX9_lay_141 8 rfl rfl (by decide) rfl ?_
  refine j_goto (tgt := 35) C dX9_lay_144 (by decide) ?_
  exact J.sub [1, 2, 3, 4, 5, 6, 7, 8, 0] rfl (K35 u x1 a2 x3 x4 x5 a6 x7 (x8 + 1) hm)
def mX9_lay_110 (N : Nat) (b : BSt) (k35 : USt → Int32 → Nat → Int32 → Int32 → Int32 → Nat → Int32 → Int32 → Option USt) (u : USt) (x1 : Int32) (a2 : Nat) (x3 : Int32) (x4 : Int32) (x5 : Int32) (a6 : Nat) (x7 : Int32) (x8 : Int32) (s0 : Int32) : Option USt := wrX a6 x8 (fun i1 => nm (saX u a6 i1 s0) (fun u2 => if s0 = (-1) then (mX9_lay_141 N b k35 u2 x1 a2 x3 x4 x5 a6 x7 x8) else (bfi b a2 0 (fun f3 => nm (x7 ||| ((1 <<< (s0 &&& 31)) ||| (1 <<< (f3 &&& 31)))) (fun v4 => mX9_lay_141 N b k35 u2 x1 a2 x3 x4 x5 a6 v4 x8)))))
set_option maxRecDepth 100000 in
set_option maxHeartbeats 4000000 in
theorem kX9_lay_110 {l : Launch} {D : va_G} {cI cO cR : ClassId} {q : Nat → Nat} {t0 : Nat} {b : BSt} {G : Gx} {N : Nat} {rr : USt} (C : jC l rmX9_lay D (tX cI cO cR) G cX9_lay 11 RX9) (hR : jR D (tX cI cO cR) G (0, 0) none none (wX cI cO cR q t0 rr b)) (k35 : USt → Int32 → Nat → Int32 → Int32 → Int32 → Nat → Int32 → Int32 → Option USt) (K35 : ∀ (u : USt) (x1 : Int32) (a2 : Nat) (x3 : Int32) (x4 : Int32) (x5 : Int32) (a6 : Nat) (x7 : Int32) (x8 : Int32), k35 u x1 a2 x3 x4 x5 a6 x7 x8 = some rr → J l rmX9_lay D G (0, 0) (wX cI cO cR q t0 u b) [(0, .ref (q 12)), (1, .int x1), (2, .ref (bA b a2)), (3, .int x3), (4, .int x4), (5, .int x5), (6, .ref (q a6)), (7, .int x7), (8, .int x8)] [] 35) (u : USt) (x1 : Int32) (a2 : Nat) (x3 : Int32) (x4 : Int32) (x5 : Int32) (a6 : Nat) (x7 : Int32) (x8 : Int32) (s0 : Int32) (hm : mX9_lay_110 N b k35 u x1 a2 x3 x4 x5 a6 x7 x8 s0 = some rr) : J l rmX9_lay D G (0, 0) (wX cI cO cR q t0 u b) [(0, .ref (q 12)), (1, .int x1), (2, .ref (bA b a2)), (3, .int x3), (4, .int x4), (5, .int x5), (6, .ref (q a6)), (7, .int x7), (8, .int x8)] [.int s0] 110 := by
  unfold mX9_lay_110 at hm
  refine j_istore C dX9_lay_110 (by decide) rfl ?_
  refine j_aload C dX9_lay_112 7 rfl ?_
  refine j_iload C dX9_lay_114 9 rfl ?_
  refine j_iload C dX9_lay_116 0 rfl ?_
  refine jX_S C dX9_lay_118 hm (fun u2 hm => ?_)
  refine j_iload C dX9_lay_119 0 rfl ?_
  refine j_iconst (v := (-1)) C dX9_lay_121 (by decide) ?_
  refine j_icmp_eqq (tgt := 141) C dX9_lay_122 (by decide) hm (fun hm => ?_) (fun hm => ?_)
  · exact J.sub [1, 2, 3, 4, 5, 6, 7, 8, 9] rfl (kX9_lay_141 C hR k35 K35 u2 x1 a2 x3 x4 x5 a6 x7 x8 hm)
  · refine j_iload C dX9_lay_125 8 rfl ?_
    refine j_iconst (v := 1) C dX9_lay_127 (by decide) ?_
    refine j_iload C dX9_lay_128 0 rfl ?_
    refine j_ishl C dX9_lay_130 ?_
    refine j_iconst (v := 1) C dX9_lay_131 (by decide) ?_
    refine j_aload_n C dX9_lay_132 rfl 3 rfl ?_
    refine jX_b0 C w2_108 dX9_lay_133 hm (fun f3 hm => ?_)
    refine j_ishl C dX9_lay_136 ?_
    refine j_ior C dX9_lay_137 ?_
    refine j_ior C dX9_lay_138 ?_
    refine j_nmi hm (fun v4 hm => ?_)
    refine j_istore C dX9_lay_139 (by decide) rfl ?_
    exact J.sub [2, 3, 4, 5, 6, 7, 8, 0, 9] rfl (kX9_lay_141 C hR k35 K35 u2 x1 a2 x3 x4 x5 a6 v4 x8 hm)
def mX9_lay_72 (N : Nat) (b : BSt) (k35 : USt → Int32 → Nat → Int32 → Int32 → Int32 → Nat → Int32 → Int32 → Option USt) (u : USt) (x1 : Int32) (a2 : Nat) (x3 : Int32) (x4 : Int32) (x5 : Int32) (a6 : Nat) (x7 : Int32) (x8 : Int32) : Option USt := nm (u.1 15) (fun f1 => nm ((f1 + x8) + x3) (fun v2 => (vX0_standsStill N b a2 v2 x4).bind (fun r3 => nm (u.1 17) (fun f4 => if r3 < f4 then (mX9_lay_110 N b k35 u x1 a2 x3 x4 x5 a6 x7 x8 (-1)) else ((vX0_endAt N b a2 v2 x4).bind (fun r5 => mX9_lay_110 N b k35 u x1 a2 x3 x4 x5 a6 x7 x8 r5))))))
set_option maxRecDepth 100000 in
set_option maxHeartbeats 4000000 in
theorem kX9_lay_72 {l : Launch} {D : va_G} {cI cO cR : ClassId} {q : Nat → Nat} {t0 : Nat} {b : BSt} {G : Gx} {N : Nat} {rr : USt} (C : jC l rmX9_lay D (tX cI cO cR) G cX9_lay 11 RX9) (hR : jR D (tX cI cO cR) G (0, 0) none none (wX cI cO cR q t0 rr b)) (k35 : USt → Int32 → Nat → Int32 → Int32 → Int32 → Nat → Int32 → Int32 → Option USt) (K35 : ∀ (u : USt) (x1 : Int32) (a2 : Nat) (x3 : Int32) (x4 : Int32) (x5 : Int32) (a6 : Nat) (x7 : Int32) (x8 : Int32), k35 u x1 a2 x3 x4 x5 a6 x7 x8 = some rr → J l rmX9_lay D G (0, 0) (wX cI cO cR q t0 u b) [(0, .ref (q 12)), (1, .int x1), (2, .ref (bA b a2)), (3, .int x3), (4, .int x4), (5, .int x5), (6, .ref (q a6)), (7, .int x7), (8, .int x8)] [] 35) (u : USt) (x1 : Int32) (a2 : Nat) (x3 : Int32) (x4 : Int32) (x5 : Int32) (a6 : Nat) (x7 : Int32) (x8 : Int32) (hm : mX9_lay_72 N b k35 u x1 a2 x3 x4 x5 a6 x7 x8 = some rr) : J l rmX9_lay D G (0, 0) (wX cI cO cR q t0 u b) [(0, .ref (q 12)), (1, .int x1), (2, .ref (bA b a2)), (3, .int x3), (4, .int x4), (5, .int x5), (6, .ref (q a6)), (7, .int x7), (8, .int x8)] [] 72 := by
  unfold mX9_lay_72 at hm
  refine j_aload_n C dX9_lay_72 rfl 0 rfl ?_
  refine jX_g12_5_X9 C dX9_lay_73 ?_
  refine j_nmi hm (fun f1 hm => ?_)
  refine j_iload C dX9_lay_76 8 rfl ?_
  refine j_iadd C dX9_lay_78 ?_
  refine j_iload_n C dX9_lay_79 rfl 3 rfl ?_
  refine j_iadd C dX9_lay_80 ?_
  refine j_nmi hm (fun v2 hm => ?_)
  refine j_istore C dX9_lay_81 (by decide) rfl ?_
  refine j_aload_n C dX9_lay_83 rfl 3 rfl ?_
  refine j_iload C dX9_lay_84 0 rfl ?_
  refine j_iload C dX9_lay_86 5 rfl ?_
  refine j_bind hm (fun r3 hr3 hm => ?_)
  refine jX_v_X9_57 (rest := []) C hr3 ⟨by decide, by decide⟩ (Nat.le_of_ble_eq_true rfl) dX9_lay_88 (by decide) ?_
  refine j_aload_n C dX9_lay_91 rfl 1 rfl ?_
  refine jX_g12_7_X9 C dX9_lay_92 ?_
  refine j_nmi hm (fun f4 hm => ?_)
  refine j_icmp_ltq (tgt := 109) C dX9_lay_95 (by decide) hm (fun hm => ?_) (fun hm => ?_)
  · refine j_iconst (v := (-1)) C dX9_lay_109 (by decide) ?_
    exact J.sub [1, 2, 3, 4, 5, 6, 7, 8, 9] rfl (kX9_lay_110 C hR k35 K35 u x1 a2 x3 x4 x5 a6 x7 x8 (-1) hm)
  · refine j_aload_n C dX9_lay_98 rfl 3 rfl ?_
    refine j_iload C dX9_lay_99 0 rfl ?_
    refine j_iload C dX9_lay_101 5 rfl ?_
    refine j_bind hm (fun r5 hr5 hm => ?_)
    refine jX_v_X9_61 (rest := []) C hr5 ⟨by decide, by decide⟩ (Nat.le_of_ble_eq_true rfl) dX9_lay_103 (by decide) ?_
    refine j_goto (tgt := 110) C dX9_lay_106 (by decide) ?_
    exact J.sub [1, 2, 3, 4, 5, 6, 7, 8, 9] rfl (kX9_lay_110 C hR k35 K35 u x1 a2 x3 x4 x5 a6 x7 x8 r5 hm)
def mX9_lay_35 (N : Nat) (b : BSt) (k35 : USt → Int32 → Nat → Int32 → Int32 → Int32 → Nat → Int32 → Int32 → Option USt) (u : USt) (x1 : Int32) (a2 : Nat) (x3 : Int32) (x4 : Int32) (x5 : Int32) (a6 : Nat) (x7 : Int32) (x8 : Int32) : Option USt := nm (u.1 16) (fun f1 => if f1 ≤ x8 then (bfi b a2 0 (fun f2 => wrX 14 x1 (fun i3 => nm (saX u 14 i3 f2) (fun u4 => wrX 15 x1 (fun i5 => nm (saX u4 15 i5 x7) (fun u6 => some u6)))))) else (if x5 ≤ 0 then (mX9_lay_72 N b k35 u x1 a2 x3 x4 x5 a6 x7 x8) else (if x8 < x5 then (mX9_lay_72 N b k35 u x1 a2 x3 x4 x5 a6 x7 x8) else (rdX u a6 (x8 - x5) (fun ra7 => wrX a6 x8 (fun i8 => nm (saX u a6 i8 ra7) (fun u9 => mX9_lay_141 N b k35 u9 x1 a2 x3 x4 x5 a6 x7 x8)))))))
set_option maxRecDepth 100000 in
set_option maxHeartbeats 4000000 in
theorem kX9_lay_35 {l : Launch} {D : va_G} {cI cO cR : ClassId} {q : Nat → Nat} {t0 : Nat} {b : BSt} {G : Gx} {N : Nat} {rr : USt} (C : jC l rmX9_lay D (tX cI cO cR) G cX9_lay 11 RX9) (hR : jR D (tX cI cO cR) G (0, 0) none none (wX cI cO cR q t0 rr b)) (k35 : USt → Int32 → Nat → Int32 → Int32 → Int32 → Nat → Int32 → Int32 → Option USt) (K35 : ∀ (u : USt) (x1 : Int32) (a2 : Nat) (x3 : Int32) (x4 : Int32) (x5 : Int32) (a6 : Nat) (x7 : Int32) (x8 : Int32), k35 u x1 a2 x3 x4 x5 a6 x7 x8 = some rr → J l rmX9_lay D G (0, 0) (wX cI cO cR q t0 u b) [(0, .ref (q 12)), (1, .int x1), (2, .ref (bA b a2)), (3, .int x3), (4, .int x4), (5, .int x5), (6, .ref (q a6)), (7, .int x7), (8, .int x8)] [] 35) (u : USt) (x1 : Int32) (a2 : Nat) (x3 : Int32) (x4 : Int32) (x5 : Int32) (a6 : Nat) (x7 : Int32) (x8 : Int32) (hm : mX9_lay_35 N b k35 u x1 a2 x3 x4 x5 a6 x7 x8 = some rr) : J l rmX9_lay D G (0, 0) (wX cI cO cR q t0 u b) [(0, .ref (q 12)), (1, .int x1), (2, .ref (bA b a2)), (3, .int x3), (4, .int x4), (5, .int x5), (6, .ref (q a6)), (7, .int x7), (8, .int x8)] [] 35 := by
  unfold mX9_lay_35 at hm
  refine j_iload C dX9_lay_35 8 rfl ?_
  refine j_aload_n C dX9_lay_37 rfl 0 rfl ?_
  refine jX_g12_6_X9 C dX9_lay_38 ?_
  refine j_nmi hm (fun f1 hm => ?_)
  refine j_icmp_geq (tgt := 147) C dX9_lay_41 (by decide) hm (fun hm => ?_) (fun hm => ?_)
  · refine j_aload_n C dX9_lay_147 rfl 0 rfl ?_
    refine jX_g12_1_X9 C dX9_lay_148 ?_
    refine j_iload_n C dX9_lay_151 rfl 1 rfl ?_
    refine j_aload_n C dX9_lay_152 rfl 2 rfl ?_
    refine jX_b0 C w2_108 dX9_lay_153 hm (fun f2 hm => ?_)
    refine jX_S C dX9_lay_156 hm (fun u4 hm => ?_)
    refine j_aload_n C dX9_lay_157 rfl 0 rfl ?_
    refine jX_g12_2_X9 C dX9_lay_158 ?_
    refine j_iload_n C dX9_lay_161 rfl 1 rfl ?_
    refine j_iload C dX9_lay_162 7 rfl ?_
    refine jX_S C dX9_lay_164 hm (fun u6 hm => ?_)
    cases hm
    exact j_vret C hR dX9_lay_165
  · refine j_iload C dX9_lay_44 5 rfl ?_
    refine j_if_leq (tgt := 72) C dX9_lay_46 (by decide) hm (fun hm => ?_) (fun hm => ?_)
    · exact kX9_lay_72 C hR k35 K35 u x1 a2 x3 x4 x5 a6 x7 x8 hm
    · refine j_iload C dX9_lay_49 8 rfl ?_
      refine j_iload C dX9_lay_51 5 rfl ?_
      refine j_icmp_ltq (tgt := 72) C dX9_lay_53 (by decide) hm (fun hm => ?_) (fun hm => ?_)
      · exact kX9_lay_72 C hR k35 K35 u x1 a2 x3 x4 x5 a6 x7 x8 hm
      · refine j_aload C dX9_lay_56 6 rfl ?_
        refine j_iload C dX9_lay_58 8 rfl ?_
        refine j_aload C dX9_lay_60 6 rfl ?_
        refine j_iload C dX9_lay_62 8 rfl ?_
        refine j_iload C dX9_lay_64 5 rfl ?_
        refine j_isub C dX9_lay_66 ?_
        refine jX_L C dX9_lay_67 hm (fun ra7 hm => ?_)
        refine jX_S C dX9_lay_68 hm (fun u9 hm => ?_)
        refine j_goto (tgt := 141) C dX9_lay_69 (by decide) ?_
        exact kX9_lay_141 C hR k35 K35 u9 x1 a2 x3 x4 x5 a6 x7 x8 hm
def mX9_lay_h35 (N : Nat) (b : BSt) : Nat → USt → Int32 → Nat → Int32 → Int32 → Int32 → Nat → Int32 → Int32 → Option USt
  | 0, _, _, _, _, _, _, _, _, _ => none
  | n + 1, u, x1, a2, x3, x4, x5, a6, x7, x8 => mX9_lay_35 N b (mX9_lay_h35 N b n) u x1 a2 x3 x4 x5 a6 x7 x8
theorem kX9_lay_h35 {l : Launch} {D : va_G} {cI cO cR : ClassId} {q : Nat → Nat} {t0 : Nat} {b : BSt} {G : Gx} {N : Nat} {rr : USt} (C : jC l rmX9_lay D (tX cI cO cR) G cX9_lay 11 RX9) (hR : jR D (tX cI cO cR) G (0, 0) none none (wX cI cO cR q t0 rr b))  : ∀ (n : Nat) (u : USt) (x1 : Int32) (a2 : Nat) (x3 : Int32) (x4 : Int32) (x5 : Int32) (a6 : Nat) (x7 : Int32) (x8 : Int32), mX9_lay_h35 N b n u x1 a2 x3 x4 x5 a6 x7 x8 = some rr → J l rmX9_lay D G (0, 0) (wX cI cO cR q t0 u b) [(0, .ref (q 12)), (1, .int x1), (2, .ref (bA b a2)), (3, .int x3), (4, .int x4), (5, .int x5), (6, .ref (q a6)), (7, .int x7), (8, .int x8)] [] 35 := by
  intro n
  induction n with
  | zero =>
    intro u x1 a2 x3 x4 x5 a6 x7 x8 hm
    have hm : (none : Option USt) = some rr := hm
    cases hm
  | succ n ih =>
    intro u x1 a2 x3 x4 x5 a6 x7 x8 hm
    exact kX9_lay_35 C hR _ ih u x1 a2 x3 x4 x5 a6 x7 x8 hm
def mX9_lay (N : Nat) (b : BSt) (u : USt) (x1 : Int32) (a2 : Nat) (x3 : Int32) (x4 : Int32) : Option USt := if x1 < 0 then (mX9_lay_12 N b u) else (nm (u.1 18) (fun f1 => if x1 < f1 then ((vX0_roundMinutes N b a2 x4).bind (fun r2 => wr 10 x1 (fun j3 => mX9_lay_h35 N b N u x1 a2 x3 x4 r2 (26 + j3) 0 0))) else (mX9_lay_12 N b u)))
set_option maxRecDepth 100000 in
set_option maxHeartbeats 4000000 in
theorem qX9_lay {l : Launch} {D : va_G} {cI cO cR : ClassId} {q : Nat → Nat} {t0 : Nat} {u : USt} {b : BSt} {N : Nat} {x1 : Int32} {a2 : Nat} {x3 : Int32} {x4 : Int32} {rr : USt} (hm : mX9_lay N b u x1 a2 x3 x4 = some rr) : Con l D (tX cI cO cR) yX9_lay (wS yX9_lay cX9_lay 11 none) rmX9_lay [.ref (q 12), .int x1, .ref (bA b a2), .int x3, .int x4] (wX cI cO cR q t0 u b) none (wX cI cO cR q t0 rr b) := by
  refine Con.of (by decide +kernel) (Nat.le_of_ble_eq_true rfl) (fun G C hR => ?_)
  unfold mX9_lay at hm
  show J l rmX9_lay D G (0, 0) (wX cI cO cR q t0 u b) [(0, .ref (q 12)), (1, .int x1), (2, .ref (bA b a2)), (3, .int x3), (4, .int x4)] [] 0
  refine j_iload_n C dX9_lay_0 rfl 1 rfl ?_
  refine j_if_ltq (tgt := 12) C dX9_lay_1 (by decide) hm (fun hm => ?_) (fun hm => ?_)
  · exact J.sub [] rfl (kX9_lay_12 C hR u hm)
  · refine j_iload_n C dX9_lay_4 rfl 1 rfl ?_
    refine j_aload_n C dX9_lay_5 rfl 0 rfl ?_
    refine jX_g12_8_X9 C dX9_lay_6 ?_
    refine j_nmi hm (fun f1 hm => ?_)
    refine j_icmp_ltq (tgt := 13) C dX9_lay_9 (by decide) hm (fun hm => ?_) (fun hm => ?_)
    · refine j_aload_n C dX9_lay_13 rfl 2 rfl ?_
      refine j_iload C dX9_lay_14 4 rfl ?_
      refine j_bind hm (fun r2 hr2 hm => ?_)
      refine jX_v_X9_51 (rest := []) C hr2 ⟨by decide, by decide⟩ (Nat.le_of_ble_eq_true rfl) dX9_lay_16 (by decide) ?_
      refine j_istore C dX9_lay_19 (by decide) rfl ?_
      refine j_aload_n C dX9_lay_21 rfl 1 rfl ?_
      refine jX_g12_0_X9 C dX9_lay_22 ?_
      refine j_iload_n C dX9_lay_25 rfl 2 rfl ?_
      refine jX_o13 C dX9_lay_26 hm (fun j3 hm => ?_)
      refine j_astore C dX9_lay_27 (by decide) rfl ?_
      refine j_iconst (v := 0) C dX9_lay_29 (by decide) ?_
      refine j_istore C dX9_lay_30 (by decide) rfl ?_
      refine j_iconst (v := 0) C dX9_lay_32 (by decide) ?_
      refine j_istore C dX9_lay_33 (by decide) rfl ?_
      exact J.sub [4, 5, 6, 7, 8, 3, 2, 1, 0] rfl (kX9_lay_h35 C hR N u x1 a2 x3 x4 r2 (26 + j3) 0 0 hm)
    · exact J.sub [] rfl (kX9_lay_12 C hR u hm)
def rmX9_layAlways : Room := { frames := 1, cells := 0, slots := 0, locals := 23 }
theorem wd_X9_layAlways : yX9_layAlways.cls ≠ "java/lang/invoke/MethodHandle" ∧ yX9_layAlways.cls ≠ "java/lang/invoke/VarHandle" ∧ (parseMethodDescriptor yX9_layAlways.desc).map (fun d => d.parameters.length) = some 3 := by decide +kernel
def mX9_layAlways_12 (N : Nat) (u : USt) : Option USt := some u
set_option maxRecDepth 100000 in
set_option maxHeartbeats 4000000 in
theorem kX9_layAlways_12 {l : Launch} {D : va_G} {cI cO cR : ClassId} {q : Nat → Nat} {t0 : Nat} {b : BSt} {G : Gx} {N : Nat} {rr : USt} (C : jC l rmX9_layAlways D (tX cI cO cR) G cX9_layAlways 4 RX9) (hR : jR D (tX cI cO cR) G (0, 0) none none (wX cI cO cR q t0 rr b))  (u : USt) (hm : mX9_layAlways_12 N u = some rr) : J l rmX9_layAlways D G (0, 0) (wX cI cO cR q t0 u b) [] [] 12 := by
  unfold mX9_layAlways_12 at hm
  cases hm
  exact j_vret C hR dX9_layAlways_12
def mX9_layAlways_51 (N : Nat) (u : USt) (s0 : Int32) (s1 : Int32) (t2 : Nat) : Option USt := wrX t2 s1 (fun i1 => nm (saX u t2 i1 s0) (fun u2 => some u2))
set_option maxRecDepth 100000 in
set_option maxHeartbeats 4000000 in
theorem kX9_layAlways_51 {l : Launch} {D : va_G} {cI cO cR : ClassId} {q : Nat → Nat} {t0 : Nat} {b : BSt} {G : Gx} {N : Nat} {rr : USt} (C : jC l rmX9_layAlways D (tX cI cO cR) G cX9_layAlways 4 RX9) (hR : jR D (tX cI cO cR) G (0, 0) none none (wX cI cO cR q t0 rr b))  (u : USt) (s0 : Int32) (s1 : Int32) (t2 : Nat) (hm : mX9_layAlways_51 N u s0 s1 t2 = some rr) : J l rmX9_layAlways D G (0, 0) (wX cI cO cR q t0 u b) [] [.int s0, .int s1, .ref (q t2)] 51 := by
  unfold mX9_layAlways_51 at hm
  refine jX_S C dX9_layAlways_51 hm (fun u2 hm => ?_)
  cases hm
  exact j_vret C hR dX9_layAlways_52
def mX9_layAlways (N : Nat) (u : USt) (x1 : Int32) (x2 : Int32) (x3 : Int32) : Option USt := if x1 < 0 then (mX9_layAlways_12 N u) else (nm (u.1 18) (fun f1 => if x1 < f1 then (wr 10 x1 (fun j2 => (mJ7_fill_53178 N u (26 + j2) x3).bind (fun u4 => wrX 14 x1 (fun i5 => nm (saX u4 14 i5 x2) (fun u6 => if ¬ x3 = (-1) then (mX9_layAlways_51 N u6 ((1 <<< (x3 &&& 31)) ||| (1 <<< (x2 &&& 31))) x1 15) else (mX9_layAlways_51 N u6 0 x1 15)))))) else (mX9_layAlways_12 N u)))
set_option maxRecDepth 100000 in
set_option maxHeartbeats 4000000 in
theorem qX9_layAlways {l : Launch} {D : va_G} {cI cO cR : ClassId} {q : Nat → Nat} {t0 : Nat} {u : USt} {b : BSt} {N : Nat} {x1 : Int32} {x2 : Int32} {x3 : Int32} {rr : USt} (hm : mX9_layAlways N u x1 x2 x3 = some rr) : Con l D (tX cI cO cR) yX9_layAlways (wS yX9_layAlways cX9_layAlways 4 none) rmX9_layAlways [.ref (q 12), .int x1, .int x2, .int x3] (wX cI cO cR q t0 u b) none (wX cI cO cR q t0 rr b) := by
  refine Con.of (by decide +kernel) (Nat.le_of_ble_eq_true rfl) (fun G C hR => ?_)
  unfold mX9_layAlways at hm
  show J l rmX9_layAlways D G (0, 0) (wX cI cO cR q t0 u b) [(0, .ref (q 12)), (1, .int x1), (2, .int x2), (3, .int x3)] [] 0
  refine j_iload_n C dX9_layAlways_0 rfl 1 rfl ?_
  refine j_if_ltq (tgt := 12) C dX9_layAlways_1 (by decide) hm (fun hm => ?_) (fun hm => ?_)
  · exact J.sub [] rfl (kX9_layAlways_12 C hR u hm)
  · refine j_iload_n C dX9_layAlways_4 rfl 1 rfl ?_
    refine j_aload_n C dX9_layAlways_5 rfl 0 rfl ?_
    refine jX_g12_8_X9 C dX9_layAlways_6 ?_
    refine j_nmi hm (fun f1 hm => ?_)
    refine j_icmp_ltq (tgt := 13) C dX9_layAlways_9 (by decide) hm (fun hm => ?_) (fun hm => ?_)
    · refine j_aload_n C dX9_layAlways_13 rfl 0 rfl ?_
      refine jX_g12_0_X9 C dX9_layAlways_14 ?_
      refine j_iload_n C dX9_layAlways_17 rfl 1 rfl ?_
      refine jX_o13 C dX9_layAlways_18 hm (fun j2 hm => ?_)
      refine j_iload_n C dX9_layAlways_19 rfl 3 rfl ?_
      refine j_bind hm (fun u4 hr3 hm => ?_)
      refine j_callSW (cs' := (0, 0)) (As := [.ref (q (26 + j2)), .int x3]) (rest := []) C (qJ7_fill_53178 hr3) w3_178 w3_176 w3_177 w1_15 wd_J7_fill_53178 ⟨by decide, by decide⟩ rfl (Nat.le_of_ble_eq_true rfl) dX9_layAlways_20 ⟨by decide, by decide⟩ rfl rfl ?_
      refine j_aload_n C dX9_layAlways_23 rfl 0 rfl ?_
      refine jX_g12_1_X9 C dX9_layAlways_24 ?_
      refine j_iload_n C dX9_layAlways_27 rfl 1 rfl ?_
      refine j_iload_n C dX9_layAlways_28 rfl 2 rfl ?_
      refine jX_S C dX9_layAlways_29 hm (fun u6 hm => ?_)
      refine j_aload_n C dX9_layAlways_30 rfl 0 rfl ?_
      refine jX_g12_2_X9 C dX9_layAlways_31 ?_
      refine j_iload_n C dX9_layAlways_34 rfl 1 rfl ?_
      refine j_iload_n C dX9_layAlways_35 rfl 3 rfl ?_
      refine j_iconst (v := (-1)) C dX9_layAlways_36 (by decide) ?_
      refine j_icmp_neq (tgt := 44) C dX9_layAlways_37 (by decide) hm (fun hm => ?_) (fun hm => ?_)
      · refine j_iconst (v := 1) C dX9_layAlways_44 (by decide) ?_
        refine j_iload_n C dX9_layAlways_45 rfl 3 rfl ?_
        refine j_ishl C dX9_layAlways_46 ?_
        refine j_iconst (v := 1) C dX9_layAlways_47 (by decide) ?_
        refine j_iload_n C dX9_layAlways_48 rfl 2 rfl ?_
        refine j_ishl C dX9_layAlways_49 ?_
        refine j_ior C dX9_layAlways_50 ?_
        exact J.sub [] rfl (kX9_layAlways_51 C hR u6 ((1 <<< (x3 &&& 31)) ||| (1 <<< (x2 &&& 31))) x1 15 hm)
      · refine j_iconst (v := 0) C dX9_layAlways_40 (by decide) ?_
        refine j_goto (tgt := 51) C dX9_layAlways_41 (by decide) ?_
        exact J.sub [] rfl (kX9_layAlways_51 C hR u6 0 x1 15 hm)
    · exact J.sub [] rfl (kX9_layAlways_12 C hR u hm)
def rmX9_layNothing : Room := { frames := 2, cells := 0, slots := 0, locals := 46 }
theorem wd_X9_layNothing : yX9_layNothing.cls ≠ "java/lang/invoke/MethodHandle" ∧ yX9_layNothing.cls ≠ "java/lang/invoke/VarHandle" ∧ (parseMethodDescriptor yX9_layNothing.desc).map (fun d => d.parameters.length) = some 1 := by decide +kernel
def mX9_layNothing (N : Nat) (u : USt) (x1 : Int32) : Option USt := (mX9_layAlways N u x1 0 (-1)).bind (fun u2 => some u2)
set_option maxRecDepth 100000 in
set_option maxHeartbeats 4000000 in
theorem qX9_layNothing {l : Launch} {D : va_G} {cI cO cR : ClassId} {q : Nat → Nat} {t0 : Nat} {u : USt} {b : BSt} {N : Nat} {x1 : Int32} {rr : USt} (hm : mX9_layNothing N u x1 = some rr) : Con l D (tX cI cO cR) yX9_layNothing (wS yX9_layNothing cX9_layNothing 2 none) rmX9_layNothing [.ref (q 12), .int x1] (wX cI cO cR q t0 u b) none (wX cI cO cR q t0 rr b) := by
  refine Con.of (by decide +kernel) (Nat.le_of_ble_eq_true rfl) (fun G C hR => ?_)
  unfold mX9_layNothing at hm
  show J l rmX9_layNothing D G (0, 0) (wX cI cO cR q t0 u b) [(0, .ref (q 12)), (1, .int x1)] [] 0
  refine j_aload_n C dX9_layNothing_0 rfl 0 rfl ?_
  refine j_iload_n C dX9_layNothing_1 rfl 1 rfl ?_
  refine j_iconst (v := 0) C dX9_layNothing_2 (by decide) ?_
  refine j_iconst (v := (-1)) C dX9_layNothing_3 (by decide) ?_
  refine j_bind hm (fun u2 hr1 hm => ?_)
  refine j_callV (cs' := (0, 0)) (As := [.int x1, .int 0, .int (-1)]) (rest := []) C (qX9_layAlways hr1) w3_175 w3_172 w3_173 w3_174 w1_9 wd_X9_layAlways ⟨by decide, by decide⟩ 12 rfl rfl rfl (Nat.le_of_ble_eq_true rfl) dX9_layNothing_4 ⟨by decide, by decide⟩ rfl rfl ?_
  cases hm
  exact j_vret C hR dX9_layNothing_7
def rmX9_everReached : Room := { frames := 0, cells := 0, slots := 0, locals := 0 }
theorem wd_X9_everReached : yX9_everReached.cls ≠ "java/lang/invoke/MethodHandle" ∧ yX9_everReached.cls ≠ "java/lang/invoke/VarHandle" ∧ (parseMethodDescriptor yX9_everReached.desc).map (fun d => d.parameters.length) = some 1 := by decide +kernel
def mX9_everReached_46 (N : Nat) (u : USt) (k6 : Int32 → Int32 → Option Int32) (k15 : Int32 → Int32 → Int32 → Option Int32) (x2 : Int32) (x3 : Int32) (x4 : Int32) : Option Int32 := k15 x2 x3 (x4 + 1)
set_option maxRecDepth 100000 in
set_option maxHeartbeats 4000000 in
theorem kX9_everReached_46 {l : Launch} {D : va_G} {cI cO cR : ClassId} {q : Nat → Nat} {t0 : Nat} {u : USt} {b : BSt} {G : Gx} {N : Nat} {rr : Int32} (C : jC l rmX9_everReached D (tX cI cO cR) G cX9_everReached 5 RX9) (hR : jR D (tX cI cO cR) G (0, 0) (some .int) (some (.int rr)) (wX cI cO cR q t0 u b)) (k6 : Int32 → Int32 → Option Int32) (K6 : ∀ (x2 : Int32) (x3 : Int32), k6 x2 x3 = some rr → J l rmX9_everReached D G (0, 0) (wX cI cO cR q t0 u b) [(0, .ref (q 12)), (2, .int x2), (3, .int x3)] [] 6) (k15 : Int32 → Int32 → Int32 → Option Int32) (K15 : ∀ (x2 : Int32) (x3 : Int32) (x4 : Int32), k15 x2 x3 x4 = some rr → J l rmX9_everReached D G (0, 0) (wX cI cO cR q t0 u b) [(0, .ref (q 12)), (2, .int x2), (3, .int x3), (4, .int x4)] [] 15) (x2 : Int32) (x3 : Int32) (x4 : Int32) (hm : mX9_everReached_46 N u k6 k15 x2 x3 x4 = some rr) : J l rmX9_everReached D G (0, 0) (wX cI cO cR q t0 u b) [(0, .ref (q 12)), (2, .int x2), (3, .int x3), (4, .int x4)] [] 46 := by
  unfold mX9_everReached_46 at hm
  refine j_iinc (v := (x4 + 1)) C dX9_everReached_46 3 rfl rfl (by decide) rfl ?_
  refine j_goto (tgt := 15) C dX9_everReached_49 (by decide) ?_
  exact J.sub [1, 2, 3, 0] rfl (K15 x2 x3 (x4 + 1) hm)
def mX9_everReached_15 (N : Nat) (u : USt) (k6 : Int32 → Int32 → Option Int32) (k15 : Int32 → Int32 → Int32 → Option Int32) (x2 : Int32) (x3 : Int32) (x4 : Int32) : Option Int32 := if (u.1 18) ≤ x4 then (k6 x2 (x3 + 1)) else (rdX u 15 x4 (fun ra1 => if (ra1 &&& x2) = 0 then (mX9_everReached_46 N u k6 k15 x2 x3 x4) else (rdX u 15 x4 (fun ra2 => nm (x2 ||| ra2) (fun v3 => mX9_everReached_46 N u k6 k15 v3 x3 x4)))))
set_option maxRecDepth 100000 in
set_option maxHeartbeats 4000000 in
theorem kX9_everReached_15 {l : Launch} {D : va_G} {cI cO cR : ClassId} {q : Nat → Nat} {t0 : Nat} {u : USt} {b : BSt} {G : Gx} {N : Nat} {rr : Int32} (C : jC l rmX9_everReached D (tX cI cO cR) G cX9_everReached 5 RX9) (hR : jR D (tX cI cO cR) G (0, 0) (some .int) (some (.int rr)) (wX cI cO cR q t0 u b)) (k6 : Int32 → Int32 → Option Int32) (K6 : ∀ (x2 : Int32) (x3 : Int32), k6 x2 x3 = some rr → J l rmX9_everReached D G (0, 0) (wX cI cO cR q t0 u b) [(0, .ref (q 12)), (2, .int x2), (3, .int x3)] [] 6) (k15 : Int32 → Int32 → Int32 → Option Int32) (K15 : ∀ (x2 : Int32) (x3 : Int32) (x4 : Int32), k15 x2 x3 x4 = some rr → J l rmX9_everReached D G (0, 0) (wX cI cO cR q t0 u b) [(0, .ref (q 12)), (2, .int x2), (3, .int x3), (4, .int x4)] [] 15) (x2 : Int32) (x3 : Int32) (x4 : Int32) (hm : mX9_everReached_15 N u k6 k15 x2 x3 x4 = some rr) : J l rmX9_everReached D G (0, 0) (wX cI cO cR q t0 u b) [(0, .ref (q 12)), (2, .int x2), (3, .int x3), (4, .int x4)] [] 15 := by
  unfold mX9_everReached_15 at hm
  refine j_iload C dX9_everReached_15 3 rfl ?_
  refine j_aload_n C dX9_everReached_17 rfl 0 rfl ?_
  refine jX_g12_8_X9 C dX9_everReached_18 ?_
  refine j_icmp_geq (tgt := 52) C dX9_everReached_21 (by decide) hm (fun hm => ?_) (fun hm => ?_)
  · refine j_iinc (v := (x3 + 1)) C dX9_everReached_52 2 rfl rfl (by decide) rfl ?_
    refine j_goto (tgt := 6) C dX9_everReached_55 (by decide) ?_
    exact J.sub [1, 2, 0] rfl (K6 x2 (x3 + 1) hm)
  · refine j_aload_n C dX9_everReached_24 rfl 0 rfl ?_
    refine jX_g12_2_X9 C dX9_everReached_25 ?_
    refine j_iload C dX9_everReached_28 3 rfl ?_
    refine jX_L C dX9_everReached_30 hm (fun ra1 hm => ?_)
    refine j_iload_n C dX9_everReached_31 rfl 1 rfl ?_
    refine j_iand C dX9_everReached_32 ?_
    refine j_if_eqq (tgt := 46) C dX9_everReached_33 (by decide) hm (fun hm => ?_) (fun hm => ?_)
    · exact kX9_everReached_46 C hR k6 K6 k15 K15 x2 x3 x4 hm
    · refine j_iload_n C dX9_everReached_36 rfl 1 rfl ?_
      refine j_aload_n C dX9_everReached_37 rfl 0 rfl ?_
      refine jX_g12_2_X9 C dX9_everReached_38 ?_
      refine j_iload C dX9_everReached_41 3 rfl ?_
      refine jX_L C dX9_everReached_43 hm (fun ra2 hm => ?_)
      refine j_ior C dX9_everReached_44 ?_
      refine j_nmi hm (fun v3 hm => ?_)
      refine j_istore_n C dX9_everReached_45 rfl (by decide) rfl ?_
      exact J.sub [1, 0, 2, 3] rfl (kX9_everReached_46 C hR k6 K6 k15 K15 v3 x3 x4 hm)
def mX9_everReached_h15 (N : Nat) (u : USt) (k6 : Int32 → Int32 → Option Int32) : Nat → Int32 → Int32 → Int32 → Option Int32
  | 0, _, _, _ => none
  | n + 1, x2, x3, x4 => mX9_everReached_15 N u k6 (mX9_everReached_h15 N u k6 n) x2 x3 x4
theorem kX9_everReached_h15 {l : Launch} {D : va_G} {cI cO cR : ClassId} {q : Nat → Nat} {t0 : Nat} {u : USt} {b : BSt} {G : Gx} {N : Nat} {rr : Int32} (C : jC l rmX9_everReached D (tX cI cO cR) G cX9_everReached 5 RX9) (hR : jR D (tX cI cO cR) G (0, 0) (some .int) (some (.int rr)) (wX cI cO cR q t0 u b)) (k6 : Int32 → Int32 → Option Int32) (K6 : ∀ (x2 : Int32) (x3 : Int32), k6 x2 x3 = some rr → J l rmX9_everReached D G (0, 0) (wX cI cO cR q t0 u b) [(0, .ref (q 12)), (2, .int x2), (3, .int x3)] [] 6) : ∀ (n : Nat) (x2 : Int32) (x3 : Int32) (x4 : Int32), mX9_everReached_h15 N u k6 n x2 x3 x4 = some rr → J l rmX9_everReached D G (0, 0) (wX cI cO cR q t0 u b) [(0, .ref (q 12)), (2, .int x2), (3, .int x3), (4, .int x4)] [] 15 := by
  intro n
  induction n with
  | zero =>
    intro x2 x3 x4 hm
    have hm : (none : Option Int32) = some rr := hm
    cases hm
  | succ n ih =>
    intro x2 x3 x4 hm
    exact kX9_everReached_15 C hR k6 K6 _ ih x2 x3 x4 hm
def mX9_everReached_6 (N : Nat) (u : USt) (k6 : Int32 → Int32 → Option Int32) (x2 : Int32) (x3 : Int32) : Option Int32 := if 8 ≤ x3 then (some x2) else (mX9_everReached_h15 N u k6 N x2 x3 0)
set_option maxRecDepth 100000 in
set_option maxHeartbeats 4000000 in
theorem kX9_everReached_6 {l : Launch} {D : va_G} {cI cO cR : ClassId} {q : Nat → Nat} {t0 : Nat} {u : USt} {b : BSt} {G : Gx} {N : Nat} {rr : Int32} (C : jC l rmX9_everReached D (tX cI cO cR) G cX9_everReached 5 RX9) (hR : jR D (tX cI cO cR) G (0, 0) (some .int) (some (.int rr)) (wX cI cO cR q t0 u b)) (k6 : Int32 → Int32 → Option Int32) (K6 : ∀ (x2 : Int32) (x3 : Int32), k6 x2 x3 = some rr → J l rmX9_everReached D G (0, 0) (wX cI cO cR q t0 u b) [(0, .ref (q 12)), (2, .int x2), (3, .int x3)] [] 6) (x2 : Int32) (x3 : Int32) (hm : mX9_everReached_6 N u k6 x2 x3 = some rr) : J l rmX9_everReached D G (0, 0) (wX cI cO cR q t0 u b) [(0, .ref (q 12)), (2, .int x2), (3, .int x3)] [] 6 := by
  unfold mX9_everReached_6 at hm
  refine j_iload_n C dX9_everReached_6 rfl 2 rfl ?_
  refine j_bipush (v := 8) C dX9_everReached_7 (by decide) ?_
  refine j_icmp_geq (tgt := 58) C dX9_everReached_9 (by decide) hm (fun hm => ?_) (fun hm => ?_)
  · refine j_iload_n C dX9_everReached_58 rfl 1 rfl ?_
    cases hm
    exact j_iret C hR dX9_everReached_59
  · refine j_iconst (v := 0) C dX9_everReached_12 (by decide) ?_
    refine j_istore C dX9_everReached_13 (by decide) rfl ?_
    exact J.sub [1, 2, 3, 0] rfl (kX9_everReached_h15 C hR k6 K6 N x2 x3 0 hm)
def mX9_everReached_h6 (N : Nat) (u : USt) : Nat → Int32 → Int32 → Option Int32
  | 0, _, _ => none
  | n + 1, x2, x3 => mX9_everReached_6 N u (mX9_everReached_h6 N u n) x2 x3
theorem kX9_everReached_h6 {l : Launch} {D : va_G} {cI cO cR : ClassId} {q : Nat → Nat} {t0 : Nat} {u : USt} {b : BSt} {G : Gx} {N : Nat} {rr : Int32} (C : jC l rmX9_everReached D (tX cI cO cR) G cX9_everReached 5 RX9) (hR : jR D (tX cI cO cR) G (0, 0) (some .int) (some (.int rr)) (wX cI cO cR q t0 u b))  : ∀ (n : Nat) (x2 : Int32) (x3 : Int32), mX9_everReached_h6 N u n x2 x3 = some rr → J l rmX9_everReached D G (0, 0) (wX cI cO cR q t0 u b) [(0, .ref (q 12)), (2, .int x2), (3, .int x3)] [] 6 := by
  intro n
  induction n with
  | zero =>
    intro x2 x3 hm
    have hm : (none : Option Int32) = some rr := hm
    cases hm
  | succ n ih =>
    intro x2 x3 hm
    exact kX9_everReached_6 C hR _ ih x2 x3 hm
def mX9_everReached (N : Nat) (u : USt) (x1 : Int32) : Option Int32 := nm (1 <<< (x1 &&& 31)) (fun v1 => mX9_everReached_h6 N u N v1 0)
set_option maxRecDepth 100000 in
set_option maxHeartbeats 4000000 in
theorem qX9_everReached {l : Launch} {D : va_G} {cI cO cR : ClassId} {q : Nat → Nat} {t0 : Nat} {u : USt} {b : BSt} {N : Nat} {x1 : Int32} {rr : Int32} (hm : mX9_everReached N u x1 = some rr) : Con l D (tX cI cO cR) yX9_everReached (wS yX9_everReached cX9_everReached 5 (some .int)) rmX9_everReached [.ref (q 12), .int x1] (wX cI cO cR q t0 u b) (some (.int rr)) (wX cI cO cR q t0 u b) := by
  refine Con.of (by decide +kernel) (Nat.le_of_ble_eq_true rfl) (fun G C hR => ?_)
  unfold mX9_everReached at hm
  show J l rmX9_everReached D G (0, 0) (wX cI cO cR q t0 u b) [(0, .ref (q 12)), (1, .int x1)] [] 0
  refine j_iconst (v := 1) C dX9_everReached_0 (by decide) ?_
  refine j_iload_n C dX9_everReached_1 rfl 1 rfl ?_
  refine j_ishl C dX9_everReached_2 ?_
  refine j_nmi hm (fun v1 hm => ?_)
  refine j_istore_n C dX9_everReached_3 rfl (by decide) rfl ?_
  refine j_iconst (v := 0) C dX9_everReached_4 (by decide) ?_
  refine j_istore_n C dX9_everReached_5 rfl (by decide) rfl ?_
  exact J.sub [2, 1, 0] rfl (kX9_everReached_h6 C hR N v1 0 hm)
def rmX9_reach : Room := { frames := 1, cells := 0, slots := 0, locals := 24 }
theorem wd_X9_reach : yX9_reach.cls ≠ "java/lang/invoke/MethodHandle" ∧ yX9_reach.cls ≠ "java/lang/invoke/VarHandle" ∧ (parseMethodDescriptor yX9_reach.desc).map (fun d => d.parameters.length) = some 4 := by decide +kernel
def mX9_reach_18 (N : Nat) (u : USt) : Option USt := some u
set_option maxRecDepth 100000 in
set_option maxHeartbeats 4000000 in
theorem kX9_reach_18 {l : Launch} {D : va_G} {cI cO cR : ClassId} {q : Nat → Nat} {t0 : Nat} {b : BSt} {G : Gx} {N : Nat} {rr : USt} (C : jC l rmX9_reach D (tX cI cO cR) G cX9_reach 11 RX9) (hR : jR D (tX cI cO cR) G (0, 0) none none (wX cI cO cR q t0 rr b))  (u : USt) (hm : mX9_reach_18 N u = some rr) : J l rmX9_reach D G (0, 0) (wX cI cO cR q t0 u b) [] [] 18 := by
  unfold mX9_reach_18 at hm
  cases hm
  exact j_vret C hR dX9_reach_18
def mX9_reach_214 (N : Nat) (u : USt) : Option USt := some u
set_option maxRecDepth 100000 in
set_option maxHeartbeats 4000000 in
theorem kX9_reach_214 {l : Launch} {D : va_G} {cI cO cR : ClassId} {q : Nat → Nat} {t0 : Nat} {b : BSt} {G : Gx} {N : Nat} {rr : USt} (C : jC l rmX9_reach D (tX cI cO cR) G cX9_reach 11 RX9) (hR : jR D (tX cI cO cR) G (0, 0) none none (wX cI cO cR q t0 rr b))  (u : USt) (hm : mX9_reach_214 N u = some rr) : J l rmX9_reach D G (0, 0) (wX cI cO cR q t0 u b) [] [] 214 := by
  unfold mX9_reach_214 at hm
  cases hm
  exact j_vret C hR dX9_reach_214
def mX9_reach_202 (N : Nat) (k61 : USt → Nat → Int32 → Int32 → Int32 → Option USt) (k76 : USt → Nat → Int32 → Int32 → Int32 → Int32 → Option USt) (u : USt) (a4 : Nat) (x5 : Int32) (x6 : Int32) (x7 : Int32) (x8 : Int32) : Option USt := k76 u a4 x5 x6 x7 (x8 + 1)
set_option maxRecDepth 100000 in
set_option maxHeartbeats 4000000 in
theorem kX9_reach_202 {l : Launch} {D : va_G} {cI cO cR : ClassId} {q : Nat → Nat} {t0 : Nat} {b : BSt} {G : Gx} {N : Nat} {rr : USt} (C : jC l rmX9_reach D (tX cI cO cR) G cX9_reach 11 RX9) (hR : jR D (tX cI cO cR) G (0, 0) none none (wX cI cO cR q t0 rr b)) (k61 : USt → Nat → Int32 → Int32 → Int32 → Option USt) (K61 : ∀ (u : USt) (a4 : Nat) (x5 : Int32) (x6 : Int32) (x7 : Int32), k61 u a4 x5 x6 x7 = some rr → J l rmX9_reach D G (0, 0) (wX cI cO cR q t0 u b) [(0, .ref (q 12)), (4, .ref (q a4)), (5, .int x5), (6, .int x6), (7, .int x7)] [] 61) (k76 : USt → Nat → Int32 → Int32 → Int32 → Int32 → Option USt) (K76 : ∀ (u : USt) (a4 : Nat) (x5 : Int32) (x6 : Int32) (x7 : Int32) (x8 : Int32), k76 u a4 x5 x6 x7 x8 = some rr → J l rmX9_reach D G (0, 0) (wX cI cO cR q t0 u b) [(0, .ref (q 12)), (4, .ref (q a4)), (5, .int x5), (6, .int x6), (7, .int x7), (8, .int x8)] [] 76) (u : USt) (a4 : Nat) (x5 : Int32) (x6 : Int32) (x7 : Int32) (x8 : Int32) (hm : mX9_reach_202 N k61 k76 u a4 x5 x6 x7 x8 = some rr) : J l rmX9_reach D G (0, 0) (wX cI cO cR q t0 u b) [(0, .ref (q 12)), (4, .ref (q a4)), (5, .int x5), (6, .int x6), (7, .int x7), (8, .int x8)] [] 202 := by
  unfold mX9_reach_202 at hm
  refine j_iinc (v := (x8 + 1)) C dX9_reach_202 5 rfl rfl (by decide) rfl ?_
  refine j_goto (tgt := 76) C dX9_reach_205 (by decide) ?_
  exact J.sub [1, 2, 3, 4, 5, 0] rfl (K76 u a4 x5 x6 x7 (x8 + 1) hm)
def mX9_reach_159 (N : Nat) (k61 : USt → Nat → Int32 → Int32 → Int32 → Option USt) (k76 : USt → Nat → Int32 → Int32 → Int32 → Int32 → Option USt) (u : USt) (a4 : Nat) (x5 : Int32) (x6 : Int32) (x7 : Int32) (x8 : Int32) (x9 : Int32) (x10 : Int32) : Option USt := rdX u a4 x9 (fun ra1 => if x7 < ra1 then (mX9_reach_202 N k61 k76 u a4 x5 x6 x7 x8) else (rdX u a4 x10 (fun ra2 => if ¬ ra2 = 2147483647 then (mX9_reach_202 N k61 k76 u a4 x5 x6 x7 x8) else (nm (u.1 17) (fun f3 => wrX a4 x10 (fun i4 => nm (saX u a4 i4 (x7 + f3)) (fun u5 => nm (x5 &&& ((1 <<< (x10 &&& 31)) ^^^ (-1))) (fun v6 => mX9_reach_202 N k61 k76 u5 a4 v6 x6 x7 x8))))))))
set_option maxRecDepth 100000 in
set_option maxHeartbeats 4000000 in
theorem kX9_reach_159 {l : Launch} {D : va_G} {cI cO cR : ClassId} {q : Nat → Nat} {t0 : Nat} {b : BSt} {G : Gx} {N : Nat} {rr : USt} (C : jC l rmX9_reach D (tX cI cO cR) G cX9_reach 11 RX9) (hR : jR D (tX cI cO cR) G (0, 0) none none (wX cI cO cR q t0 rr b)) (k61 : USt → Nat → Int32 → Int32 → Int32 → Option USt) (K61 : ∀ (u : USt) (a4 : Nat) (x5 : Int32) (x6 : Int32) (x7 : Int32), k61 u a4 x5 x6 x7 = some rr → J l rmX9_reach D G (0, 0) (wX cI cO cR q t0 u b) [(0, .ref (q 12)), (4, .ref (q a4)), (5, .int x5), (6, .int x6), (7, .int x7)] [] 61) (k76 : USt → Nat → Int32 → Int32 → Int32 → Int32 → Option USt) (K76 : ∀ (u : USt) (a4 : Nat) (x5 : Int32) (x6 : Int32) (x7 : Int32) (x8 : Int32), k76 u a4 x5 x6 x7 x8 = some rr → J l rmX9_reach D G (0, 0) (wX cI cO cR q t0 u b) [(0, .ref (q 12)), (4, .ref (q a4)), (5, .int x5), (6, .int x6), (7, .int x7), (8, .int x8)] [] 76) (u : USt) (a4 : Nat) (x5 : Int32) (x6 : Int32) (x7 : Int32) (x8 : Int32) (x9 : Int32) (x10 : Int32) (hm : mX9_reach_159 N k61 k76 u a4 x5 x6 x7 x8 x9 x10 = some rr) : J l rmX9_reach D G (0, 0) (wX cI cO cR q t0 u b) [(0, .ref (q 12)), (4, .ref (q a4)), (5, .int x5), (6, .int x6), (7, .int x7), (8, .int x8), (9, .int x9), (10, .int x10)] [] 159 := by
  unfold mX9_reach_159 at hm
  refine j_aload C dX9_reach_159 1 rfl ?_
  refine j_iload C dX9_reach_161 6 rfl ?_
  refine jX_L C dX9_reach_163 hm (fun ra1 hm => ?_)
  refine j_iload C dX9_reach_164 4 rfl ?_
  refine j_icmp_gtq (tgt := 202) C dX9_reach_166 (by decide) hm (fun hm => ?_) (fun hm => ?_)
  · exact J.sub [0, 1, 2, 3, 4, 5] rfl (kX9_reach_202 C hR k61 K61 k76 K76 u a4 x5 x6 x7 x8 hm)
  · refine j_aload C dX9_reach_169 1 rfl ?_
    refine j_iload C dX9_reach_171 7 rfl ?_
    refine jX_L C dX9_reach_173 hm (fun ra2 hm => ?_)
    refine j_ldc C dX9_reach_174 w3_183 ?_
    refine j_icmp_neq (tgt := 202) C dX9_reach_176 (by decide) hm (fun hm => ?_) (fun hm => ?_)
    · exact J.sub [0, 1, 2, 3, 4, 5] rfl (kX9_reach_202 C hR k61 K61 k76 K76 u a4 x5 x6 x7 x8 hm)
    · refine j_aload C dX9_reach_179 1 rfl ?_
      refine j_iload C dX9_reach_181 7 rfl ?_
      refine j_iload C dX9_reach_183 4 rfl ?_
      refine j_aload_n C dX9_reach_185 rfl 0 rfl ?_
      refine jX_g12_7_X9 C dX9_reach_186 ?_
      refine j_nmi hm (fun f3 hm => ?_)
      refine j_iadd C dX9_reach_189 ?_
      refine jX_S C dX9_reach_190 hm (fun u5 hm => ?_)
      refine j_iload C dX9_reach_191 2 rfl ?_
      refine j_iconst (v := 1) C dX9_reach_193 (by decide) ?_
      refine j_iload C dX9_reach_194 7 rfl ?_
      refine j_ishl C dX9_reach_196 ?_
      refine j_iconst (v := (-1)) C dX9_reach_197 (by decide) ?_
      refine j_ixor C dX9_reach_198 ?_
      refine j_iand C dX9_reach_199 ?_
      refine j_nmi hm (fun v6 hm => ?_)
      refine j_istore C dX9_reach_200 (by decide) rfl ?_
      exact J.sub [1, 2, 0, 3, 4, 5] rfl (kX9_reach_202 C hR k61 K61 k76 K76 u5 a4 v6 x6 x7 x8 hm)
def mX9_reach_76 (N : Nat) (k61 : USt → Nat → Int32 → Int32 → Int32 → Option USt) (k76 : USt → Nat → Int32 → Int32 → Int32 → Int32 → Option USt) (u : USt) (a4 : Nat) (x5 : Int32) (x6 : Int32) (x7 : Int32) (x8 : Int32) : Option USt := nm (u.1 18) (fun f1 => if f1 ≤ x8 then (k61 u a4 x5 x6 (x7 + 1)) else ((mX9_landing N u x8 x7).bind (fun r2 => if ¬ r2 = (-1) then (rdX u 14 x8 (fun ra3 => rdX u a4 ra3 (fun ra4 => if x7 < ra4 then (mX9_reach_159 N k61 k76 u a4 x5 x6 x7 x8 r2 ra3) else (rdX u a4 r2 (fun ra5 => if ¬ ra5 = 2147483647 then (mX9_reach_159 N k61 k76 u a4 x5 x6 x7 x8 r2 ra3) else (nm (u.1 17) (fun f6 => wrX a4 r2 (fun i7 => nm (saX u a4 i7 (x7 + f6)) (fun u8 => nm (x5 &&& ((1 <<< (r2 &&& 31)) ^^^ (-1))) (fun v9 => mX9_reach_202 N k61 k76 u8 a4 v9 x6 x7 x8)))))))))) else (mX9_reach_202 N k61 k76 u a4 x5 x6 x7 x8))))
set_option maxRecDepth 100000 in
set_option maxHeartbeats 4000000 in
theorem kX9_reach_76 {l : Launch} {D : va_G} {cI cO cR : ClassId} {q : Nat → Nat} {t0 : Nat} {b : BSt} {G : Gx} {N : Nat} {rr : USt} (C : jC l rmX9_reach D (tX cI cO cR) G cX9_reach 11 RX9) (hR : jR D (tX cI cO cR) G (0, 0) none none (wX cI cO cR q t0 rr b)) (k61 : USt → Nat → Int32 → Int32 → Int32 → Option USt) (K61 : ∀ (u : USt) (a4 : Nat) (x5 : Int32) (x6 : Int32) (x7 : Int32), k61 u a4 x5 x6 x7 = some rr → J l rmX9_reach D G (0, 0) (wX cI cO cR q t0 u b) [(0, .ref (q 12)), (4, .ref (q a4)), (5, .int x5), (6, .int x6), (7, .int x7)] [] 61) (k76 : USt → Nat → Int32 → Int32 → Int32 → Int32 → Option USt) (K76 : ∀ (u : USt) (a4 : Nat) (x5 : Int32) (x6 : Int32) (x7 : Int32) (x8 : Int32), k76 u a4 x5 x6 x7 x8 = some rr → J l rmX9_reach D G (0, 0) (wX cI cO cR q t0 u b) [(0, .ref (q 12)), (4, .ref (q a4)), (5, .int x5), (6, .int x6), (7, .int x7), (8, .int x8)] [] 76) (u : USt) (a4 : Nat) (x5 : Int32) (x6 : Int32) (x7 : Int32) (x8 : Int32) (hm : mX9_reach_76 N k61 k76 u a4 x5 x6 x7 x8 = some rr) : J l rmX9_reach D G (0, 0) (wX cI cO cR q t0 u b) [(0, .ref (q 12)), (4, .ref (q a4)), (5, .int x5), (6, .int x6), (7, .int x7), (8, .int x8)] [] 76 := by
  unfold mX9_reach_76 at hm
  refine j_iload C dX9_reach_76 5 rfl ?_
  refine j_aload_n C dX9_reach_78 rfl 0 rfl ?_
  refine jX_g12_8_X9 C dX9_reach_79 ?_
  refine j_nmi hm (fun f1 hm => ?_)
  refine j_icmp_geq (tgt := 208) C dX9_reach_82 (by decide) hm (fun hm => ?_) (fun hm => ?_)
  · refine j_iinc (v := (x7 + 1)) C dX9_reach_208 4 rfl rfl (by decide) rfl ?_
    refine j_goto (tgt := 61) C dX9_reach_211 (by decide) ?_
    exact J.sub [1, 2, 3, 4, 0] rfl (K61 u a4 x5 x6 (x7 + 1) hm)
  · refine j_aload_n C dX9_reach_85 rfl 0 rfl ?_
    refine j_iload C dX9_reach_86 5 rfl ?_
    refine j_iload C dX9_reach_88 4 rfl ?_
    refine j_bind hm (fun r2 hr2 hm => ?_)
    refine j_callV (cs' := (0, 0)) (As := [.int x8, .int x7]) (rest := []) C (qX9_landing hr2) w3_191 w3_188 w3_189 w3_190 w1_9 wd_X9_landing ⟨by decide, by decide⟩ 12 rfl rfl rfl (Nat.le_of_ble_eq_true rfl) dX9_reach_90 ⟨by decide, by decide⟩ rfl rfl ?_
    refine j_istore C dX9_reach_93 (by decide) rfl ?_
    refine j_iload C dX9_reach_95 0 rfl ?_
    refine j_iconst (v := (-1)) C dX9_reach_97 (by decide) ?_
    refine j_icmp_neq (tgt := 104) C dX9_reach_98 (by decide) hm (fun hm => ?_) (fun hm => ?_)
    · refine j_aload_n C dX9_reach_104 rfl 1 rfl ?_
      refine jX_g12_1_X9 C dX9_reach_105 ?_
      refine j_iload C dX9_reach_108 6 rfl ?_
      refine jX_L C dX9_reach_110 hm (fun ra3 hm => ?_)
      refine j_istore C dX9_reach_111 (by decide) rfl ?_
      refine j_aload C dX9_reach_113 3 rfl ?_
      refine j_iload C dX9_reach_115 0 rfl ?_
      refine jX_L C dX9_reach_117 hm (fun ra4 hm => ?_)
      refine j_iload C dX9_reach_118 6 rfl ?_
      refine j_icmp_gtq (tgt := 159) C dX9_reach_120 (by decide) hm (fun hm => ?_) (fun hm => ?_)
      · exact J.sub [2, 3, 4, 5, 6, 7, 1, 0] rfl (kX9_reach_159 C hR k61 K61 k76 K76 u a4 x5 x6 x7 x8 r2 ra3 hm)
      · refine j_aload C dX9_reach_123 3 rfl ?_
        refine j_iload C dX9_reach_125 1 rfl ?_
        refine jX_L C dX9_reach_127 hm (fun ra5 hm => ?_)
        refine j_ldc C dX9_reach_128 w3_183 ?_
        refine j_icmp_neq (tgt := 159) C dX9_reach_130 (by decide) hm (fun hm => ?_) (fun hm => ?_)
        · exact J.sub [2, 3, 4, 5, 6, 7, 1, 0] rfl (kX9_reach_159 C hR k61 K61 k76 K76 u a4 x5 x6 x7 x8 r2 ra3 hm)
        · refine j_aload C dX9_reach_133 3 rfl ?_
          refine j_iload C dX9_reach_135 1 rfl ?_
          refine j_iload C dX9_reach_137 6 rfl ?_
          refine j_aload_n C dX9_reach_139 rfl 2 rfl ?_
          refine jX_g12_7_X9 C dX9_reach_140 ?_
          refine j_nmi hm (fun f6 hm => ?_)
          refine j_iadd C dX9_reach_143 ?_
          refine jX_S C dX9_reach_144 hm (fun u8 hm => ?_)
          refine j_iload C dX9_reach_145 4 rfl ?_
          refine j_iconst (v := 1) C dX9_reach_147 (by decide) ?_
          refine j_iload C dX9_reach_148 1 rfl ?_
          refine j_ishl C dX9_reach_150 ?_
          refine j_iconst (v := (-1)) C dX9_reach_151 (by decide) ?_
          refine j_ixor C dX9_reach_152 ?_
          refine j_iand C dX9_reach_153 ?_
          refine j_nmi hm (fun v9 hm => ?_)
          refine j_istore C dX9_reach_154 (by decide) rfl ?_
          refine j_goto (tgt := 202) C dX9_reach_156 (by decide) ?_
          exact J.sub [3, 4, 0, 5, 6, 7] rfl (kX9_reach_202 C hR k61 K61 k76 K76 u8 a4 v9 x6 x7 x8 hm)
    · refine j_goto (tgt := 202) C dX9_reach_101 (by decide) ?_
      exact J.sub [1, 2, 3, 4, 5, 6] rfl (kX9_reach_202 C hR k61 K61 k76 K76 u a4 x5 x6 x7 x8 hm)
def mX9_reach_h76 (N : Nat) (k61 : USt → Nat → Int32 → Int32 → Int32 → Option USt) : Nat → USt → Nat → Int32 → Int32 → Int32 → Int32 → Option USt
  | 0, _, _, _, _, _, _ => none
  | n + 1, u, a4, x5, x6, x7, x8 => mX9_reach_76 N k61 (mX9_reach_h76 N k61 n) u a4 x5 x6 x7 x8
theorem kX9_reach_h76 {l : Launch} {D : va_G} {cI cO cR : ClassId} {q : Nat → Nat} {t0 : Nat} {b : BSt} {G : Gx} {N : Nat} {rr : USt} (C : jC l rmX9_reach D (tX cI cO cR) G cX9_reach 11 RX9) (hR : jR D (tX cI cO cR) G (0, 0) none none (wX cI cO cR q t0 rr b)) (k61 : USt → Nat → Int32 → Int32 → Int32 → Option USt) (K61 : ∀ (u : USt) (a4 : Nat) (x5 : Int32) (x6 : Int32) (x7 : Int32), k61 u a4 x5 x6 x7 = some rr → J l rmX9_reach D G (0, 0) (wX cI cO cR q t0 u b) [(0, .ref (q 12)), (4, .ref (q a4)), (5, .int x5), (6, .int x6), (7, .int x7)] [] 61) : ∀ (n : Nat) (u : USt) (a4 : Nat) (x5 : Int32) (x6 : Int32) (x7 : Int32) (x8 : Int32), mX9_reach_h76 N k61 n u a4 x5 x6 x7 x8 = some rr → J l rmX9_reach D G (0, 0) (wX cI cO cR q t0 u b) [(0, .ref (q 12)), (4, .ref (q a4)), (5, .int x5), (6, .int x6), (7, .int x7), (8, .int x8)] [] 76 := by
  intro n
  induction n with
  | zero =>
    intro u a4 x5 x6 x7 x8 hm
    have hm : (none : Option USt) = some rr := hm
    cases hm
  | succ n ih =>
    intro u a4 x5 x6 x7 x8 hm
    exact kX9_reach_76 C hR k61 K61 _ ih u a4 x5 x6 x7 x8 hm
def mX9_reach_61 (N : Nat) (k61 : USt → Nat → Int32 → Int32 → Int32 → Option USt) (u : USt) (a4 : Nat) (x5 : Int32) (x6 : Int32) (x7 : Int32) : Option USt := if x6 < x7 then (mX9_reach_214 N u) else (if x5 = 0 then (mX9_reach_214 N u) else (mX9_reach_h76 N k61 N u a4 x5 x6 x7 0))
set_option maxRecDepth 100000 in
set_option maxHeartbeats 4000000 in
theorem kX9_reach_61 {l : Launch} {D : va_G} {cI cO cR : ClassId} {q : Nat → Nat} {t0 : Nat} {b : BSt} {G : Gx} {N : Nat} {rr : USt} (C : jC l rmX9_reach D (tX cI cO cR) G cX9_reach 11 RX9) (hR : jR D (tX cI cO cR) G (0, 0) none none (wX cI cO cR q t0 rr b)) (k61 : USt → Nat → Int32 → Int32 → Int32 → Option USt) (K61 : ∀ (u : USt) (a4 : Nat) (x5 : Int32) (x6 : Int32) (x7 : Int32), k61 u a4 x5 x6 x7 = some rr → J l rmX9_reach D G (0, 0) (wX cI cO cR q t0 u b) [(0, .ref (q 12)), (4, .ref (q a4)), (5, .int x5), (6, .int x6), (7, .int x7)] [] 61) (u : USt) (a4 : Nat) (x5 : Int32) (x6 : Int32) (x7 : Int32) (hm : mX9_reach_61 N k61 u a4 x5 x6 x7 = some rr) : J l rmX9_reach D G (0, 0) (wX cI cO cR q t0 u b) [(0, .ref (q 12)), (4, .ref (q a4)), (5, .int x5), (6, .int x6), (7, .int x7)] [] 61 := by
  unfold mX9_reach_61 at hm
  refine j_iload C dX9_reach_61 4 rfl ?_
  refine j_iload C dX9_reach_63 3 rfl ?_
  refine j_icmp_gtq (tgt := 214) C dX9_reach_65 (by decide) hm (fun hm => ?_) (fun hm => ?_)
  · exact J.sub [] rfl (kX9_reach_214 C hR u hm)
  · refine j_iload C dX9_reach_68 2 rfl ?_
    refine j_if_eqq (tgt := 214) C dX9_reach_70 (by decide) hm (fun hm => ?_) (fun hm => ?_)
    · exact J.sub [] rfl (kX9_reach_214 C hR u hm)
    · refine j_iconst (v := 0) C dX9_reach_73 (by decide) ?_
      refine j_istore C dX9_reach_74 (by decide) rfl ?_
      exact J.sub [1, 2, 3, 4, 5, 0] rfl (kX9_reach_h76 C hR k61 K61 N u a4 x5 x6 x7 0 hm)
def mX9_reach_h61 (N : Nat) : Nat → USt → Nat → Int32 → Int32 → Int32 → Option USt
  | 0, _, _, _, _, _ => none
  | n + 1, u, a4, x5, x6, x7 => mX9_reach_61 N (mX9_reach_h61 N n) u a4 x5 x6 x7
theorem kX9_reach_h61 {l : Launch} {D : va_G} {cI cO cR : ClassId} {q : Nat → Nat} {t0 : Nat} {b : BSt} {G : Gx} {N : Nat} {rr : USt} (C : jC l rmX9_reach D (tX cI cO cR) G cX9_reach 11 RX9) (hR : jR D (tX cI cO cR) G (0, 0) none none (wX cI cO cR q t0 rr b))  : ∀ (n : Nat) (u : USt) (a4 : Nat) (x5 : Int32) (x6 : Int32) (x7 : Int32), mX9_reach_h61 N n u a4 x5 x6 x7 = some rr → J l rmX9_reach D G (0, 0) (wX cI cO cR q t0 u b) [(0, .ref (q 12)), (4, .ref (q a4)), (5, .int x5), (6, .int x6), (7, .int x7)] [] 61 := by
  intro n
  induction n with
  | zero =>
    intro u a4 x5 x6 x7 hm
    have hm : (none : Option USt) = some rr := hm
    cases hm
  | succ n ih =>
    intro u a4 x5 x6 x7 hm
    exact kX9_reach_61 C hR _ ih u a4 x5 x6 x7 hm
def mX9_reach (N : Nat) (u : USt) (x1 : Int32) (x2 : Int32) (x3 : Int32) (a4 : Nat) : Option USt := (mJ7_fill_53178 N u a4 2147483647).bind (fun u2 => if x1 < 0 then (mX9_reach_18 N u2) else (alX a4 (fun n3 => if x1 < n3 then (wrX a4 x1 (fun i4 => nm (saX u2 a4 i4 x2) (fun u5 => (mX9_everReached N u5 x1).bind (fun r6 => nm ((x3 &&& r6) &&& ((1 <<< (x1 &&& 31)) ^^^ (-1))) (fun v7 => nm (u5.1 16) (fun f8 => (mJ9_min_7cf53 N f8 (x2 + 400)).bind (fun r9 => nm (u5.1 17) (fun f10 => nm (r9 - f10) (fun v11 => mX9_reach_h61 N N u5 a4 v7 v11 x2))))))))) else (mX9_reach_18 N u2))))
set_option maxRecDepth 100000 in
set_option maxHeartbeats 4000000 in
theorem qX9_reach {l : Launch} {D : va_G} {cI cO cR : ClassId} {q : Nat → Nat} {t0 : Nat} {u : USt} {b : BSt} {N : Nat} {x1 : Int32} {x2 : Int32} {x3 : Int32} {a4 : Nat} {rr : USt} (hm : mX9_reach N u x1 x2 x3 a4 = some rr) : Con l D (tX cI cO cR) yX9_reach (wS yX9_reach cX9_reach 11 none) rmX9_reach [.ref (q 12), .int x1, .int x2, .int x3, .ref (q a4)] (wX cI cO cR q t0 u b) none (wX cI cO cR q t0 rr b) := by
  refine Con.of (by decide +kernel) (Nat.le_of_ble_eq_true rfl) (fun G C hR => ?_)
  unfold mX9_reach at hm
  show J l rmX9_reach D G (0, 0) (wX cI cO cR q t0 u b) [(0, .ref (q 12)), (1, .int x1), (2, .int x2), (3, .int x3), (4, .ref (q a4))] [] 0
  refine j_aload C dX9_reach_0 4 rfl ?_
  refine j_ldc C dX9_reach_2 w3_183 ?_
  refine j_bind hm (fun u2 hr1 hm => ?_)
  refine j_callSW (cs' := (0, 0)) (As := [.ref (q a4), .int 2147483647]) (rest := []) C (qJ7_fill_53178 hr1) w3_178 w3_176 w3_177 w1_15 wd_J7_fill_53178 ⟨by decide, by decide⟩ rfl (Nat.le_of_ble_eq_true rfl) dX9_reach_4 ⟨by decide, by decide⟩ rfl rfl ?_
  refine j_iload_n C dX9_reach_7 rfl 1 rfl ?_
  refine j_if_ltq (tgt := 18) C dX9_reach_8 (by decide) hm (fun hm => ?_) (fun hm => ?_)
  · exact J.sub [] rfl (kX9_reach_18 C hR u2 hm)
  · refine j_iload_n C dX9_reach_11 rfl 1 rfl ?_
    refine j_aload C dX9_reach_12 4 rfl ?_
    refine jX_len C dX9_reach_14 hm (fun n3 hm => ?_)
    refine j_icmp_ltq (tgt := 19) C dX9_reach_15 (by decide) hm (fun hm => ?_) (fun hm => ?_)
    · refine j_aload C dX9_reach_19 4 rfl ?_
      refine j_iload_n C dX9_reach_21 rfl 1 rfl ?_
      refine j_iload_n C dX9_reach_22 rfl 2 rfl ?_
      refine jX_S C dX9_reach_23 hm (fun u5 hm => ?_)
      refine j_iload_n C dX9_reach_24 rfl 3 rfl ?_
      refine j_aload_n C dX9_reach_25 rfl 0 rfl ?_
      refine j_iload_n C dX9_reach_26 rfl 1 rfl ?_
      refine j_bind hm (fun r6 hr6 hm => ?_)
      refine j_callV (cs' := (0, 0)) (As := [.int x1]) (rest := [.int x3]) C (qX9_everReached hr6) w3_187 w3_184 w3_186 w0_11 w1_9 wd_X9_everReached ⟨by decide, by decide⟩ 12 rfl rfl rfl (Nat.le_of_ble_eq_true rfl) dX9_reach_27 ⟨by decide, by decide⟩ rfl rfl ?_
      refine j_iand C dX9_reach_30 ?_
      refine j_iconst (v := 1) C dX9_reach_31 (by decide) ?_
      refine j_iload_n C dX9_reach_32 rfl 1 rfl ?_
      refine j_ishl C dX9_reach_33 ?_
      refine j_iconst (v := (-1)) C dX9_reach_34 (by decide) ?_
      refine j_ixor C dX9_reach_35 ?_
      refine j_iand C dX9_reach_36 ?_
      refine j_nmi hm (fun v7 hm => ?_)
      refine j_istore C dX9_reach_37 (by decide) rfl ?_
      refine j_aload_n C dX9_reach_39 rfl 1 rfl ?_
      refine jX_g12_6_X9 C dX9_reach_40 ?_
      refine j_nmi hm (fun f8 hm => ?_)
      refine j_iload_n C dX9_reach_43 rfl 3 rfl ?_
      refine j_sipush (v := 400) C dX9_reach_44 (by decide) ?_
      refine j_iadd C dX9_reach_47 ?_
      refine j_bind hm (fun r9 hr9 hm => ?_)
      refine j_callS (cs' := (0, 0)) (As := [.int f8, .int (x2 + 400)]) (rest := []) C (qJ9_min_7cf53 hr9) w2_103 w3_159 w2_102 w1_14 wd_J9_min_7cf53 ⟨by decide, by decide⟩ rfl (Nat.le_of_ble_eq_true rfl) dX9_reach_48 ⟨by decide, by decide⟩ rfl rfl ?_
      refine j_aload_n C dX9_reach_51 rfl 1 rfl ?_
      refine jX_g12_7_X9 C dX9_reach_52 ?_
      refine j_nmi hm (fun f10 hm => ?_)
      refine j_isub C dX9_reach_55 ?_
      refine j_nmi hm (fun v11 hm => ?_)
      refine j_istore C dX9_reach_56 (by decide) rfl ?_
      refine j_iload_n C dX9_reach_58 rfl 4 rfl ?_
      refine j_istore C dX9_reach_59 (by decide) rfl ?_
      exact J.sub [3, 7, 2, 1, 0] rfl (kX9_reach_h61 C hR N u5 a4 v7 v11 x2 hm)
    · exact J.sub [] rfl (kX9_reach_18 C hR u2 hm)
def rmX9_latestStart : Room := { frames := 1, cells := 0, slots := 0, locals := 23 }
theorem wd_X9_latestStart : yX9_latestStart.cls ≠ "java/lang/invoke/MethodHandle" ∧ yX9_latestStart.cls ≠ "java/lang/invoke/VarHandle" ∧ (parseMethodDescriptor yX9_latestStart.desc).map (fun d => d.parameters.length) = some 2 := by decide +kernel
def mX9_latestStart_14 (N : Nat) (u : USt) : Option (Int32 × USt) := some ((-1), u)
set_option maxRecDepth 100000 in
set_option maxHeartbeats 4000000 in
theorem kX9_latestStart_14 {l : Launch} {D : va_G} {cI cO cR : ClassId} {q : Nat → Nat} {t0 : Nat} {b : BSt} {G : Gx} {N : Nat} {rr : (Int32 × USt)} (C : jC l rmX9_latestStart D (tX cI cO cR) G cX9_latestStart 7 RX9) (hR : jR D (tX cI cO cR) G (0, 0) (some .int) (some (.int rr.1)) (wX cI cO cR q t0 rr.2 b))  (u : USt) (hm : mX9_latestStart_14 N u = some rr) : J l rmX9_latestStart D G (0, 0) (wX cI cO cR q t0 u b) [] [] 14 := by
  unfold mX9_latestStart_14 at hm
  refine j_iconst (v := (-1)) C dX9_latestStart_14 (by decide) ?_
  cases hm
  exact j_iret C hR dX9_latestStart_15
def mX9_latestStart_182 (N : Nat) (u : USt) (x1 : Int32) : Option (Int32 × USt) := rdX u 17 x1 (fun ra1 => some (ra1, u))
set_option maxRecDepth 100000 in
set_option maxHeartbeats 4000000 in
theorem kX9_latestStart_182 {l : Launch} {D : va_G} {cI cO cR : ClassId} {q : Nat → Nat} {t0 : Nat} {b : BSt} {G : Gx} {N : Nat} {rr : (Int32 × USt)} (C : jC l rmX9_latestStart D (tX cI cO cR) G cX9_latestStart 7 RX9) (hR : jR D (tX cI cO cR) G (0, 0) (some .int) (some (.int rr.1)) (wX cI cO cR q t0 rr.2 b))  (u : USt) (x1 : Int32) (hm : mX9_latestStart_182 N u x1 = some rr) : J l rmX9_latestStart D G (0, 0) (wX cI cO cR q t0 u b) [(0, .ref (q 12)), (1, .int x1)] [] 182 := by
  unfold mX9_latestStart_182 at hm
  refine j_aload_n C dX9_latestStart_182 rfl 0 rfl ?_
  refine jX_g12_4_X9 C dX9_latestStart_183 ?_
  refine j_iload_n C dX9_latestStart_186 rfl 1 rfl ?_
  refine jX_L C dX9_latestStart_187 hm (fun ra1 hm => ?_)
  cases hm
  exact j_iret C hR dX9_latestStart_188
def mX9_latestStart_170 (N : Nat) (k44 : USt → Int32 → Int32 → Option (Int32 × USt)) (k61 : USt → Int32 → Int32 → Int32 → Option (Int32 × USt)) (u : USt) (x1 : Int32) (x3 : Int32) (x4 : Int32) : Option (Int32 × USt) := k61 u x1 x3 (x4 + 1)
set_option maxRecDepth 100000 in
set_option maxHeartbeats 4000000 in
theorem kX9_latestStart_170 {l : Launch} {D : va_G} {cI cO cR : ClassId} {q : Nat → Nat} {t0 : Nat} {b : BSt} {G : Gx} {N : Nat} {rr : (Int32 × USt)} (C : jC l rmX9_latestStart D (tX cI cO cR) G cX9_latestStart 7 RX9) (hR : jR D (tX cI cO cR) G (0, 0) (some .int) (some (.int rr.1)) (wX cI cO cR q t0 rr.2 b)) (k44 : USt → Int32 → Int32 → Option (Int32 × USt)) (K44 : ∀ (u : USt) (x1 : Int32) (x3 : Int32), k44 u x1 x3 = some rr → J l rmX9_latestStart D G (0, 0) (wX cI cO cR q t0 u b) [(0, .ref (q 12)), (1, .int x1), (3, .int x3)] [] 44) (k61 : USt → Int32 → Int32 → Int32 → Option (Int32 × USt)) (K61 : ∀ (u : USt) (x1 : Int32) (x3 : Int32) (x4 : Int32), k61 u x1 x3 x4 = some rr → J l rmX9_latestStart D G (0, 0) (wX cI cO cR q t0 u b) [(0, .ref (q 12)), (1, .int x1), (3, .int x3), (4, .int x4)] [] 61) (u : USt) (x1 : Int32) (x3 : Int32) (x4 : Int32) (hm : mX9_latestStart_170 N k44 k61 u x1 x3 x4 = some rr) : J l rmX9_latestStart D G (0, 0) (wX cI cO cR q t0 u b) [(0, .ref (q 12)), (1, .int x1), (3, .int x3), (4, .int x4)] [] 170 := by
  unfold mX9_latestStart_170 at hm
  refine j_iinc (v := (x4 + 1)) C dX9_latestStart_170 3 rfl rfl (by decide) rfl ?_
  refine j_goto (tgt := 61) C dX9_latestStart_173 (by decide) ?_
  exact J.sub [1, 2, 3, 0] rfl (K61 u x1 x3 (x4 + 1) hm)
def mX9_latestStart_135 (N : Nat) (k44 : USt → Int32 → Int32 → Option (Int32 × USt)) (k61 : USt → Int32 → Int32 → Int32 → Option (Int32 × USt)) (u : USt) (x1 : Int32) (x3 : Int32) (x4 : Int32) (x5 : Int32) (x6 : Int32) : Option (Int32 × USt) := rdX u 17 x5 (fun ra1 => nm (u.1 17) (fun f2 => if ra1 < (x3 + f2) then (mX9_latestStart_170 N k44 k61 u x1 x3 x4) else (rdX u 17 x6 (fun ra3 => if ¬ ra3 = (-1) then (mX9_latestStart_170 N k44 k61 u x1 x3 x4) else (wrX 17 x6 (fun i4 => nm (saX u 17 i4 x3) (fun u5 => mX9_latestStart_170 N k44 k61 u5 x1 x3 x4)))))))
set_option maxRecDepth 100000 in
set_option maxHeartbeats 4000000 in
theorem kX9_latestStart_135 {l : Launch} {D : va_G} {cI cO cR : ClassId} {q : Nat → Nat} {t0 : Nat} {b : BSt} {G : Gx} {N : Nat} {rr : (Int32 × USt)} (C : jC l rmX9_latestStart D (tX cI cO cR) G cX9_latestStart 7 RX9) (hR : jR D (tX cI cO cR) G (0, 0) (some .int) (some (.int rr.1)) (wX cI cO cR q t0 rr.2 b)) (k44 : USt → Int32 → Int32 → Option (Int32 × USt)) (K44 : ∀ (u : USt) (x1 : Int32) (x3 : Int32), k44 u x1 x3 = some rr → J l rmX9_latestStart D G (0, 0) (wX cI cO cR q t0 u b) [(0, .ref (q 12)), (1, .int x1), (3, .int x3)] [] 44) (k61 : USt → Int32 → Int32 → Int32 → Option (Int32 × USt)) (K61 : ∀ (u : USt) (x1 : Int32) (x3 : Int32) (x4 : Int32), k61 u x1 x3 x4 = some rr → J l rmX9_latestStart D G (0, 0) (wX cI cO cR q t0 u b) [(0, .ref (q 12)), (1, .int x1), (3, .int x3), (4, .int x4)] [] 61) (u : USt) (x1 : Int32) (x3 : Int32) (x4 : Int32) (x5 : Int32) (x6 : Int32) (hm : mX9_latestStart_135 N k44 k61 u x1 x3 x4 x5 x6 = some rr) : J l rmX9_latestStart D G (0, 0) (wX cI cO cR q t0 u b) [(0, .ref (q 12)), (1, .int x1), (3, .int x3), (4, .int x4), (5, .int x5), (6, .int x6)] [] 135 := by
  unfold mX9_latestStart_135 at hm
  refine j_aload_n C dX9_latestStart_135 rfl 0 rfl ?_
  refine jX_g12_4_X9 C dX9_latestStart_136 ?_
  refine j_iload C dX9_latestStart_139 4 rfl ?_
  refine jX_L C dX9_latestStart_141 hm (fun ra1 hm => ?_)
  refine j_iload_n C dX9_latestStart_142 rfl 2 rfl ?_
  refine j_aload_n C dX9_latestStart_143 rfl 0 rfl ?_
  refine jX_g12_7_X9 C dX9_latestStart_144 ?_
  refine j_nmi hm (fun f2 hm => ?_)
  refine j_iadd C dX9_latestStart_147 ?_
  refine j_icmp_ltq (tgt := 170) C dX9_latestStart_148 (by decide) hm (fun hm => ?_) (fun hm => ?_)
  · exact J.sub [0, 1, 2, 3] rfl (kX9_latestStart_170 C hR k44 K44 k61 K61 u x1 x3 x4 hm)
  · refine j_aload_n C dX9_latestStart_151 rfl 0 rfl ?_
    refine jX_g12_4_X9 C dX9_latestStart_152 ?_
    refine j_iload C dX9_latestStart_155 5 rfl ?_
    refine jX_L C dX9_latestStart_157 hm (fun ra3 hm => ?_)
    refine j_iconst (v := (-1)) C dX9_latestStart_158 (by decide) ?_
    refine j_icmp_neq (tgt := 170) C dX9_latestStart_159 (by decide) hm (fun hm => ?_) (fun hm => ?_)
    · exact J.sub [0, 1, 2, 3] rfl (kX9_latestStart_170 C hR k44 K44 k61 K61 u x1 x3 x4 hm)
    · refine j_aload_n C dX9_latestStart_162 rfl 0 rfl ?_
      refine jX_g12_4_X9 C dX9_latestStart_163 ?_
      refine j_iload C dX9_latestStart_166 5 rfl ?_
      refine j_iload_n C dX9_latestStart_168 rfl 2 rfl ?_
      refine jX_S C dX9_latestStart_169 hm (fun u5 hm => ?_)
      exact J.sub [0, 1, 2, 3] rfl (kX9_latestStart_170 C hR k44 K44 k61 K61 u5 x1 x3 x4 hm)
def mX9_latestStart_61 (N : Nat) (k44 : USt → Int32 → Int32 → Option (Int32 × USt)) (k61 : USt → Int32 → Int32 → Int32 → Option (Int32 × USt)) (u : USt) (x1 : Int32) (x3 : Int32) (x4 : Int32) : Option (Int32 × USt) := nm (u.1 18) (fun f1 => if f1 ≤ x4 then (k44 u x1 (x3 + (-1))) else ((mX9_landing N u x4 x3).bind (fun r2 => if ¬ r2 = (-1) then (rdX u 14 x4 (fun ra3 => rdX u 17 ra3 (fun ra4 => nm (u.1 17) (fun f5 => if ra4 < (x3 + f5) then (mX9_latestStart_135 N k44 k61 u x1 x3 x4 r2 ra3) else (rdX u 17 r2 (fun ra6 => if ¬ ra6 = (-1) then (mX9_latestStart_135 N k44 k61 u x1 x3 x4 r2 ra3) else (wrX 17 r2 (fun i7 => nm (saX u 17 i7 x3) (fun u8 => mX9_latestStart_170 N k44 k61 u8 x1 x3 x4))))))))) else (mX9_latestStart_170 N k44 k61 u x1 x3 x4))))
set_option maxRecDepth 100000 in
set_option maxHeartbeats 4000000 in
theorem kX9_latestStart_61 {l : Launch} {D : va_G} {cI cO cR : ClassId} {q : Nat → Nat} {t0 : Nat} {b : BSt} {G : Gx} {N : Nat} {rr : (Int32 × USt)} (C : jC l rmX9_latestStart D (tX cI cO cR) G cX9_latestStart 7 RX9) (hR : jR D (tX cI cO cR) G (0, 0) (some .int) (some (.int rr.1)) (wX cI cO cR q t0 rr.2 b)) (k44 : USt → Int32 → Int32 → Option (Int32 × USt)) (K44 : ∀ (u : USt) (x1 : Int32) (x3 : Int32), k44 u x1 x3 = some rr → J l rmX9_latestStart D G (0, 0) (wX cI cO cR q t0 u b) [(0, .ref (q 12)), (1, .int x1), (3, .int x3)] [] 44) (k61 : USt → Int32 → Int32 → Int32 → Option (Int32 × USt)) (K61 : ∀ (u : USt) (x1 : Int32) (x3 : Int32) (x4 : Int32), k61 u x1 x3 x4 = some rr → J l rmX9_latestStart D G (0, 0) (wX cI cO cR q t0 u b) [(0, .ref (q 12)), (1, .int x1), (3, .int x3), (4, .int x4)] [] 61) (u : USt) (x1 : Int32) (x3 : Int32) (x4 : Int32) (hm : mX9_latestStart_61 N k44 k61 u x1 x3 x4 = some rr) : J l rmX9_latestStart D G (0, 0) (wX cI cO cR q t0 u b) [(0, .ref (q 12)), (1, .int x1), (3, .int x3), (4, .int x4)] [] 61 := by
  unfold mX9_latestStart_61 at hm
  refine j_iload C dX9_latestStart_61 3 rfl ?_
  refine j_aload_n C dX9_latestStart_63 rfl 0 rfl ?_
  refine jX_g12_8_X9 C dX9_latestStart_64 ?_
  refine j_nmi hm (fun f1 hm => ?_)
  refine j_icmp_geq (tgt := 176) C dX9_latestStart_67 (by decide) hm (fun hm => ?_) (fun hm => ?_)
  · refine j_iinc (v := (x3 + (-1))) C dX9_latestStart_176 2 rfl rfl (by decide) rfl ?_
    refine j_goto (tgt := 44) C dX9_latestStart_179 (by decide) ?_
    exact J.sub [1, 2, 0] rfl (K44 u x1 (x3 + (-1)) hm)
  · refine j_aload_n C dX9_latestStart_70 rfl 0 rfl ?_
    refine j_iload C dX9_latestStart_71 3 rfl ?_
    refine j_iload_n C dX9_latestStart_73 rfl 2 rfl ?_
    refine j_bind hm (fun r2 hr2 hm => ?_)
    refine j_callV (cs' := (0, 0)) (As := [.int x4, .int x3]) (rest := []) C (qX9_landing hr2) w3_191 w3_188 w3_189 w3_190 w1_9 wd_X9_landing ⟨by decide, by decide⟩ 12 rfl rfl rfl (Nat.le_of_ble_eq_true rfl) dX9_latestStart_74 ⟨by decide, by decide⟩ rfl rfl ?_
    refine j_istore C dX9_latestStart_77 (by decide) rfl ?_
    refine j_iload C dX9_latestStart_79 0 rfl ?_
    refine j_iconst (v := (-1)) C dX9_latestStart_81 (by decide) ?_
    refine j_icmp_neq (tgt := 88) C dX9_latestStart_82 (by decide) hm (fun hm => ?_) (fun hm => ?_)
    · refine j_aload_n C dX9_latestStart_88 rfl 1 rfl ?_
      refine jX_g12_1_X9 C dX9_latestStart_89 ?_
      refine j_iload C dX9_latestStart_92 4 rfl ?_
      refine jX_L C dX9_latestStart_94 hm (fun ra3 hm => ?_)
      refine j_istore C dX9_latestStart_95 (by decide) rfl ?_
      refine j_aload_n C dX9_latestStart_97 rfl 2 rfl ?_
      refine jX_g12_4_X9 C dX9_latestStart_98 ?_
      refine j_iload C dX9_latestStart_101 0 rfl ?_
      refine jX_L C dX9_latestStart_103 hm (fun ra4 hm => ?_)
      refine j_iload_n C dX9_latestStart_104 rfl 4 rfl ?_
      refine j_aload_n C dX9_latestStart_105 rfl 2 rfl ?_
      refine jX_g12_7_X9 C dX9_latestStart_106 ?_
      refine j_nmi hm (fun f5 hm => ?_)
      refine j_iadd C dX9_latestStart_109 ?_
      refine j_icmp_ltq (tgt := 135) C dX9_latestStart_110 (by decide) hm (fun hm => ?_) (fun hm => ?_)
      · exact J.sub [2, 3, 4, 5, 1, 0] rfl (kX9_latestStart_135 C hR k44 K44 k61 K61 u x1 x3 x4 r2 ra3 hm)
      · refine j_aload_n C dX9_latestStart_113 rfl 2 rfl ?_
        refine jX_g12_4_X9 C dX9_latestStart_114 ?_
        refine j_iload C dX9_latestStart_117 1 rfl ?_
        refine jX_L C dX9_latestStart_119 hm (fun ra6 hm => ?_)
        refine j_iconst (v := (-1)) C dX9_latestStart_120 (by decide) ?_
        refine j_icmp_neq (tgt := 135) C dX9_latestStart_121 (by decide) hm (fun hm => ?_) (fun hm => ?_)
        · exact J.sub [2, 3, 4, 5, 1, 0] rfl (kX9_latestStart_135 C hR k44 K44 k61 K61 u x1 x3 x4 r2 ra3 hm)
        · refine j_aload_n C dX9_latestStart_124 rfl 2 rfl ?_
          refine jX_g12_4_X9 C dX9_latestStart_125 ?_
          refine j_iload C dX9_latestStart_128 1 rfl ?_
          refine j_iload_n C dX9_latestStart_130 rfl 4 rfl ?_
          refine jX_S C dX9_latestStart_131 hm (fun u8 hm => ?_)
          refine j_goto (tgt := 170) C dX9_latestStart_132 (by decide) ?_
          exact J.sub [2, 3, 4, 5] rfl (kX9_latestStart_170 C hR k44 K44 k61 K61 u8 x1 x3 x4 hm)
    · refine j_goto (tgt := 170) C dX9_latestStart_85 (by decide) ?_
      exact J.sub [1, 2, 3, 4] rfl (kX9_latestStart_170 C hR k44 K44 k61 K61 u x1 x3 x4 hm)
def mX9_latestStart_h61 (N : Nat) (k44 : USt → Int32 → Int32 → Option (Int32 × USt)) : Nat → USt → Int32 → Int32 → Int32 → Option (Int32 × USt)
  | 0, _, _, _, _ => none
  | n + 1, u, x1, x3, x4 => mX9_latestStart_61 N k44 (mX9_latestStart_h61 N k44 n) u x1 x3 x4
theorem kX9_latestStart_h61 {l : Launch} {D : va_G} {cI cO cR : ClassId} {q : Nat → Nat} {t0 : Nat} {b : BSt} {G : Gx} {N : Nat} {rr : (Int32 × USt)} (C : jC l rmX9_latestStart D (tX cI cO cR) G cX9_latestStart 7 RX9) (hR : jR D (tX cI cO cR) G (0, 0) (some .int) (some (.int rr.1)) (wX cI cO cR q t0 rr.2 b)) (k44 : USt → Int32 → Int32 → Option (Int32 × USt)) (K44 : ∀ (u : USt) (x1 : Int32) (x3 : Int32), k44 u x1 x3 = some rr → J l rmX9_latestStart D G (0, 0) (wX cI cO cR q t0 u b) [(0, .ref (q 12)), (1, .int x1), (3, .int x3)] [] 44) : ∀ (n : Nat) (u : USt) (x1 : Int32) (x3 : Int32) (x4 : Int32), mX9_latestStart_h61 N k44 n u x1 x3 x4 = some rr → J l rmX9_latestStart D G (0, 0) (wX cI cO cR q t0 u b) [(0, .ref (q 12)), (1, .int x1), (3, .int x3), (4, .int x4)] [] 61 := by
  intro n
  induction n with
  | zero =>
    intro u x1 x3 x4 hm
    have hm : (none : Option (Int32 × USt)) = some rr := hm
    cases hm
  | succ n ih =>
    intro u x1 x3 x4 hm
    exact kX9_latestStart_61 C hR k44 K44 _ ih u x1 x3 x4 hm
def mX9_latestStart_44 (N : Nat) (k44 : USt → Int32 → Int32 → Option (Int32 × USt)) (u : USt) (x1 : Int32) (x3 : Int32) : Option (Int32 × USt) := if x3 < 0 then (mX9_latestStart_182 N u x1) else (rdX u 17 x1 (fun ra1 => if ¬ ra1 = (-1) then (mX9_latestStart_182 N u x1) else (mX9_latestStart_h61 N k44 N u x1 x3 0)))
set_option maxRecDepth 100000 in
set_option maxHeartbeats 4000000 in
theorem kX9_latestStart_44 {l : Launch} {D : va_G} {cI cO cR : ClassId} {q : Nat → Nat} {t0 : Nat} {b : BSt} {G : Gx} {N : Nat} {rr : (Int32 × USt)} (C : jC l rmX9_latestStart D (tX cI cO cR) G cX9_latestStart 7 RX9) (hR : jR D (tX cI cO cR) G (0, 0) (some .int) (some (.int rr.1)) (wX cI cO cR q t0 rr.2 b)) (k44 : USt → Int32 → Int32 → Option (Int32 × USt)) (K44 : ∀ (u : USt) (x1 : Int32) (x3 : Int32), k44 u x1 x3 = some rr → J l rmX9_latestStart D G (0, 0) (wX cI cO cR q t0 u b) [(0, .ref (q 12)), (1, .int x1), (3, .int x3)] [] 44) (u : USt) (x1 : Int32) (x3 : Int32) (hm : mX9_latestStart_44 N k44 u x1 x3 = some rr) : J l rmX9_latestStart D G (0, 0) (wX cI cO cR q t0 u b) [(0, .ref (q 12)), (1, .int x1), (3, .int x3)] [] 44 := by
  unfold mX9_latestStart_44 at hm
  refine j_iload_n C dX9_latestStart_44 rfl 2 rfl ?_
  refine j_if_ltq (tgt := 182) C dX9_latestStart_45 (by decide) hm (fun hm => ?_) (fun hm => ?_)
  · exact J.sub [0, 1] rfl (kX9_latestStart_182 C hR u x1 hm)
  · refine j_aload_n C dX9_latestStart_48 rfl 0 rfl ?_
    refine jX_g12_4_X9 C dX9_latestStart_49 ?_
    refine j_iload_n C dX9_latestStart_52 rfl 1 rfl ?_
    refine jX_L C dX9_latestStart_53 hm (fun ra1 hm => ?_)
    refine j_iconst (v := (-1)) C dX9_latestStart_54 (by decide) ?_
    refine j_icmp_neq (tgt := 182) C dX9_latestStart_55 (by decide) hm (fun hm => ?_) (fun hm => ?_)
    · exact J.sub [0, 1] rfl (kX9_latestStart_182 C hR u x1 hm)
    · refine j_iconst (v := 0) C dX9_latestStart_58 (by decide) ?_
      refine j_istore C dX9_latestStart_59 (by decide) rfl ?_
      exact J.sub [1, 2, 3, 0] rfl (kX9_latestStart_h61 C hR k44 K44 N u x1 x3 0 hm)
def mX9_latestStart_h44 (N : Nat) : Nat → USt → Int32 → Int32 → Option (Int32 × USt)
  | 0, _, _, _ => none
  | n + 1, u, x1, x3 => mX9_latestStart_44 N (mX9_latestStart_h44 N n) u x1 x3
theorem kX9_latestStart_h44 {l : Launch} {D : va_G} {cI cO cR : ClassId} {q : Nat → Nat} {t0 : Nat} {b : BSt} {G : Gx} {N : Nat} {rr : (Int32 × USt)} (C : jC l rmX9_latestStart D (tX cI cO cR) G cX9_latestStart 7 RX9) (hR : jR D (tX cI cO cR) G (0, 0) (some .int) (some (.int rr.1)) (wX cI cO cR q t0 rr.2 b))  : ∀ (n : Nat) (u : USt) (x1 : Int32) (x3 : Int32), mX9_latestStart_h44 N n u x1 x3 = some rr → J l rmX9_latestStart D G (0, 0) (wX cI cO cR q t0 u b) [(0, .ref (q 12)), (1, .int x1), (3, .int x3)] [] 44 := by
  intro n
  induction n with
  | zero =>
    intro u x1 x3 hm
    have hm : (none : Option (Int32 × USt)) = some rr := hm
    cases hm
  | succ n ih =>
    intro u x1 x3 hm
    exact kX9_latestStart_44 C hR _ ih u x1 x3 hm
def mX9_latestStart (N : Nat) (u : USt) (x1 : Int32) (x2 : Int32) : Option (Int32 × USt) := (mX10_isIslet N x1).bind (fun r1 => if r1 = 0 then (mX9_latestStart_14 N u) else ((mX10_isIslet N x2).bind (fun r2 => if ¬ r2 = 0 then ((mJ7_fill_53178 N u 17 (-1)).bind (fun u4 => nm (u4.1 16) (fun f5 => wrX 17 x2 (fun i6 => nm (saX u4 17 i6 f5) (fun u7 => nm (u7.1 16) (fun f8 => nm (u7.1 17) (fun f9 => nm (f8 - f9) (fun v10 => mX9_latestStart_h44 N N u7 x1 v10)))))))) else (mX9_latestStart_14 N u))))
set_option maxRecDepth 100000 in
set_option maxHeartbeats 4000000 in
theorem qX9_latestStart {l : Launch} {D : va_G} {cI cO cR : ClassId} {q : Nat → Nat} {t0 : Nat} {u : USt} {b : BSt} {N : Nat} {x1 : Int32} {x2 : Int32} {rr : (Int32 × USt)} (hm : mX9_latestStart N u x1 x2 = some rr) : Con l D (tX cI cO cR) yX9_latestStart (wS yX9_latestStart cX9_latestStart 7 (some .int)) rmX9_latestStart [.ref (q 12), .int x1, .int x2] (wX cI cO cR q t0 u b) (some (.int rr.1)) (wX cI cO cR q t0 rr.2 b) := by
  refine Con.of (by decide +kernel) (Nat.le_of_ble_eq_true rfl) (fun G C hR => ?_)
  unfold mX9_latestStart at hm
  show J l rmX9_latestStart D G (0, 0) (wX cI cO cR q t0 u b) [(0, .ref (q 12)), (1, .int x1), (2, .int x2)] [] 0
  refine j_iload_n C dX9_latestStart_0 rfl 1 rfl ?_
  refine j_bind hm (fun r1 hr1 hm => ?_)
  refine j_callSN (cs' := (0, 0)) (As := [.int x1]) (rest := []) C (qX10_isIslet hr1) w2_50 w3_201 w2_49 w1_1 wd_X10_isIslet ⟨by decide, by decide⟩ rfl (Nat.le_of_ble_eq_true rfl) dX9_latestStart_1 ⟨by decide, by decide⟩ rfl rfl ?_
  refine j_if_eqq (tgt := 14) C dX9_latestStart_4 (by decide) hm (fun hm => ?_) (fun hm => ?_)
  · exact J.sub [] rfl (kX9_latestStart_14 C hR u hm)
  · refine j_iload_n C dX9_latestStart_7 rfl 2 rfl ?_
    refine j_bind hm (fun r2 hr2 hm => ?_)
    refine j_callSN (cs' := (0, 0)) (As := [.int x2]) (rest := []) C (qX10_isIslet hr2) w2_50 w3_201 w2_49 w1_1 wd_X10_isIslet ⟨by decide, by decide⟩ rfl (Nat.le_of_ble_eq_true rfl) dX9_latestStart_8 ⟨by decide, by decide⟩ rfl rfl ?_
    refine j_if_neq (tgt := 16) C dX9_latestStart_11 (by decide) hm (fun hm => ?_) (fun hm => ?_)
    · refine j_aload_n C dX9_latestStart_16 rfl 0 rfl ?_
      refine jX_g12_4_X9 C dX9_latestStart_17 ?_
      refine j_iconst (v := (-1)) C dX9_latestStart_20 (by decide) ?_
      refine j_bind hm (fun u4 hr3 hm => ?_)
      refine j_callSW (cs' := (0, 0)) (As := [.ref (q 17), .int (-1)]) (rest := []) C (qJ7_fill_53178 hr3) w3_178 w3_176 w3_177 w1_15 wd_J7_fill_53178 ⟨by decide, by decide⟩ rfl (Nat.le_of_ble_eq_true rfl) dX9_latestStart_21 ⟨by decide, by decide⟩ rfl rfl ?_
      refine j_aload_n C dX9_latestStart_24 rfl 0 rfl ?_
      refine jX_g12_4_X9 C dX9_latestStart_25 ?_
      refine j_iload_n C dX9_latestStart_28 rfl 2 rfl ?_
      refine j_aload_n C dX9_latestStart_29 rfl 0 rfl ?_
      refine jX_g12_6_X9 C dX9_latestStart_30 ?_
      refine j_nmi hm (fun f5 hm => ?_)
      refine jX_S C dX9_latestStart_33 hm (fun u7 hm => ?_)
      refine j_aload_n C dX9_latestStart_34 rfl 0 rfl ?_
      refine jX_g12_6_X9 C dX9_latestStart_35 ?_
      refine j_nmi hm (fun f8 hm => ?_)
      refine j_aload_n C dX9_latestStart_38 rfl 0 rfl ?_
      refine jX_g12_7_X9 C dX9_latestStart_39 ?_
      refine j_nmi hm (fun f9 hm => ?_)
      refine j_isub C dX9_latestStart_42 ?_
      refine j_nmi hm (fun v10 hm => ?_)
      refine j_istore_n C dX9_latestStart_43 rfl (by decide) rfl ?_
      exact J.sub [1, 2, 0] rfl (kX9_latestStart_h44 C hR N u7 x1 v10 hm)
    · exact J.sub [] rfl (kX9_latestStart_14 C hR u hm)
def rmX9_foresee : Room := { frames := 1, cells := 0, slots := 0, locals := 23 }
theorem wd_X9_foresee : yX9_foresee.cls ≠ "java/lang/invoke/MethodHandle" ∧ yX9_foresee.cls ≠ "java/lang/invoke/VarHandle" ∧ (parseMethodDescriptor yX9_foresee.desc).map (fun d => d.parameters.length) = some 1 := by decide +kernel
def mX9_foresee_192 (N : Nat) (k21 : USt → Int32 → Int32 → Int32 → Option USt) (u : USt) (x1 : Int32) (x2 : Int32) (x3 : Int32) : Option USt := k21 u x1 x2 (x3 + (-1))
set_option maxRecDepth 100000 in
set_option maxHeartbeats 4000000 in
theorem kX9_foresee_192 {l : Launch} {D : va_G} {cI cO cR : ClassId} {q : Nat → Nat} {t0 : Nat} {b : BSt} {G : Gx} {N : Nat} {rr : USt} (C : jC l rmX9_foresee D (tX cI cO cR) G cX9_foresee 8 RX9) (hR : jR D (tX cI cO cR) G (0, 0) none none (wX cI cO cR q t0 rr b)) (k21 : USt → Int32 → Int32 → Int32 → Option USt) (K21 : ∀ (u : USt) (x1 : Int32) (x2 : Int32) (x3 : Int32), k21 u x1 x2 x3 = some rr → J l rmX9_foresee D G (0, 0) (wX cI cO cR q t0 u b) [(0, .ref (q 12)), (1, .int x1), (2, .int x2), (3, .int x3)] [] 21) (u : USt) (x1 : Int32) (x2 : Int32) (x3 : Int32) (hm : mX9_foresee_192 N k21 u x1 x2 x3 = some rr) : J l rmX9_foresee D G (0, 0) (wX cI cO cR q t0 u b) [(0, .ref (q 12)), (1, .int x1), (2, .int x2), (3, .int x3)] [] 192 := by
  unfold mX9_foresee_192 at hm
  refine j_iinc (v := (x3 + (-1))) C dX9_foresee_192 3 rfl rfl (by decide) rfl ?_
  refine j_goto (tgt := 21) C dX9_foresee_195 (by decide) ?_
  exact J.sub [1, 2, 3, 0] rfl (K21 u x1 x2 (x3 + (-1)) hm)
def mX9_foresee_64 (N : Nat) (k21 : USt → Int32 → Int32 → Int32 → Option USt) (k28 : USt → Int32 → Int32 → Int32 → Int32 → Option USt) (u : USt) (x1 : Int32) (x2 : Int32) (x3 : Int32) (x4 : Int32) (s0 : Int32) (s1 : Int32) (t2 : Nat) : Option USt := wrX t2 s1 (fun i1 => nm (saX u t2 i1 s0) (fun u2 => k28 u2 x1 x2 x3 (x4 + 1)))
set_option maxRecDepth 100000 in
set_option maxHeartbeats 4000000 in
theorem kX9_foresee_64 {l : Launch} {D : va_G} {cI cO cR : ClassId} {q : Nat → Nat} {t0 : Nat} {b : BSt} {G : Gx} {N : Nat} {rr : USt} (C : jC l rmX9_foresee D (tX cI cO cR) G cX9_foresee 8 RX9) (hR : jR D (tX cI cO cR) G (0, 0) none none (wX cI cO cR q t0 rr b)) (k21 : USt → Int32 → Int32 → Int32 → Option USt) (K21 : ∀ (u : USt) (x1 : Int32) (x2 : Int32) (x3 : Int32), k21 u x1 x2 x3 = some rr → J l rmX9_foresee D G (0, 0) (wX cI cO cR q t0 u b) [(0, .ref (q 12)), (1, .int x1), (2, .int x2), (3, .int x3)] [] 21) (k28 : USt → Int32 → Int32 → Int32 → Int32 → Option USt) (K28 : ∀ (u : USt) (x1 : Int32) (x2 : Int32) (x3 : Int32) (x4 : Int32), k28 u x1 x2 x3 x4 = some rr → J l rmX9_foresee D G (0, 0) (wX cI cO cR q t0 u b) [(0, .ref (q 12)), (1, .int x1), (2, .int x2), (3, .int x3), (4, .int x4)] [] 28) (u : USt) (x1 : Int32) (x2 : Int32) (x3 : Int32) (x4 : Int32) (s0 : Int32) (s1 : Int32) (t2 : Nat) (hm : mX9_foresee_64 N k21 k28 u x1 x2 x3 x4 s0 s1 t2 = some rr) : J l rmX9_foresee D G (0, 0) (wX cI cO cR q t0 u b) [(0, .ref (q 12)), (1, .int x1), (2, .int x2), (3, .int x3), (4, .int x4)] [.int s0, .int s1, .ref (q t2)] 64 := by
  unfold mX9_foresee_64 at hm
  refine jX_S C dX9_foresee_64 hm (fun u2 hm => ?_)
  refine j_iinc (v := (x4 + 1)) C dX9_foresee_65 4 rfl rfl (by decide) rfl ?_
  refine j_goto (tgt := 28) C dX9_foresee_68 (by decide) ?_
  exact J.sub [1, 2, 3, 4, 0] rfl (K28 u2 x1 x2 x3 (x4 + 1) hm)
def mX9_foresee_186 (N : Nat) (k21 : USt → Int32 → Int32 → Int32 → Option USt) (k96 : USt → Int32 → Int32 → Int32 → Int32 → Option USt) (u : USt) (x1 : Int32) (x2 : Int32) (x3 : Int32) (x4 : Int32) : Option USt := k96 u x1 x2 x3 (x4 + 1)
set_option maxRecDepth 100000 in
set_option maxHeartbeats 4000000 in
theorem kX9_foresee_186 {l : Launch} {D : va_G} {cI cO cR : ClassId} {q : Nat → Nat} {t0 : Nat} {b : BSt} {G : Gx} {N : Nat} {rr : USt} (C : jC l rmX9_foresee D (tX cI cO cR) G cX9_foresee 8 RX9) (hR : jR D (tX cI cO cR) G (0, 0) none none (wX cI cO cR q t0 rr b)) (k21 : USt → Int32 → Int32 → Int32 → Option USt) (K21 : ∀ (u : USt) (x1 : Int32) (x2 : Int32) (x3 : Int32), k21 u x1 x2 x3 = some rr → J l rmX9_foresee D G (0, 0) (wX cI cO cR q t0 u b) [(0, .ref (q 12)), (1, .int x1), (2, .int x2), (3, .int x3)] [] 21) (k96 : USt → Int32 → Int32 → Int32 → Int32 → Option USt) (K96 : ∀ (u : USt) (x1 : Int32) (x2 : Int32) (x3 : Int32) (x4 : Int32), k96 u x1 x2 x3 x4 = some rr → J l rmX9_foresee D G (0, 0) (wX cI cO cR q t0 u b) [(0, .ref (q 12)), (1, .int x1), (2, .int x2), (3, .int x3), (4, .int x4)] [] 96) (u : USt) (x1 : Int32) (x2 : Int32) (x3 : Int32) (x4 : Int32) (hm : mX9_foresee_186 N k21 k96 u x1 x2 x3 x4 = some rr) : J l rmX9_foresee D G (0, 0) (wX cI cO cR q t0 u b) [(0, .ref (q 12)), (1, .int x1), (2, .int x2), (3, .int x3), (4, .int x4)] [] 186 := by
  unfold mX9_foresee_186 at hm
  refine j_iinc (v := (x4 + 1)) C dX9_foresee_186 4 rfl rfl (by decide) rfl ?_
  refine j_goto (tgt := 96) C dX9_foresee_189 (by decide) ?_
  exact J.sub [1, 2, 3, 4, 0] rfl (K96 u x1 x2 x3 (x4 + 1) hm)
def mX9_foresee_96 (N : Nat) (k21 : USt → Int32 → Int32 → Int32 → Option USt) (k96 : USt → Int32 → Int32 → Int32 → Int32 → Option USt) (u : USt) (x1 : Int32) (x2 : Int32) (x3 : Int32) (x4 : Int32) : Option USt := nm (u.1 18) (fun f1 => if f1 ≤ x4 then (mX9_foresee_192 N k21 u x1 x2 x3) else ((mX9_landing N u x4 x3).bind (fun r2 => if ¬ r2 = (-1) then (rdX u 14 x4 (fun ra3 => wr 8 ra3 (fun j4 => wr 8 r2 (fun j5 => rdX u (36 + j4) x3 (fun ra6 => nm (u.1 17) (fun f7 => rdX u (36 + j5) (x3 + f7) (fun ra8 => (mJ9_min_7cf53 N ra6 ra8).bind (fun r9 => wrX (36 + j4) x3 (fun i10 => nm (saX u (36 + j4) i10 r9) (fun u11 => rdX u11 (36 + j5) x3 (fun ra12 => nm (u11.1 17) (fun f13 => rdX u11 (36 + j4) (x3 + f13) (fun ra14 => (mJ9_min_7cf53 N ra12 ra14).bind (fun r15 => wrX (36 + j5) x3 (fun i16 => nm (saX u11 (36 + j5) i16 r15) (fun u17 => mX9_foresee_186 N k21 k96 u17 x1 x2 x3 x4)))))))))))))))) else (mX9_foresee_186 N k21 k96 u x1 x2 x3 x4))))
set_option maxRecDepth 100000 in
set_option maxHeartbeats 4000000 in
theorem kX9_foresee_96 {l : Launch} {D : va_G} {cI cO cR : ClassId} {q : Nat → Nat} {t0 : Nat} {b : BSt} {G : Gx} {N : Nat} {rr : USt} (C : jC l rmX9_foresee D (tX cI cO cR) G cX9_foresee 8 RX9) (hR : jR D (tX cI cO cR) G (0, 0) none none (wX cI cO cR q t0 rr b)) (k21 : USt → Int32 → Int32 → Int32 → Option USt) (K21 : ∀ (u : USt) (x1 : Int32) (x2 : Int32) (x3 : Int32), k21 u x1 x2 x3 = some rr → J l rmX9_foresee D G (0, 0) (wX cI cO cR q t0 u b) [(0, .ref (q 12)), (1, .int x1), (2, .int x2), (3, .int x3)] [] 21) (k96 : USt → Int32 → Int32 → Int32 → Int32 → Option USt) (K96 : ∀ (u : USt) (x1 : Int32) (x2 : Int32) (x3 : Int32) (x4 : Int32), k96 u x1 x2 x3 x4 = some rr → J l rmX9_foresee D G (0, 0) (wX cI cO cR q t0 u b) [(0, .ref (q 12)), (1, .int x1), (2, .int x2), (3, .int x3), (4, .int x4)] [] 96) (u : USt) (x1 : Int32) (x2 : Int32) (x3 : Int32) (x4 : Int32) (hm : mX9_foresee_96 N k21 k96 u x1 x2 x3 x4 = some rr) : J l rmX9_foresee D G (0, 0) (wX cI cO cR q t0 u b) [(0, .ref (q 12)), (1, .int x1), (2, .int x2), (3, .int x3), (4, .int x4)] [] 96 := by
  unfold mX9_foresee_96 at hm
  refine j_iload C dX9_foresee_96 4 rfl ?_
  refine j_aload_n C dX9_foresee_98 rfl 0 rfl ?_
  refine jX_g12_8_X9 C dX9_foresee_99 ?_
  refine j_nmi hm (fun f1 hm => ?_)
  refine j_icmp_geq (tgt := 192) C dX9_foresee_102 (by decide) hm (fun hm => ?_) (fun hm => ?_)
  · exact J.sub [0, 1, 2, 3] rfl (kX9_foresee_192 C hR k21 K21 u x1 x2 x3 hm)
  · refine j_aload_n C dX9_foresee_105 rfl 0 rfl ?_
    refine j_iload C dX9_foresee_106 4 rfl ?_
    refine j_iload_n C dX9_foresee_108 rfl 3 rfl ?_
    refine j_bind hm (fun r2 hr2 hm => ?_)
    refine j_callV (cs' := (0, 0)) (As := [.int x4, .int x3]) (rest := []) C (qX9_landing hr2) w3_191 w3_188 w3_189 w3_190 w1_9 wd_X9_landing ⟨by decide, by decide⟩ 12 rfl rfl rfl (Nat.le_of_ble_eq_true rfl) dX9_foresee_109 ⟨by decide, by decide⟩ rfl rfl ?_
    refine j_istore C dX9_foresee_112 (by decide) rfl ?_
    refine j_iload C dX9_foresee_114 0 rfl ?_
    refine j_iconst (v := (-1)) C dX9_foresee_116 (by decide) ?_
    refine j_icmp_neq (tgt := 123) C dX9_foresee_117 (by decide) hm (fun hm => ?_) (fun hm => ?_)
    · refine j_aload_n C dX9_foresee_123 rfl 1 rfl ?_
      refine jX_g12_3_X9 C dX9_foresee_124 ?_
      refine j_aload_n C dX9_foresee_127 rfl 1 rfl ?_
      refine jX_g12_1_X9 C dX9_foresee_128 ?_
      refine j_iload C dX9_foresee_131 5 rfl ?_
      refine jX_L C dX9_foresee_133 hm (fun ra3 hm => ?_)
      refine jX_o16 C dX9_foresee_134 hm (fun j4 hm => ?_)
      refine j_astore C dX9_foresee_135 (by decide) rfl ?_
      refine j_aload_n C dX9_foresee_137 rfl 2 rfl ?_
      refine jX_g12_3_X9 C dX9_foresee_138 ?_
      refine j_iload C dX9_foresee_141 1 rfl ?_
      refine jX_o16 C dX9_foresee_143 hm (fun j5 hm => ?_)
      refine j_astore C dX9_foresee_144 (by decide) rfl ?_
      refine j_aload C dX9_foresee_146 1 rfl ?_
      refine j_iload_n C dX9_foresee_148 rfl 6 rfl ?_
      refine j_aload C dX9_foresee_149 1 rfl ?_
      refine j_iload_n C dX9_foresee_151 rfl 6 rfl ?_
      refine jX_L C dX9_foresee_152 hm (fun ra6 hm => ?_)
      refine j_aload C dX9_foresee_153 0 rfl ?_
      refine j_iload_n C dX9_foresee_155 rfl 6 rfl ?_
      refine j_aload_n C dX9_foresee_156 rfl 3 rfl ?_
      refine jX_g12_7_X9 C dX9_foresee_157 ?_
      refine j_nmi hm (fun f7 hm => ?_)
      refine j_iadd C dX9_foresee_160 ?_
      refine jX_L C dX9_foresee_161 hm (fun ra8 hm => ?_)
      refine j_bind hm (fun r9 hr9 hm => ?_)
      refine j_callS (cs' := (0, 0)) (As := [.int ra6, .int ra8]) (rest := [.int x3, .ref (q (36 + j4))]) C (qJ9_min_7cf53 hr9) w2_103 w3_159 w2_102 w1_14 wd_J9_min_7cf53 ⟨by decide, by decide⟩ rfl (Nat.le_of_ble_eq_true rfl) dX9_foresee_162 ⟨by decide, by decide⟩ rfl rfl ?_
      refine jX_S C dX9_foresee_165 hm (fun u11 hm => ?_)
      refine j_aload C dX9_foresee_166 0 rfl ?_
      refine j_iload_n C dX9_foresee_168 rfl 6 rfl ?_
      refine j_aload C dX9_foresee_169 0 rfl ?_
      refine j_iload_n C dX9_foresee_171 rfl 6 rfl ?_
      refine jX_L C dX9_foresee_172 hm (fun ra12 hm => ?_)
      refine j_aload C dX9_foresee_173 1 rfl ?_
      refine j_iload_n C dX9_foresee_175 rfl 6 rfl ?_
      refine j_aload_n C dX9_foresee_176 rfl 3 rfl ?_
      refine jX_g12_7_X9 C dX9_foresee_177 ?_
      refine j_nmi hm (fun f13 hm => ?_)
      refine j_iadd C dX9_foresee_180 ?_
      refine jX_L C dX9_foresee_181 hm (fun ra14 hm => ?_)
      refine j_bind hm (fun r15 hr15 hm => ?_)
      refine j_callS (cs' := (0, 0)) (As := [.int ra12, .int ra14]) (rest := [.int x3, .ref (q (36 + j5))]) C (qJ9_min_7cf53 hr15) w2_103 w3_159 w2_102 w1_14 wd_J9_min_7cf53 ⟨by decide, by decide⟩ rfl (Nat.le_of_ble_eq_true rfl) dX9_foresee_182 ⟨by decide, by decide⟩ rfl rfl ?_
      refine jX_S C dX9_foresee_185 hm (fun u17 hm => ?_)
      exact J.sub [3, 4, 5, 6, 7] rfl (kX9_foresee_186 C hR k21 K21 k96 K96 u17 x1 x2 x3 x4 hm)
    · refine j_goto (tgt := 186) C dX9_foresee_120 (by decide) ?_
      exact J.sub [1, 2, 3, 4, 5] rfl (kX9_foresee_186 C hR k21 K21 k96 K96 u x1 x2 x3 x4 hm)
def mX9_foresee_h96 (N : Nat) (k21 : USt → Int32 → Int32 → Int32 → Option USt) : Nat → USt → Int32 → Int32 → Int32 → Int32 → Option USt
  | 0, _, _, _, _, _ => none
  | n + 1, u, x1, x2, x3, x4 => mX9_foresee_96 N k21 (mX9_foresee_h96 N k21 n) u x1 x2 x3 x4
theorem kX9_foresee_h96 {l : Launch} {D : va_G} {cI cO cR : ClassId} {q : Nat → Nat} {t0 : Nat} {b : BSt} {G : Gx} {N : Nat} {rr : USt} (C : jC l rmX9_foresee D (tX cI cO cR) G cX9_foresee 8 RX9) (hR : jR D (tX cI cO cR) G (0, 0) none none (wX cI cO cR q t0 rr b)) (k21 : USt → Int32 → Int32 → Int32 → Option USt) (K21 : ∀ (u : USt) (x1 : Int32) (x2 : Int32) (x3 : Int32), k21 u x1 x2 x3 = some rr → J l rmX9_foresee D G (0, 0) (wX cI cO cR q t0 u b) [(0, .ref (q 12)), (1, .int x1), (2, .int x2), (3, .int x3)] [] 21) : ∀ (n : Nat) (u : USt) (x1 : Int32) (x2 : Int32) (x3 : Int32) (x4 : Int32), mX9_foresee_h96 N k21 n u x1 x2 x3 x4 = some rr → J l rmX9_foresee D G (0, 0) (wX cI cO cR q t0 u b) [(0, .ref (q 12)), (1, .int x1), (2, .int x2), (3, .int x3), (4, .int x4)] [] 96 := by
  intro n
  induction n with
  | zero =>
    intro u x1 x2 x3 x4 hm
    have hm : (none : Option USt) = some rr := hm
    cases hm
  | succ n ih =>
    intro u x1 x2 x3 x4 hm
    exact kX9_foresee_96 C hR k21 K21 _ ih u x1 x2 x3 x4 hm
def mX9_foresee_28 (N : Nat) (k21 : USt → Int32 → Int32 → Int32 → Option USt) (k28 : USt → Int32 → Int32 → Int32 → Int32 → Option USt) (u : USt) (x1 : Int32) (x2 : Int32) (x3 : Int32) (x4 : Int32) : Option USt := if 8 ≤ x4 then (wr 8 x1 (fun j1 => wrX (36 + j1) x3 (fun i2 => nm (saX u (36 + j1) i2 x3) (fun u3 => nm (u3.1 17) (fun f4 => if (x3 + f4) ≤ x2 then (mX9_foresee_h96 N k21 N u3 x1 x2 x3 0) else (mX9_foresee_192 N k21 u3 x1 x2 x3)))))) else (wr 8 x4 (fun j5 => if ¬ x3 = x2 then (wr 8 x4 (fun j6 => rdX u (36 + j6) (x3 + 1) (fun ra7 => mX9_foresee_64 N k21 k28 u x1 x2 x3 x4 ra7 x3 (36 + j5)))) else (mX9_foresee_64 N k21 k28 u x1 x2 x3 x4 2147483647 x3 (36 + j5))))
set_option maxRecDepth 100000 in
set_option maxHeartbeats 4000000 in
theorem kX9_foresee_28 {l : Launch} {D : va_G} {cI cO cR : ClassId} {q : Nat → Nat} {t0 : Nat} {b : BSt} {G : Gx} {N : Nat} {rr : USt} (C : jC l rmX9_foresee D (tX cI cO cR) G cX9_foresee 8 RX9) (hR : jR D (tX cI cO cR) G (0, 0) none none (wX cI cO cR q t0 rr b)) (k21 : USt → Int32 → Int32 → Int32 → Option USt) (K21 : ∀ (u : USt) (x1 : Int32) (x2 : Int32) (x3 : Int32), k21 u x1 x2 x3 = some rr → J l rmX9_foresee D G (0, 0) (wX cI cO cR q t0 u b) [(0, .ref (q 12)), (1, .int x1), (2, .int x2), (3, .int x3)] [] 21) (k28 : USt → Int32 → Int32 → Int32 → Int32 → Option USt) (K28 : ∀ (u : USt) (x1 : Int32) (x2 : Int32) (x3 : Int32) (x4 : Int32), k28 u x1 x2 x3 x4 = some rr → J l rmX9_foresee D G (0, 0) (wX cI cO cR q t0 u b) [(0, .ref (q 12)), (1, .int x1), (2, .int x2), (3, .int x3), (4, .int x4)] [] 28) (u : USt) (x1 : Int32) (x2 : Int32) (x3 : Int32) (x4 : Int32) (hm : mX9_foresee_28 N k21 k28 u x1 x2 x3 x4 = some rr) : J l rmX9_foresee D G (0, 0) (wX cI cO cR q t0 u b) [(0, .ref (q 12)), (1, .int x1), (2, .int x2), (3, .int x3), (4, .int x4)] [] 28 := by
  unfold mX9_foresee_28 at hm
  refine j_iload C dX9_foresee_28 4 rfl ?_
  refine j_bipush (v := 8) C dX9_foresee_30 (by decide) ?_
  refine j_icmp_geq (tgt := 71) C dX9_foresee_32 (by decide) hm (fun hm => ?_) (fun hm => ?_)
  · refine j_aload_n C dX9_foresee_71 rfl 0 rfl ?_
    refine jX_g12_3_X9 C dX9_foresee_72 ?_
    refine j_iload_n C dX9_foresee_75 rfl 1 rfl ?_
    refine jX_o16 C dX9_foresee_76 hm (fun j1 hm => ?_)
    refine j_iload_n C dX9_foresee_77 rfl 3 rfl ?_
    refine j_iload_n C dX9_foresee_78 rfl 3 rfl ?_
    refine jX_S C dX9_foresee_79 hm (fun u3 hm => ?_)
    refine j_iload_n C dX9_foresee_80 rfl 3 rfl ?_
    refine j_aload_n C dX9_foresee_81 rfl 0 rfl ?_
    refine jX_g12_7_X9 C dX9_foresee_82 ?_
    refine j_nmi hm (fun f4 hm => ?_)
    refine j_iadd C dX9_foresee_85 ?_
    refine j_iload_n C dX9_foresee_86 rfl 2 rfl ?_
    refine j_icmp_leq (tgt := 93) C dX9_foresee_87 (by decide) hm (fun hm => ?_) (fun hm => ?_)
    · refine j_iconst (v := 0) C dX9_foresee_93 (by decide) ?_
      refine j_istore C dX9_foresee_94 (by decide) rfl ?_
      exact J.sub [1, 2, 3, 4, 0] rfl (kX9_foresee_h96 C hR k21 K21 N u3 x1 x2 x3 0 hm)
    · refine j_goto (tgt := 192) C dX9_foresee_90 (by decide) ?_
      exact J.sub [0, 1, 2, 3] rfl (kX9_foresee_192 C hR k21 K21 u3 x1 x2 x3 hm)
  · refine j_aload_n C dX9_foresee_35 rfl 0 rfl ?_
    refine jX_g12_3_X9 C dX9_foresee_36 ?_
    refine j_iload C dX9_foresee_39 4 rfl ?_
    refine jX_o16 C dX9_foresee_41 hm (fun j5 hm => ?_)
    refine j_iload_n C dX9_foresee_42 rfl 3 rfl ?_
    refine j_iload_n C dX9_foresee_43 rfl 3 rfl ?_
    refine j_iload_n C dX9_foresee_44 rfl 2 rfl ?_
    refine j_icmp_neq (tgt := 53) C dX9_foresee_45 (by decide) hm (fun hm => ?_) (fun hm => ?_)
    · refine j_aload_n C dX9_foresee_53 rfl 0 rfl ?_
      refine jX_g12_3_X9 C dX9_foresee_54 ?_
      refine j_iload C dX9_foresee_57 4 rfl ?_
      refine jX_o16 C dX9_foresee_59 hm (fun j6 hm => ?_)
      refine j_iload_n C dX9_foresee_60 rfl 3 rfl ?_
      refine j_iconst (v := 1) C dX9_foresee_61 (by decide) ?_
      refine j_iadd C dX9_foresee_62 ?_
      refine jX_L C dX9_foresee_63 hm (fun ra7 hm => ?_)
      exact kX9_foresee_64 C hR k21 K21 k28 K28 u x1 x2 x3 x4 ra7 x3 (36 + j5) hm
    · refine j_ldc C dX9_foresee_48 w3_183 ?_
      refine j_goto (tgt := 64) C dX9_foresee_50 (by decide) ?_
      exact kX9_foresee_64 C hR k21 K21 k28 K28 u x1 x2 x3 x4 2147483647 x3 (36 + j5) hm
def mX9_foresee_h28 (N : Nat) (k21 : USt → Int32 → Int32 → Int32 → Option USt) : Nat → USt → Int32 → Int32 → Int32 → Int32 → Option USt
  | 0, _, _, _, _, _ => none
  | n + 1, u, x1, x2, x3, x4 => mX9_foresee_28 N k21 (mX9_foresee_h28 N k21 n) u x1 x2 x3 x4
theorem kX9_foresee_h28 {l : Launch} {D : va_G} {cI cO cR : ClassId} {q : Nat → Nat} {t0 : Nat} {b : BSt} {G : Gx} {N : Nat} {rr : USt} (C : jC l rmX9_foresee D (tX cI cO cR) G cX9_foresee 8 RX9) (hR : jR D (tX cI cO cR) G (0, 0) none none (wX cI cO cR q t0 rr b)) (k21 : USt → Int32 → Int32 → Int32 → Option USt) (K21 : ∀ (u : USt) (x1 : Int32) (x2 : Int32) (x3 : Int32), k21 u x1 x2 x3 = some rr → J l rmX9_foresee D G (0, 0) (wX cI cO cR q t0 u b) [(0, .ref (q 12)), (1, .int x1), (2, .int x2), (3, .int x3)] [] 21) : ∀ (n : Nat) (u : USt) (x1 : Int32) (x2 : Int32) (x3 : Int32) (x4 : Int32), mX9_foresee_h28 N k21 n u x1 x2 x3 x4 = some rr → J l rmX9_foresee D G (0, 0) (wX cI cO cR q t0 u b) [(0, .ref (q 12)), (1, .int x1), (2, .int x2), (3, .int x3), (4, .int x4)] [] 28 := by
  intro n
  induction n with
  | zero =>
    intro u x1 x2 x3 x4 hm
    have hm : (none : Option USt) = some rr := hm
    cases hm
  | succ n ih =>
    intro u x1 x2 x3 x4 hm
    exact kX9_foresee_28 C hR k21 K21 _ ih u x1 x2 x3 x4 hm
def mX9_foresee_21 (N : Nat) (k21 : USt → Int32 → Int32 → Int32 → Option USt) (u : USt) (x1 : Int32) (x2 : Int32) (x3 : Int32) : Option USt := if x3 < 0 then (some u) else (mX9_foresee_h28 N k21 N u x1 x2 x3 0)
set_option maxRecDepth 100000 in
set_option maxHeartbeats 4000000 in
theorem kX9_foresee_21 {l : Launch} {D : va_G} {cI cO cR : ClassId} {q : Nat → Nat} {t0 : Nat} {b : BSt} {G : Gx} {N : Nat} {rr : USt} (C : jC l rmX9_foresee D (tX cI cO cR) G cX9_foresee 8 RX9) (hR : jR D (tX cI cO cR) G (0, 0) none none (wX cI cO cR q t0 rr b)) (k21 : USt → Int32 → Int32 → Int32 → Option USt) (K21 : ∀ (u : USt) (x1 : Int32) (x2 : Int32) (x3 : Int32), k21 u x1 x2 x3 = some rr → J l rmX9_foresee D G (0, 0) (wX cI cO cR q t0 u b) [(0, .ref (q 12)), (1, .int x1), (2, .int x2), (3, .int x3)] [] 21) (u : USt) (x1 : Int32) (x2 : Int32) (x3 : Int32) (hm : mX9_foresee_21 N k21 u x1 x2 x3 = some rr) : J l rmX9_foresee D G (0, 0) (wX cI cO cR q t0 u b) [(0, .ref (q 12)), (1, .int x1), (2, .int x2), (3, .int x3)] [] 21 := by
  unfold mX9_foresee_21 at hm
  refine j_iload_n C dX9_foresee_21 rfl 3 rfl ?_
  refine j_if_ltq (tgt := 198) C dX9_foresee_22 (by decide) hm (fun hm => ?_) (fun hm => ?_)
  · cases hm
    exact j_vret C hR dX9_foresee_198
  · refine j_iconst (v := 0) C dX9_foresee_25 (by decide) ?_
    refine j_istore C dX9_foresee_26 (by decide) rfl ?_
    exact J.sub [1, 2, 3, 4, 0] rfl (kX9_foresee_h28 C hR k21 K21 N u x1 x2 x3 0 hm)
def mX9_foresee_h21 (N : Nat) : Nat → USt → Int32 → Int32 → Int32 → Option USt
  | 0, _, _, _, _ => none
  | n + 1, u, x1, x2, x3 => mX9_foresee_21 N (mX9_foresee_h21 N n) u x1 x2 x3
theorem kX9_foresee_h21 {l : Launch} {D : va_G} {cI cO cR : ClassId} {q : Nat → Nat} {t0 : Nat} {b : BSt} {G : Gx} {N : Nat} {rr : USt} (C : jC l rmX9_foresee D (tX cI cO cR) G cX9_foresee 8 RX9) (hR : jR D (tX cI cO cR) G (0, 0) none none (wX cI cO cR q t0 rr b))  : ∀ (n : Nat) (u : USt) (x1 : Int32) (x2 : Int32) (x3 : Int32), mX9_foresee_h21 N n u x1 x2 x3 = some rr → J l rmX9_foresee D G (0, 0) (wX cI cO cR q t0 u b) [(0, .ref (q 12)), (1, .int x1), (2, .int x2), (3, .int x3)] [] 21 := by
  intro n
  induction n with
  | zero =>
    intro u x1 x2 x3 hm
    have hm : (none : Option USt) = some rr := hm
    cases hm
  | succ n ih =>
    intro u x1 x2 x3 hm
    exact kX9_foresee_21 C hR _ ih u x1 x2 x3 hm
def mX9_foresee (N : Nat) (u : USt) (x1 : Int32) : Option USt := (mX10_isIslet N x1).bind (fun r1 => if ¬ r1 = 0 then (nm (u.1 16) (fun f2 => (mJ9_min_7cf53 N f2 459).bind (fun r3 => mX9_foresee_h21 N N u x1 r3 r3))) else (some u))
set_option maxRecDepth 100000 in
set_option maxHeartbeats 4000000 in
theorem qX9_foresee {l : Launch} {D : va_G} {cI cO cR : ClassId} {q : Nat → Nat} {t0 : Nat} {u : USt} {b : BSt} {N : Nat} {x1 : Int32} {rr : USt} (hm : mX9_foresee N u x1 = some rr) : Con l D (tX cI cO cR) yX9_foresee (wS yX9_foresee cX9_foresee 8 none) rmX9_foresee [.ref (q 12), .int x1] (wX cI cO cR q t0 u b) none (wX cI cO cR q t0 rr b) := by
  refine Con.of (by decide +kernel) (Nat.le_of_ble_eq_true rfl) (fun G C hR => ?_)
  unfold mX9_foresee at hm
  show J l rmX9_foresee D G (0, 0) (wX cI cO cR q t0 u b) [(0, .ref (q 12)), (1, .int x1)] [] 0
  refine j_iload_n C dX9_foresee_0 rfl 1 rfl ?_
  refine j_bind hm (fun r1 hr1 hm => ?_)
  refine j_callSN (cs' := (0, 0)) (As := [.int x1]) (rest := []) C (qX10_isIslet hr1) w2_50 w3_201 w2_49 w1_1 wd_X10_isIslet ⟨by decide, by decide⟩ rfl (Nat.le_of_ble_eq_true rfl) dX9_foresee_1 ⟨by decide, by decide⟩ rfl rfl ?_
  refine j_if_neq (tgt := 8) C dX9_foresee_4 (by decide) hm (fun hm => ?_) (fun hm => ?_)
  · refine j_aload_n C dX9_foresee_8 rfl 0 rfl ?_
    refine jX_g12_6_X9 C dX9_foresee_9 ?_
    refine j_nmi hm (fun f2 hm => ?_)
    refine j_sipush (v := 459) C dX9_foresee_12 (by decide) ?_
    refine j_bind hm (fun r3 hr3 hm => ?_)
    refine j_callS (cs' := (0, 0)) (As := [.int f2, .int 459]) (rest := []) C (qJ9_min_7cf53 hr3) w2_103 w3_159 w2_102 w1_14 wd_J9_min_7cf53 ⟨by decide, by decide⟩ rfl (Nat.le_of_ble_eq_true rfl) dX9_foresee_15 ⟨by decide, by decide⟩ rfl rfl ?_
    refine j_istore_n C dX9_foresee_18 rfl (by decide) rfl ?_
    refine j_iload_n C dX9_foresee_19 rfl 0 rfl ?_
    refine j_istore_n C dX9_foresee_20 rfl (by decide) rfl ?_
    exact J.sub [2, 3, 1, 0] rfl (kX9_foresee_h21 C hR N u x1 r3 r3 hm)
  · cases hm
    exact j_vret C hR dX9_foresee_7
