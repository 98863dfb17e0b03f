def rmX10_minutesApart : Room := { frames := 5, cells := 0, slots := 0, locals := 111 }
theorem wd_X10_minutesApart : yX10_minutesApart.cls ≠ "java/lang/invoke/MethodHandle" ∧ yX10_minutesApart.cls ≠ "java/lang/invoke/VarHandle" ∧ (parseMethodDescriptor yX10_minutesApart.desc).map (fun d => d.parameters.length) = some 3 := by decide +kernel
def mX10_minutesApart_27 (N : Nat) (u : USt) (b : BSt) (k6 : Int32 → Int32 → Int32 → Int32 → Int32 → Option Int32) (x1 : Int32) (x2 : Int32) (x3 : Int32) (x4 : Int32) (x5 : Int32) : Option Int32 := k6 x1 x2 x3 x4 (x5 + 1)
set_option maxRecDepth 100000 in
set_option maxHeartbeats 4000000 in
theorem kX10_minutesApart_27 {l : Launch} {D : va_G} {cI cO cR : ClassId} {q : Nat → Nat} {t0 : Nat} {u : USt} {b : BSt} {G : Gx} {N : Nat} {rr : Int32} (C : jC l rmX10_minutesApart D (tX cI cO cR) G cX10_minutesApart 6 RX10) (hR : jR D (tX cI cO cR) G (0, 0) (some .int) (some (.int rr)) (wX cI cO cR q t0 u b)) (k6 : Int32 → Int32 → Int32 → Int32 → Int32 → Option Int32) (K6 : ∀ (x1 : Int32) (x2 : Int32) (x3 : Int32) (x4 : Int32) (x5 : Int32), k6 x1 x2 x3 x4 x5 = some rr → J l rmX10_minutesApart D G (0, 0) (wX cI cO cR q t0 u b) [(0, .ref (q 0)), (1, .int x1), (2, .int x2), (3, .int x3), (4, .int x4), (5, .int x5)] [] 6) (x1 : Int32) (x2 : Int32) (x3 : Int32) (x4 : Int32) (x5 : Int32) (hm : mX10_minutesApart_27 N u b k6 x1 x2 x3 x4 x5 = some rr) : J l rmX10_minutesApart D G (0, 0) (wX cI cO cR q t0 u b) [(0, .ref (q 0)), (1, .int x1), (2, .int x2), (3, .int x3), (4, .int x4), (5, .int x5)] [] 27 := by
  unfold mX10_minutesApart_27 at hm
  refine j_iinc (v := (x5 + 1)) C dX10_minutesApart_27 5 rfl rfl (by decide) rfl ?_
  refine j_goto (tgt := 6) C dX10_minutesApart_30 (by decide) ?_
  exact J.sub [1, 2, 3, 4, 5, 0] rfl (K6 x1 x2 x3 x4 (x5 + 1) hm)
def mX10_minutesApart_6 (N : Nat) (u : USt) (b : BSt) (k6 : Int32 → Int32 → Int32 → Int32 → Int32 → Option Int32) (x1 : Int32) (x2 : Int32) (x3 : Int32) (x4 : Int32) (x5 : Int32) : Option Int32 := if (x2 + x3) ≤ x5 then (some x4) else ((mX10_isJoined N u b x1 x5).bind (fun r1 => if ¬ r1 = 0 then (mX10_minutesApart_27 N u b k6 x1 x2 x3 x4 x5) else (mX10_minutesApart_27 N u b k6 x1 x2 x3 (x4 + 1) x5)))
set_option maxRecDepth 100000 in
set_option maxHeartbeats 4000000 in
theorem kX10_minutesApart_6 {l : Launch} {D : va_G} {cI cO cR : ClassId} {q : Nat → Nat} {t0 : Nat} {u : USt} {b : BSt} {G : Gx} {N : Nat} {rr : Int32} (C : jC l rmX10_minutesApart D (tX cI cO cR) G cX10_minutesApart 6 RX10) (hR : jR D (tX cI cO cR) G (0, 0) (some .int) (some (.int rr)) (wX cI cO cR q t0 u b)) (k6 : Int32 → Int32 → Int32 → Int32 → Int32 → Option Int32) (K6 : ∀ (x1 : Int32) (x2 : Int32) (x3 : Int32) (x4 : Int32) (x5 : Int32), k6 x1 x2 x3 x4 x5 = some rr → J l rmX10_minutesApart D G (0, 0) (wX cI cO cR q t0 u b) [(0, .ref (q 0)), (1, .int x1), (2, .int x2), (3, .int x3), (4, .int x4), (5, .int x5)] [] 6) (x1 : Int32) (x2 : Int32) (x3 : Int32) (x4 : Int32) (x5 : Int32) (hm : mX10_minutesApart_6 N u b k6 x1 x2 x3 x4 x5 = some rr) : J l rmX10_minutesApart D G (0, 0) (wX cI cO cR q t0 u b) [(0, .ref (q 0)), (1, .int x1), (2, .int x2), (3, .int x3), (4, .int x4), (5, .int x5)] [] 6 := by
  unfold mX10_minutesApart_6 at hm
  refine j_iload C dX10_minutesApart_6 5 rfl ?_
  refine j_iload_n C dX10_minutesApart_8 rfl 2 rfl ?_
  refine j_iload_n C dX10_minutesApart_9 rfl 3 rfl ?_
  refine j_iadd C dX10_minutesApart_10 ?_
  refine j_icmp_geq (tgt := 33) C dX10_minutesApart_11 (by decide) hm (fun hm => ?_) (fun hm => ?_)
  · refine j_iload C dX10_minutesApart_33 4 rfl ?_
    cases hm
    exact j_iret C hR dX10_minutesApart_35
  · refine j_aload_n C dX10_minutesApart_14 rfl 0 rfl ?_
    refine j_iload_n C dX10_minutesApart_15 rfl 1 rfl ?_
    refine j_iload C dX10_minutesApart_16 5 rfl ?_
    refine j_bind hm (fun r1 hr1 hm => ?_)
    refine j_callV (cs' := (0, 0)) (As := [.int x1, .int x5]) (rest := []) C (qX10_isJoined hr1) w3_220 w3_217 w3_219 w0_13 w1_1 wd_X10_isJoined ⟨by decide, by decide⟩ 0 rfl rfl rfl (Nat.le_of_ble_eq_true rfl) dX10_minutesApart_18 ⟨by decide, by decide⟩ rfl rfl ?_
    refine j_if_neq (tgt := 27) C dX10_minutesApart_21 (by decide) hm (fun hm => ?_) (fun hm => ?_)
    · exact kX10_minutesApart_27 C hR k6 K6 x1 x2 x3 x4 x5 hm
    · refine j_iinc (v := (x4 + 1)) C dX10_minutesApart_24 4 rfl rfl (by decide) rfl ?_
      exact J.sub [1, 2, 3, 4, 0, 5] rfl (kX10_minutesApart_27 C hR k6 K6 x1 x2 x3 (x4 + 1) x5 hm)
def mX10_minutesApart_h6 (N : Nat) (u : USt) (b : BSt) : Nat → Int32 → Int32 → Int32 → Int32 → Int32 → Option Int32
  | 0, _, _, _, _, _ => none
  | n + 1, x1, x2, x3, x4, x5 => mX10_minutesApart_6 N u b (mX10_minutesApart_h6 N u b n) x1 x2 x3 x4 x5
theorem kX10_minutesApart_h6 {l : Launch} {D : va_G} {cI cO cR : ClassId} {q : Nat → Nat} {t0 : Nat} {u : USt} {b : BSt} {G : Gx} {N : Nat} {rr : Int32} (C : jC l rmX10_minutesApart D (tX cI cO cR) G cX10_minutesApart 6 RX10) (hR : jR D (tX cI cO cR) G (0, 0) (some .int) (some (.int rr)) (wX cI cO cR q t0 u b))  : ∀ (n : Nat) (x1 : Int32) (x2 : Int32) (x3 : Int32) (x4 : Int32) (x5 : Int32), mX10_minutesApart_h6 N u b n x1 x2 x3 x4 x5 = some rr → J l rmX10_minutesApart D G (0, 0) (wX cI cO cR q t0 u b) [(0, .ref (q 0)), (1, .int x1), (2, .int x2), (3, .int x3), (4, .int x4), (5, .int x5)] [] 6 := by
  intro n
  induction n with
  | zero =>
    intro x1 x2 x3 x4 x5 hm
    have hm : (none : Option Int32) = some rr := hm
    cases hm
  | succ n ih =>
    intro x1 x2 x3 x4 x5 hm
    exact kX10_minutesApart_6 C hR _ ih x1 x2 x3 x4 x5 hm
def mX10_minutesApart (N : Nat) (u : USt) (b : BSt) (x1 : Int32) (x2 : Int32) (x3 : Int32) : Option Int32 := mX10_minutesApart_h6 N u b N x1 x2 x3 0 x2
set_option maxRecDepth 100000 in
set_option maxHeartbeats 4000000 in
theorem qX10_minutesApart {l : Launch} {D : va_G} {cI cO cR : ClassId} {q : Nat → Nat} {t0 : Nat} {u : USt} {b : BSt} {N : Nat} {x1 : Int32} {x2 : Int32} {x3 : Int32} {rr : Int32} (hm : mX10_minutesApart N u b x1 x2 x3 = some rr) : Con l D (tX cI cO cR) yX10_minutesApart (wS yX10_minutesApart cX10_minutesApart 6 (some .int)) rmX10_minutesApart [.ref (q 0), .int x1, .int x2, .int x3] (wX cI cO cR q t0 u b) (some (.int rr)) (wX cI cO cR q t0 u b) := by
  refine Con.of (by decide +kernel) (Nat.le_of_ble_eq_true rfl) (fun G C hR => ?_)
  unfold mX10_minutesApart at hm
  show J l rmX10_minutesApart D G (0, 0) (wX cI cO cR q t0 u b) [(0, .ref (q 0)), (1, .int x1), (2, .int x2), (3, .int x3)] [] 0
  refine j_iconst (v := 0) C dX10_minutesApart_0 (by decide) ?_
  refine j_istore C dX10_minutesApart_1 (by decide) rfl ?_
  refine j_iload_n C dX10_minutesApart_3 rfl 3 rfl ?_
  refine j_istore C dX10_minutesApart_4 (by decide) rfl ?_
  exact J.sub [2, 3, 4, 5, 1, 0] rfl (kX10_minutesApart_h6 C hR N x1 x2 x3 0 x2 hm)
def rmX10_cut : Room := { frames := 6, cells := 0, slots := 0, locals := 136 }
theorem wd_X10_cut : yX10_cut.cls ≠ "java/lang/invoke/MethodHandle" ∧ yX10_cut.cls ≠ "java/lang/invoke/VarHandle" ∧ (parseMethodDescriptor yX10_cut.desc).map (fun d => d.parameters.length) = some 3 := by decide +kernel
def mX10_cut_29 (N : Nat) (u : USt) (b : BSt) : Option Int32 := some (-102)
set_option maxRecDepth 100000 in
set_option maxHeartbeats 4000000 in
theorem kX10_cut_29 {l : Launch} {D : va_G} {cI cO cR : ClassId} {q : Nat → Nat} {t0 : Nat} {u : USt} {b : BSt} {G : Gx} {N : Nat} {rr : Int32} (C : jC l rmX10_cut D (tX cI cO cR) G cX10_cut 4 RX10) (hR : jR D (tX cI cO cR) G (0, 0) (some .int) (some (.int rr)) (wX cI cO cR q t0 u b))   (hm : mX10_cut_29 N u b = some rr) : J l rmX10_cut D G (0, 0) (wX cI cO cR q t0 u b) [] [] 29 := by
  unfold mX10_cut_29 at hm
  refine j_bipush (v := (-102)) C dX10_cut_29 (by decide) ?_
  cases hm
  exact j_iret C hR dX10_cut_31
def mX10_cut (N : Nat) (u : USt) (b : BSt) (x1 : Int32) (x2 : Int32) (x3 : Int32) : Option Int32 := (mX10_isIslet N x1).bind (fun r1 => if ¬ r1 = 0 then ((mX10_isMinute N x2).bind (fun r2 => if r2 = 0 then (mX10_cut_29 N u b) else (if x3 < 1 then (mX10_cut_29 N u b) else (if x3 ≤ 400 then ((mX10_minutesApart N u b x1 x2 x3).bind (fun r3 => some r3)) else (mX10_cut_29 N u b))))) else (some (-101)))
set_option maxRecDepth 100000 in
set_option maxHeartbeats 4000000 in
theorem qX10_cut {l : Launch} {D : va_G} {cI cO cR : ClassId} {q : Nat → Nat} {t0 : Nat} {u : USt} {b : BSt} {N : Nat} {x1 : Int32} {x2 : Int32} {x3 : Int32} {rr : Int32} (hm : mX10_cut N u b x1 x2 x3 = some rr) : Con l D (tX cI cO cR) yX10_cut (wS yX10_cut cX10_cut 4 (some .int)) rmX10_cut [.ref (q 0), .int x1, .int x2, .int x3] (wX cI cO cR q t0 u b) (some (.int rr)) (wX cI cO cR q t0 u b) := by
  refine Con.of (by decide +kernel) (Nat.le_of_ble_eq_true rfl) (fun G C hR => ?_)
  unfold mX10_cut at hm
  show J l rmX10_cut D G (0, 0) (wX cI cO cR q t0 u b) [(0, .ref (q 0)), (1, .int x1), (2, .int x2), (3, .int x3)] [] 0
  refine j_iload_n C dX10_cut_0 rfl 1 rfl ?_
  refine j_bind hm (fun r1 hr1 hm => ?_)
  refine j_callS (cs' := (0, 0)) (As := [.int x1]) (rest := []) C (qX10_isIslet hr1) w2_50 w3_144 w2_49 w1_1 wd_X10_isIslet ⟨by decide, by decide⟩ rfl (Nat.le_of_ble_eq_true rfl) dX10_cut_1 ⟨by decide, by decide⟩ rfl rfl ?_
  refine j_if_neq (tgt := 10) C dX10_cut_4 (by decide) hm (fun hm => ?_) (fun hm => ?_)
  · refine j_iload_n C dX10_cut_10 rfl 2 rfl ?_
    refine j_bind hm (fun r2 hr2 hm => ?_)
    refine j_callS (cs' := (0, 0)) (As := [.int x2]) (rest := []) C (qX10_isMinute hr2) w3_147 w3_145 w3_146 w1_1 wd_X10_isMinute ⟨by decide, by decide⟩ rfl (Nat.le_of_ble_eq_true rfl) dX10_cut_11 ⟨by decide, by decide⟩ rfl rfl ?_
    refine j_if_eqq (tgt := 29) C dX10_cut_14 (by decide) hm (fun hm => ?_) (fun hm => ?_)
    · exact J.sub [] rfl (kX10_cut_29 C hR hm)
    · refine j_iload_n C dX10_cut_17 rfl 3 rfl ?_
      refine j_iconst (v := 1) C dX10_cut_18 (by decide) ?_
      refine j_icmp_ltq (tgt := 29) C dX10_cut_19 (by decide) hm (fun hm => ?_) (fun hm => ?_)
      · exact J.sub [] rfl (kX10_cut_29 C hR hm)
      · refine j_iload_n C dX10_cut_22 rfl 3 rfl ?_
        refine j_sipush (v := 400) C dX10_cut_23 (by decide) ?_
        refine j_icmp_leq (tgt := 32) C dX10_cut_26 (by decide) hm (fun hm => ?_) (fun hm => ?_)
        · refine j_aload_n C dX10_cut_32 rfl 0 rfl ?_
          refine j_iload_n C dX10_cut_33 rfl 1 rfl ?_
          refine j_iload_n C dX10_cut_34 rfl 2 rfl ?_
          refine j_iload_n C dX10_cut_35 rfl 3 rfl ?_
          refine j_bind hm (fun r3 hr3 hm => ?_)
          refine j_callV (cs' := (0, 0)) (As := [.int x1, .int x2, .int x3]) (rest := []) C (qX10_minutesApart hr3) w3_216 w3_213 w3_215 w0_12 w1_1 wd_X10_minutesApart ⟨by decide, by decide⟩ 0 rfl rfl rfl (Nat.le_of_ble_eq_true rfl) dX10_cut_36 ⟨by decide, by decide⟩ rfl rfl ?_
          cases hm
          exact j_iret C hR dX10_cut_39
        · exact J.sub [] rfl (kX10_cut_29 C hR hm)
  · refine j_bipush (v := (-101)) C dX10_cut_7 (by decide) ?_
    cases hm
    exact j_iret C hR dX10_cut_9
def rmX10_isManyStarts : Room := { frames := 0, cells := 0, slots := 0, locals := 0 }
theorem wd_X10_isManyStarts : yX10_isManyStarts.cls ≠ "java/lang/invoke/MethodHandle" ∧ yX10_isManyStarts.cls ≠ "java/lang/invoke/VarHandle" ∧ (parseMethodDescriptor yX10_isManyStarts.desc).map (fun d => d.parameters.length) = some 1 := by decide +kernel
def mX10_isManyStarts_16 (N : Nat) (s0 : Int32) : Option Int32 := gd (s0 = 0 ∨ s0 = 1) (some s0)
set_option maxRecDepth 100000 in
set_option maxHeartbeats 4000000 in
theorem kX10_isManyStarts_16 {l : Launch} {D : va_G} {tys : List (ClassId × FieldType)} {G : Gx} {N : Nat} {rr : Int32} (C : jC l rmX10_isManyStarts D tys G cX10_isManyStarts 1 RX10) (hR : jR D tys G (0, 0) (some .boolean) (some (.int rr)) [])  (s0 : Int32) (hm : mX10_isManyStarts_16 N s0 = some rr) : J l rmX10_isManyStarts D G (0, 0) [] [] [.int s0] 16 := by
  unfold mX10_isManyStarts_16 at hm
  obtain ⟨g, hm⟩ := gd_some hm
  cases hm
  exact j_zret C hR (jz01 g) dX10_isManyStarts_16
def mX10_isManyStarts_15 (N : Nat) : Option Int32 := mX10_isManyStarts_16 N 0
set_option maxRecDepth 100000 in
set_option maxHeartbeats 4000000 in
theorem kX10_isManyStarts_15 {l : Launch} {D : va_G} {tys : List (ClassId × FieldType)} {G : Gx} {N : Nat} {rr : Int32} (C : jC l rmX10_isManyStarts D tys G cX10_isManyStarts 1 RX10) (hR : jR D tys G (0, 0) (some .boolean) (some (.int rr)) [])   (hm : mX10_isManyStarts_15 N = some rr) : J l rmX10_isManyStarts D G (0, 0) [] [] [] 15 := by
  unfold mX10_isManyStarts_15 at hm
  refine j_iconst (v := 0) C dX10_isManyStarts_15 (by decide) ?_
  exact kX10_isManyStarts_16 C hR 0 hm
def mX10_isManyStarts (N : Nat) (x0 : Int32) : Option Int32 := if x0 < 1 then (mX10_isManyStarts_15 N) else (if 60 < x0 then (mX10_isManyStarts_15 N) else (mX10_isManyStarts_16 N 1))
set_option maxRecDepth 100000 in
set_option maxHeartbeats 4000000 in
theorem qX10_isManyStarts {l : Launch} {D : va_G} {tys : List (ClassId × FieldType)} {N : Nat} {x0 : Int32} {rr : Int32} (hm : mX10_isManyStarts N x0 = some rr) : Con l D tys yX10_isManyStarts (wS yX10_isManyStarts cX10_isManyStarts 1 (some .boolean)) rmX10_isManyStarts [.int x0] [] (some (.int rr)) [] := by
  refine Con.of (by decide +kernel) (Nat.le_of_ble_eq_true rfl) (fun G C hR => ?_)
  unfold mX10_isManyStarts at hm
  show J l rmX10_isManyStarts D G (0, 0) [] [(0, .int x0)] [] 0
  refine j_iload_n C dX10_isManyStarts_0 rfl 0 rfl ?_
  refine j_iconst (v := 1) C dX10_isManyStarts_1 (by decide) ?_
  refine j_icmp_ltq (tgt := 15) C dX10_isManyStarts_2 (by decide) hm (fun hm => ?_) (fun hm => ?_)
  · exact J.sub [] rfl (kX10_isManyStarts_15 C hR hm)
  · refine j_iload_n C dX10_isManyStarts_5 rfl 0 rfl ?_
    refine j_bipush (v := 60) C dX10_isManyStarts_6 (by decide) ?_
    refine j_icmp_gtq (tgt := 15) C dX10_isManyStarts_8 (by decide) hm (fun hm => ?_) (fun hm => ?_)
    · exact J.sub [] rfl (kX10_isManyStarts_15 C hR hm)
    · refine j_iconst (v := 1) C dX10_isManyStarts_11 (by decide) ?_
      refine j_goto (tgt := 16) C dX10_isManyStarts_12 (by decide) ?_
      exact J.sub [] rfl (kX10_isManyStarts_16 C hR 1 hm)
def rmX10_worst : Room := { frames := 6, cells := 0, slots := 0, locals := 142 }
theorem wd_X10_worst : yX10_worst.cls ≠ "java/lang/invoke/MethodHandle" ∧ yX10_worst.cls ≠ "java/lang/invoke/VarHandle" ∧ (parseMethodDescriptor yX10_worst.desc).map (fun d => d.parameters.length) = some 5 := by decide +kernel
def mX10_worst_14 (N : Nat) (b : BSt) (u : USt) : Option (Int32 × USt) := some ((-101), u)
set_option maxRecDepth 100000 in
set_option maxHeartbeats 4000000 in
theorem kX10_worst_14 {l : Launch} {D : va_G} {cI cO cR : ClassId} {q : Nat → Nat} {t0 : Nat} {b : BSt} {G : Gx} {N : Nat} {rr : (Int32 × USt)} (C : jC l rmX10_worst D (tX cI cO cR) G cX10_worst 6 RX10) (hR : jR D (tX cI cO cR) G (0, 0) (some .int) (some (.int rr.1)) (wX cI cO cR q t0 rr.2 b))  (u : USt) (hm : mX10_worst_14 N b u = some rr) : J l rmX10_worst D G (0, 0) (wX cI cO cR q t0 u b) [] [] 14 := by
  unfold mX10_worst_14 at hm
  refine j_bipush (v := (-101)) C dX10_worst_14 (by decide) ?_
  cases hm
  exact j_iret C hR dX10_worst_16
def mX10_worst_34 (N : Nat) (b : BSt) (u : USt) : Option (Int32 × USt) := some ((-102), u)
set_option maxRecDepth 100000 in
set_option maxHeartbeats 4000000 in
theorem kX10_worst_34 {l : Launch} {D : va_G} {cI cO cR : ClassId} {q : Nat → Nat} {t0 : Nat} {b : BSt} {G : Gx} {N : Nat} {rr : (Int32 × USt)} (C : jC l rmX10_worst D (tX cI cO cR) G cX10_worst 6 RX10) (hR : jR D (tX cI cO cR) G (0, 0) (some .int) (some (.int rr.1)) (wX cI cO cR q t0 rr.2 b))  (u : USt) (hm : mX10_worst_34 N b u = some rr) : J l rmX10_worst D G (0, 0) (wX cI cO cR q t0 u b) [] [] 34 := by
  unfold mX10_worst_34 at hm
  refine j_bipush (v := (-102)) C dX10_worst_34 (by decide) ?_
  cases hm
  exact j_iret C hR dX10_worst_36
def mX10_worst (N : Nat) (b : BSt) (u : USt) (x1 : Int32) (x2 : Int32) (x3 : Int32) (x4 : Int32) (x5 : Int32) : Option (Int32 × USt) := (mX10_isIslet N x1).bind (fun r1 => if r1 = 0 then (mX10_worst_14 N b u) else ((mX10_isIslet N x2).bind (fun r2 => if ¬ r2 = 0 then ((mX10_isManyStarts N x3).bind (fun r3 => if r3 = 0 then (mX10_worst_34 N b u) else ((mX10_isCarrier N x4 x5).bind (fun r4 => if ¬ r4 = 0 then ((mX10_openTable N b u 0 ((x3 - 1) + 400) x4 x5).bind (fun u6 => (mX9_foresee N u6 x2).bind (fun u8 => (mX9_longestWait N u8 x1 x3).bind (fun r9 => some (r9, u8))))) else (mX10_worst_34 N b u))))) else (mX10_worst_14 N b u))))
set_option maxRecDepth 100000 in
set_option maxHeartbeats 4000000 in
theorem qX10_worst {l : Launch} {D : va_G} {cI cO cR : ClassId} {q : Nat → Nat} {t0 : Nat} {u : USt} {b : BSt} {N : Nat} {x1 : Int32} {x2 : Int32} {x3 : Int32} {x4 : Int32} {x5 : Int32} {rr : (Int32 × USt)} (hm : mX10_worst N b u x1 x2 x3 x4 x5 = some rr) : Con l D (tX cI cO cR) yX10_worst (wS yX10_worst cX10_worst 6 (some .int)) rmX10_worst [.ref (q 0), .int x1, .int x2, .int x3, .int x4, .int x5] (wX cI cO cR q t0 u b) (some (.int rr.1)) (wX cI cO cR q t0 rr.2 b) := by
  refine Con.of (by decide +kernel) (Nat.le_of_ble_eq_true rfl) (fun G C hR => ?_)
  unfold mX10_worst at hm
  show J l rmX10_worst D G (0, 0) (wX cI cO cR q t0 u b) [(0, .ref (q 0)), (1, .int x1), (2, .int x2), (3, .int x3), (4, .int x4), (5, .int x5)] [] 0
  refine j_iload_n C dX10_worst_0 rfl 1 rfl ?_
  refine j_bind hm (fun r1 hr1 hm => ?_)
  refine j_callS (cs' := (0, 0)) (As := [.int x1]) (rest := []) C (qX10_isIslet hr1) w2_50 w3_144 w2_49 w1_1 wd_X10_isIslet ⟨by decide, by decide⟩ rfl (Nat.le_of_ble_eq_true rfl) dX10_worst_1 ⟨by decide, by decide⟩ rfl rfl ?_
  refine j_if_eqq (tgt := 14) C dX10_worst_4 (by decide) hm (fun hm => ?_) (fun hm => ?_)
  · exact J.sub [] rfl (kX10_worst_14 C hR u hm)
  · refine j_iload_n C dX10_worst_7 rfl 2 rfl ?_
    refine j_bind hm (fun r2 hr2 hm => ?_)
    refine j_callS (cs' := (0, 0)) (As := [.int x2]) (rest := []) C (qX10_isIslet hr2) w2_50 w3_144 w2_49 w1_1 wd_X10_isIslet ⟨by decide, by decide⟩ rfl (Nat.le_of_ble_eq_true rfl) dX10_worst_8 ⟨by decide, by decide⟩ rfl rfl ?_
    refine j_if_neq (tgt := 17) C dX10_worst_11 (by decide) hm (fun hm => ?_) (fun hm => ?_)
    · refine j_iload_n C dX10_worst_17 rfl 3 rfl ?_
      refine j_bind hm (fun r3 hr3 hm => ?_)
      refine j_callS (cs' := (0, 0)) (As := [.int x3]) (rest := []) C (qX10_isManyStarts hr3) w3_227 w3_225 w3_226 w1_1 wd_X10_isManyStarts ⟨by decide, by decide⟩ rfl (Nat.le_of_ble_eq_true rfl) dX10_worst_18 ⟨by decide, by decide⟩ rfl rfl ?_
      refine j_if_eqq (tgt := 34) C dX10_worst_21 (by decide) hm (fun hm => ?_) (fun hm => ?_)
      · exact J.sub [] rfl (kX10_worst_34 C hR u hm)
      · refine j_iload C dX10_worst_24 4 rfl ?_
        refine j_iload C dX10_worst_26 5 rfl ?_
        refine j_bind hm (fun r4 hr4 hm => ?_)
        refine j_callS (cs' := (0, 0)) (As := [.int x4, .int x5]) (rest := []) C (qX10_isCarrier hr4) w3_150 w3_148 w3_149 w1_1 wd_X10_isCarrier ⟨by decide, by decide⟩ rfl (Nat.le_of_ble_eq_true rfl) dX10_worst_28 ⟨by decide, by decide⟩ rfl rfl ?_
        refine j_if_neq (tgt := 37) C dX10_worst_31 (by decide) hm (fun hm => ?_) (fun hm => ?_)
        · refine j_aload_n C dX10_worst_37 rfl 0 rfl ?_
          refine j_iconst (v := 0) C dX10_worst_38 (by decide) ?_
          refine j_iload_n C dX10_worst_39 rfl 3 rfl ?_
          refine j_iconst (v := 1) C dX10_worst_40 (by decide) ?_
          refine j_isub C dX10_worst_41 ?_
          refine j_sipush (v := 400) C dX10_worst_42 (by decide) ?_
          refine j_iadd C dX10_worst_45 ?_
          refine j_iload C dX10_worst_46 4 rfl ?_
          refine j_iload C dX10_worst_48 5 rfl ?_
          refine j_bind hm (fun u6 hr5 hm => ?_)
          refine j_callV (cs' := (0, 0)) (As := [.int 0, .int ((x3 - 1) + 400), .int x4, .int x5]) (rest := []) C (qX10_openTable hr5) w3_154 w3_151 w3_153 w0_10 w1_1 wd_X10_openTable ⟨by decide, by decide⟩ 0 rfl rfl rfl (Nat.le_of_ble_eq_true rfl) dX10_worst_50 ⟨by decide, by decide⟩ rfl rfl ?_
          refine j_aload_n C dX10_worst_53 rfl 0 rfl ?_
          refine jX_g0_5_X10 C dX10_worst_54 ?_
          refine j_iload_n C dX10_worst_57 rfl 2 rfl ?_
          refine j_bind hm (fun u8 hr7 hm => ?_)
          refine j_callV (cs' := (0, 0)) (As := [.int x2]) (rest := []) C (qX9_foresee hr7) w3_231 w3_228 w3_229 w3_230 w1_9 wd_X9_foresee ⟨by decide, by decide⟩ 12 rfl rfl rfl (Nat.le_of_ble_eq_true rfl) dX10_worst_58 ⟨by decide, by decide⟩ rfl rfl ?_
          refine j_aload_n C dX10_worst_61 rfl 0 rfl ?_
          refine jX_g0_5_X10 C dX10_worst_62 ?_
          refine j_iload_n C dX10_worst_65 rfl 1 rfl ?_
          refine j_iload_n C dX10_worst_66 rfl 3 rfl ?_
          refine j_bind hm (fun r9 hr9 hm => ?_)
          refine j_callV (cs' := (0, 0)) (As := [.int x1, .int x3]) (rest := []) C (qX9_longestWait hr9) w3_235 w3_232 w3_233 w3_234 w1_9 wd_X9_longestWait ⟨by decide, by decide⟩ 12 rfl rfl rfl (Nat.le_of_ble_eq_true rfl) dX10_worst_67 ⟨by decide, by decide⟩ rfl rfl ?_
          cases hm
          exact j_iret C hR dX10_worst_70
        · exact J.sub [] rfl (kX10_worst_34 C hR u hm)
    · exact J.sub [] rfl (kX10_worst_14 C hR u hm)
def rmX10_mean : Room := { frames := 6, cells := 0, slots := 0, locals := 142 }
theorem wd_X10_mean : yX10_mean.cls ≠ "java/lang/invoke/MethodHandle" ∧ yX10_mean.cls ≠ "java/lang/invoke/VarHandle" ∧ (parseMethodDescriptor yX10_mean.desc).map (fun d => d.parameters.length) = some 6 := by decide +kernel
def mX10_mean_127 (N : Nat) (b : BSt) (u : USt) (s0 : Int32) : Option (Int32 × USt) := some (s0, u)
set_option maxRecDepth 100000 in
set_option maxHeartbeats 4000000 in
theorem kX10_mean_127 {l : Launch} {D : va_G} {cI cO cR : ClassId} {q : Nat → Nat} {t0 : Nat} {b : BSt} {G : Gx} {N : Nat} {rr : (Int32 × USt)} (C : jC l rmX10_mean D (tX cI cO cR) G cX10_mean 9 RX10) (hR : jR D (tX cI cO cR) G (0, 0) (some .int) (some (.int rr.1)) (wX cI cO cR q t0 rr.2 b))  (u : USt) (s0 : Int32) (hm : mX10_mean_127 N b u s0 = some rr) : J l rmX10_mean D G (0, 0) (wX cI cO cR q t0 u b) [] [.int s0] 127 := by
  unfold mX10_mean_127 at hm
  cases hm
  exact j_iret C hR dX10_mean_127
def mX10_mean_14 (N : Nat) (b : BSt) (u : USt) : Option (Int32 × USt) := some ((-101), u)
set_option maxRecDepth 100000 in
set_option maxHeartbeats 4000000 in
theorem kX10_mean_14 {l : Launch} {D : va_G} {cI cO cR : ClassId} {q : Nat → Nat} {t0 : Nat} {b : BSt} {G : Gx} {N : Nat} {rr : (Int32 × USt)} (C : jC l rmX10_mean D (tX cI cO cR) G cX10_mean 9 RX10) (hR : jR D (tX cI cO cR) G (0, 0) (some .int) (some (.int rr.1)) (wX cI cO cR q t0 rr.2 b))  (u : USt) (hm : mX10_mean_14 N b u = some rr) : J l rmX10_mean D G (0, 0) (wX cI cO cR q t0 u b) [] [] 14 := by
  unfold mX10_mean_14 at hm
  refine j_bipush (v := (-101)) C dX10_mean_14 (by decide) ?_
  cases hm
  exact j_iret C hR dX10_mean_16
def mX10_mean_45 (N : Nat) (b : BSt) (u : USt) : Option (Int32 × USt) := some ((-102), u)
set_option maxRecDepth 100000 in
set_option maxHeartbeats 4000000 in
theorem kX10_mean_45 {l : Launch} {D : va_G} {cI cO cR : ClassId} {q : Nat → Nat} {t0 : Nat} {b : BSt} {G : Gx} {N : Nat} {rr : (Int32 × USt)} (C : jC l rmX10_mean D (tX cI cO cR) G cX10_mean 9 RX10) (hR : jR D (tX cI cO cR) G (0, 0) (some .int) (some (.int rr.1)) (wX cI cO cR q t0 rr.2 b))  (u : USt) (hm : mX10_mean_45 N b u = some rr) : J l rmX10_mean D G (0, 0) (wX cI cO cR q t0 u b) [] [] 45 := by
  unfold mX10_mean_45 at hm
  refine j_bipush (v := (-102)) C dX10_mean_45 (by decide) ?_
  cases hm
  exact j_iret C hR dX10_mean_47
def mX10_mean (N : Nat) (b : BSt) (u : USt) (x1 : Int32) (x2 : Int32) (x3 : Int32) (x4 : Int32) (x5 : Int32) (x6 : Int32) : Option (Int32 × USt) := (mX10_isIslet N x1).bind (fun r1 => if r1 = 0 then (mX10_mean_14 N b u) else ((mX10_isIslet N x2).bind (fun r2 => if ¬ r2 = 0 then ((mX10_isManyStarts N x3).bind (fun r3 => if r3 = 0 then (mX10_mean_45 N b u) else ((mX10_isCarrier N x4 x5).bind (fun r4 => if r4 = 0 then (mX10_mean_45 N b u) else (if x6 < 0 then (mX10_mean_45 N b u) else (if x6 ≤ 1 then ((mX10_openTable N b u 0 ((x3 - 1) + 400) x4 x5).bind (fun u6 => (mX9_foresee N u6 x2).bind (fun u8 => (mX9_waitsTogether N u8 x1 x3).bind (fun r9 => if ¬ r9 = (-1) then ((mX10_sharedDivisor N (Int32.toInt64 r9) (Int32.toInt64 x3)).bind (fun r10 => nm (Int64.toInt32 r10) (fun v11 => if 1 ≤ v11 then (if ¬ x6 = 0 then (gd (¬ v11 = 0) (mX10_mean_127 N b u8 (x3 / v11))) else (gd (¬ v11 = 0) (mX10_mean_127 N b u8 (r9 / v11)))) else (some ((-1), u8))))) else (some ((-1), u8)))))) else (mX10_mean_45 N b u))))))) else (mX10_mean_14 N b u))))
set_option maxRecDepth 100000 in
set_option maxHeartbeats 4000000 in
theorem qX10_mean {l : Launch} {D : va_G} {cI cO cR : ClassId} {q : Nat → Nat} {t0 : Nat} {u : USt} {b : BSt} {N : Nat} {x1 : Int32} {x2 : Int32} {x3 : Int32} {x4 : Int32} {x5 : Int32} {x6 : Int32} {rr : (Int32 × USt)} (hm : mX10_mean N b u x1 x2 x3 x4 x5 x6 = some rr) : Con l D (tX cI cO cR) yX10_mean (wS yX10_mean cX10_mean 9 (some .int)) rmX10_mean [.ref (q 0), .int x1, .int x2, .int x3, .int x4, .int x5, .int x6] (wX cI cO cR q t0 u b) (some (.int rr.1)) (wX cI cO cR q t0 rr.2 b) := by
  refine Con.of (by decide +kernel) (Nat.le_of_ble_eq_true rfl) (fun G C hR => ?_)
  unfold mX10_mean at hm
  show J l rmX10_mean D G (0, 0) (wX cI cO cR q t0 u b) [(0, .ref (q 0)), (1, .int x1), (2, .int x2), (3, .int x3), (4, .int x4), (5, .int x5), (6, .int x6)] [] 0
  refine j_iload_n C dX10_mean_0 rfl 1 rfl ?_
  refine j_bind hm (fun r1 hr1 hm => ?_)
  refine j_callS (cs' := (0, 0)) (As := [.int x1]) (rest := []) C (qX10_isIslet hr1) w2_50 w3_144 w2_49 w1_1 wd_X10_isIslet ⟨by decide, by decide⟩ rfl (Nat.le_of_ble_eq_true rfl) dX10_mean_1 ⟨by decide, by decide⟩ rfl rfl ?_
  refine j_if_eqq (tgt := 14) C dX10_mean_4 (by decide) hm (fun hm => ?_) (fun hm => ?_)
  · exact J.sub [] rfl (kX10_mean_14 C hR u hm)
  · refine j_iload_n C dX10_mean_7 rfl 2 rfl ?_
    refine j_bind hm (fun r2 hr2 hm => ?_)
    refine j_callS (cs' := (0, 0)) (As := [.int x2]) (rest := []) C (qX10_isIslet hr2) w2_50 w3_144 w2_49 w1_1 wd_X10_isIslet ⟨by decide, by decide⟩ rfl (Nat.le_of_ble_eq_true rfl) dX10_mean_8 ⟨by decide, by decide⟩ rfl rfl ?_
    refine j_if_neq (tgt := 17) C dX10_mean_11 (by decide) hm (fun hm => ?_) (fun hm => ?_)
    · refine j_iload_n C dX10_mean_17 rfl 3 rfl ?_
      refine j_bind hm (fun r3 hr3 hm => ?_)
      refine j_callS (cs' := (0, 0)) (As := [.int x3]) (rest := []) C (qX10_isManyStarts hr3) w3_227 w3_225 w3_226 w1_1 wd_X10_isManyStarts ⟨by decide, by decide⟩ rfl (Nat.le_of_ble_eq_true rfl) dX10_mean_18 ⟨by decide, by decide⟩ rfl rfl ?_
      refine j_if_eqq (tgt := 45) C dX10_mean_21 (by decide) hm (fun hm => ?_) (fun hm => ?_)
      · exact J.sub [] rfl (kX10_mean_45 C hR u hm)
      · refine j_iload C dX10_mean_24 4 rfl ?_
        refine j_iload C dX10_mean_26 5 rfl ?_
        refine j_bind hm (fun r4 hr4 hm => ?_)
        refine j_callS (cs' := (0, 0)) (As := [.int x4, .int x5]) (rest := []) C (qX10_isCarrier hr4) w3_150 w3_148 w3_149 w1_1 wd_X10_isCarrier ⟨by decide, by decide⟩ rfl (Nat.le_of_ble_eq_true rfl) dX10_mean_28 ⟨by decide, by decide⟩ rfl rfl ?_
        refine j_if_eqq (tgt := 45) C dX10_mean_31 (by decide) hm (fun hm => ?_) (fun hm => ?_)
        · exact J.sub [] rfl (kX10_mean_45 C hR u hm)
        · refine j_iload C dX10_mean_34 6 rfl ?_
          refine j_if_ltq (tgt := 45) C dX10_mean_36 (by decide) hm (fun hm => ?_) (fun hm => ?_)
          · exact J.sub [] rfl (kX10_mean_45 C hR u hm)
          · refine j_iload C dX10_mean_39 6 rfl ?_
            refine j_iconst (v := 1) C dX10_mean_41 (by decide) ?_
            refine j_icmp_leq (tgt := 48) C dX10_mean_42 (by decide) hm (fun hm => ?_) (fun hm => ?_)
            · refine j_aload_n C dX10_mean_48 rfl 0 rfl ?_
              refine j_iconst (v := 0) C dX10_mean_49 (by decide) ?_
              refine j_iload_n C dX10_mean_50 rfl 3 rfl ?_
              refine j_iconst (v := 1) C dX10_mean_51 (by decide) ?_
              refine j_isub C dX10_mean_52 ?_
              refine j_sipush (v := 400) C dX10_mean_53 (by decide) ?_
              refine j_iadd C dX10_mean_56 ?_
              refine j_iload C dX10_mean_57 4 rfl ?_
              refine j_iload C dX10_mean_59 5 rfl ?_
              refine j_bind hm (fun u6 hr5 hm => ?_)
              refine j_callV (cs' := (0, 0)) (As := [.int 0, .int ((x3 - 1) + 400), .int x4, .int x5]) (rest := []) C (qX10_openTable hr5) w3_154 w3_151 w3_153 w0_10 w1_1 wd_X10_openTable ⟨by decide, by decide⟩ 0 rfl rfl rfl (Nat.le_of_ble_eq_true rfl) dX10_mean_61 ⟨by decide, by decide⟩ rfl rfl ?_
              refine j_aload_n C dX10_mean_64 rfl 0 rfl ?_
              refine jX_g0_5_X10 C dX10_mean_65 ?_
              refine j_iload_n C dX10_mean_68 rfl 2 rfl ?_
              refine j_bind hm (fun u8 hr7 hm => ?_)
              refine j_callV (cs' := (0, 0)) (As := [.int x2]) (rest := []) C (qX9_foresee hr7) w3_231 w3_228 w3_229 w3_230 w1_9 wd_X9_foresee ⟨by decide, by decide⟩ 12 rfl rfl rfl (Nat.le_of_ble_eq_true rfl) dX10_mean_69 ⟨by decide, by decide⟩ rfl rfl ?_
              refine j_aload_n C dX10_mean_72 rfl 0 rfl ?_
              refine jX_g0_5_X10 C dX10_mean_73 ?_
              refine j_iload_n C dX10_mean_76 rfl 1 rfl ?_
              refine j_iload_n C dX10_mean_77 rfl 3 rfl ?_
              refine j_bind hm (fun r9 hr9 hm => ?_)
              refine j_callV (cs' := (0, 0)) (As := [.int x1, .int x3]) (rest := []) C (qX9_waitsTogether hr9) w4_7 w4_4 w4_5 w4_6 w1_9 wd_X9_waitsTogether ⟨by decide, by decide⟩ 12 rfl rfl rfl (Nat.le_of_ble_eq_true rfl) dX10_mean_78 ⟨by decide, by decide⟩ rfl rfl ?_
              refine j_istore C dX10_mean_81 (by decide) rfl ?_
              refine j_iload C dX10_mean_83 0 rfl ?_
              refine j_iconst (v := (-1)) C dX10_mean_85 (by decide) ?_
              refine j_icmp_neq (tgt := 91) C dX10_mean_86 (by decide) hm (fun hm => ?_) (fun hm => ?_)
              · refine j_iload C dX10_mean_91 0 rfl ?_
                refine j_i2l C dX10_mean_93 ?_
                refine j_iload_n C dX10_mean_94 rfl 4 rfl ?_
                refine j_i2l C dX10_mean_95 ?_
                refine j_bind hm (fun r10 hr10 hm => ?_)
                refine j_callS (cs' := (0, 0)) (As := [.long (Int32.toInt64 r9), .long (Int32.toInt64 x3)]) (rest := []) C (qX10_sharedDivisor hr10) w3_208 w3_206 w3_207 w1_1 wd_X10_sharedDivisor ⟨by decide, by decide⟩ rfl (Nat.le_of_ble_eq_true rfl) dX10_mean_96 ⟨by decide, by decide⟩ rfl rfl ?_
                refine j_l2i C dX10_mean_99 ?_
                refine j_nmi hm (fun v11 hm => ?_)
                refine j_istore C dX10_mean_100 (by decide) rfl ?_
                refine j_iload C dX10_mean_102 0 rfl ?_
                refine j_iconst (v := 1) C dX10_mean_104 (by decide) ?_
                refine j_icmp_geq (tgt := 110) C dX10_mean_105 (by decide) hm (fun hm => ?_) (fun hm => ?_)
                · refine j_iload C dX10_mean_110 8 rfl ?_
                  refine j_if_neq (tgt := 123) C dX10_mean_112 (by decide) hm (fun hm => ?_) (fun hm => ?_)
                  · refine j_iload_n C dX10_mean_123 rfl 5 rfl ?_
                    refine j_iload C dX10_mean_124 0 rfl ?_
                    obtain ⟨g, hm⟩ := gd_some hm
                    refine j_idiv C dX10_mean_126 g ?_
                    exact J.sub [] rfl (kX10_mean_127 C hR u8 (x3 / v11) hm)
                  · refine j_iload C dX10_mean_115 1 rfl ?_
                    refine j_iload C dX10_mean_117 0 rfl ?_
                    obtain ⟨g, hm⟩ := gd_some hm
                    refine j_idiv C dX10_mean_119 g ?_
                    refine j_goto (tgt := 127) C dX10_mean_120 (by decide) ?_
                    exact J.sub [] rfl (kX10_mean_127 C hR u8 (r9 / v11) hm)
                · refine j_iconst (v := (-1)) C dX10_mean_108 (by decide) ?_
                  cases hm
                  exact j_iret C hR dX10_mean_109
              · refine j_iconst (v := (-1)) C dX10_mean_89 (by decide) ?_
                cases hm
                exact j_iret C hR dX10_mean_90
            · exact J.sub [] rfl (kX10_mean_45 C hR u hm)
    · exact J.sub [] rfl (kX10_mean_14 C hR u hm)
def rmX10_set : Room := { frames := 6, cells := 0, slots := 0, locals := 142 }
theorem wd_X10_set : yX10_set.cls ≠ "java/lang/invoke/MethodHandle" ∧ yX10_set.cls ≠ "java/lang/invoke/VarHandle" ∧ (parseMethodDescriptor yX10_set.desc).map (fun d => d.parameters.length) = some 3 := by decide +kernel
def mX10_set_22 (N : Nat) (b : BSt) (u : USt) : Option (Int32 × USt) := some ((-101), u)
set_option maxRecDepth 100000 in
set_option maxHeartbeats 4000000 in
theorem kX10_set_22 {l : Launch} {D : va_G} {cI cO cR : ClassId} {q : Nat → Nat} {t0 : Nat} {b : BSt} {G : Gx} {N : Nat} {rr : (Int32 × USt)} (C : jC l rmX10_set D (tX cI cO cR) G cX10_set 9 RX10) (hR : jR D (tX cI cO cR) G (0, 0) (some .int) (some (.int rr.1)) (wX cI cO cR q t0 rr.2 b))  (u : USt) (hm : mX10_set_22 N b u = some rr) : J l rmX10_set D G (0, 0) (wX cI cO cR q t0 u b) [] [] 22 := by
  unfold mX10_set_22 at hm
  refine j_bipush (v := (-101)) C dX10_set_22 (by decide) ?_
  cases hm
  exact j_iret C hR dX10_set_24
def mX10_set_138 (N : Nat) (b : BSt) (k69 : USt → Int32 → Int32 → Int32 → Nat → Int32 → Int32 → Int32 → Option (Int32 × USt)) (u : USt) (x1 : Int32) (x2 : Int32) (x3 : Int32) (a4 : Nat) (x5 : Int32) (x6 : Int32) (x7 : Int32) : Option (Int32 × USt) := k69 u x1 x2 x3 a4 x5 x6 (x7 + 1)
set_option maxRecDepth 100000 in
set_option maxHeartbeats 4000000 in
theorem kX10_set_138 {l : Launch} {D : va_G} {cI cO cR : ClassId} {q : Nat → Nat} {t0 : Nat} {b : BSt} {G : Gx} {N : Nat} {rr : (Int32 × USt)} (C : jC l rmX10_set D (tX cI cO cR) G cX10_set 9 RX10) (hR : jR D (tX cI cO cR) G (0, 0) (some .int) (some (.int rr.1)) (wX cI cO cR q t0 rr.2 b)) (k69 : USt → Int32 → Int32 → Int32 → Nat → Int32 → Int32 → Int32 → Option (Int32 × USt)) (K69 : ∀ (u : USt) (x1 : Int32) (x2 : Int32) (x3 : Int32) (a4 : Nat) (x5 : Int32) (x6 : Int32) (x7 : Int32), k69 u x1 x2 x3 a4 x5 x6 x7 = some rr → J l rmX10_set D G (0, 0) (wX cI cO cR q t0 u b) [(0, .ref (q 0)), (1, .int x1), (2, .int x2), (3, .int x3), (4, .ref (bA b a4)), (5, .int x5), (6, .int x6), (7, .int x7)] [] 69) (u : USt) (x1 : Int32) (x2 : Int32) (x3 : Int32) (a4 : Nat) (x5 : Int32) (x6 : Int32) (x7 : Int32) (hm : mX10_set_138 N b k69 u x1 x2 x3 a4 x5 x6 x7 = some rr) : J l rmX10_set D G (0, 0) (wX cI cO cR q t0 u b) [(0, .ref (q 0)), (1, .int x1), (2, .int x2), (3, .int x3), (4, .ref (bA b a4)), (5, .int x5), (6, .int x6), (7, .int x7)] [] 138 := by
  unfold mX10_set_138 at hm
  refine j_iinc (v := (x7 + 1)) C dX10_set_138 7 rfl rfl (by decide) rfl ?_
  refine j_goto (tgt := 69) C dX10_set_141 (by decide) ?_
  exact J.sub [1, 2, 3, 4, 5, 6, 7, 0] rfl (K69 u x1 x2 x3 a4 x5 x6 (x7 + 1) hm)
def mX10_set_123 (N : Nat) (b : BSt) (k69 : USt → Int32 → Int32 → Int32 → Nat → Int32 → Int32 → Int32 → Option (Int32 × USt)) (u : USt) (x1 : Int32) (x2 : Int32) (x3 : Int32) (a4 : Nat) (x5 : Int32) (x6 : Int32) (x7 : Int32) (x8 : Int32) : Option (Int32 × USt) := if x6 ≤ x8 then (mX10_set_138 N b k69 u x1 x2 x3 a4 x5 x6 x7) else (mX10_set_138 N b k69 u x1 x2 x3 a4 x7 x8 x7)
set_option maxRecDepth 100000 in
set_option maxHeartbeats 4000000 in
theorem kX10_set_123 {l : Launch} {D : va_G} {cI cO cR : ClassId} {q : Nat → Nat} {t0 : Nat} {b : BSt} {G : Gx} {N : Nat} {rr : (Int32 × USt)} (C : jC l rmX10_set D (tX cI cO cR) G cX10_set 9 RX10) (hR : jR D (tX cI cO cR) G (0, 0) (some .int) (some (.int rr.1)) (wX cI cO cR q t0 rr.2 b)) (k69 : USt → Int32 → Int32 → Int32 → Nat → Int32 → Int32 → Int32 → Option (Int32 × USt)) (K69 : ∀ (u : USt) (x1 : Int32) (x2 : Int32) (x3 : Int32) (a4 : Nat) (x5 : Int32) (x6 : Int32) (x7 : Int32), k69 u x1 x2 x3 a4 x5 x6 x7 = some rr → J l rmX10_set D G (0, 0) (wX cI cO cR q t0 u b) [(0, .ref (q 0)), (1, .int x1), (2, .int x2), (3, .int x3), (4, .ref (bA b a4)), (5, .int x5), (6, .int x6), (7, .int x7)] [] 69) (u : USt) (x1 : Int32) (x2 : Int32) (x3 : Int32) (a4 : Nat) (x5 : Int32) (x6 : Int32) (x7 : Int32) (x8 : Int32) (hm : mX10_set_123 N b k69 u x1 x2 x3 a4 x5 x6 x7 x8 = some rr) : J l rmX10_set D G (0, 0) (wX cI cO cR q t0 u b) [(0, .ref (q 0)), (1, .int x1), (2, .int x2), (3, .int x3), (4, .ref (bA b a4)), (5, .int x5), (6, .int x6), (7, .int x7), (8, .int x8)] [] 123 := by
  unfold mX10_set_123 at hm
  refine j_iload C dX10_set_123 8 rfl ?_
  refine j_iload C dX10_set_125 6 rfl ?_
  refine j_icmp_geq (tgt := 138) C dX10_set_127 (by decide) hm (fun hm => ?_) (fun hm => ?_)
  · exact J.sub [0, 1, 2, 3, 4, 5, 6, 7] rfl (kX10_set_138 C hR k69 K69 u x1 x2 x3 a4 x5 x6 x7 hm)
  · refine j_iload C dX10_set_130 8 rfl ?_
    refine j_istore C dX10_set_132 (by decide) rfl ?_
    refine j_iload C dX10_set_134 7 rfl ?_
    refine j_istore C dX10_set_136 (by decide) rfl ?_
    exact J.sub [2, 3, 4, 5, 6, 0, 1, 7] rfl (kX10_set_138 C hR k69 K69 u x1 x2 x3 a4 x7 x8 x7 hm)
def mX10_set_69 (N : Nat) (b : BSt) (k69 : USt → Int32 → Int32 → Int32 → Nat → Int32 → Int32 → Int32 → Option (Int32 × USt)) (u : USt) (x1 : Int32) (x2 : Int32) (x3 : Int32) (a4 : Nat) (x5 : Int32) (x6 : Int32) (x7 : Int32) : Option (Int32 × USt) := if 9 < x7 then (some (x5, u)) else (nm (u.1 19) (fun f1 => (mX9_lay N b u x1 a4 x7 f1).bind (fun u3 => (mX9_foresee N u3 x3).bind (fun u5 => (mX9_longestWait N u5 x2 60).bind (fun r6 => if ¬ r6 = (-1) then (mX10_set_123 N b k69 u5 x1 x2 x3 a4 x5 x6 x7 r6) else (mX10_set_123 N b k69 u5 x1 x2 x3 a4 x5 x6 x7 1000))))))
set_option maxRecDepth 100000 in
set_option maxHeartbeats 4000000 in
theorem kX10_set_69 {l : Launch} {D : va_G} {cI cO cR : ClassId} {q : Nat → Nat} {t0 : Nat} {b : BSt} {G : Gx} {N : Nat} {rr : (Int32 × USt)} (C : jC l rmX10_set D (tX cI cO cR) G cX10_set 9 RX10) (hR : jR D (tX cI cO cR) G (0, 0) (some .int) (some (.int rr.1)) (wX cI cO cR q t0 rr.2 b)) (k69 : USt → Int32 → Int32 → Int32 → Nat → Int32 → Int32 → Int32 → Option (Int32 × USt)) (K69 : ∀ (u : USt) (x1 : Int32) (x2 : Int32) (x3 : Int32) (a4 : Nat) (x5 : Int32) (x6 : Int32) (x7 : Int32), k69 u x1 x2 x3 a4 x5 x6 x7 = some rr → J l rmX10_set D G (0, 0) (wX cI cO cR q t0 u b) [(0, .ref (q 0)), (1, .int x1), (2, .int x2), (3, .int x3), (4, .ref (bA b a4)), (5, .int x5), (6, .int x6), (7, .int x7)] [] 69) (u : USt) (x1 : Int32) (x2 : Int32) (x3 : Int32) (a4 : Nat) (x5 : Int32) (x6 : Int32) (x7 : Int32) (hm : mX10_set_69 N b k69 u x1 x2 x3 a4 x5 x6 x7 = some rr) : J l rmX10_set D G (0, 0) (wX cI cO cR q t0 u b) [(0, .ref (q 0)), (1, .int x1), (2, .int x2), (3, .int x3), (4, .ref (bA b a4)), (5, .int x5), (6, .int x6), (7, .int x7)] [] 69 := by
  unfold mX10_set_69 at hm
  refine j_iload C dX10_set_69 7 rfl ?_
  refine j_bipush (v := 9) C dX10_set_71 (by decide) ?_
  refine j_icmp_gtq (tgt := 144) C dX10_set_73 (by decide) hm (fun hm => ?_) (fun hm => ?_)
  · refine j_iload C dX10_set_144 5 rfl ?_
    cases hm
    exact j_iret C hR dX10_set_146
  · refine j_aload_n C dX10_set_76 rfl 0 rfl ?_
    refine jX_g0_5_X10 C dX10_set_77 ?_
    refine j_iload_n C dX10_set_80 rfl 1 rfl ?_
    refine j_aload C dX10_set_81 4 rfl ?_
    refine j_iload C dX10_set_83 7 rfl ?_
    refine j_aload_n C dX10_set_85 rfl 0 rfl ?_
    refine jX_g0_9_X10 C dX10_set_86 ?_
    refine j_nmi hm (fun f1 hm => ?_)
    refine j_bind hm (fun u3 hr2 hm => ?_)
    refine j_callV (cs' := (0, 0)) (As := [.int x1, .ref (bA b a4), .int x7, .int f1]) (rest := []) C (qX9_lay hr2) w3_164 w3_161 w3_162 w3_163 w1_9 wd_X9_lay ⟨by decide, by decide⟩ 12 rfl rfl rfl (Nat.le_of_ble_eq_true rfl) dX10_set_89 ⟨by decide, by decide⟩ rfl rfl ?_
    refine j_aload_n C dX10_set_92 rfl 0 rfl ?_
    refine jX_g0_5_X10 C dX10_set_93 ?_
    refine j_iload_n C dX10_set_96 rfl 3 rfl ?_
    refine j_bind hm (fun u5 hr4 hm => ?_)
    refine j_callV (cs' := (0, 0)) (As := [.int x3]) (rest := []) C (qX9_foresee hr4) w3_231 w3_228 w3_229 w3_230 w1_9 wd_X9_foresee ⟨by decide, by decide⟩ 12 rfl rfl rfl (Nat.le_of_ble_eq_true rfl) dX10_set_97 ⟨by decide, by decide⟩ rfl rfl ?_
    refine j_aload_n C dX10_set_100 rfl 0 rfl ?_
    refine jX_g0_5_X10 C dX10_set_101 ?_
    refine j_iload_n C dX10_set_104 rfl 2 rfl ?_
    refine j_bipush (v := 60) C dX10_set_105 (by decide) ?_
    refine j_bind hm (fun r6 hr6 hm => ?_)
    refine j_callV (cs' := (0, 0)) (As := [.int x2, .int 60]) (rest := []) C (qX9_longestWait hr6) w3_235 w3_232 w3_233 w3_234 w1_9 wd_X9_longestWait ⟨by decide, by decide⟩ 12 rfl rfl rfl (Nat.le_of_ble_eq_true rfl) dX10_set_107 ⟨by decide, by decide⟩ rfl rfl ?_
    refine j_istore C dX10_set_110 (by decide) rfl ?_
    refine j_iload C dX10_set_112 0 rfl ?_
    refine j_iconst (v := (-1)) C dX10_set_114 (by decide) ?_
    refine j_icmp_neq (tgt := 123) C dX10_set_115 (by decide) hm (fun hm => ?_) (fun hm => ?_)
    · exact J.sub [1, 2, 3, 4, 5, 6, 7, 8, 0] rfl (kX10_set_123 C hR k69 K69 u5 x1 x2 x3 a4 x5 x6 x7 r6 hm)
    · refine j_sipush (v := 1000) C dX10_set_118 (by decide) ?_
      refine j_istore C dX10_set_121 (by decide) rfl ?_
      exact J.sub [1, 2, 3, 4, 5, 6, 7, 8, 0] rfl (kX10_set_123 C hR k69 K69 u5 x1 x2 x3 a4 x5 x6 x7 1000 hm)
def mX10_set_h69 (N : Nat) (b : BSt) : Nat → USt → Int32 → Int32 → Int32 → Nat → Int32 → Int32 → Int32 → Option (Int32 × USt)
  | 0, _, _, _, _, _, _, _, _ => none
  | n + 1, u, x1, x2, x3, a4, x5, x6, x7 => mX10_set_69 N b (mX10_set_h69 N b n) u x1 x2 x3 a4 x5 x6 x7
theorem kX10_set_h69 {l : Launch} {D : va_G} {cI cO cR : ClassId} {q : Nat → Nat} {t0 : Nat} {b : BSt} {G : Gx} {N : Nat} {rr : (Int32 × USt)} (C : jC l rmX10_set D (tX cI cO cR) G cX10_set 9 RX10) (hR : jR D (tX cI cO cR) G (0, 0) (some .int) (some (.int rr.1)) (wX cI cO cR q t0 rr.2 b))  : ∀ (n : Nat) (u : USt) (x1 : Int32) (x2 : Int32) (x3 : Int32) (a4 : Nat) (x5 : Int32) (x6 : Int32) (x7 : Int32), mX10_set_h69 N b n u x1 x2 x3 a4 x5 x6 x7 = some rr → J l rmX10_set D G (0, 0) (wX cI cO cR q t0 u b) [(0, .ref (q 0)), (1, .int x1), (2, .int x2), (3, .int x3), (4, .ref (bA b a4)), (5, .int x5), (6, .int x6), (7, .int x7)] [] 69 := by
  intro n
  induction n with
  | zero =>
    intro u x1 x2 x3 a4 x5 x6 x7 hm
    have hm : (none : Option (Int32 × USt)) = some rr := hm
    cases hm
  | succ n ih =>
    intro u x1 x2 x3 a4 x5 x6 x7 hm
    exact kX10_set_69 C hR _ ih u x1 x2 x3 a4 x5 x6 x7 hm
def mX10_set (N : Nat) (b : BSt) (u : USt) (x1 : Int32) (x2 : Int32) (x3 : Int32) : Option (Int32 × USt) := (mX10_isBridge N u x1).bind (fun r1 => if r1 = 0 then (mX10_set_22 N b u) else ((mX10_isIslet N x2).bind (fun r2 => if r2 = 0 then (mX10_set_22 N b u) else ((mX10_isIslet N x3).bind (fun r3 => if ¬ r3 = 0 then ((mJx4a65c_get_915e3 N u b x1).bind (fun r4 => bwt b r4 (fun _ => bcl b r4 (fun c => nm (ivFixed c) (fun z5 => if z5 = 0 then ((mX10_openTable N b u 0 459 1 1).bind (fun u7 => mX10_set_h69 N b N u7 x1 x2 x3 r4 0 2147483647 0)) else (some ((-103), u))))))) else (mX10_set_22 N b u))))))
set_option maxRecDepth 100000 in
set_option maxHeartbeats 4000000 in
theorem qX10_set {l : Launch} {D : va_G} {cI cO cR : ClassId} {q : Nat → Nat} {t0 : Nat} {u : USt} {b : BSt} {N : Nat} {x1 : Int32} {x2 : Int32} {x3 : Int32} {rr : (Int32 × USt)} (hm : mX10_set N b u x1 x2 x3 = some rr) : Con l D (tX cI cO cR) yX10_set (wS yX10_set cX10_set 9 (some .int)) rmX10_set [.ref (q 0), .int x1, .int x2, .int x3] (wX cI cO cR q t0 u b) (some (.int rr.1)) (wX cI cO cR q t0 rr.2 b) := by
  refine Con.of (by decide +kernel) (Nat.le_of_ble_eq_true rfl) (fun G C hR => ?_)
  unfold mX10_set at hm
  show J l rmX10_set D G (0, 0) (wX cI cO cR q t0 u b) [(0, .ref (q 0)), (1, .int x1), (2, .int x2), (3, .int x3)] [] 0
  refine j_aload_n C dX10_set_0 rfl 0 rfl ?_
  refine j_iload_n C dX10_set_1 rfl 1 rfl ?_
  refine j_bind hm (fun r1 hr1 hm => ?_)
  refine j_callV (cs' := (0, 0)) (As := [.int x1]) (rest := []) C (qX10_isBridge hr1) w2_230 w2_227 w2_229 w0_8 w1_1 wd_X10_isBridge ⟨by decide, by decide⟩ 0 rfl rfl rfl (Nat.le_of_ble_eq_true rfl) dX10_set_2 ⟨by decide, by decide⟩ rfl rfl ?_
  refine j_if_eqq (tgt := 22) C dX10_set_5 (by decide) hm (fun hm => ?_) (fun hm => ?_)
  · exact J.sub [] rfl (kX10_set_22 C hR u hm)
  · refine j_iload_n C dX10_set_8 rfl 2 rfl ?_
    refine j_bind hm (fun r2 hr2 hm => ?_)
    refine j_callS (cs' := (0, 0)) (As := [.int x2]) (rest := []) C (qX10_isIslet hr2) w2_50 w3_144 w2_49 w1_1 wd_X10_isIslet ⟨by decide, by decide⟩ rfl (Nat.le_of_ble_eq_true rfl) dX10_set_9 ⟨by decide, by decide⟩ rfl rfl ?_
    refine j_if_eqq (tgt := 22) C dX10_set_12 (by decide) hm (fun hm => ?_) (fun hm => ?_)
    · exact J.sub [] rfl (kX10_set_22 C hR u hm)
    · refine j_iload_n C dX10_set_15 rfl 3 rfl ?_
      refine j_bind hm (fun r3 hr3 hm => ?_)
      refine j_callS (cs' := (0, 0)) (As := [.int x3]) (rest := []) C (qX10_isIslet hr3) w2_50 w3_144 w2_49 w1_1 wd_X10_isIslet ⟨by decide, by decide⟩ rfl (Nat.le_of_ble_eq_true rfl) dX10_set_16 ⟨by decide, by decide⟩ rfl rfl ?_
      refine j_if_neq (tgt := 25) C dX10_set_19 (by decide) hm (fun hm => ?_) (fun hm => ?_)
      · refine j_aload_n C dX10_set_25 rfl 0 rfl ?_
        refine jX_g0_2_X10 C dX10_set_26 ?_
        refine j_iload_n C dX10_set_29 rfl 1 rfl ?_
        refine j_bind hm (fun r4 hr4 hm => ?_)
        refine j_callV (cs' := (0, 0)) (As := [.int x1]) (rest := []) C (qJx4a65c_get_915e3 hr4) w2_234 w2_231 w2_232 w2_233 w1_6 wd_Jx4a65c_get_915e3 ⟨by decide, by decide⟩ 5 rfl rfl rfl (Nat.le_of_ble_eq_true rfl) dX10_set_30 ⟨by decide, by decide⟩ rfl rfl ?_
        refine jX_cast C w3_5 w6_67 w6_68 w6_69 dX10_set_33 hm (fun hm => ?_)
        refine j_astore C dX10_set_36 (by decide) rfl ?_
        refine j_aload C dX10_set_38 0 rfl ?_
        refine jX_iFixed C w3_11 dX10_set_40 hm (fun z5 hm => ?_)
        refine j_if_eqq (tgt := 49) C dX10_set_43 (by decide) hm (fun hm => ?_) (fun hm => ?_)
        · refine j_aload_n C dX10_set_49 rfl 1 rfl ?_
          refine j_iconst (v := 0) C dX10_set_50 (by decide) ?_
          refine j_sipush (v := 459) C dX10_set_51 (by decide) ?_
          refine j_iconst (v := 1) C dX10_set_54 (by decide) ?_
          refine j_iconst (v := 1) C dX10_set_55 (by decide) ?_
          refine j_bind hm (fun u7 hr6 hm => ?_)
          refine j_callV (cs' := (0, 0)) (As := [.int 0, .int 459, .int 1, .int 1]) (rest := []) C (qX10_openTable hr6) w3_154 w3_151 w3_153 w0_10 w1_1 wd_X10_openTable ⟨by decide, by decide⟩ 0 rfl rfl rfl (Nat.le_of_ble_eq_true rfl) dX10_set_56 ⟨by decide, by decide⟩ rfl rfl ?_
          refine j_iconst (v := 0) C dX10_set_59 (by decide) ?_
          refine j_istore C dX10_set_60 (by decide) rfl ?_
          refine j_ldc C dX10_set_62 w3_192 ?_
          refine j_istore C dX10_set_64 (by decide) rfl ?_
          refine j_iconst (v := 0) C dX10_set_66 (by decide) ?_
          refine j_istore C dX10_set_67 (by decide) rfl ?_
          exact J.sub [4, 5, 6, 7, 3, 2, 1, 0] rfl (kX10_set_h69 C hR N u7 x1 x2 x3 r4 0 2147483647 0 hm)
        · refine j_bipush (v := (-103)) C dX10_set_46 (by decide) ?_
          cases hm
          exact j_iret C hR dX10_set_48
      · exact J.sub [] rfl (kX10_set_22 C hR u hm)
def rmX10_crowd : Room := { frames := 6, cells := 0, slots := 0, locals := 157 }
theorem wd_X10_crowd : yX10_crowd.cls ≠ "java/lang/invoke/MethodHandle" ∧ yX10_crowd.cls ≠ "java/lang/invoke/VarHandle" ∧ (parseMethodDescriptor yX10_crowd.desc).map (fun d => d.parameters.length) = some 6 := by decide +kernel
def mX10_crowd_14 (N : Nat) (b : BSt) (u : USt) : Option (Int32 × USt) := some ((-101), u)
set_option maxRecDepth 100000 in
set_option maxHeartbeats 4000000 in
theorem kX10_crowd_14 {l : Launch} {D : va_G} {cI cO cR : ClassId} {q : Nat → Nat} {t0 : Nat} {b : BSt} {G : Gx} {N : Nat} {rr : (Int32 × USt)} (C : jC l rmX10_crowd D (tX cI cO cR) G cX10_crowd 7 RX10) (hR : jR D (tX cI cO cR) G (0, 0) (some .int) (some (.int rr.1)) (wX cI cO cR q t0 rr.2 b))  (u : USt) (hm : mX10_crowd_14 N b u = some rr) : J l rmX10_crowd D G (0, 0) (wX cI cO cR q t0 u b) [] [] 14 := by
  unfold mX10_crowd_14 at hm
  refine j_bipush (v := (-101)) C dX10_crowd_14 (by decide) ?_
  cases hm
  exact j_iret C hR dX10_crowd_16
def mX10_crowd_39 (N : Nat) (b : BSt) (u : USt) : Option (Int32 × USt) := some ((-102), u)
set_option maxRecDepth 100000 in
set_option maxHeartbeats 4000000 in
theorem kX10_crowd_39 {l : Launch} {D : va_G} {cI cO cR : ClassId} {q : Nat → Nat} {t0 : Nat} {b : BSt} {G : Gx} {N : Nat} {rr : (Int32 × USt)} (C : jC l rmX10_crowd D (tX cI cO cR) G cX10_crowd 7 RX10) (hR : jR D (tX cI cO cR) G (0, 0) (some .int) (some (.int rr.1)) (wX cI cO cR q t0 rr.2 b))  (u : USt) (hm : mX10_crowd_39 N b u = some rr) : J l rmX10_crowd D G (0, 0) (wX cI cO cR q t0 u b) [] [] 39 := by
  unfold mX10_crowd_39 at hm
  refine j_bipush (v := (-102)) C dX10_crowd_39 (by decide) ?_
  cases hm
  exact j_iret C hR dX10_crowd_41
def mX10_crowd (N : Nat) (b : BSt) (u : USt) (x1 : Int32) (x2 : Int32) (x3 : Int32) (x4 : Int32) (x5 : Int32) (x6 : Int32) : Option (Int32 × USt) := (mX10_isIslet N x1).bind (fun r1 => if r1 = 0 then (mX10_crowd_14 N b u) else ((mX10_isIslet N x2).bind (fun r2 => if ¬ r2 = 0 then ((mX10_isMinute N x3).bind (fun r3 => if r3 = 0 then (mX10_crowd_39 N b u) else (if x4 < x3 then (mX10_crowd_39 N b u) else (if x4 ≤ (x3 + 60) then ((mX10_isCarrier N x5 x6).bind (fun r4 => if ¬ r4 = 0 then (if ¬ x1 = x2 then ((mX10_openTable N b u x3 (x4 - x3) x5 x6).bind (fun u6 => bp (mX1_most N u6 x1 x2) (fun r7 u8 => some (r7, u8)))) else (some ((-103), u))) else (some ((-102), u)))) else (mX10_crowd_39 N b u))))) else (mX10_crowd_14 N b u))))
set_option maxRecDepth 100000 in
set_option maxHeartbeats 4000000 in
theorem qX10_crowd {l : Launch} {D : va_G} {cI cO cR : ClassId} {q : Nat → Nat} {t0 : Nat} {u : USt} {b : BSt} {N : Nat} {x1 : Int32} {x2 : Int32} {x3 : Int32} {x4 : Int32} {x5 : Int32} {x6 : Int32} {rr : (Int32 × USt)} (hm : mX10_crowd N b u x1 x2 x3 x4 x5 x6 = some rr) : Con l D (tX cI cO cR) yX10_crowd (wS yX10_crowd cX10_crowd 7 (some .int)) rmX10_crowd [.ref (q 0), .int x1, .int x2, .int x3, .int x4, .int x5, .int x6] (wX cI cO cR q t0 u b) (some (.int rr.1)) (wX cI cO cR q t0 rr.2 b) := by
  refine Con.of (by decide +kernel) (Nat.le_of_ble_eq_true rfl) (fun G C hR => ?_)
  unfold mX10_crowd at hm
  show J l rmX10_crowd D G (0, 0) (wX cI cO cR q t0 u b) [(0, .ref (q 0)), (1, .int x1), (2, .int x2), (3, .int x3), (4, .int x4), (5, .int x5), (6, .int x6)] [] 0
  refine j_iload_n C dX10_crowd_0 rfl 1 rfl ?_
  refine j_bind hm (fun r1 hr1 hm => ?_)
  refine j_callS (cs' := (0, 0)) (As := [.int x1]) (rest := []) C (qX10_isIslet hr1) w2_50 w3_144 w2_49 w1_1 wd_X10_isIslet ⟨by decide, by decide⟩ rfl (Nat.le_of_ble_eq_true rfl) dX10_crowd_1 ⟨by decide, by decide⟩ rfl rfl ?_
  refine j_if_eqq (tgt := 14) C dX10_crowd_4 (by decide) hm (fun hm => ?_) (fun hm => ?_)
  · exact J.sub [] rfl (kX10_crowd_14 C hR u hm)
  · refine j_iload_n C dX10_crowd_7 rfl 2 rfl ?_
    refine j_bind hm (fun r2 hr2 hm => ?_)
    refine j_callS (cs' := (0, 0)) (As := [.int x2]) (rest := []) C (qX10_isIslet hr2) w2_50 w3_144 w2_49 w1_1 wd_X10_isIslet ⟨by decide, by decide⟩ rfl (Nat.le_of_ble_eq_true rfl) dX10_crowd_8 ⟨by decide, by decide⟩ rfl rfl ?_
    refine j_if_neq (tgt := 17) C dX10_crowd_11 (by decide) hm (fun hm => ?_) (fun hm => ?_)
    · refine j_iload_n C dX10_crowd_17 rfl 3 rfl ?_
      refine j_bind hm (fun r3 hr3 hm => ?_)
      refine j_callS (cs' := (0, 0)) (As := [.int x3]) (rest := []) C (qX10_isMinute hr3) w3_147 w3_145 w3_146 w1_1 wd_X10_isMinute ⟨by decide, by decide⟩ rfl (Nat.le_of_ble_eq_true rfl) dX10_crowd_18 ⟨by decide, by decide⟩ rfl rfl ?_
      refine j_if_eqq (tgt := 39) C dX10_crowd_21 (by decide) hm (fun hm => ?_) (fun hm => ?_)
      · exact J.sub [] rfl (kX10_crowd_39 C hR u hm)
      · refine j_iload C dX10_crowd_24 4 rfl ?_
        refine j_iload_n C dX10_crowd_26 rfl 3 rfl ?_
        refine j_icmp_ltq (tgt := 39) C dX10_crowd_27 (by decide) hm (fun hm => ?_) (fun hm => ?_)
        · exact J.sub [] rfl (kX10_crowd_39 C hR u hm)
        · refine j_iload C dX10_crowd_30 4 rfl ?_
          refine j_iload_n C dX10_crowd_32 rfl 3 rfl ?_
          refine j_bipush (v := 60) C dX10_crowd_33 (by decide) ?_
          refine j_iadd C dX10_crowd_35 ?_
          refine j_icmp_leq (tgt := 42) C dX10_crowd_36 (by decide) hm (fun hm => ?_) (fun hm => ?_)
          · refine j_iload C dX10_crowd_42 5 rfl ?_
            refine j_iload C dX10_crowd_44 6 rfl ?_
            refine j_bind hm (fun r4 hr4 hm => ?_)
            refine j_callS (cs' := (0, 0)) (As := [.int x5, .int x6]) (rest := []) C (qX10_isCarrier hr4) w3_150 w3_148 w3_149 w1_1 wd_X10_isCarrier ⟨by decide, by decide⟩ rfl (Nat.le_of_ble_eq_true rfl) dX10_crowd_46 ⟨by decide, by decide⟩ rfl rfl ?_
            refine j_if_neq (tgt := 55) C dX10_crowd_49 (by decide) hm (fun hm => ?_) (fun hm => ?_)
            · refine j_iload_n C dX10_crowd_55 rfl 1 rfl ?_
              refine j_iload_n C dX10_crowd_56 rfl 2 rfl ?_
              refine j_icmp_neq (tgt := 63) C dX10_crowd_57 (by decide) hm (fun hm => ?_) (fun hm => ?_)
              · refine j_aload_n C dX10_crowd_63 rfl 0 rfl ?_
                refine j_iload_n C dX10_crowd_64 rfl 3 rfl ?_
                refine j_iload C dX10_crowd_65 4 rfl ?_
                refine j_iload_n C dX10_crowd_67 rfl 3 rfl ?_
                refine j_isub C dX10_crowd_68 ?_
                refine j_iload C dX10_crowd_69 5 rfl ?_
                refine j_iload C dX10_crowd_71 6 rfl ?_
                refine j_bind hm (fun u6 hr5 hm => ?_)
                refine j_callV (cs' := (0, 0)) (As := [.int x3, .int (x4 - x3), .int x5, .int x6]) (rest := []) C (qX10_openTable hr5) w3_154 w3_151 w3_153 w0_10 w1_1 wd_X10_openTable ⟨by decide, by decide⟩ 0 rfl rfl rfl (Nat.le_of_ble_eq_true rfl) dX10_crowd_73 ⟨by decide, by decide⟩ rfl rfl ?_
                refine j_aload_n C dX10_crowd_76 rfl 0 rfl ?_
                refine jX_g0_6_X10 C dX10_crowd_77 ?_
                refine j_aload_n C dX10_crowd_80 rfl 0 rfl ?_
                refine jX_g0_5_X10 C dX10_crowd_81 ?_
                refine j_iload_n C dX10_crowd_84 rfl 1 rfl ?_
                refine j_iload_n C dX10_crowd_85 rfl 2 rfl ?_
                refine j_bindp hm (fun r7 u8 hr7 hm => ?_)
                refine j_callV (cs' := (0, 0)) (As := [.ref (q 12), .int x1, .int x2]) (rest := []) C (qX1_most hr7) w4_19 w4_16 w4_17 w4_18 w1_10 wd_X1_most ⟨by decide, by decide⟩ 18 rfl rfl rfl (Nat.le_of_ble_eq_true rfl) dX10_crowd_86 ⟨by decide, by decide⟩ rfl rfl ?_
                cases hm
                exact j_iret C hR dX10_crowd_89
              · refine j_bipush (v := (-103)) C dX10_crowd_60 (by decide) ?_
                cases hm
                exact j_iret C hR dX10_crowd_62
            · refine j_bipush (v := (-102)) C dX10_crowd_52 (by decide) ?_
              cases hm
              exact j_iret C hR dX10_crowd_54
          · exact J.sub [] rfl (kX10_crowd_39 C hR u hm)
    · exact J.sub [] rfl (kX10_crowd_14 C hR u hm)
def rmX10_stranded : Room := { frames := 6, cells := 0, slots := 0, locals := 142 }
theorem wd_X10_stranded : yX10_stranded.cls ≠ "java/lang/invoke/MethodHandle" ∧ yX10_stranded.cls ≠ "java/lang/invoke/VarHandle" ∧ (parseMethodDescriptor yX10_stranded.desc).map (fun d => d.parameters.length) = some 3 := by decide +kernel
def mX10_stranded_15 (N : Nat) (b : BSt) (u : USt) : Option (Int32 × USt) := some ((-101), u)
set_option maxRecDepth 100000 in
set_option maxHeartbeats 4000000 in
theorem kX10_stranded_15 {l : Launch} {D : va_G} {cI cO cR : ClassId} {q : Nat → Nat} {t0 : Nat} {b : BSt} {G : Gx} {N : Nat} {rr : (Int32 × USt)} (C : jC l rmX10_stranded D (tX cI cO cR) G cX10_stranded 7 RX10) (hR : jR D (tX cI cO cR) G (0, 0) (some .int) (some (.int rr.1)) (wX cI cO cR q t0 rr.2 b))  (u : USt) (hm : mX10_stranded_15 N b u = some rr) : J l rmX10_stranded D G (0, 0) (wX cI cO cR q t0 u b) [] [] 15 := by
  unfold mX10_stranded_15 at hm
  refine j_bipush (v := (-101)) C dX10_stranded_15 (by decide) ?_
  cases hm
  exact j_iret C hR dX10_stranded_17
def mX10_stranded_44 (N : Nat) (b : BSt) (u : USt) : Option (Int32 × USt) := some ((-102), u)
set_option maxRecDepth 100000 in
set_option maxHeartbeats 4000000 in
theorem kX10_stranded_44 {l : Launch} {D : va_G} {cI cO cR : ClassId} {q : Nat → Nat} {t0 : Nat} {b : BSt} {G : Gx} {N : Nat} {rr : (Int32 × USt)} (C : jC l rmX10_stranded D (tX cI cO cR) G cX10_stranded 7 RX10) (hR : jR D (tX cI cO cR) G (0, 0) (some .int) (some (.int rr.1)) (wX cI cO cR q t0 rr.2 b))  (u : USt) (hm : mX10_stranded_44 N b u = some rr) : J l rmX10_stranded D G (0, 0) (wX cI cO cR q t0 u b) [] [] 44 := by
  unfold mX10_stranded_44 at hm
  refine j_bipush (v := (-102)) C dX10_stranded_44 (by decide) ?_
  cases hm
  exact j_iret C hR dX10_stranded_46
def mX10_stranded_126 (N : Nat) (b : BSt) (k98 : USt → Int32 → Int32 → Option (Int32 × USt)) (u : USt) (x5 : Int32) (x6 : Int32) : Option (Int32 × USt) := k98 u x5 (x6 + 1)
set_option maxRecDepth 100000 in
set_option maxHeartbeats 4000000 in
theorem kX10_stranded_126 {l : Launch} {D : va_G} {cI cO cR : ClassId} {q : Nat → Nat} {t0 : Nat} {b : BSt} {G : Gx} {N : Nat} {rr : (Int32 × USt)} (C : jC l rmX10_stranded D (tX cI cO cR) G cX10_stranded 7 RX10) (hR : jR D (tX cI cO cR) G (0, 0) (some .int) (some (.int rr.1)) (wX cI cO cR q t0 rr.2 b)) (k98 : USt → Int32 → Int32 → Option (Int32 × USt)) (K98 : ∀ (u : USt) (x5 : Int32) (x6 : Int32), k98 u x5 x6 = some rr → J l rmX10_stranded D G (0, 0) (wX cI cO cR q t0 u b) [(0, .ref (q 0)), (5, .int x5), (6, .int x6)] [] 98) (u : USt) (x5 : Int32) (x6 : Int32) (hm : mX10_stranded_126 N b k98 u x5 x6 = some rr) : J l rmX10_stranded D G (0, 0) (wX cI cO cR q t0 u b) [(0, .ref (q 0)), (5, .int x5), (6, .int x6)] [] 126 := by
  unfold mX10_stranded_126 at hm
  refine j_iinc (v := (x6 + 1)) C dX10_stranded_126 2 rfl rfl (by decide) rfl ?_
  refine j_goto (tgt := 98) C dX10_stranded_129 (by decide) ?_
  exact J.sub [1, 2, 0] rfl (K98 u x5 (x6 + 1) hm)
def mX10_stranded_98 (N : Nat) (b : BSt) (k98 : USt → Int32 → Int32 → Option (Int32 × USt)) (u : USt) (x5 : Int32) (x6 : Int32) : Option (Int32 × USt) := if 8 ≤ x6 then (some (x5, u)) else (rdX u 24 x6 (fun ra1 => if ¬ ra1 = 2147483647 then (mX10_stranded_126 N b k98 u x5 x6) else (nm (x5 ||| (1 <<< (x6 &&& 31))) (fun v2 => mX10_stranded_126 N b k98 u v2 x6))))
set_option maxRecDepth 100000 in
set_option maxHeartbeats 4000000 in
theorem kX10_stranded_98 {l : Launch} {D : va_G} {cI cO cR : ClassId} {q : Nat → Nat} {t0 : Nat} {b : BSt} {G : Gx} {N : Nat} {rr : (Int32 × USt)} (C : jC l rmX10_stranded D (tX cI cO cR) G cX10_stranded 7 RX10) (hR : jR D (tX cI cO cR) G (0, 0) (some .int) (some (.int rr.1)) (wX cI cO cR q t0 rr.2 b)) (k98 : USt → Int32 → Int32 → Option (Int32 × USt)) (K98 : ∀ (u : USt) (x5 : Int32) (x6 : Int32), k98 u x5 x6 = some rr → J l rmX10_stranded D G (0, 0) (wX cI cO cR q t0 u b) [(0, .ref (q 0)), (5, .int x5), (6, .int x6)] [] 98) (u : USt) (x5 : Int32) (x6 : Int32) (hm : mX10_stranded_98 N b k98 u x5 x6 = some rr) : J l rmX10_stranded D G (0, 0) (wX cI cO cR q t0 u b) [(0, .ref (q 0)), (5, .int x5), (6, .int x6)] [] 98 := by
  unfold mX10_stranded_98 at hm
  refine j_iload C dX10_stranded_98 2 rfl ?_
  refine j_bipush (v := 8) C dX10_stranded_100 (by decide) ?_
  refine j_icmp_geq (tgt := 132) C dX10_stranded_102 (by decide) hm (fun hm => ?_) (fun hm => ?_)
  · refine j_iload C dX10_stranded_132 1 rfl ?_
    cases hm
    exact j_iret C hR dX10_stranded_134
  · refine j_aload_n C dX10_stranded_105 rfl 0 rfl ?_
    refine jX_g0_7_X10 C dX10_stranded_106 ?_
    refine j_iload C dX10_stranded_109 2 rfl ?_
    refine jX_L C dX10_stranded_111 hm (fun ra1 hm => ?_)
    refine j_ldc C dX10_stranded_112 w3_192 ?_
    refine j_icmp_neq (tgt := 126) C dX10_stranded_114 (by decide) hm (fun hm => ?_) (fun hm => ?_)
    · exact kX10_stranded_126 C hR k98 K98 u x5 x6 hm
    · refine j_iload C dX10_stranded_117 1 rfl ?_
      refine j_iconst (v := 1) C dX10_stranded_119 (by decide) ?_
      refine j_iload C dX10_stranded_120 2 rfl ?_
      refine j_ishl C dX10_stranded_122 ?_
      refine j_ior C dX10_stranded_123 ?_
      refine j_nmi hm (fun v2 hm => ?_)
      refine j_istore C dX10_stranded_124 (by decide) rfl ?_
      exact J.sub [1, 0, 2] rfl (kX10_stranded_126 C hR k98 K98 u v2 x6 hm)
def mX10_stranded_h98 (N : Nat) (b : BSt) : Nat → USt → Int32 → Int32 → Option (Int32 × USt)
  | 0, _, _, _ => none
  | n + 1, u, x5, x6 => mX10_stranded_98 N b (mX10_stranded_h98 N b n) u x5 x6
theorem kX10_stranded_h98 {l : Launch} {D : va_G} {cI cO cR : ClassId} {q : Nat → Nat} {t0 : Nat} {b : BSt} {G : Gx} {N : Nat} {rr : (Int32 × USt)} (C : jC l rmX10_stranded D (tX cI cO cR) G cX10_stranded 7 RX10) (hR : jR D (tX cI cO cR) G (0, 0) (some .int) (some (.int rr.1)) (wX cI cO cR q t0 rr.2 b))  : ∀ (n : Nat) (u : USt) (x5 : Int32) (x6 : Int32), mX10_stranded_h98 N b n u x5 x6 = some rr → J l rmX10_stranded D G (0, 0) (wX cI cO cR q t0 u b) [(0, .ref (q 0)), (5, .int x5), (6, .int x6)] [] 98 := by
  intro n
  induction n with
  | zero =>
    intro u x5 x6 hm
    have hm : (none : Option (Int32 × USt)) = some rr := hm
    cases hm
  | succ n ih =>
    intro u x5 x6 hm
    exact kX10_stranded_98 C hR _ ih u x5 x6 hm
def mX10_stranded (N : Nat) (b : BSt) (u : USt) (x1 : Int32) (x2 : Int32) (x3 : Int32) : Option (Int32 × USt) := (mX10_isBridge N u x1).bind (fun r1 => if r1 = 0 then (mX10_stranded_15 N b u) else ((mX10_isIslet N x3).bind (fun r2 => if ¬ r2 = 0 then ((mJx4a65c_get_915e3 N u b x1).bind (fun r3 => bwt b r3 (fun _ => if x2 < 0 then (mX10_stranded_44 N b u) else ((vX0_endCount N b r3).bind (fun r4 => if x2 < r4 then ((mX10_openTable N b u 0 400 1 1).bind (fun u6 => bfi b r3 0 (fun f7 => (vX0_end N b r3 x2).bind (fun r8 => (mX9_layAlways N u6 x1 f7 r8).bind (fun u10 => (mX9_reach N u10 x3 0 255 24).bind (fun u12 => mX10_stranded_h98 N b N u12 0 0)))))) else (mX10_stranded_44 N b u)))))) else (mX10_stranded_15 N b u))))
set_option maxRecDepth 100000 in
set_option maxHeartbeats 4000000 in
theorem qX10_stranded {l : Launch} {D : va_G} {cI cO cR : ClassId} {q : Nat → Nat} {t0 : Nat} {u : USt} {b : BSt} {N : Nat} {x1 : Int32} {x2 : Int32} {x3 : Int32} {rr : (Int32 × USt)} (hm : mX10_stranded N b u x1 x2 x3 = some rr) : Con l D (tX cI cO cR) yX10_stranded (wS yX10_stranded cX10_stranded 7 (some .int)) rmX10_stranded [.ref (q 0), .int x1, .int x2, .int x3] (wX cI cO cR q t0 u b) (some (.int rr.1)) (wX cI cO cR q t0 rr.2 b) := by
  refine Con.of (by decide +kernel) (Nat.le_of_ble_eq_true rfl) (fun G C hR => ?_)
  unfold mX10_stranded at hm
  show J l rmX10_stranded D G (0, 0) (wX cI cO cR q t0 u b) [(0, .ref (q 0)), (1, .int x1), (2, .int x2), (3, .int x3)] [] 0
  refine j_aload_n C dX10_stranded_0 rfl 0 rfl ?_
  refine j_iload_n C dX10_stranded_1 rfl 1 rfl ?_
  refine j_bind hm (fun r1 hr1 hm => ?_)
  refine j_callV (cs' := (0, 0)) (As := [.int x1]) (rest := []) C (qX10_isBridge hr1) w2_230 w2_227 w2_229 w0_8 w1_1 wd_X10_isBridge ⟨by decide, by decide⟩ 0 rfl rfl rfl (Nat.le_of_ble_eq_true rfl) dX10_stranded_2 ⟨by decide, by decide⟩ rfl rfl ?_
  refine j_if_eqq (tgt := 15) C dX10_stranded_5 (by decide) hm (fun hm => ?_) (fun hm => ?_)
  · exact J.sub [] rfl (kX10_stranded_15 C hR u hm)
  · refine j_iload_n C dX10_stranded_8 rfl 3 rfl ?_
    refine j_bind hm (fun r2 hr2 hm => ?_)
    refine j_callS (cs' := (0, 0)) (As := [.int x3]) (rest := []) C (qX10_isIslet hr2) w2_50 w3_144 w2_49 w1_1 wd_X10_isIslet ⟨by decide, by decide⟩ rfl (Nat.le_of_ble_eq_true rfl) dX10_stranded_9 ⟨by decide, by decide⟩ rfl rfl ?_
    refine j_if_neq (tgt := 18) C dX10_stranded_12 (by decide) hm (fun hm => ?_) (fun hm => ?_)
    · refine j_aload_n C dX10_stranded_18 rfl 0 rfl ?_
      refine jX_g0_2_X10 C dX10_stranded_19 ?_
      refine j_iload_n C dX10_stranded_22 rfl 1 rfl ?_
      refine j_bind hm (fun r3 hr3 hm => ?_)
      refine j_callV (cs' := (0, 0)) (As := [.int x1]) (rest := []) C (qJx4a65c_get_915e3 hr3) w2_234 w2_231 w2_232 w2_233 w1_6 wd_Jx4a65c_get_915e3 ⟨by decide, by decide⟩ 5 rfl rfl rfl (Nat.le_of_ble_eq_true rfl) dX10_stranded_23 ⟨by decide, by decide⟩ rfl rfl ?_
      refine jX_cast C w3_5 w6_67 w6_68 w6_69 dX10_stranded_26 hm (fun hm => ?_)
      refine j_astore C dX10_stranded_29 (by decide) rfl ?_
      refine j_iload_n C dX10_stranded_31 rfl 3 rfl ?_
      refine j_if_ltq (tgt := 44) C dX10_stranded_32 (by decide) hm (fun hm => ?_) (fun hm => ?_)
      · exact J.sub [] rfl (kX10_stranded_44 C hR u hm)
      · refine j_iload_n C dX10_stranded_35 rfl 3 rfl ?_
        refine j_aload C dX10_stranded_36 0 rfl ?_
        refine j_bind hm (fun r4 hr4 hm => ?_)
        refine jX_v_X10_194 (rest := [.int x2]) C hr4 ⟨by decide, by decide⟩ (Nat.le_of_ble_eq_true rfl) dX10_stranded_38 (by decide) ?_
        refine j_icmp_ltq (tgt := 47) C dX10_stranded_41 (by decide) hm (fun hm => ?_) (fun hm => ?_)
        · refine j_aload_n C dX10_stranded_47 rfl 1 rfl ?_
          refine j_iconst (v := 0) C dX10_stranded_48 (by decide) ?_
          refine j_sipush (v := 400) C dX10_stranded_49 (by decide) ?_
          refine j_iconst (v := 1) C dX10_stranded_52 (by decide) ?_
          refine j_iconst (v := 1) C dX10_stranded_53 (by decide) ?_
          refine j_bind hm (fun u6 hr5 hm => ?_)
          refine j_callV (cs' := (0, 0)) (As := [.int 0, .int 400, .int 1, .int 1]) (rest := []) C (qX10_openTable hr5) w3_154 w3_151 w3_153 w0_10 w1_1 wd_X10_openTable ⟨by decide, by decide⟩ 0 rfl rfl rfl (Nat.le_of_ble_eq_true rfl) dX10_stranded_54 ⟨by decide, by decide⟩ rfl rfl ?_
          refine j_aload_n C dX10_stranded_57 rfl 1 rfl ?_
          refine jX_g0_5_X10 C dX10_stranded_58 ?_
          refine j_iload_n C dX10_stranded_61 rfl 2 rfl ?_
          refine j_aload C dX10_stranded_62 0 rfl ?_
          refine jX_b0 C w2_109 dX10_stranded_64 hm (fun f7 hm => ?_)
          refine j_aload C dX10_stranded_67 0 rfl ?_
          refine j_iload_n C dX10_stranded_69 rfl 3 rfl ?_
          refine j_bind hm (fun r8 hr8 hm => ?_)
          refine jX_v_X10_200 (rest := [.int f7, .int x1, .ref (q 12)]) C hr8 ⟨by decide, by decide⟩ (Nat.le_of_ble_eq_true rfl) dX10_stranded_70 (by decide) ?_
          refine j_bind hm (fun u10 hr9 hm => ?_)
          refine j_callV (cs' := (0, 0)) (As := [.int x1, .int f7, .int r8]) (rest := []) C (qX9_layAlways hr9) w3_175 w4_67 w3_173 w3_174 w1_9 wd_X9_layAlways ⟨by decide, by decide⟩ 12 rfl rfl rfl (Nat.le_of_ble_eq_true rfl) dX10_stranded_73 ⟨by decide, by decide⟩ rfl rfl ?_
          refine j_aload_n C dX10_stranded_76 rfl 1 rfl ?_
          refine jX_g0_5_X10 C dX10_stranded_77 ?_
          refine j_iload_n C dX10_stranded_80 rfl 4 rfl ?_
          refine j_iconst (v := 0) C dX10_stranded_81 (by decide) ?_
          refine j_sipush (v := 255) C dX10_stranded_82 (by decide) ?_
          refine j_aload_n C dX10_stranded_85 rfl 1 rfl ?_
          refine jX_g0_7_X10 C dX10_stranded_86 ?_
          refine j_bind hm (fun u12 hr11 hm => ?_)
          refine j_callV (cs' := (0, 0)) (As := [.int x3, .int 0, .int 255, .ref (q 24)]) (rest := []) C (qX9_reach hr11) w3_182 w3_179 w3_180 w3_181 w1_9 wd_X9_reach ⟨by decide, by decide⟩ 12 rfl rfl rfl (Nat.le_of_ble_eq_true rfl) dX10_stranded_89 ⟨by decide, by decide⟩ rfl rfl ?_
          refine j_iconst (v := 0) C dX10_stranded_92 (by decide) ?_
          refine j_istore C dX10_stranded_93 (by decide) rfl ?_
          refine j_iconst (v := 0) C dX10_stranded_95 (by decide) ?_
          refine j_istore C dX10_stranded_96 (by decide) rfl ?_
          exact J.sub [3, 1, 0] rfl (kX10_stranded_h98 C hR N u12 0 0 hm)
        · exact J.sub [] rfl (kX10_stranded_44 C hR u hm)
    · exact J.sub [] rfl (kX10_stranded_15 C hR u hm)
def rmX10_meeting : Room := { frames := 6, cells := 0, slots := 0, locals := 142 }
theorem wd_X10_meeting : yX10_meeting.cls ≠ "java/lang/invoke/MethodHandle" ∧ yX10_meeting.cls ≠ "java/lang/invoke/VarHandle" ∧ (parseMethodDescriptor yX10_meeting.desc).map (fun d => d.parameters.length) = some 6 := by decide +kernel
def mX10_meeting_14 (N : Nat) (b : BSt) (u : USt) : Option (Int32 × USt) := some ((-101), u)
set_option maxRecDepth 100000 in
set_option maxHeartbeats 4000000 in
theorem kX10_meeting_14 {l : Launch} {D : va_G} {cI cO cR : ClassId} {q : Nat → Nat} {t0 : Nat} {b : BSt} {G : Gx} {N : Nat} {rr : (Int32 × USt)} (C : jC l rmX10_meeting D (tX cI cO cR) G cX10_meeting 11 RX10) (hR : jR D (tX cI cO cR) G (0, 0) (some .int) (some (.int rr.1)) (wX cI cO cR q t0 rr.2 b))  (u : USt) (hm : mX10_meeting_14 N b u = some rr) : J l rmX10_meeting D G (0, 0) (wX cI cO cR q t0 u b) [] [] 14 := by
  unfold mX10_meeting_14 at hm
  refine j_bipush (v := (-101)) C dX10_meeting_14 (by decide) ?_
  cases hm
  exact j_iret C hR dX10_meeting_16
def mX10_meeting_45 (N : Nat) (b : BSt) (u : USt) : Option (Int32 × USt) := some ((-102), u)
set_option maxRecDepth 100000 in
set_option maxHeartbeats 4000000 in
theorem kX10_meeting_45 {l : Launch} {D : va_G} {cI cO cR : ClassId} {q : Nat → Nat} {t0 : Nat} {b : BSt} {G : Gx} {N : Nat} {rr : (Int32 × USt)} (C : jC l rmX10_meeting D (tX cI cO cR) G cX10_meeting 11 RX10) (hR : jR D (tX cI cO cR) G (0, 0) (some .int) (some (.int rr.1)) (wX cI cO cR q t0 rr.2 b))  (u : USt) (hm : mX10_meeting_45 N b u = some rr) : J l rmX10_meeting D G (0, 0) (wX cI cO cR q t0 u b) [] [] 45 := by
  unfold mX10_meeting_45 at hm
  refine j_bipush (v := (-102)) C dX10_meeting_45 (by decide) ?_
  cases hm
  exact j_iret C hR dX10_meeting_47
def mX10_meeting_143 (N : Nat) (b : BSt) (k102 : USt → Int32 → Int32 → Int32 → Int32 → Int32 → Option (Int32 × USt)) (u : USt) (x3 : Int32) (x6 : Int32) (x7 : Int32) (x8 : Int32) (x9 : Int32) : Option (Int32 × USt) := k102 u x3 x6 x7 x8 (x9 + 1)
set_option maxRecDepth 100000 in
set_option maxHeartbeats 4000000 in
theorem kX10_meeting_143 {l : Launch} {D : va_G} {cI cO cR : ClassId} {q : Nat → Nat} {t0 : Nat} {b : BSt} {G : Gx} {N : Nat} {rr : (Int32 × USt)} (C : jC l rmX10_meeting D (tX cI cO cR) G cX10_meeting 11 RX10) (hR : jR D (tX cI cO cR) G (0, 0) (some .int) (some (.int rr.1)) (wX cI cO cR q t0 rr.2 b)) (k102 : USt → Int32 → Int32 → Int32 → Int32 → Int32 → Option (Int32 × USt)) (K102 : ∀ (u : USt) (x3 : Int32) (x6 : Int32) (x7 : Int32) (x8 : Int32) (x9 : Int32), k102 u x3 x6 x7 x8 x9 = some rr → J l rmX10_meeting D G (0, 0) (wX cI cO cR q t0 u b) [(0, .ref (q 0)), (3, .int x3), (6, .int x6), (7, .int x7), (8, .int x8), (9, .int x9)] [] 102) (u : USt) (x3 : Int32) (x6 : Int32) (x7 : Int32) (x8 : Int32) (x9 : Int32) (hm : mX10_meeting_143 N b k102 u x3 x6 x7 x8 x9 = some rr) : J l rmX10_meeting D G (0, 0) (wX cI cO cR q t0 u b) [(0, .ref (q 0)), (3, .int x3), (6, .int x6), (7, .int x7), (8, .int x8), (9, .int x9)] [] 143 := by
  unfold mX10_meeting_143 at hm
  refine j_iinc (v := (x9 + 1)) C dX10_meeting_143 5 rfl rfl (by decide) rfl ?_
  refine j_goto (tgt := 102) C dX10_meeting_146 (by decide) ?_
  exact J.sub [1, 2, 3, 4, 5, 0] rfl (K102 u x3 x6 x7 x8 (x9 + 1) hm)
def mX10_meeting_171 (N : Nat) (b : BSt) (u : USt) (s0 : Int32) : Option (Int32 × USt) := some (s0, u)
set_option maxRecDepth 100000 in
set_option maxHeartbeats 4000000 in
theorem kX10_meeting_171 {l : Launch} {D : va_G} {cI cO cR : ClassId} {q : Nat → Nat} {t0 : Nat} {b : BSt} {G : Gx} {N : Nat} {rr : (Int32 × USt)} (C : jC l rmX10_meeting D (tX cI cO cR) G cX10_meeting 11 RX10) (hR : jR D (tX cI cO cR) G (0, 0) (some .int) (some (.int rr.1)) (wX cI cO cR q t0 rr.2 b))  (u : USt) (s0 : Int32) (hm : mX10_meeting_171 N b u s0 = some rr) : J l rmX10_meeting D G (0, 0) (wX cI cO cR q t0 u b) [] [.int s0] 171 := by
  unfold mX10_meeting_171 at hm
  cases hm
  exact j_iret C hR dX10_meeting_171
def mX10_meeting_102 (N : Nat) (b : BSt) (k102 : USt → Int32 → Int32 → Int32 → Int32 → Int32 → Option (Int32 × USt)) (u : USt) (x3 : Int32) (x6 : Int32) (x7 : Int32) (x8 : Int32) (x9 : Int32) : Option (Int32 × USt) := if 8 ≤ x9 then (if ¬ x7 = (-1) then (if ¬ x6 = 0 then (mX10_meeting_171 N b u (x3 + x8)) else (mX10_meeting_171 N b u x7)) else (some ((-1), u))) else (rdX u 24 x9 (fun ra1 => rdX u 25 x9 (fun ra2 => (mJ9_max_7cf53 N ra1 ra2).bind (fun r3 => if x8 ≤ r3 then (mX10_meeting_143 N b k102 u x3 x6 x7 x8 x9) else (mX10_meeting_143 N b k102 u x3 x6 x9 r3 x9)))))
set_option maxRecDepth 100000 in
set_option maxHeartbeats 4000000 in
theorem kX10_meeting_102 {l : Launch} {D : va_G} {cI cO cR : ClassId} {q : Nat → Nat} {t0 : Nat} {b : BSt} {G : Gx} {N : Nat} {rr : (Int32 × USt)} (C : jC l rmX10_meeting D (tX cI cO cR) G cX10_meeting 11 RX10) (hR : jR D (tX cI cO cR) G (0, 0) (some .int) (some (.int rr.1)) (wX cI cO cR q t0 rr.2 b)) (k102 : USt → Int32 → Int32 → Int32 → Int32 → Int32 → Option (Int32 × USt)) (K102 : ∀ (u : USt) (x3 : Int32) (x6 : Int32) (x7 : Int32) (x8 : Int32) (x9 : Int32), k102 u x3 x6 x7 x8 x9 = some rr → J l rmX10_meeting D G (0, 0) (wX cI cO cR q t0 u b) [(0, .ref (q 0)), (3, .int x3), (6, .int x6), (7, .int x7), (8, .int x8), (9, .int x9)] [] 102) (u : USt) (x3 : Int32) (x6 : Int32) (x7 : Int32) (x8 : Int32) (x9 : Int32) (hm : mX10_meeting_102 N b k102 u x3 x6 x7 x8 x9 = some rr) : J l rmX10_meeting D G (0, 0) (wX cI cO cR q t0 u b) [(0, .ref (q 0)), (3, .int x3), (6, .int x6), (7, .int x7), (8, .int x8), (9, .int x9)] [] 102 := by
  unfold mX10_meeting_102 at hm
  refine j_iload C dX10_meeting_102 5 rfl ?_
  refine j_bipush (v := 8) C dX10_meeting_104 (by decide) ?_
  refine j_icmp_geq (tgt := 149) C dX10_meeting_106 (by decide) hm (fun hm => ?_) (fun hm => ?_)
  · refine j_iload C dX10_meeting_149 3 rfl ?_
    refine j_iconst (v := (-1)) C dX10_meeting_151 (by decide) ?_
    refine j_icmp_neq (tgt := 157) C dX10_meeting_152 (by decide) hm (fun hm => ?_) (fun hm => ?_)
    · refine j_iload C dX10_meeting_157 2 rfl ?_
      refine j_if_neq (tgt := 167) C dX10_meeting_159 (by decide) hm (fun hm => ?_) (fun hm => ?_)
      · refine j_iload_n C dX10_meeting_167 rfl 1 rfl ?_
        refine j_iload C dX10_meeting_168 4 rfl ?_
        refine j_iadd C dX10_meeting_170 ?_
        exact J.sub [] rfl (kX10_meeting_171 C hR u (x3 + x8) hm)
      · refine j_iload C dX10_meeting_162 3 rfl ?_
        refine j_goto (tgt := 171) C dX10_meeting_164 (by decide) ?_
        exact J.sub [] rfl (kX10_meeting_171 C hR u x7 hm)
    · refine j_iconst (v := (-1)) C dX10_meeting_155 (by decide) ?_
      cases hm
      exact j_iret C hR dX10_meeting_156
  · refine j_aload_n C dX10_meeting_109 rfl 0 rfl ?_
    refine jX_g0_7_X10 C dX10_meeting_110 ?_
    refine j_iload C dX10_meeting_113 5 rfl ?_
    refine jX_L C dX10_meeting_115 hm (fun ra1 hm => ?_)
    refine j_aload_n C dX10_meeting_116 rfl 0 rfl ?_
    refine jX_g0_8_X10 C dX10_meeting_117 ?_
    refine j_iload C dX10_meeting_120 5 rfl ?_
    refine jX_L C dX10_meeting_122 hm (fun ra2 hm => ?_)
    refine j_bind hm (fun r3 hr3 hm => ?_)
    refine j_callS (cs' := (0, 0)) (As := [.int ra1, .int ra2]) (rest := []) C (qJ9_max_7cf53 hr3) w2_90 w4_72 w2_89 w1_14 wd_J9_max_7cf53 ⟨by decide, by decide⟩ rfl (Nat.le_of_ble_eq_true rfl) dX10_meeting_123 ⟨by decide, by decide⟩ rfl rfl ?_
    refine j_istore C dX10_meeting_126 (by decide) rfl ?_
    refine j_iload C dX10_meeting_128 0 rfl ?_
    refine j_iload C dX10_meeting_130 5 rfl ?_
    refine j_icmp_geq (tgt := 143) C dX10_meeting_132 (by decide) hm (fun hm => ?_) (fun hm => ?_)
    · exact J.sub [1, 2, 3, 4, 5, 6] rfl (kX10_meeting_143 C hR k102 K102 u x3 x6 x7 x8 x9 hm)
    · refine j_iload C dX10_meeting_135 0 rfl ?_
      refine j_istore C dX10_meeting_137 (by decide) rfl ?_
      refine j_iload C dX10_meeting_139 6 rfl ?_
      refine j_istore C dX10_meeting_141 (by decide) rfl ?_
      exact J.sub [3, 4, 5, 0, 1, 6] rfl (kX10_meeting_143 C hR k102 K102 u x3 x6 x9 r3 x9 hm)
def mX10_meeting_h102 (N : Nat) (b : BSt) : Nat → USt → Int32 → Int32 → Int32 → Int32 → Int32 → Option (Int32 × USt)
  | 0, _, _, _, _, _, _ => none
  | n + 1, u, x3, x6, x7, x8, x9 => mX10_meeting_102 N b (mX10_meeting_h102 N b n) u x3 x6 x7 x8 x9
theorem kX10_meeting_h102 {l : Launch} {D : va_G} {cI cO cR : ClassId} {q : Nat → Nat} {t0 : Nat} {b : BSt} {G : Gx} {N : Nat} {rr : (Int32 × USt)} (C : jC l rmX10_meeting D (tX cI cO cR) G cX10_meeting 11 RX10) (hR : jR D (tX cI cO cR) G (0, 0) (some .int) (some (.int rr.1)) (wX cI cO cR q t0 rr.2 b))  : ∀ (n : Nat) (u : USt) (x3 : Int32) (x6 : Int32) (x7 : Int32) (x8 : Int32) (x9 : Int32), mX10_meeting_h102 N b n u x3 x6 x7 x8 x9 = some rr → J l rmX10_meeting D G (0, 0) (wX cI cO cR q t0 u b) [(0, .ref (q 0)), (3, .int x3), (6, .int x6), (7, .int x7), (8, .int x8), (9, .int x9)] [] 102 := by
  intro n
  induction n with
  | zero =>
    intro u x3 x6 x7 x8 x9 hm
    have hm : (none : Option (Int32 × USt)) = some rr := hm
    cases hm
  | succ n ih =>
    intro u x3 x6 x7 x8 x9 hm
    exact kX10_meeting_102 C hR _ ih u x3 x6 x7 x8 x9 hm
def mX10_meeting (N : Nat) (b : BSt) (u : USt) (x1 : Int32) (x2 : Int32) (x3 : Int32) (x4 : Int32) (x5 : Int32) (x6 : Int32) : Option (Int32 × USt) := (mX10_isIslet N x1).bind (fun r1 => if r1 = 0 then (mX10_meeting_14 N b u) else ((mX10_isIslet N x2).bind (fun r2 => if ¬ r2 = 0 then ((mX10_isMinute N x3).bind (fun r3 => if r3 = 0 then (mX10_meeting_45 N b u) else ((mX10_isCarrier N x4 x5).bind (fun r4 => if r4 = 0 then (mX10_meeting_45 N b u) else (if x6 < 0 then (mX10_meeting_45 N b u) else (if x6 ≤ 1 then ((mX10_openTable N b u x3 400 x4 x5).bind (fun u6 => (mX9_reach N u6 x1 0 255 24).bind (fun u8 => (mX9_reach N u8 x2 0 255 25).bind (fun u10 => mX10_meeting_h102 N b N u10 x3 x6 (-1) 2147483647 0)))) else (mX10_meeting_45 N b u))))))) else (mX10_meeting_14 N b u))))
set_option maxRecDepth 100000 in
set_option maxHeartbeats 4000000 in
theorem qX10_meeting {l : Launch} {D : va_G} {cI cO cR : ClassId} {q : Nat → Nat} {t0 : Nat} {u : USt} {b : BSt} {N : Nat} {x1 : Int32} {x2 : Int32} {x3 : Int32} {x4 : Int32} {x5 : Int32} {x6 : Int32} {rr : (Int32 × USt)} (hm : mX10_meeting N b u x1 x2 x3 x4 x5 x6 = some rr) : Con l D (tX cI cO cR) yX10_meeting (wS yX10_meeting cX10_meeting 11 (some .int)) rmX10_meeting [.ref (q 0), .int x1, .int x2, .int x3, .int x4, .int x5, .int x6] (wX cI cO cR q t0 u b) (some (.int rr.1)) (wX cI cO cR q t0 rr.2 b) := by
  refine Con.of (by decide +kernel) (Nat.le_of_ble_eq_true rfl) (fun G C hR => ?_)
  unfold mX10_meeting at hm
  show J l rmX10_meeting D G (0, 0) (wX cI cO cR q t0 u b) [(0, .ref (q 0)), (1, .int x1), (2, .int x2), (3, .int x3), (4, .int x4), (5, .int x5), (6, .int x6)] [] 0
  refine j_iload_n C dX10_meeting_0 rfl 1 rfl ?_
  refine j_bind hm (fun r1 hr1 hm => ?_)
  refine j_callS (cs' := (0, 0)) (As := [.int x1]) (rest := []) C (qX10_isIslet hr1) w2_50 w3_144 w2_49 w1_1 wd_X10_isIslet ⟨by decide, by decide⟩ rfl (Nat.le_of_ble_eq_true rfl) dX10_meeting_1 ⟨by decide, by decide⟩ rfl rfl ?_
  refine j_if_eqq (tgt := 14) C dX10_meeting_4 (by decide) hm (fun hm => ?_) (fun hm => ?_)
  · exact J.sub [] rfl (kX10_meeting_14 C hR u hm)
  · refine j_iload_n C dX10_meeting_7 rfl 2 rfl ?_
    refine j_bind hm (fun r2 hr2 hm => ?_)
    refine j_callS (cs' := (0, 0)) (As := [.int x2]) (rest := []) C (qX10_isIslet hr2) w2_50 w3_144 w2_49 w1_1 wd_X10_isIslet ⟨by decide, by decide⟩ rfl (Nat.le_of_ble_eq_true rfl) dX10_meeting_8 ⟨by decide, by decide⟩ rfl rfl ?_
    refine j_if_neq (tgt := 17) C dX10_meeting_11 (by decide) hm (fun hm => ?_) (fun hm => ?_)
    · refine j_iload_n C dX10_meeting_17 rfl 3 rfl ?_
      refine j_bind hm (fun r3 hr3 hm => ?_)
      refine j_callS (cs' := (0, 0)) (As := [.int x3]) (rest := []) C (qX10_isMinute hr3) w3_147 w3_145 w3_146 w1_1 wd_X10_isMinute ⟨by decide, by decide⟩ rfl (Nat.le_of_ble_eq_true rfl) dX10_meeting_18 ⟨by decide, by decide⟩ rfl rfl ?_
      refine j_if_eqq (tgt := 45) C dX10_meeting_21 (by decide) hm (fun hm => ?_) (fun hm => ?_)
      · exact J.sub [] rfl (kX10_meeting_45 C hR u hm)
      · refine j_iload C dX10_meeting_24 4 rfl ?_
        refine j_iload C dX10_meeting_26 5 rfl ?_
        refine j_bind hm (fun r4 hr4 hm => ?_)
        refine j_callS (cs' := (0, 0)) (As := [.int x4, .int x5]) (rest := []) C (qX10_isCarrier hr4) w3_150 w3_148 w3_149 w1_1 wd_X10_isCarrier ⟨by decide, by decide⟩ rfl (Nat.le_of_ble_eq_true rfl) dX10_meeting_28 ⟨by decide, by decide⟩ rfl rfl ?_
        refine j_if_eqq (tgt := 45) C dX10_meeting_31 (by decide) hm (fun hm => ?_) (fun hm => ?_)
        · exact J.sub [] rfl (kX10_meeting_45 C hR u hm)
        · refine j_iload C dX10_meeting_34 6 rfl ?_
          refine j_if_ltq (tgt := 45) C dX10_meeting_36 (by decide) hm (fun hm => ?_) (fun hm => ?_)
          · exact J.sub [] rfl (kX10_meeting_45 C hR u hm)
          · refine j_iload C dX10_meeting_39 6 rfl ?_
            refine j_iconst (v := 1) C dX10_meeting_41 (by decide) ?_
            refine j_icmp_leq (tgt := 48) C dX10_meeting_42 (by decide) hm (fun hm => ?_) (fun hm => ?_)
            · refine j_aload_n C dX10_meeting_48 rfl 0 rfl ?_
              refine j_iload_n C dX10_meeting_49 rfl 3 rfl ?_
              refine j_sipush (v := 400) C dX10_meeting_50 (by decide) ?_
              refine j_iload C dX10_meeting_53 4 rfl ?_
              refine j_iload C dX10_meeting_55 5 rfl ?_
              refine j_bind hm (fun u6 hr5 hm => ?_)
              refine j_callV (cs' := (0, 0)) (As := [.int x3, .int 400, .int x4, .int x5]) (rest := []) C (qX10_openTable hr5) w3_154 w3_151 w3_153 w0_10 w1_1 wd_X10_openTable ⟨by decide, by decide⟩ 0 rfl rfl rfl (Nat.le_of_ble_eq_true rfl) dX10_meeting_57 ⟨by decide, by decide⟩ rfl rfl ?_
              refine j_aload_n C dX10_meeting_60 rfl 0 rfl ?_
              refine jX_g0_5_X10 C dX10_meeting_61 ?_
              refine j_iload_n C dX10_meeting_64 rfl 1 rfl ?_
              refine j_iconst (v := 0) C dX10_meeting_65 (by decide) ?_
              refine j_sipush (v := 255) C dX10_meeting_66 (by decide) ?_
              refine j_aload_n C dX10_meeting_69 rfl 0 rfl ?_
              refine jX_g0_7_X10 C dX10_meeting_70 ?_
              refine j_bind hm (fun u8 hr7 hm => ?_)
              refine j_callV (cs' := (0, 0)) (As := [.int x1, .int 0, .int 255, .ref (q 24)]) (rest := []) C (qX9_reach hr7) w3_182 w3_179 w3_180 w3_181 w1_9 wd_X9_reach ⟨by decide, by decide⟩ 12 rfl rfl rfl (Nat.le_of_ble_eq_true rfl) dX10_meeting_73 ⟨by decide, by decide⟩ rfl rfl ?_
              refine j_aload_n C dX10_meeting_76 rfl 0 rfl ?_
              refine jX_g0_5_X10 C dX10_meeting_77 ?_
              refine j_iload_n C dX10_meeting_80 rfl 2 rfl ?_
              refine j_iconst (v := 0) C dX10_meeting_81 (by decide) ?_
              refine j_sipush (v := 255) C dX10_meeting_82 (by decide) ?_
              refine j_aload_n C dX10_meeting_85 rfl 0 rfl ?_
              refine jX_g0_8_X10 C dX10_meeting_86 ?_
              refine j_bind hm (fun u10 hr9 hm => ?_)
              refine j_callV (cs' := (0, 0)) (As := [.int x2, .int 0, .int 255, .ref (q 25)]) (rest := []) C (qX9_reach hr9) w3_182 w3_179 w3_180 w3_181 w1_9 wd_X9_reach ⟨by decide, by decide⟩ 12 rfl rfl rfl (Nat.le_of_ble_eq_true rfl) dX10_meeting_89 ⟨by decide, by decide⟩ rfl rfl ?_
              refine j_iconst (v := (-1)) C dX10_meeting_92 (by decide) ?_
              refine j_istore C dX10_meeting_93 (by decide) rfl ?_
              refine j_ldc C dX10_meeting_95 w3_192 ?_
              refine j_istore C dX10_meeting_97 (by decide) rfl ?_
              refine j_iconst (v := 0) C dX10_meeting_99 (by decide) ?_
              refine j_istore C dX10_meeting_100 (by decide) rfl ?_
              exact J.sub [3, 6, 9, 2, 1, 0] rfl (kX10_meeting_h102 C hR N u10 x3 x6 (-1) 2147483647 0 hm)
            · exact J.sub [] rfl (kX10_meeting_45 C hR u hm)
    · exact J.sub [] rfl (kX10_meeting_14 C hR u hm)
def rmX10_note : Room := { frames := 2, cells := 0, slots := 0, locals := 45 }
theorem wd_X10_note : yX10_note.cls ≠ "java/lang/invoke/MethodHandle" ∧ yX10_note.cls ≠ "java/lang/invoke/VarHandle" ∧ (parseMethodDescriptor yX10_note.desc).map (fun d => d.parameters.length) = some 4 := by decide +kernel
def mX10_note_14 (N : Nat) (u : USt) : Option (Int32 × USt) := some ((-101), u)
set_option maxRecDepth 100000 in
set_option maxHeartbeats 4000000 in
theorem kX10_note_14 {l : Launch} {D : va_G} {cI cO cR : ClassId} {q : Nat → Nat} {t0 : Nat} {b : BSt} {G : Gx} {N : Nat} {rr : (Int32 × USt)} (C : jC l rmX10_note D (tX cI cO cR) G cX10_note 5 RX10) (hR : jR D (tX cI cO cR) G (0, 0) (some .int) (some (.int rr.1)) (wX cI cO cR q t0 rr.2 b))  (u : USt) (hm : mX10_note_14 N u = some rr) : J l rmX10_note D G (0, 0) (wX cI cO cR q t0 u b) [] [] 14 := by
  unfold mX10_note_14 at hm
  refine j_bipush (v := (-101)) C dX10_note_14 (by decide) ?_
  cases hm
  exact j_iret C hR dX10_note_16
def mX10_note_27 (N : Nat) (u : USt) : Option (Int32 × USt) := some ((-102), u)
set_option maxRecDepth 100000 in
set_option maxHeartbeats 4000000 in
theorem kX10_note_27 {l : Launch} {D : va_G} {cI cO cR : ClassId} {q : Nat → Nat} {t0 : Nat} {b : BSt} {G : Gx} {N : Nat} {rr : (Int32 × USt)} (C : jC l rmX10_note D (tX cI cO cR) G cX10_note 5 RX10) (hR : jR D (tX cI cO cR) G (0, 0) (some .int) (some (.int rr.1)) (wX cI cO cR q t0 rr.2 b))  (u : USt) (hm : mX10_note_27 N u = some rr) : J l rmX10_note D G (0, 0) (wX cI cO cR q t0 u b) [] [] 27 := by
  unfold mX10_note_27 at hm
  refine j_bipush (v := (-102)) C dX10_note_27 (by decide) ?_
  cases hm
  exact j_iret C hR dX10_note_29
def mX10_note_46 (N : Nat) (u : USt) : Option (Int32 × USt) := some ((-102), u)
set_option maxRecDepth 100000 in
set_option maxHeartbeats 4000000 in
theorem kX10_note_46 {l : Launch} {D : va_G} {cI cO cR : ClassId} {q : Nat → Nat} {t0 : Nat} {b : BSt} {G : Gx} {N : Nat} {rr : (Int32 × USt)} (C : jC l rmX10_note D (tX cI cO cR) G cX10_note 5 RX10) (hR : jR D (tX cI cO cR) G (0, 0) (some .int) (some (.int rr.1)) (wX cI cO cR q t0 rr.2 b))  (u : USt) (hm : mX10_note_46 N u = some rr) : J l rmX10_note D G (0, 0) (wX cI cO cR q t0 u b) [] [] 46 := by
  unfold mX10_note_46 at hm
  refine j_bipush (v := (-102)) C dX10_note_46 (by decide) ?_
  cases hm
  exact j_iret C hR dX10_note_48
def mX10_note (N : Nat) (u : USt) (x1 : Int32) (x2 : Int32) (x3 : Int32) (x4 : Int32) : Option (Int32 × USt) := (mX10_isIslet N x1).bind (fun r1 => if r1 = 0 then (mX10_note_14 N u) else ((mX10_isIslet N x3).bind (fun r2 => if ¬ r2 = 0 then (if x2 < 0 then (mX10_note_27 N u) else (if x2 ≤ 99 then (if x4 < x2 then (mX10_note_46 N u) else (if x4 ≤ (x2 + 400) then ((mX5_isFull_6 N u).bind (fun r3 => if r3 = 0 then (bp (mX5_add_6 N u x1 x2 x3 x4) (fun r4 u5 => some (r4, u5))) else (some ((-104), u)))) else (mX10_note_46 N u))) else (mX10_note_27 N u))) else (mX10_note_14 N u))))
set_option maxRecDepth 100000 in
set_option maxHeartbeats 4000000 in
theorem qX10_note {l : Launch} {D : va_G} {cI cO cR : ClassId} {q : Nat → Nat} {t0 : Nat} {u : USt} {b : BSt} {N : Nat} {x1 : Int32} {x2 : Int32} {x3 : Int32} {x4 : Int32} {rr : (Int32 × USt)} (hm : mX10_note N u x1 x2 x3 x4 = some rr) : Con l D (tX cI cO cR) yX10_note (wS yX10_note cX10_note 5 (some .int)) rmX10_note [.ref (q 0), .int x1, .int x2, .int x3, .int x4] (wX cI cO cR q t0 u b) (some (.int rr.1)) (wX cI cO cR q t0 rr.2 b) := by
  refine Con.of (by decide +kernel) (Nat.le_of_ble_eq_true rfl) (fun G C hR => ?_)
  unfold mX10_note at hm
  show J l rmX10_note D G (0, 0) (wX cI cO cR q t0 u b) [(0, .ref (q 0)), (1, .int x1), (2, .int x2), (3, .int x3), (4, .int x4)] [] 0
  refine j_iload_n C dX10_note_0 rfl 1 rfl ?_
  refine j_bind hm (fun r1 hr1 hm => ?_)
  refine j_callS (cs' := (0, 0)) (As := [.int x1]) (rest := []) C (qX10_isIslet hr1) w2_50 w3_144 w2_49 w1_1 wd_X10_isIslet ⟨by decide, by decide⟩ rfl (Nat.le_of_ble_eq_true rfl) dX10_note_1 ⟨by decide, by decide⟩ rfl rfl ?_
  refine j_if_eqq (tgt := 14) C dX10_note_4 (by decide) hm (fun hm => ?_) (fun hm => ?_)
  · exact J.sub [] rfl (kX10_note_14 C hR u hm)
  · refine j_iload_n C dX10_note_7 rfl 3 rfl ?_
    refine j_bind hm (fun r2 hr2 hm => ?_)
    refine j_callS (cs' := (0, 0)) (As := [.int x3]) (rest := []) C (qX10_isIslet hr2) w2_50 w3_144 w2_49 w1_1 wd_X10_isIslet ⟨by decide, by decide⟩ rfl (Nat.le_of_ble_eq_true rfl) dX10_note_8 ⟨by decide, by decide⟩ rfl rfl ?_
    refine j_if_neq (tgt := 17) C dX10_note_11 (by decide) hm (fun hm => ?_) (fun hm => ?_)
    · refine j_iload_n C dX10_note_17 rfl 2 rfl ?_
      refine j_if_ltq (tgt := 27) C dX10_note_18 (by decide) hm (fun hm => ?_) (fun hm => ?_)
      · exact J.sub [] rfl (kX10_note_27 C hR u hm)
      · refine j_iload_n C dX10_note_21 rfl 2 rfl ?_
        refine j_bipush (v := 99) C dX10_note_22 (by decide) ?_
        refine j_icmp_leq (tgt := 30) C dX10_note_24 (by decide) hm (fun hm => ?_) (fun hm => ?_)
        · refine j_iload C dX10_note_30 4 rfl ?_
          refine j_iload_n C dX10_note_32 rfl 2 rfl ?_
          refine j_icmp_ltq (tgt := 46) C dX10_note_33 (by decide) hm (fun hm => ?_) (fun hm => ?_)
          · exact J.sub [] rfl (kX10_note_46 C hR u hm)
          · refine j_iload C dX10_note_36 4 rfl ?_
            refine j_iload_n C dX10_note_38 rfl 2 rfl ?_
            refine j_sipush (v := 400) C dX10_note_39 (by decide) ?_
            refine j_iadd C dX10_note_42 ?_
            refine j_icmp_leq (tgt := 49) C dX10_note_43 (by decide) hm (fun hm => ?_) (fun hm => ?_)
            · refine j_aload_n C dX10_note_49 rfl 0 rfl ?_
              refine jX_g0_3_X10 C dX10_note_50 ?_
              refine j_bind hm (fun r3 hr3 hm => ?_)
              refine j_callV (cs' := (0, 0)) (As := []) (rest := []) C (qX5_isFull_6 hr3) w4_80 w4_77 w4_78 w4_79 w1_7 wd_X5_isFull ⟨by decide, by decide⟩ 6 rfl rfl rfl (Nat.le_of_ble_eq_true rfl) dX10_note_53 ⟨by decide, by decide⟩ rfl rfl ?_
              refine j_if_eqq (tgt := 62) C dX10_note_56 (by decide) hm (fun hm => ?_) (fun hm => ?_)
              · refine j_aload_n C dX10_note_62 rfl 0 rfl ?_
                refine jX_g0_3_X10 C dX10_note_63 ?_
                refine j_iload_n C dX10_note_66 rfl 1 rfl ?_
                refine j_iload_n C dX10_note_67 rfl 2 rfl ?_
                refine j_iload_n C dX10_note_68 rfl 3 rfl ?_
                refine j_iload C dX10_note_69 4 rfl ?_
                refine j_bindp hm (fun r4 u5 hr4 hm => ?_)
                refine j_callV (cs' := (0, 0)) (As := [.int x1, .int x2, .int x3, .int x4]) (rest := []) C (qX5_add_6 hr4) w4_84 w4_81 w4_82 w4_83 w1_7 wd_X5_add ⟨by decide, by decide⟩ 6 rfl rfl rfl (Nat.le_of_ble_eq_true rfl) dX10_note_71 ⟨by decide, by decide⟩ rfl rfl ?_
                cases hm
                exact j_iret C hR dX10_note_74
              · refine j_bipush (v := (-104)) C dX10_note_59 (by decide) ?_
                cases hm
                exact j_iret C hR dX10_note_61
            · exact J.sub [] rfl (kX10_note_46 C hR u hm)
        · exact J.sub [] rfl (kX10_note_27 C hR u hm)
    · exact J.sub [] rfl (kX10_note_14 C hR u hm)
def rmX10_forget : Room := { frames := 1, cells := 0, slots := 0, locals := 21 }
theorem wd_X10_forget : yX10_forget.cls ≠ "java/lang/invoke/MethodHandle" ∧ yX10_forget.cls ≠ "java/lang/invoke/VarHandle" ∧ (parseMethodDescriptor yX10_forget.desc).map (fun d => d.parameters.length) = some 0 := by decide +kernel
def mX10_forget (N : Nat) (u : USt) : Option (Int32 × USt) := bp (mX5_empty_6 N u) (fun r1 u2 => some (r1, u2))
set_option maxRecDepth 100000 in
set_option maxHeartbeats 4000000 in
theorem qX10_forget {l : Launch} {D : va_G} {cI cO cR : ClassId} {q : Nat → Nat} {t0 : Nat} {u : USt} {b : BSt} {N : Nat}  {rr : (Int32 × USt)} (hm : mX10_forget N u = some rr) : Con l D (tX cI cO cR) yX10_forget (wS yX10_forget cX10_forget 1 (some .int)) rmX10_forget [.ref (q 0)] (wX cI cO cR q t0 u b) (some (.int rr.1)) (wX cI cO cR q t0 rr.2 b) := by
  refine Con.of (by decide +kernel) (Nat.le_of_ble_eq_true rfl) (fun G C hR => ?_)
  unfold mX10_forget at hm
  show J l rmX10_forget D G (0, 0) (wX cI cO cR q t0 u b) [(0, .ref (q 0))] [] 0
  refine j_aload_n C dX10_forget_0 rfl 0 rfl ?_
  refine jX_g0_3_X10 C dX10_forget_1 ?_
  refine j_bindp hm (fun r1 u2 hr1 hm => ?_)
  refine j_callV (cs' := (0, 0)) (As := []) (rest := []) C (qX5_empty_6 hr1) w4_93 w4_90 w4_91 w4_92 w1_7 wd_X5_empty ⟨by decide, by decide⟩ 6 rfl rfl rfl (Nat.le_of_ble_eq_true rfl) dX10_forget_4 ⟨by decide, by decide⟩ rfl rfl ?_
  cases hm
  exact j_iret C hR dX10_forget_7
def rmX10_allNotesHold : Room := { frames := 2, cells := 0, slots := 0, locals := 54 }
theorem wd_X10_allNotesHold : yX10_allNotesHold.cls ≠ "java/lang/invoke/MethodHandle" ∧ yX10_allNotesHold.cls ≠ "java/lang/invoke/VarHandle" ∧ (parseMethodDescriptor yX10_allNotesHold.desc).map (fun d => d.parameters.length) = some 0 := by decide +kernel
def mX10_allNotesHold_2 (N : Nat) (k2 : USt → Int32 → Option (Int32 × USt)) (u : USt) (x1 : Int32) : Option (Int32 × USt) := (mX5_size_6 N u).bind (fun r1 => if r1 ≤ x1 then (some (1, u)) else ((mX5_part_6 N u x1 2).bind (fun r2 => (mX10_isIslet N r2).bind (fun r3 => if ¬ r3 = 0 then ((mX5_part_6 N u x1 0).bind (fun r4 => (mX5_part_6 N u x1 1).bind (fun r5 => (mX9_reach N u r4 r5 (1 <<< (r2 &&& 31)) 24).bind (fun u7 => rdX u7 24 r2 (fun ra8 => (mX5_part_6 N u7 x1 3).bind (fun r9 => if ra8 = r9 then (k2 u7 (x1 + 1)) else (some (0, u7)))))))) else (some (0, u))))))
set_option maxRecDepth 100000 in
set_option maxHeartbeats 4000000 in
theorem kX10_allNotesHold_2 {l : Launch} {D : va_G} {cI cO cR : ClassId} {q : Nat → Nat} {t0 : Nat} {b : BSt} {G : Gx} {N : Nat} {rr : (Int32 × USt)} (C : jC l rmX10_allNotesHold D (tX cI cO cR) G cX10_allNotesHold 3 RX10) (hR : jR D (tX cI cO cR) G (0, 0) (some .boolean) (some (.int rr.1)) (wX cI cO cR q t0 rr.2 b)) (k2 : USt → Int32 → Option (Int32 × USt)) (K2 : ∀ (u : USt) (x1 : Int32), k2 u x1 = some rr → J l rmX10_allNotesHold D G (0, 0) (wX cI cO cR q t0 u b) [(0, .ref (q 0)), (1, .int x1)] [] 2) (u : USt) (x1 : Int32) (hm : mX10_allNotesHold_2 N k2 u x1 = some rr) : J l rmX10_allNotesHold D G (0, 0) (wX cI cO cR q t0 u b) [(0, .ref (q 0)), (1, .int x1)] [] 2 := by
  unfold mX10_allNotesHold_2 at hm
  refine j_iload_n C dX10_allNotesHold_2 rfl 1 rfl ?_
  refine j_aload_n C dX10_allNotesHold_3 rfl 0 rfl ?_
  refine jX_g0_3_X10 C dX10_allNotesHold_4 ?_
  refine j_bind hm (fun r1 hr1 hm => ?_)
  refine j_callV (cs' := (0, 0)) (As := []) (rest := [.int x1]) C (qX5_size_6 hr1) w4_105 w4_102 w4_103 w4_104 w1_7 wd_X5_size ⟨by decide, by decide⟩ 6 rfl rfl rfl (Nat.le_of_ble_eq_true rfl) dX10_allNotesHold_7 ⟨by decide, by decide⟩ rfl rfl ?_
  refine j_icmp_geq (tgt := 90) C dX10_allNotesHold_10 (by decide) hm (fun hm => ?_) (fun hm => ?_)
  · refine j_iconst (v := 1) C dX10_allNotesHold_90 (by decide) ?_
    cases hm
    exact j_zret C hR (by decide) dX10_allNotesHold_91
  · refine j_aload_n C dX10_allNotesHold_13 rfl 0 rfl ?_
    refine jX_g0_3_X10 C dX10_allNotesHold_14 ?_
    refine j_iload_n C dX10_allNotesHold_17 rfl 1 rfl ?_
    refine j_iconst (v := 2) C dX10_allNotesHold_18 (by decide) ?_
    refine j_bind hm (fun r2 hr2 hm => ?_)
    refine j_callV (cs' := (0, 0)) (As := [.int x1, .int 2]) (rest := []) C (qX5_part_6 hr2) w4_109 w4_106 w4_107 w4_108 w1_7 wd_X5_part ⟨by decide, by decide⟩ 6 rfl rfl rfl (Nat.le_of_ble_eq_true rfl) dX10_allNotesHold_19 ⟨by decide, by decide⟩ rfl rfl ?_
    refine j_istore_n C dX10_allNotesHold_22 rfl (by decide) rfl ?_
    refine j_iload_n C dX10_allNotesHold_23 rfl 0 rfl ?_
    refine j_bind hm (fun r3 hr3 hm => ?_)
    refine j_callS (cs' := (0, 0)) (As := [.int r2]) (rest := []) C (qX10_isIslet hr3) w2_50 w3_144 w2_49 w1_1 wd_X10_isIslet ⟨by decide, by decide⟩ rfl (Nat.le_of_ble_eq_true rfl) dX10_allNotesHold_24 ⟨by decide, by decide⟩ rfl rfl ?_
    refine j_if_neq (tgt := 32) C dX10_allNotesHold_27 (by decide) hm (fun hm => ?_) (fun hm => ?_)
    · refine j_aload_n C dX10_allNotesHold_32 rfl 1 rfl ?_
      refine jX_g0_5_X10 C dX10_allNotesHold_33 ?_
      refine j_aload_n C dX10_allNotesHold_36 rfl 1 rfl ?_
      refine jX_g0_3_X10 C dX10_allNotesHold_37 ?_
      refine j_iload_n C dX10_allNotesHold_40 rfl 2 rfl ?_
      refine j_iconst (v := 0) C dX10_allNotesHold_41 (by decide) ?_
      refine j_bind hm (fun r4 hr4 hm => ?_)
      refine j_callV (cs' := (0, 0)) (As := [.int x1, .int 0]) (rest := [.ref (q 12)]) C (qX5_part_6 hr4) w4_109 w4_106 w4_107 w4_108 w1_7 wd_X5_part ⟨by decide, by decide⟩ 6 rfl rfl rfl (Nat.le_of_ble_eq_true rfl) dX10_allNotesHold_42 ⟨by decide, by decide⟩ rfl rfl ?_
      refine j_aload_n C dX10_allNotesHold_45 rfl 1 rfl ?_
      refine jX_g0_3_X10 C dX10_allNotesHold_46 ?_
      refine j_iload_n C dX10_allNotesHold_49 rfl 2 rfl ?_
      refine j_iconst (v := 1) C dX10_allNotesHold_50 (by decide) ?_
      refine j_bind hm (fun r5 hr5 hm => ?_)
      refine j_callV (cs' := (0, 0)) (As := [.int x1, .int 1]) (rest := [.int r4, .ref (q 12)]) C (qX5_part_6 hr5) w4_109 w4_106 w4_107 w4_108 w1_7 wd_X5_part ⟨by decide, by decide⟩ 6 rfl rfl rfl (Nat.le_of_ble_eq_true rfl) dX10_allNotesHold_51 ⟨by decide, by decide⟩ rfl rfl ?_
      refine j_iconst (v := 1) C dX10_allNotesHold_54 (by decide) ?_
      refine j_iload_n C dX10_allNotesHold_55 rfl 0 rfl ?_
      refine j_ishl C dX10_allNotesHold_56 ?_
      refine j_aload_n C dX10_allNotesHold_57 rfl 1 rfl ?_
      refine jX_g0_7_X10 C dX10_allNotesHold_58 ?_
      refine j_bind hm (fun u7 hr6 hm => ?_)
      refine j_callV (cs' := (0, 0)) (As := [.int r4, .int r5, .int (1 <<< (r2 &&& 31)), .ref (q 24)]) (rest := []) C (qX9_reach hr6) w3_182 w3_179 w3_180 w3_181 w1_9 wd_X9_reach ⟨by decide, by decide⟩ 12 rfl rfl rfl (Nat.le_of_ble_eq_true rfl) dX10_allNotesHold_61 ⟨by decide, by decide⟩ rfl rfl ?_
      refine j_aload_n C dX10_allNotesHold_64 rfl 1 rfl ?_
      refine jX_g0_7_X10 C dX10_allNotesHold_65 ?_
      refine j_iload_n C dX10_allNotesHold_68 rfl 0 rfl ?_
      refine jX_L C dX10_allNotesHold_69 hm (fun ra8 hm => ?_)
      refine j_aload_n C dX10_allNotesHold_70 rfl 1 rfl ?_
      refine jX_g0_3_X10 C dX10_allNotesHold_71 ?_
      refine j_iload_n C dX10_allNotesHold_74 rfl 2 rfl ?_
      refine j_iconst (v := 3) C dX10_allNotesHold_75 (by decide) ?_
      refine j_bind hm (fun r9 hr9 hm => ?_)
      refine j_callV (cs' := (0, 0)) (As := [.int x1, .int 3]) (rest := [.int ra8]) C (qX5_part_6 hr9) w4_109 w4_106 w4_107 w4_108 w1_7 wd_X5_part ⟨by decide, by decide⟩ 6 rfl rfl rfl (Nat.le_of_ble_eq_true rfl) dX10_allNotesHold_76 ⟨by decide, by decide⟩ rfl rfl ?_
      refine j_icmp_eqq (tgt := 84) C dX10_allNotesHold_79 (by decide) hm (fun hm => ?_) (fun hm => ?_)
      · refine j_iinc (v := (x1 + 1)) C dX10_allNotesHold_84 2 rfl rfl (by decide) rfl ?_
        refine j_goto (tgt := 2) C dX10_allNotesHold_87 (by decide) ?_
        exact J.sub [2, 0] rfl (K2 u7 (x1 + 1) hm)
      · refine j_iconst (v := 0) C dX10_allNotesHold_82 (by decide) ?_
        cases hm
        exact j_zret C hR (by decide) dX10_allNotesHold_83
    · refine j_iconst (v := 0) C dX10_allNotesHold_30 (by decide) ?_
      cases hm
      exact j_zret C hR (by decide) dX10_allNotesHold_31
def mX10_allNotesHold_h2 (N : Nat) : Nat → USt → Int32 → Option (Int32 × USt)
  | 0, _, _ => none
  | n + 1, u, x1 => mX10_allNotesHold_2 N (mX10_allNotesHold_h2 N n) u x1
theorem kX10_allNotesHold_h2 {l : Launch} {D : va_G} {cI cO cR : ClassId} {q : Nat → Nat} {t0 : Nat} {b : BSt} {G : Gx} {N : Nat} {rr : (Int32 × USt)} (C : jC l rmX10_allNotesHold D (tX cI cO cR) G cX10_allNotesHold 3 RX10) (hR : jR D (tX cI cO cR) G (0, 0) (some .boolean) (some (.int rr.1)) (wX cI cO cR q t0 rr.2 b))  : ∀ (n : Nat) (u : USt) (x1 : Int32), mX10_allNotesHold_h2 N n u x1 = some rr → J l rmX10_allNotesHold D G (0, 0) (wX cI cO cR q t0 u b) [(0, .ref (q 0)), (1, .int x1)] [] 2 := by
  intro n
  induction n with
  | zero =>
    intro u x1 hm
    have hm : (none : Option (Int32 × USt)) = some rr := hm
    cases hm
  | succ n ih =>
    intro u x1 hm
    exact kX10_allNotesHold_2 C hR _ ih u x1 hm
def mX10_allNotesHold (N : Nat) (u : USt) : Option (Int32 × USt) := mX10_allNotesHold_h2 N N u 0
set_option maxRecDepth 100000 in
set_option maxHeartbeats 4000000 in
theorem qX10_allNotesHold {l : Launch} {D : va_G} {cI cO cR : ClassId} {q : Nat → Nat} {t0 : Nat} {u : USt} {b : BSt} {N : Nat}  {rr : (Int32 × USt)} (hm : mX10_allNotesHold N u = some rr) : Con l D (tX cI cO cR) yX10_allNotesHold (wS yX10_allNotesHold cX10_allNotesHold 3 (some .boolean)) rmX10_allNotesHold [.ref (q 0)] (wX cI cO cR q t0 u b) (some (.int rr.1)) (wX cI cO cR q t0 rr.2 b) := by
  refine Con.of (by decide +kernel) (Nat.le_of_ble_eq_true rfl) (fun G C hR => ?_)
  unfold mX10_allNotesHold at hm
  show J l rmX10_allNotesHold D G (0, 0) (wX cI cO cR q t0 u b) [(0, .ref (q 0))] [] 0
  refine j_iconst (v := 0) C dX10_allNotesHold_0 (by decide) ?_
  refine j_istore_n C dX10_allNotesHold_1 rfl (by decide) rfl ?_
  exact J.sub [1, 0] rfl (kX10_allNotesHold_h2 C hR N u 0 hm)
def rmJ9_floorMod_7cf53 : Room := { frames := 0, cells := 0, slots := 0, locals := 0 }
theorem wd_J9_floorMod_7cf53 : yJ9_floorMod_7cf53.cls ≠ "java/lang/invoke/MethodHandle" ∧ yJ9_floorMod_7cf53.cls ≠ "java/lang/invoke/VarHandle" ∧ (parseMethodDescriptor yJ9_floorMod_7cf53.desc).map (fun d => d.parameters.length) = some 2 := by decide +kernel
def mJ9_floorMod_7cf53_18 (N : Nat) (x2 : Int32) : Option Int32 := some x2
set_option maxRecDepth 100000 in
set_option maxHeartbeats 4000000 in
theorem kJ9_floorMod_7cf53_18 {l : Launch} {D : va_G} {tys : List (ClassId × FieldType)} {G : Gx} {N : Nat} {rr : Int32} (C : jC l rmJ9_floorMod_7cf53 D tys G cJ9_floorMod_7cf53 3 RJ9) (hR : jR D tys G (0, 0) (some .int) (some (.int rr)) [])  (x2 : Int32) (hm : mJ9_floorMod_7cf53_18 N x2 = some rr) : J l rmJ9_floorMod_7cf53 D G (0, 0) [] [(2, .int x2)] [] 18 := by
  unfold mJ9_floorMod_7cf53_18 at hm
  refine j_iload_n C dJ9_floorMod_7cf53_18 rfl 0 rfl ?_
  cases hm
  exact j_iret C hR dJ9_floorMod_7cf53_19
def mJ9_floorMod_7cf53 (N : Nat) (x0 : Int32) (x1 : Int32) : Option Int32 := gd (¬ x1 = 0) (nm (x0 - x0 / x1 * x1) (fun v1 => if 0 ≤ (x0 ^^^ x1) then (mJ9_floorMod_7cf53_18 N v1) else (if v1 = 0 then (mJ9_floorMod_7cf53_18 N v1) else (some (v1 + x1)))))
set_option maxRecDepth 100000 in
set_option maxHeartbeats 4000000 in
theorem qJ9_floorMod_7cf53 {l : Launch} {D : va_G} {tys : List (ClassId × FieldType)} {N : Nat} {x0 : Int32} {x1 : Int32} {rr : Int32} (hm : mJ9_floorMod_7cf53 N x0 x1 = some rr) : Con l D tys yJ9_floorMod_7cf53 (wS yJ9_floorMod_7cf53 cJ9_floorMod_7cf53 3 (some .int)) rmJ9_floorMod_7cf53 [.int x0, .int x1] [] (some (.int rr)) [] := by
  refine Con.of (by decide +kernel) (Nat.le_of_ble_eq_true rfl) (fun G C hR => ?_)
  unfold mJ9_floorMod_7cf53 at hm
  show J l rmJ9_floorMod_7cf53 D G (0, 0) [] [(0, .int x0), (1, .int x1)] [] 0
  refine j_iload_n C dJ9_floorMod_7cf53_0 rfl 0 rfl ?_
  refine j_iload_n C dJ9_floorMod_7cf53_1 rfl 1 rfl ?_
  obtain ⟨g, hm⟩ := gd_some hm
  refine j_irem C dJ9_floorMod_7cf53_2 g ?_
  refine j_nmi hm (fun v1 hm => ?_)
  refine j_istore_n C dJ9_floorMod_7cf53_3 rfl (by decide) rfl ?_
  refine j_iload_n C dJ9_floorMod_7cf53_4 rfl 1 rfl ?_
  refine j_iload_n C dJ9_floorMod_7cf53_5 rfl 2 rfl ?_
  refine j_ixor C dJ9_floorMod_7cf53_6 ?_
  refine j_if_geq (tgt := 18) C dJ9_floorMod_7cf53_7 (by decide) hm (fun hm => ?_) (fun hm => ?_)
  · exact J.sub [0] rfl (kJ9_floorMod_7cf53_18 C hR v1 hm)
  · refine j_iload_n C dJ9_floorMod_7cf53_10 rfl 0 rfl ?_
    refine j_if_eqq (tgt := 18) C dJ9_floorMod_7cf53_11 (by decide) hm (fun hm => ?_) (fun hm => ?_)
    · exact J.sub [0] rfl (kJ9_floorMod_7cf53_18 C hR v1 hm)
    · refine j_iload_n C dJ9_floorMod_7cf53_14 rfl 0 rfl ?_
      refine j_iload_n C dJ9_floorMod_7cf53_15 rfl 2 rfl ?_
      refine j_iadd C dJ9_floorMod_7cf53_16 ?_
      cases hm
      exact j_iret C hR dJ9_floorMod_7cf53_17
def rmX10_lost : Room := { frames := 6, cells := 0, slots := 0, locals := 142 }
theorem wd_X10_lost : yX10_lost.cls ≠ "java/lang/invoke/MethodHandle" ∧ yX10_lost.cls ≠ "java/lang/invoke/VarHandle" ∧ (parseMethodDescriptor yX10_lost.desc).map (fun d => d.parameters.length) = some 1 := by decide +kernel
def mX10_lost_52 (N : Nat) (b : BSt) (u : USt) (s0 : Int32) : Option (Int32 × USt) := some (s0, u)
set_option maxRecDepth 100000 in
set_option maxHeartbeats 4000000 in
theorem kX10_lost_52 {l : Launch} {D : va_G} {cI cO cR : ClassId} {q : Nat → Nat} {t0 : Nat} {b : BSt} {G : Gx} {N : Nat} {rr : (Int32 × USt)} (C : jC l rmX10_lost D (tX cI cO cR) G cX10_lost 6 RX10) (hR : jR D (tX cI cO cR) G (0, 0) (some .int) (some (.int rr.1)) (wX cI cO cR q t0 rr.2 b))  (u : USt) (s0 : Int32) (hm : mX10_lost_52 N b u s0 = some rr) : J l rmX10_lost D G (0, 0) (wX cI cO cR q t0 u b) [] [.int s0] 52 := by
  unfold mX10_lost_52 at hm
  cases hm
  exact j_iret C hR dX10_lost_52
def mX10_lost_122 (N : Nat) (b : BSt) (k75 : USt → Int32 → Nat → Int32 → Int32 → Int32 → Option (Int32 × USt)) (u : USt) (x1 : Int32) (a2 : Nat) (x3 : Int32) (x4 : Int32) (x5 : Int32) : Option (Int32 × USt) := k75 u x1 a2 x3 x4 (x5 + 1)
set_option maxRecDepth 100000 in
set_option maxHeartbeats 4000000 in
theorem kX10_lost_122 {l : Launch} {D : va_G} {cI cO cR : ClassId} {q : Nat → Nat} {t0 : Nat} {b : BSt} {G : Gx} {N : Nat} {rr : (Int32 × USt)} (C : jC l rmX10_lost D (tX cI cO cR) G cX10_lost 6 RX10) (hR : jR D (tX cI cO cR) G (0, 0) (some .int) (some (.int rr.1)) (wX cI cO cR q t0 rr.2 b)) (k75 : USt → Int32 → Nat → Int32 → Int32 → Int32 → Option (Int32 × USt)) (K75 : ∀ (u : USt) (x1 : Int32) (a2 : Nat) (x3 : Int32) (x4 : Int32) (x5 : Int32), k75 u x1 a2 x3 x4 x5 = some rr → J l rmX10_lost D G (0, 0) (wX cI cO cR q t0 u b) [(0, .ref (q 0)), (1, .int x1), (2, .ref (bA b a2)), (3, .int x3), (4, .int x4), (5, .int x5)] [] 75) (u : USt) (x1 : Int32) (a2 : Nat) (x3 : Int32) (x4 : Int32) (x5 : Int32) (hm : mX10_lost_122 N b k75 u x1 a2 x3 x4 x5 = some rr) : J l rmX10_lost D G (0, 0) (wX cI cO cR q t0 u b) [(0, .ref (q 0)), (1, .int x1), (2, .ref (bA b a2)), (3, .int x3), (4, .int x4), (5, .int x5)] [] 122 := by
  unfold mX10_lost_122 at hm
  refine j_iinc (v := (x5 + 1)) C dX10_lost_122 5 rfl rfl (by decide) rfl ?_
  refine j_goto (tgt := 75) C dX10_lost_125 (by decide) ?_
  exact J.sub [1, 2, 3, 4, 5, 0] rfl (K75 u x1 a2 x3 x4 (x5 + 1) hm)
def mX10_lost_75 (N : Nat) (b : BSt) (k75 : USt → Int32 → Nat → Int32 → Int32 → Int32 → Option (Int32 × USt)) (u : USt) (x1 : Int32) (a2 : Nat) (x3 : Int32) (x4 : Int32) (x5 : Int32) : Option (Int32 × USt) := if 9 < x5 then (some (x4, u)) else (bfi b a2 5 (fun f1 => (mJ9_floorMod_7cf53 N (f1 - x5) x3).bind (fun r2 => nm (u.1 19) (fun f3 => (mX9_lay N b u x1 a2 r2 f3).bind (fun u5 => bp (mX10_allNotesHold N u5) (fun r6 u7 => if r6 = 0 then (mX10_lost_122 N b k75 u7 x1 a2 x3 x4 x5) else (nm (x4 ||| (1 <<< (x5 &&& 31))) (fun v8 => mX10_lost_122 N b k75 u7 x1 a2 x3 v8 x5))))))))
set_option maxRecDepth 100000 in
set_option maxHeartbeats 4000000 in
theorem kX10_lost_75 {l : Launch} {D : va_G} {cI cO cR : ClassId} {q : Nat → Nat} {t0 : Nat} {b : BSt} {G : Gx} {N : Nat} {rr : (Int32 × USt)} (C : jC l rmX10_lost D (tX cI cO cR) G cX10_lost 6 RX10) (hR : jR D (tX cI cO cR) G (0, 0) (some .int) (some (.int rr.1)) (wX cI cO cR q t0 rr.2 b)) (k75 : USt → Int32 → Nat → Int32 → Int32 → Int32 → Option (Int32 × USt)) (K75 : ∀ (u : USt) (x1 : Int32) (a2 : Nat) (x3 : Int32) (x4 : Int32) (x5 : Int32), k75 u x1 a2 x3 x4 x5 = some rr → J l rmX10_lost D G (0, 0) (wX cI cO cR q t0 u b) [(0, .ref (q 0)), (1, .int x1), (2, .ref (bA b a2)), (3, .int x3), (4, .int x4), (5, .int x5)] [] 75) (u : USt) (x1 : Int32) (a2 : Nat) (x3 : Int32) (x4 : Int32) (x5 : Int32) (hm : mX10_lost_75 N b k75 u x1 a2 x3 x4 x5 = some rr) : J l rmX10_lost D G (0, 0) (wX cI cO cR q t0 u b) [(0, .ref (q 0)), (1, .int x1), (2, .ref (bA b a2)), (3, .int x3), (4, .int x4), (5, .int x5)] [] 75 := by
  unfold mX10_lost_75 at hm
  refine j_iload C dX10_lost_75 5 rfl ?_
  refine j_bipush (v := 9) C dX10_lost_77 (by decide) ?_
  refine j_icmp_gtq (tgt := 128) C dX10_lost_79 (by decide) hm (fun hm => ?_) (fun hm => ?_)
  · refine j_iload C dX10_lost_128 4 rfl ?_
    cases hm
    exact j_iret C hR dX10_lost_130
  · refine j_aload_n C dX10_lost_82 rfl 0 rfl ?_
    refine jX_g0_5_X10 C dX10_lost_83 ?_
    refine j_iload_n C dX10_lost_86 rfl 1 rfl ?_
    refine j_aload_n C dX10_lost_87 rfl 2 rfl ?_
    refine j_aload_n C dX10_lost_88 rfl 2 rfl ?_
    refine jX_b5 C w2_121 dX10_lost_89 hm (fun f1 hm => ?_)
    refine j_iload C dX10_lost_92 5 rfl ?_
    refine j_isub C dX10_lost_94 ?_
    refine j_iload_n C dX10_lost_95 rfl 3 rfl ?_
    refine j_bind hm (fun r2 hr2 hm => ?_)
    refine j_callS (cs' := (0, 0)) (As := [.int (f1 - x5), .int x3]) (rest := [.ref (bA b a2), .int x1, .ref (q 12)]) C (qJ9_floorMod_7cf53 hr2) w4_112 w4_110 w4_111 w1_14 wd_J9_floorMod_7cf53 ⟨by decide, by decide⟩ rfl (Nat.le_of_ble_eq_true rfl) dX10_lost_96 ⟨by decide, by decide⟩ rfl rfl ?_
    refine j_aload_n C dX10_lost_99 rfl 0 rfl ?_
    refine jX_g0_9_X10 C dX10_lost_100 ?_
    refine j_nmi hm (fun f3 hm => ?_)
    refine j_bind hm (fun u5 hr4 hm => ?_)
    refine j_callV (cs' := (0, 0)) (As := [.int x1, .ref (bA b a2), .int r2, .int f3]) (rest := []) C (qX9_lay hr4) w3_164 w3_161 w3_162 w3_163 w1_9 wd_X9_lay ⟨by decide, by decide⟩ 12 rfl rfl rfl (Nat.le_of_ble_eq_true rfl) dX10_lost_103 ⟨by decide, by decide⟩ rfl rfl ?_
    refine j_aload_n C dX10_lost_106 rfl 0 rfl ?_
    refine j_bindp hm (fun r6 u7 hr6 hm => ?_)
    refine j_callV (cs' := (0, 0)) (As := []) (rest := []) C (qX10_allNotesHold hr6) w4_101 w4_98 w4_100 w0_21 w1_1 wd_X10_allNotesHold ⟨by decide, by decide⟩ 0 rfl rfl rfl (Nat.le_of_ble_eq_true rfl) dX10_lost_107 ⟨by decide, by decide⟩ rfl rfl ?_
    refine j_if_eqq (tgt := 122) C dX10_lost_110 (by decide) hm (fun hm => ?_) (fun hm => ?_)
    · exact kX10_lost_122 C hR k75 K75 u7 x1 a2 x3 x4 x5 hm
    · refine j_iload C dX10_lost_113 4 rfl ?_
      refine j_iconst (v := 1) C dX10_lost_115 (by decide) ?_
      refine j_iload C dX10_lost_116 5 rfl ?_
      refine j_ishl C dX10_lost_118 ?_
      refine j_ior C dX10_lost_119 ?_
      refine j_nmi hm (fun v8 hm => ?_)
      refine j_istore C dX10_lost_120 (by decide) rfl ?_
      exact J.sub [1, 2, 3, 4, 0, 5] rfl (kX10_lost_122 C hR k75 K75 u7 x1 a2 x3 v8 x5 hm)
def mX10_lost_h75 (N : Nat) (b : BSt) : Nat → USt → Int32 → Nat → Int32 → Int32 → Int32 → Option (Int32 × USt)
  | 0, _, _, _, _, _, _ => none
  | n + 1, u, x1, a2, x3, x4, x5 => mX10_lost_75 N b (mX10_lost_h75 N b n) u x1 a2 x3 x4 x5
theorem kX10_lost_h75 {l : Launch} {D : va_G} {cI cO cR : ClassId} {q : Nat → Nat} {t0 : Nat} {b : BSt} {G : Gx} {N : Nat} {rr : (Int32 × USt)} (C : jC l rmX10_lost D (tX cI cO cR) G cX10_lost 6 RX10) (hR : jR D (tX cI cO cR) G (0, 0) (some .int) (some (.int rr.1)) (wX cI cO cR q t0 rr.2 b))  : ∀ (n : Nat) (u : USt) (x1 : Int32) (a2 : Nat) (x3 : Int32) (x4 : Int32) (x5 : Int32), mX10_lost_h75 N b n u x1 a2 x3 x4 x5 = some rr → J l rmX10_lost D G (0, 0) (wX cI cO cR q t0 u b) [(0, .ref (q 0)), (1, .int x1), (2, .ref (bA b a2)), (3, .int x3), (4, .int x4), (5, .int x5)] [] 75 := by
  intro n
  induction n with
  | zero =>
    intro u x1 a2 x3 x4 x5 hm
    have hm : (none : Option (Int32 × USt)) = some rr := hm
    cases hm
  | succ n ih =>
    intro u x1 a2 x3 x4 x5 hm
    exact kX10_lost_75 C hR _ ih u x1 a2 x3 x4 x5 hm
def mX10_lost (N : Nat) (b : BSt) (u : USt) (x1 : Int32) : Option (Int32 × USt) := (mX10_isBridge N u x1).bind (fun r1 => if ¬ r1 = 0 then ((mJx4a65c_get_915e3 N u b x1).bind (fun r2 => bwt b r2 (fun _ => (mX10_openTable N b u 0 499 1 1).bind (fun u4 => bcl b r2 (fun c => nm (ivFixed c) (fun z5 => if z5 = 0 then (nm (u4.1 19) (fun f6 => (vX0_roundMinutes N b r2 f6).bind (fun r7 => if 1 ≤ r7 then (mX10_lost_h75 N b N u4 x1 r2 r7 0 0) else (some (0, u4))))) else (bp (mX10_allNotesHold N u4) (fun r8 u9 => if r8 = 0 then (mX10_lost_52 N b u9 0) else (mX10_lost_52 N b u9 1))))))))) else (some ((-101), u)))
set_option maxRecDepth 100000 in
set_option maxHeartbeats 4000000 in
theorem qX10_lost {l : Launch} {D : va_G} {cI cO cR : ClassId} {q : Nat → Nat} {t0 : Nat} {u : USt} {b : BSt} {N : Nat} {x1 : Int32} {rr : (Int32 × USt)} (hm : mX10_lost N b u x1 = some rr) : Con l D (tX cI cO cR) yX10_lost (wS yX10_lost cX10_lost 6 (some .int)) rmX10_lost [.ref (q 0), .int x1] (wX cI cO cR q t0 u b) (some (.int rr.1)) (wX cI cO cR q t0 rr.2 b) := by
  refine Con.of (by decide +kernel) (Nat.le_of_ble_eq_true rfl) (fun G C hR => ?_)
  unfold mX10_lost at hm
  show J l rmX10_lost D G (0, 0) (wX cI cO cR q t0 u b) [(0, .ref (q 0)), (1, .int x1)] [] 0
  refine j_aload_n C dX10_lost_0 rfl 0 rfl ?_
  refine j_iload_n C dX10_lost_1 rfl 1 rfl ?_
  refine j_bind hm (fun r1 hr1 hm => ?_)
  refine j_callV (cs' := (0, 0)) (As := [.int x1]) (rest := []) C (qX10_isBridge hr1) w2_230 w2_227 w2_229 w0_8 w1_1 wd_X10_isBridge ⟨by decide, by decide⟩ 0 rfl rfl rfl (Nat.le_of_ble_eq_true rfl) dX10_lost_2 ⟨by decide, by decide⟩ rfl rfl ?_
  refine j_if_neq (tgt := 11) C dX10_lost_5 (by decide) hm (fun hm => ?_) (fun hm => ?_)
  · refine j_aload_n C dX10_lost_11 rfl 0 rfl ?_
    refine jX_g0_2_X10 C dX10_lost_12 ?_
    refine j_iload_n C dX10_lost_15 rfl 1 rfl ?_
    refine j_bind hm (fun r2 hr2 hm => ?_)
    refine j_callV (cs' := (0, 0)) (As := [.int x1]) (rest := []) C (qJx4a65c_get_915e3 hr2) w2_234 w2_231 w2_232 w2_233 w1_6 wd_Jx4a65c_get_915e3 ⟨by decide, by decide⟩ 5 rfl rfl rfl (Nat.le_of_ble_eq_true rfl) dX10_lost_16 ⟨by decide, by decide⟩ rfl rfl ?_
    refine jX_cast C w3_5 w6_67 w6_68 w6_69 dX10_lost_19 hm (fun hm => ?_)
    refine j_astore_n C dX10_lost_22 rfl (by decide) rfl ?_
    refine j_aload_n C dX10_lost_23 rfl 1 rfl ?_
    refine j_iconst (v := 0) C dX10_lost_24 (by decide) ?_
    refine j_sipush (v := 499) C dX10_lost_25 (by decide) ?_
    refine j_iconst (v := 1) C dX10_lost_28 (by decide) ?_
    refine j_iconst (v := 1) C dX10_lost_29 (by decide) ?_
    refine j_bind hm (fun u4 hr3 hm => ?_)
    refine j_callV (cs' := (0, 0)) (As := [.int 0, .int 499, .int 1, .int 1]) (rest := []) C (qX10_openTable hr3) w3_154 w3_151 w3_153 w0_10 w1_1 wd_X10_openTable ⟨by decide, by decide⟩ 0 rfl rfl rfl (Nat.le_of_ble_eq_true rfl) dX10_lost_30 ⟨by decide, by decide⟩ rfl rfl ?_
    refine j_aload_n C dX10_lost_33 rfl 0 rfl ?_
    refine jX_iFixed C w3_11 dX10_lost_34 hm (fun z5 hm => ?_)
    refine j_if_eqq (tgt := 53) C dX10_lost_37 (by decide) hm (fun hm => ?_) (fun hm => ?_)
    · refine j_aload_n C dX10_lost_53 rfl 0 rfl ?_
      refine j_aload_n C dX10_lost_54 rfl 1 rfl ?_
      refine jX_g0_9_X10 C dX10_lost_55 ?_
      refine j_nmi hm (fun f6 hm => ?_)
      refine j_bind hm (fun r7 hr7 hm => ?_)
      refine jX_v_X10_160 (rest := []) C hr7 ⟨by decide, by decide⟩ (Nat.le_of_ble_eq_true rfl) dX10_lost_58 (by decide) ?_
      refine j_istore_n C dX10_lost_61 rfl (by decide) rfl ?_
      refine j_iload_n C dX10_lost_62 rfl 0 rfl ?_
      refine j_iconst (v := 1) C dX10_lost_63 (by decide) ?_
      refine j_icmp_geq (tgt := 69) C dX10_lost_64 (by decide) hm (fun hm => ?_) (fun hm => ?_)
      · refine j_iconst (v := 0) C dX10_lost_69 (by decide) ?_
        refine j_istore C dX10_lost_70 (by decide) rfl ?_
        refine j_iconst (v := 0) C dX10_lost_72 (by decide) ?_
        refine j_istore C dX10_lost_73 (by decide) rfl ?_
        exact J.sub [4, 5, 3, 2, 1, 0] rfl (kX10_lost_h75 C hR N u4 x1 r2 r7 0 0 hm)
      · refine j_iconst (v := 0) C dX10_lost_67 (by decide) ?_
        cases hm
        exact j_iret C hR dX10_lost_68
    · refine j_aload_n C dX10_lost_40 rfl 1 rfl ?_
      refine j_bindp hm (fun r8 u9 hr8 hm => ?_)
      refine j_callV (cs' := (0, 0)) (As := []) (rest := []) C (qX10_allNotesHold hr8) w4_101 w4_98 w4_100 w0_21 w1_1 wd_X10_allNotesHold ⟨by decide, by decide⟩ 0 rfl rfl rfl (Nat.le_of_ble_eq_true rfl) dX10_lost_41 ⟨by decide, by decide⟩ rfl rfl ?_
      refine j_if_eqq (tgt := 51) C dX10_lost_44 (by decide) hm (fun hm => ?_) (fun hm => ?_)
      · refine j_iconst (v := 0) C dX10_lost_51 (by decide) ?_
        exact J.sub [] rfl (kX10_lost_52 C hR u9 0 hm)
      · refine j_iconst (v := 1) C dX10_lost_47 (by decide) ?_
        refine j_goto (tgt := 52) C dX10_lost_48 (by decide) ?_
        exact J.sub [] rfl (kX10_lost_52 C hR u9 1 hm)
  · refine j_bipush (v := (-101)) C dX10_lost_8 (by decide) ?_
    cases hm
    exact j_iret C hR dX10_lost_10
