def rmX10_waysTogether : Room := { frames := 2, cells := 0, slots := 0, locals := 54 }
theorem wd_X10_waysTogether : yX10_waysTogether.cls ≠ "java/lang/invoke/MethodHandle" ∧ yX10_waysTogether.cls ≠ "java/lang/invoke/VarHandle" ∧ (parseMethodDescriptor yX10_waysTogether.desc).map (fun d => d.parameters.length) = some 0 := by decide +kernel
def mX10_waysTogether_58 (N : Nat) (k4 : USt → Int32 → Int32 → Option (Int32 × USt)) (k28 : USt → Int32 → Int32 → Int32 → Option (Int32 × USt)) (u : USt) (x2 : Int32) (x3 : Int32) (s0 : Int32) (s1 : Int32) : Option (Int32 × USt) := nm (s1 + s0) (fun v1 => k28 u v1 x2 (x3 + 1))
set_option maxRecDepth 100000 in
set_option maxHeartbeats 4000000 in
theorem kX10_waysTogether_58 {l : Launch} {D : va_G} {cI cO cR : ClassId} {q : Nat → Nat} {t0 : Nat} {b : BSt} {G : Gx} {N : Nat} {rr : (Int32 × USt)} (C : jC l rmX10_waysTogether D (tX cI cO cR) G cX10_waysTogether 4 RX10) (hR : jR D (tX cI cO cR) G (0, 0) (some .int) (some (.int rr.1)) (wX cI cO cR q t0 rr.2 b)) (k4 : USt → Int32 → Int32 → Option (Int32 × USt)) (K4 : ∀ (u : USt) (x1 : Int32) (x2 : Int32), k4 u x1 x2 = some rr → J l rmX10_waysTogether D G (0, 0) (wX cI cO cR q t0 u b) [(0, .ref (q 0)), (1, .int x1), (2, .int x2)] [] 4) (k28 : USt → Int32 → Int32 → Int32 → Option (Int32 × USt)) (K28 : ∀ (u : USt) (x1 : Int32) (x2 : Int32) (x3 : Int32), k28 u x1 x2 x3 = some rr → J l rmX10_waysTogether D G (0, 0) (wX cI cO cR q t0 u b) [(0, .ref (q 0)), (1, .int x1), (2, .int x2), (3, .int x3)] [] 28) (u : USt) (x2 : Int32) (x3 : Int32) (s0 : Int32) (s1 : Int32) (hm : mX10_waysTogether_58 N k4 k28 u x2 x3 s0 s1 = some rr) : J l rmX10_waysTogether D G (0, 0) (wX cI cO cR q t0 u b) [(0, .ref (q 0)), (2, .int x2), (3, .int x3)] [.int s0, .int s1] 58 := by
  unfold mX10_waysTogether_58 at hm
  refine j_iadd C dX10_waysTogether_58 ?_
  refine j_nmi hm (fun v1 hm => ?_)
  refine j_istore_n C dX10_waysTogether_59 rfl (by decide) rfl ?_
  refine j_iinc (v := (x3 + 1)) C dX10_waysTogether_60 3 rfl rfl (by decide) rfl ?_
  refine j_goto (tgt := 28) C dX10_waysTogether_63 (by decide) ?_
  exact J.sub [2, 1, 3, 0] rfl (K28 u v1 x2 (x3 + 1) hm)
def mX10_waysTogether_28 (N : Nat) (k4 : USt → Int32 → Int32 → Option (Int32 × USt)) (k28 : USt → Int32 → Int32 → Int32 → Option (Int32 × USt)) (u : USt) (x1 : Int32) (x2 : Int32) (x3 : Int32) : Option (Int32 × USt) := if 8 ≤ x3 then (k4 u x1 (x2 + 1)) else (rdX u 24 x3 (fun ra1 => if ¬ ra1 = 2147483647 then (rdX u 24 x3 (fun ra2 => mX10_waysTogether_58 N k4 k28 u x2 x3 ra2 x1)) else (mX10_waysTogether_58 N k4 k28 u x2 x3 1000 x1)))
set_option maxRecDepth 100000 in
set_option maxHeartbeats 4000000 in
theorem kX10_waysTogether_28 {l : Launch} {D : va_G} {cI cO cR : ClassId} {q : Nat → Nat} {t0 : Nat} {b : BSt} {G : Gx} {N : Nat} {rr : (Int32 × USt)} (C : jC l rmX10_waysTogether D (tX cI cO cR) G cX10_waysTogether 4 RX10) (hR : jR D (tX cI cO cR) G (0, 0) (some .int) (some (.int rr.1)) (wX cI cO cR q t0 rr.2 b)) (k4 : USt → Int32 → Int32 → Option (Int32 × USt)) (K4 : ∀ (u : USt) (x1 : Int32) (x2 : Int32), k4 u x1 x2 = some rr → J l rmX10_waysTogether D G (0, 0) (wX cI cO cR q t0 u b) [(0, .ref (q 0)), (1, .int x1), (2, .int x2)] [] 4) (k28 : USt → Int32 → Int32 → Int32 → Option (Int32 × USt)) (K28 : ∀ (u : USt) (x1 : Int32) (x2 : Int32) (x3 : Int32), k28 u x1 x2 x3 = some rr → J l rmX10_waysTogether D G (0, 0) (wX cI cO cR q t0 u b) [(0, .ref (q 0)), (1, .int x1), (2, .int x2), (3, .int x3)] [] 28) (u : USt) (x1 : Int32) (x2 : Int32) (x3 : Int32) (hm : mX10_waysTogether_28 N k4 k28 u x1 x2 x3 = some rr) : J l rmX10_waysTogether D G (0, 0) (wX cI cO cR q t0 u b) [(0, .ref (q 0)), (1, .int x1), (2, .int x2), (3, .int x3)] [] 28 := by
  unfold mX10_waysTogether_28 at hm
  refine j_iload_n C dX10_waysTogether_28 rfl 3 rfl ?_
  refine j_bipush (v := 8) C dX10_waysTogether_29 (by decide) ?_
  refine j_icmp_geq (tgt := 66) C dX10_waysTogether_31 (by decide) hm (fun hm => ?_) (fun hm => ?_)
  · refine j_iinc (v := (x2 + 1)) C dX10_waysTogether_66 2 rfl rfl (by decide) rfl ?_
    refine j_goto (tgt := 4) C dX10_waysTogether_69 (by decide) ?_
    exact J.sub [1, 2, 0] rfl (K4 u x1 (x2 + 1) hm)
  · refine j_iload_n C dX10_waysTogether_34 rfl 1 rfl ?_
    refine j_aload_n C dX10_waysTogether_35 rfl 0 rfl ?_
    refine jX_g0_7_X10 C dX10_waysTogether_36 ?_
    refine j_iload_n C dX10_waysTogether_39 rfl 3 rfl ?_
    refine jX_L C dX10_waysTogether_40 hm (fun ra1 hm => ?_)
    refine j_ldc C dX10_waysTogether_41 w3_192 ?_
    refine j_icmp_neq (tgt := 52) C dX10_waysTogether_43 (by decide) hm (fun hm => ?_) (fun hm => ?_)
    · refine j_aload_n C dX10_waysTogether_52 rfl 0 rfl ?_
      refine jX_g0_7_X10 C dX10_waysTogether_53 ?_
      refine j_iload_n C dX10_waysTogether_56 rfl 3 rfl ?_
      refine jX_L C dX10_waysTogether_57 hm (fun ra2 hm => ?_)
      exact J.sub [0, 2, 3] rfl (kX10_waysTogether_58 C hR k4 K4 k28 K28 u x2 x3 ra2 x1 hm)
    · refine j_sipush (v := 1000) C dX10_waysTogether_46 (by decide) ?_
      refine j_goto (tgt := 58) C dX10_waysTogether_49 (by decide) ?_
      exact J.sub [0, 2, 3] rfl (kX10_waysTogether_58 C hR k4 K4 k28 K28 u x2 x3 1000 x1 hm)
def mX10_waysTogether_h28 (N : Nat) (k4 : USt → Int32 → Int32 → Option (Int32 × USt)) : Nat → USt → Int32 → Int32 → Int32 → Option (Int32 × USt)
  | 0, _, _, _, _ => none
  | n + 1, u, x1, x2, x3 => mX10_waysTogether_28 N k4 (mX10_waysTogether_h28 N k4 n) u x1 x2 x3
theorem kX10_waysTogether_h28 {l : Launch} {D : va_G} {cI cO cR : ClassId} {q : Nat → Nat} {t0 : Nat} {b : BSt} {G : Gx} {N : Nat} {rr : (Int32 × USt)} (C : jC l rmX10_waysTogether D (tX cI cO cR) G cX10_waysTogether 4 RX10) (hR : jR D (tX cI cO cR) G (0, 0) (some .int) (some (.int rr.1)) (wX cI cO cR q t0 rr.2 b)) (k4 : USt → Int32 → Int32 → Option (Int32 × USt)) (K4 : ∀ (u : USt) (x1 : Int32) (x2 : Int32), k4 u x1 x2 = some rr → J l rmX10_waysTogether D G (0, 0) (wX cI cO cR q t0 u b) [(0, .ref (q 0)), (1, .int x1), (2, .int x2)] [] 4) : ∀ (n : Nat) (u : USt) (x1 : Int32) (x2 : Int32) (x3 : Int32), mX10_waysTogether_h28 N k4 n u x1 x2 x3 = some rr → J l rmX10_waysTogether D G (0, 0) (wX cI cO cR q t0 u b) [(0, .ref (q 0)), (1, .int x1), (2, .int x2), (3, .int x3)] [] 28 := by
  intro n
  induction n with
  | zero =>
    intro u x1 x2 x3 hm
    have hm : (none : Option (Int32 × USt)) = some rr := hm
    cases hm
  | succ n ih =>
    intro u x1 x2 x3 hm
    exact kX10_waysTogether_28 C hR k4 K4 _ ih u x1 x2 x3 hm
def mX10_waysTogether_4 (N : Nat) (k4 : USt → Int32 → Int32 → Option (Int32 × USt)) (u : USt) (x1 : Int32) (x2 : Int32) : Option (Int32 × USt) := if 8 ≤ x2 then (some (x1, u)) else ((mX9_reach N u x2 0 255 24).bind (fun u2 => mX10_waysTogether_h28 N k4 N u2 x1 x2 0))
set_option maxRecDepth 100000 in
set_option maxHeartbeats 4000000 in
theorem kX10_waysTogether_4 {l : Launch} {D : va_G} {cI cO cR : ClassId} {q : Nat → Nat} {t0 : Nat} {b : BSt} {G : Gx} {N : Nat} {rr : (Int32 × USt)} (C : jC l rmX10_waysTogether D (tX cI cO cR) G cX10_waysTogether 4 RX10) (hR : jR D (tX cI cO cR) G (0, 0) (some .int) (some (.int rr.1)) (wX cI cO cR q t0 rr.2 b)) (k4 : USt → Int32 → Int32 → Option (Int32 × USt)) (K4 : ∀ (u : USt) (x1 : Int32) (x2 : Int32), k4 u x1 x2 = some rr → J l rmX10_waysTogether D G (0, 0) (wX cI cO cR q t0 u b) [(0, .ref (q 0)), (1, .int x1), (2, .int x2)] [] 4) (u : USt) (x1 : Int32) (x2 : Int32) (hm : mX10_waysTogether_4 N k4 u x1 x2 = some rr) : J l rmX10_waysTogether D G (0, 0) (wX cI cO cR q t0 u b) [(0, .ref (q 0)), (1, .int x1), (2, .int x2)] [] 4 := by
  unfold mX10_waysTogether_4 at hm
  refine j_iload_n C dX10_waysTogether_4 rfl 2 rfl ?_
  refine j_bipush (v := 8) C dX10_waysTogether_5 (by decide) ?_
  refine j_icmp_geq (tgt := 72) C dX10_waysTogether_7 (by decide) hm (fun hm => ?_) (fun hm => ?_)
  · refine j_iload_n C dX10_waysTogether_72 rfl 1 rfl ?_
    cases hm
    exact j_iret C hR dX10_waysTogether_73
  · refine j_aload_n C dX10_waysTogether_10 rfl 0 rfl ?_
    refine jX_g0_5_X10 C dX10_waysTogether_11 ?_
    refine j_iload_n C dX10_waysTogether_14 rfl 2 rfl ?_
    refine j_iconst (v := 0) C dX10_waysTogether_15 (by decide) ?_
    refine j_sipush (v := 255) C dX10_waysTogether_16 (by decide) ?_
    refine j_aload_n C dX10_waysTogether_19 rfl 0 rfl ?_
    refine jX_g0_7_X10 C dX10_waysTogether_20 ?_
    refine j_bind hm (fun u2 hr1 hm => ?_)
    refine j_callV (cs' := (0, 0)) (As := [.int x2, .int 0, .int 255, .ref (q 24)]) (rest := []) C (qX9_reach hr1) w3_182 w3_179 w3_180 w3_181 w1_9 wd_X9_reach ⟨by decide, by decide⟩ 12 rfl rfl rfl (Nat.le_of_ble_eq_true rfl) dX10_waysTogether_23 ⟨by decide, by decide⟩ rfl rfl ?_
    refine j_iconst (v := 0) C dX10_waysTogether_26 (by decide) ?_
    refine j_istore_n C dX10_waysTogether_27 rfl (by decide) rfl ?_
    exact J.sub [1, 2, 3, 0] rfl (kX10_waysTogether_h28 C hR k4 K4 N u2 x1 x2 0 hm)
def mX10_waysTogether_h4 (N : Nat) : Nat → USt → Int32 → Int32 → Option (Int32 × USt)
  | 0, _, _, _ => none
  | n + 1, u, x1, x2 => mX10_waysTogether_4 N (mX10_waysTogether_h4 N n) u x1 x2
theorem kX10_waysTogether_h4 {l : Launch} {D : va_G} {cI cO cR : ClassId} {q : Nat → Nat} {t0 : Nat} {b : BSt} {G : Gx} {N : Nat} {rr : (Int32 × USt)} (C : jC l rmX10_waysTogether D (tX cI cO cR) G cX10_waysTogether 4 RX10) (hR : jR D (tX cI cO cR) G (0, 0) (some .int) (some (.int rr.1)) (wX cI cO cR q t0 rr.2 b))  : ∀ (n : Nat) (u : USt) (x1 : Int32) (x2 : Int32), mX10_waysTogether_h4 N n u x1 x2 = some rr → J l rmX10_waysTogether D G (0, 0) (wX cI cO cR q t0 u b) [(0, .ref (q 0)), (1, .int x1), (2, .int x2)] [] 4 := by
  intro n
  induction n with
  | zero =>
    intro u x1 x2 hm
    have hm : (none : Option (Int32 × USt)) = some rr := hm
    cases hm
  | succ n ih =>
    intro u x1 x2 hm
    exact kX10_waysTogether_4 C hR _ ih u x1 x2 hm
def mX10_waysTogether (N : Nat) (u : USt) : Option (Int32 × USt) := mX10_waysTogether_h4 N N u 0 0
set_option maxRecDepth 100000 in
set_option maxHeartbeats 4000000 in
theorem qX10_waysTogether {l : Launch} {D : va_G} {cI cO cR : ClassId} {q : Nat → Nat} {t0 : Nat} {u : USt} {b : BSt} {N : Nat}  {rr : (Int32 × USt)} (hm : mX10_waysTogether N u = some rr) : Con l D (tX cI cO cR) yX10_waysTogether (wS yX10_waysTogether cX10_waysTogether 4 (some .int)) rmX10_waysTogether [.ref (q 0)] (wX cI cO cR q t0 u b) (some (.int rr.1)) (wX cI cO cR q t0 rr.2 b) := by
  refine Con.of (by decide +kernel) (Nat.le_of_ble_eq_true rfl) (fun G C hR => ?_)
  unfold mX10_waysTogether at hm
  show J l rmX10_waysTogether D G (0, 0) (wX cI cO cR q t0 u b) [(0, .ref (q 0))] [] 0
  refine j_iconst (v := 0) C dX10_waysTogether_0 (by decide) ?_
  refine j_istore_n C dX10_waysTogether_1 rfl (by decide) rfl ?_
  refine j_iconst (v := 0) C dX10_waysTogether_2 (by decide) ?_
  refine j_istore_n C dX10_waysTogether_3 rfl (by decide) rfl ?_
  exact J.sub [2, 1, 0] rfl (kX10_waysTogether_h4 C hR N u 0 0 hm)
def rmX10_worth : Room := { frames := 6, cells := 0, slots := 0, locals := 142 }
theorem wd_X10_worth : yX10_worth.cls ≠ "java/lang/invoke/MethodHandle" ∧ yX10_worth.cls ≠ "java/lang/invoke/VarHandle" ∧ (parseMethodDescriptor yX10_worth.desc).map (fun d => d.parameters.length) = some 3 := by decide +kernel
def mX10_worth (N : Nat) (b : BSt) (u : USt) (x1 : Int32) (x2 : Int32) (x3 : Int32) : Option (Int32 × USt) := (mX10_isBridge N u x1).bind (fun r1 => if ¬ r1 = 0 then ((mX10_isCarrier N x2 x3).bind (fun r2 => if ¬ r2 = 0 then ((mX10_openTable N b u 0 400 x2 x3).bind (fun u4 => bp (mX10_waysTogether N u4) (fun r5 u6 => (mX9_layNothing N u6 x1).bind (fun u8 => bp (mX10_waysTogether N u8) (fun r9 u10 => some ((r9 - r5), u10)))))) else (some ((-102), u)))) else (some ((-101), u)))
set_option maxRecDepth 100000 in
set_option maxHeartbeats 4000000 in
theorem qX10_worth {l : Launch} {D : va_G} {cI cO cR : ClassId} {q : Nat → Nat} {t0 : Nat} {u : USt} {b : BSt} {N : Nat} {x1 : Int32} {x2 : Int32} {x3 : Int32} {rr : (Int32 × USt)} (hm : mX10_worth N b u x1 x2 x3 = some rr) : Con l D (tX cI cO cR) yX10_worth (wS yX10_worth cX10_worth 5 (some .int)) rmX10_worth [.ref (q 0), .int x1, .int x2, .int x3] (wX cI cO cR q t0 u b) (some (.int rr.1)) (wX cI cO cR q t0 rr.2 b) := by
  refine Con.of (by decide +kernel) (Nat.le_of_ble_eq_true rfl) (fun G C hR => ?_)
  unfold mX10_worth at hm
  show J l rmX10_worth D G (0, 0) (wX cI cO cR q t0 u b) [(0, .ref (q 0)), (1, .int x1), (2, .int x2), (3, .int x3)] [] 0
  refine j_aload_n C dX10_worth_0 rfl 0 rfl ?_
  refine j_iload_n C dX10_worth_1 rfl 1 rfl ?_
  refine j_bind hm (fun r1 hr1 hm => ?_)
  refine j_callV (cs' := (0, 0)) (As := [.int x1]) (rest := []) C (qX10_isBridge hr1) w2_230 w2_227 w2_229 w0_8 w1_1 wd_X10_isBridge ⟨by decide, by decide⟩ 0 rfl rfl rfl (Nat.le_of_ble_eq_true rfl) dX10_worth_2 ⟨by decide, by decide⟩ rfl rfl ?_
  refine j_if_neq (tgt := 11) C dX10_worth_5 (by decide) hm (fun hm => ?_) (fun hm => ?_)
  · refine j_iload_n C dX10_worth_11 rfl 2 rfl ?_
    refine j_iload_n C dX10_worth_12 rfl 3 rfl ?_
    refine j_bind hm (fun r2 hr2 hm => ?_)
    refine j_callS (cs' := (0, 0)) (As := [.int x2, .int x3]) (rest := []) C (qX10_isCarrier hr2) w3_150 w3_148 w3_149 w1_1 wd_X10_isCarrier ⟨by decide, by decide⟩ rfl (Nat.le_of_ble_eq_true rfl) dX10_worth_13 ⟨by decide, by decide⟩ rfl rfl ?_
    refine j_if_neq (tgt := 22) C dX10_worth_16 (by decide) hm (fun hm => ?_) (fun hm => ?_)
    · refine j_aload_n C dX10_worth_22 rfl 0 rfl ?_
      refine j_iconst (v := 0) C dX10_worth_23 (by decide) ?_
      refine j_sipush (v := 400) C dX10_worth_24 (by decide) ?_
      refine j_iload_n C dX10_worth_27 rfl 2 rfl ?_
      refine j_iload_n C dX10_worth_28 rfl 3 rfl ?_
      refine j_bind hm (fun u4 hr3 hm => ?_)
      refine j_callV (cs' := (0, 0)) (As := [.int 0, .int 400, .int x2, .int x3]) (rest := []) C (qX10_openTable hr3) w3_154 w3_151 w3_153 w0_10 w1_1 wd_X10_openTable ⟨by decide, by decide⟩ 0 rfl rfl rfl (Nat.le_of_ble_eq_true rfl) dX10_worth_29 ⟨by decide, by decide⟩ rfl rfl ?_
      refine j_aload_n C dX10_worth_32 rfl 0 rfl ?_
      refine j_bindp hm (fun r5 u6 hr5 hm => ?_)
      refine j_callV (cs' := (0, 0)) (As := []) (rest := []) C (qX10_waysTogether hr5) w4_120 w4_117 w4_119 w0_22 w1_1 wd_X10_waysTogether ⟨by decide, by decide⟩ 0 rfl rfl rfl (Nat.le_of_ble_eq_true rfl) dX10_worth_33 ⟨by decide, by decide⟩ rfl rfl ?_
      refine j_istore C dX10_worth_36 (by decide) rfl ?_
      refine j_aload_n C dX10_worth_38 rfl 1 rfl ?_
      refine jX_g0_5_X10 C dX10_worth_39 ?_
      refine j_iload_n C dX10_worth_42 rfl 2 rfl ?_
      refine j_bind hm (fun u8 hr7 hm => ?_)
      refine j_callV (cs' := (0, 0)) (As := [.int x1]) (rest := []) C (qX9_layNothing hr7) w3_171 w3_168 w3_169 w3_170 w1_9 wd_X9_layNothing ⟨by decide, by decide⟩ 12 rfl rfl rfl (Nat.le_of_ble_eq_true rfl) dX10_worth_43 ⟨by decide, by decide⟩ rfl rfl ?_
      refine j_aload_n C dX10_worth_46 rfl 1 rfl ?_
      refine j_bindp hm (fun r9 u10 hr9 hm => ?_)
      refine j_callV (cs' := (0, 0)) (As := []) (rest := []) C (qX10_waysTogether hr9) w4_120 w4_117 w4_119 w0_22 w1_1 wd_X10_waysTogether ⟨by decide, by decide⟩ 0 rfl rfl rfl (Nat.le_of_ble_eq_true rfl) dX10_worth_47 ⟨by decide, by decide⟩ rfl rfl ?_
      refine j_iload C dX10_worth_50 0 rfl ?_
      refine j_isub C dX10_worth_52 ?_
      cases hm
      exact j_iret C hR dX10_worth_53
    · refine j_bipush (v := (-102)) C dX10_worth_19 (by decide) ?_
      cases hm
      exact j_iret C hR dX10_worth_21
  · refine j_bipush (v := (-101)) C dX10_worth_8 (by decide) ?_
    cases hm
    exact j_iret C hR dX10_worth_10
def rmX10_image : Room := { frames := 4, cells := 0, slots := 0, locals := 105 }
theorem wd_X10_image : yX10_image.cls ≠ "java/lang/invoke/MethodHandle" ∧ yX10_image.cls ≠ "java/lang/invoke/VarHandle" ∧ (parseMethodDescriptor yX10_image.desc).map (fun d => d.parameters.length) = some 0 := by decide +kernel
def mX10_image (N : Nat) (b : BSt) (u : USt) : Option (Int32 × USt) := nm (u.1 19) (fun f1 => (mX4_keep N b u f1).bind (fun u3 => (mJx4a65c_size_8abf5 N u3).bind (fun r4 => some (r4, u3))))
set_option maxRecDepth 100000 in
set_option maxHeartbeats 4000000 in
theorem qX10_image {l : Launch} {D : va_G} {cI cO cR : ClassId} {q : Nat → Nat} {t0 : Nat} {u : USt} {b : BSt} {N : Nat}  {rr : (Int32 × USt)} (hm : mX10_image N b u = some rr) : Con l D (tX cI cO cR) yX10_image (wS yX10_image cX10_image 1 (some .int)) rmX10_image [.ref (q 0)] (wX cI cO cR q t0 u b) (some (.int rr.1)) (wX cI cO cR q t0 rr.2 b) := by
  refine Con.of (by decide +kernel) (Nat.le_of_ble_eq_true rfl) (fun G C hR => ?_)
  unfold mX10_image at hm
  show J l rmX10_image D G (0, 0) (wX cI cO cR q t0 u b) [(0, .ref (q 0))] [] 0
  refine j_aload_n C dX10_image_0 rfl 0 rfl ?_
  refine jX_g0_4_X10 C dX10_image_1 ?_
  refine j_aload_n C dX10_image_4 rfl 0 rfl ?_
  refine jX_g0_2_X10 C dX10_image_5 ?_
  refine j_aload_n C dX10_image_8 rfl 0 rfl ?_
  refine jX_g0_9_X10 C dX10_image_9 ?_
  refine j_nmi hm (fun f1 hm => ?_)
  refine j_aload_n C dX10_image_12 rfl 0 rfl ?_
  refine jX_g0_3_X10 C dX10_image_13 ?_
  refine j_bind hm (fun u3 hr2 hm => ?_)
  refine j_callV (cs' := (0, 0)) (As := [.ref (q 5), .int f1, .ref (q 6)]) (rest := []) C (qX4_keep hr2) w4_128 w4_125 w4_126 w4_127 w1_8 wd_X4_keep ⟨by decide, by decide⟩ 8 rfl rfl rfl (Nat.le_of_ble_eq_true rfl) dX10_image_16 ⟨by decide, by decide⟩ rfl rfl ?_
  refine j_aload_n C dX10_image_19 rfl 0 rfl ?_
  refine jX_g0_2_X10 C dX10_image_20 ?_
  refine j_bind hm (fun r4 hr4 hm => ?_)
  refine j_callV (cs' := (0, 0)) (As := []) (rest := []) C (qJx4a65c_size_8abf5 hr4) w2_74 w2_71 w2_72 w2_73 w1_6 wd_Jx4a65c_size_8abf5 ⟨by decide, by decide⟩ 5 rfl rfl rfl (Nat.le_of_ble_eq_true rfl) dX10_image_23 ⟨by decide, by decide⟩ rfl rfl ?_
  cases hm
  exact j_iret C hR dX10_image_26
def rmX10_restore : Room := { frames := 4, cells := 0, slots := 0, locals := 129 }
theorem wd_X10_restore : yX10_restore.cls ≠ "java/lang/invoke/MethodHandle" ∧ yX10_restore.cls ≠ "java/lang/invoke/VarHandle" ∧ (parseMethodDescriptor yX10_restore.desc).map (fun d => d.parameters.length) = some 0 := by decide +kernel
def mX10_restore (N : Nat) (u : USt) (b : BSt) : Option (Int32 × USt × BSt) := (mX4_isKept N u).bind (fun r1 => if ¬ r1 = 0 then (bp (mX4_giveBack N u b) (fun u3 b4 => (mX4_wasFrosty N u3).bind (fun r5 => gd (r5 = 0 ∨ r5 = 1) (nm (siX u3 19 r5) (fun u6 => (mJx4a65c_size_8abf5 N u6).bind (fun r7 => some (r7, u6, b4))))))) else (some ((-103), u, b)))
set_option maxRecDepth 100000 in
set_option maxHeartbeats 4000000 in
theorem qX10_restore {l : Launch} {D : va_G} {cI cO cR : ClassId} {q : Nat → Nat} {t0 : Nat} {u : USt} {b : BSt} {N : Nat}  {rr : (Int32 × USt × BSt)} (hm : mX10_restore N u b = some rr) : Con l D (tX cI cO cR) yX10_restore (wS yX10_restore cX10_restore 1 (some .int)) rmX10_restore [.ref (q 0)] (wX cI cO cR q t0 u b) (some (.int rr.1)) (wX cI cO cR q t0 rr.2.1 rr.2.2) := by
  refine Con.of (by decide +kernel) (Nat.le_of_ble_eq_true rfl) (fun G C hR => ?_)
  unfold mX10_restore at hm
  show J l rmX10_restore D G (0, 0) (wX cI cO cR q t0 u b) [(0, .ref (q 0))] [] 0
  refine j_aload_n C dX10_restore_0 rfl 0 rfl ?_
  refine jX_g0_4_X10 C dX10_restore_1 ?_
  refine j_bind hm (fun r1 hr1 hm => ?_)
  refine j_callV (cs' := (0, 0)) (As := []) (rest := []) C (qX4_isKept hr1) w4_145 w4_142 w4_143 w4_144 w1_8 wd_X4_isKept ⟨by decide, by decide⟩ 8 rfl rfl rfl (Nat.le_of_ble_eq_true rfl) dX10_restore_4 ⟨by decide, by decide⟩ rfl rfl ?_
  refine j_if_neq (tgt := 13) C dX10_restore_7 (by decide) hm (fun hm => ?_) (fun hm => ?_)
  · refine j_aload_n C dX10_restore_13 rfl 0 rfl ?_
    refine jX_g0_4_X10 C dX10_restore_14 ?_
    refine j_aload_n C dX10_restore_17 rfl 0 rfl ?_
    refine jX_g0_2_X10 C dX10_restore_18 ?_
    refine j_aload_n C dX10_restore_21 rfl 0 rfl ?_
    refine jX_g0_3_X10 C dX10_restore_22 ?_
    refine j_bindp hm (fun u3 b4 hr2 hm => ?_)
    refine j_callV (cs' := (0, 0)) (As := [.ref (q 5), .ref (q 6)]) (rest := []) C (qX4_giveBack hr2) w4_149 w4_146 w4_147 w4_148 w1_8 wd_X4_giveBack ⟨by decide, by decide⟩ 8 rfl rfl rfl (Nat.le_of_ble_eq_true rfl) dX10_restore_25 ⟨by decide, by decide⟩ rfl rfl ?_
    refine j_aload_n C dX10_restore_28 rfl 0 rfl ?_
    refine j_aload_n C dX10_restore_29 rfl 0 rfl ?_
    refine jX_g0_4_X10 C dX10_restore_30 ?_
    refine j_bind hm (fun r5 hr5 hm => ?_)
    refine j_callV (cs' := (0, 0)) (As := []) (rest := [.ref (q 0)]) C (qX4_wasFrosty hr5) w4_162 w4_159 w4_160 w4_161 w1_8 wd_X4_wasFrosty ⟨by decide, by decide⟩ 8 rfl rfl rfl (Nat.le_of_ble_eq_true rfl) dX10_restore_33 ⟨by decide, by decide⟩ rfl rfl ?_
    obtain ⟨g, hm⟩ := gd_some hm
    refine jX_p0_9_X10 C dX10_restore_36 g ?_
    refine j_nmu hm (w := fun u => wX cI cO cR q t0 u b4) (fun u6 hm => ?_)
    refine j_aload_n C dX10_restore_39 rfl 0 rfl ?_
    refine jX_g0_2_X10 C dX10_restore_40 ?_
    refine j_bind hm (fun r7 hr7 hm => ?_)
    refine j_callV (cs' := (0, 0)) (As := []) (rest := []) C (qJx4a65c_size_8abf5 hr7) w2_74 w2_71 w2_72 w2_73 w1_6 wd_Jx4a65c_size_8abf5 ⟨by decide, by decide⟩ 5 rfl rfl rfl (Nat.le_of_ble_eq_true rfl) dX10_restore_43 ⟨by decide, by decide⟩ rfl rfl ?_
    cases hm
    exact j_iret C hR dX10_restore_46
  · refine j_bipush (v := (-103)) C dX10_restore_10 (by decide) ?_
    cases hm
    exact j_iret C hR dX10_restore_12
def rmX10_turningBridges : Room := { frames := 3, cells := 0, slots := 0, locals := 64 }
theorem wd_X10_turningBridges : yX10_turningBridges.cls ≠ "java/lang/invoke/MethodHandle" ∧ yX10_turningBridges.cls ≠ "java/lang/invoke/VarHandle" ∧ (parseMethodDescriptor yX10_turningBridges.desc).map (fun d => d.parameters.length) = some 0 := by decide +kernel
def mX10_turningBridges_32 (N : Nat) (u : USt) (b : BSt) (k4 : Int32 → Int32 → Option Int32) (x1 : Int32) (x2 : Int32) : Option Int32 := k4 x1 (x2 + 1)
set_option maxRecDepth 100000 in
set_option maxHeartbeats 4000000 in
theorem kX10_turningBridges_32 {l : Launch} {D : va_G} {cI cO cR : ClassId} {q : Nat → Nat} {t0 : Nat} {u : USt} {b : BSt} {G : Gx} {N : Nat} {rr : Int32} (C : jC l rmX10_turningBridges D (tX cI cO cR) G cX10_turningBridges 3 RX10) (hR : jR D (tX cI cO cR) G (0, 0) (some .int) (some (.int rr)) (wX cI cO cR q t0 u b)) (k4 : Int32 → Int32 → Option Int32) (K4 : ∀ (x1 : Int32) (x2 : Int32), k4 x1 x2 = some rr → J l rmX10_turningBridges D G (0, 0) (wX cI cO cR q t0 u b) [(0, .ref (q 0)), (1, .int x1), (2, .int x2)] [] 4) (x1 : Int32) (x2 : Int32) (hm : mX10_turningBridges_32 N u b k4 x1 x2 = some rr) : J l rmX10_turningBridges D G (0, 0) (wX cI cO cR q t0 u b) [(0, .ref (q 0)), (1, .int x1), (2, .int x2)] [] 32 := by
  unfold mX10_turningBridges_32 at hm
  refine j_iinc (v := (x2 + 1)) C dX10_turningBridges_32 2 rfl rfl (by decide) rfl ?_
  refine j_goto (tgt := 4) C dX10_turningBridges_35 (by decide) ?_
  exact J.sub [1, 2, 0] rfl (K4 x1 (x2 + 1) hm)
def mX10_turningBridges_4 (N : Nat) (u : USt) (b : BSt) (k4 : Int32 → Int32 → Option Int32) (x1 : Int32) (x2 : Int32) : Option Int32 := (mJx4a65c_size_8abf5 N u).bind (fun r1 => if r1 ≤ x2 then (some x1) else ((mJx4a65c_get_915e3 N u b x2).bind (fun r2 => bcl b r2 (fun c => nm (ivFixed c) (fun z3 => if ¬ z3 = 0 then (mX10_turningBridges_32 N u b k4 x1 x2) else (mX10_turningBridges_32 N u b k4 (x1 + 1) x2))))))
set_option maxRecDepth 100000 in
set_option maxHeartbeats 4000000 in
theorem kX10_turningBridges_4 {l : Launch} {D : va_G} {cI cO cR : ClassId} {q : Nat → Nat} {t0 : Nat} {u : USt} {b : BSt} {G : Gx} {N : Nat} {rr : Int32} (C : jC l rmX10_turningBridges D (tX cI cO cR) G cX10_turningBridges 3 RX10) (hR : jR D (tX cI cO cR) G (0, 0) (some .int) (some (.int rr)) (wX cI cO cR q t0 u b)) (k4 : Int32 → Int32 → Option Int32) (K4 : ∀ (x1 : Int32) (x2 : Int32), k4 x1 x2 = some rr → J l rmX10_turningBridges D G (0, 0) (wX cI cO cR q t0 u b) [(0, .ref (q 0)), (1, .int x1), (2, .int x2)] [] 4) (x1 : Int32) (x2 : Int32) (hm : mX10_turningBridges_4 N u b k4 x1 x2 = some rr) : J l rmX10_turningBridges D G (0, 0) (wX cI cO cR q t0 u b) [(0, .ref (q 0)), (1, .int x1), (2, .int x2)] [] 4 := by
  unfold mX10_turningBridges_4 at hm
  refine j_iload_n C dX10_turningBridges_4 rfl 2 rfl ?_
  refine j_aload_n C dX10_turningBridges_5 rfl 0 rfl ?_
  refine jX_g0_2_X10 C dX10_turningBridges_6 ?_
  refine j_bind hm (fun r1 hr1 hm => ?_)
  refine j_callV (cs' := (0, 0)) (As := []) (rest := [.int x2]) C (qJx4a65c_size_8abf5 hr1) w2_74 w2_71 w2_72 w2_73 w1_6 wd_Jx4a65c_size_8abf5 ⟨by decide, by decide⟩ 5 rfl rfl rfl (Nat.le_of_ble_eq_true rfl) dX10_turningBridges_9 ⟨by decide, by decide⟩ rfl rfl ?_
  refine j_icmp_geq (tgt := 38) C dX10_turningBridges_12 (by decide) hm (fun hm => ?_) (fun hm => ?_)
  · refine j_iload_n C dX10_turningBridges_38 rfl 1 rfl ?_
    cases hm
    exact j_iret C hR dX10_turningBridges_39
  · refine j_aload_n C dX10_turningBridges_15 rfl 0 rfl ?_
    refine jX_g0_2_X10 C dX10_turningBridges_16 ?_
    refine j_iload_n C dX10_turningBridges_19 rfl 2 rfl ?_
    refine j_bind hm (fun r2 hr2 hm => ?_)
    refine j_callV (cs' := (0, 0)) (As := [.int x2]) (rest := []) C (qJx4a65c_get_915e3 hr2) w2_234 w2_231 w2_232 w2_233 w1_6 wd_Jx4a65c_get_915e3 ⟨by decide, by decide⟩ 5 rfl rfl rfl (Nat.le_of_ble_eq_true rfl) dX10_turningBridges_20 ⟨by decide, by decide⟩ rfl rfl ?_
    refine jX_iFixed C w3_11 dX10_turningBridges_23 hm (fun z3 hm => ?_)
    refine j_if_neq (tgt := 32) C dX10_turningBridges_26 (by decide) hm (fun hm => ?_) (fun hm => ?_)
    · exact kX10_turningBridges_32 C hR k4 K4 x1 x2 hm
    · refine j_iinc (v := (x1 + 1)) C dX10_turningBridges_29 1 rfl rfl (by decide) rfl ?_
      exact J.sub [1, 0, 2] rfl (kX10_turningBridges_32 C hR k4 K4 (x1 + 1) x2 hm)
def mX10_turningBridges_h4 (N : Nat) (u : USt) (b : BSt) : Nat → Int32 → Int32 → Option Int32
  | 0, _, _ => none
  | n + 1, x1, x2 => mX10_turningBridges_4 N u b (mX10_turningBridges_h4 N u b n) x1 x2
theorem kX10_turningBridges_h4 {l : Launch} {D : va_G} {cI cO cR : ClassId} {q : Nat → Nat} {t0 : Nat} {u : USt} {b : BSt} {G : Gx} {N : Nat} {rr : Int32} (C : jC l rmX10_turningBridges D (tX cI cO cR) G cX10_turningBridges 3 RX10) (hR : jR D (tX cI cO cR) G (0, 0) (some .int) (some (.int rr)) (wX cI cO cR q t0 u b))  : ∀ (n : Nat) (x1 : Int32) (x2 : Int32), mX10_turningBridges_h4 N u b n x1 x2 = some rr → J l rmX10_turningBridges D G (0, 0) (wX cI cO cR q t0 u b) [(0, .ref (q 0)), (1, .int x1), (2, .int x2)] [] 4 := by
  intro n
  induction n with
  | zero =>
    intro x1 x2 hm
    have hm : (none : Option Int32) = some rr := hm
    cases hm
  | succ n ih =>
    intro x1 x2 hm
    exact kX10_turningBridges_4 C hR _ ih x1 x2 hm
def mX10_turningBridges (N : Nat) (u : USt) (b : BSt) : Option Int32 := mX10_turningBridges_h4 N u b N 0 0
set_option maxRecDepth 100000 in
set_option maxHeartbeats 4000000 in
theorem qX10_turningBridges {l : Launch} {D : va_G} {cI cO cR : ClassId} {q : Nat → Nat} {t0 : Nat} {u : USt} {b : BSt} {N : Nat}  {rr : Int32} (hm : mX10_turningBridges N u b = some rr) : Con l D (tX cI cO cR) yX10_turningBridges (wS yX10_turningBridges cX10_turningBridges 3 (some .int)) rmX10_turningBridges [.ref (q 0)] (wX cI cO cR q t0 u b) (some (.int rr)) (wX cI cO cR q t0 u b) := by
  refine Con.of (by decide +kernel) (Nat.le_of_ble_eq_true rfl) (fun G C hR => ?_)
  unfold mX10_turningBridges at hm
  show J l rmX10_turningBridges D G (0, 0) (wX cI cO cR q t0 u b) [(0, .ref (q 0))] [] 0
  refine j_iconst (v := 0) C dX10_turningBridges_0 (by decide) ?_
  refine j_istore_n C dX10_turningBridges_1 rfl (by decide) rfl ?_
  refine j_iconst (v := 0) C dX10_turningBridges_2 (by decide) ?_
  refine j_istore_n C dX10_turningBridges_3 rfl (by decide) rfl ?_
  exact J.sub [2, 1, 0] rfl (kX10_turningBridges_h4 C hR N 0 0 hm)
def rmX10_count : Room := { frames := 4, cells := 0, slots := 0, locals := 86 }
theorem wd_X10_count : yX10_count.cls ≠ "java/lang/invoke/MethodHandle" ∧ yX10_count.cls ≠ "java/lang/invoke/VarHandle" ∧ (parseMethodDescriptor yX10_count.desc).map (fun d => d.parameters.length) = some 1 := by decide +kernel
def mX10_count_56 (N : Nat) (u : USt) (b : BSt) (s0 : Int32) : Option Int32 := some s0
set_option maxRecDepth 100000 in
set_option maxHeartbeats 4000000 in
theorem kX10_count_56 {l : Launch} {D : va_G} {cI cO cR : ClassId} {q : Nat → Nat} {t0 : Nat} {u : USt} {b : BSt} {G : Gx} {N : Nat} {rr : Int32} (C : jC l rmX10_count D (tX cI cO cR) G cX10_count 2 RX10) (hR : jR D (tX cI cO cR) G (0, 0) (some .int) (some (.int rr)) (wX cI cO cR q t0 u b))  (s0 : Int32) (hm : mX10_count_56 N u b s0 = some rr) : J l rmX10_count D G (0, 0) (wX cI cO cR q t0 u b) [] [.int s0] 56 := by
  unfold mX10_count_56 at hm
  cases hm
  exact j_iret C hR dX10_count_56
def mX10_count (N : Nat) (u : USt) (b : BSt) (x1 : Int32) : Option Int32 := if (Int32.toInt x1) < 0 ∨ 4 < (Int32.toInt x1) then (some (-102)) else if x1 = 0 then ((mJx4a65c_size_8abf5 N u).bind (fun r1 => some r1)) else if x1 = 1 then (if (u.1 19) = 0 then (mX10_count_56 N u b 0) else (mX10_count_56 N u b 1)) else if x1 = 2 then ((mX5_size_6 N u).bind (fun r2 => some r2)) else if x1 = 3 then ((mX6_size N u).bind (fun r3 => some r3)) else if x1 = 4 then ((mX10_turningBridges N u b).bind (fun r4 => some r4)) else none
set_option maxRecDepth 100000 in
set_option maxHeartbeats 4000000 in
theorem qX10_count {l : Launch} {D : va_G} {cI cO cR : ClassId} {q : Nat → Nat} {t0 : Nat} {u : USt} {b : BSt} {N : Nat} {x1 : Int32} {rr : Int32} (hm : mX10_count N u b x1 = some rr) : Con l D (tX cI cO cR) yX10_count (wS yX10_count cX10_count 2 (some .int)) rmX10_count [.ref (q 0), .int x1] (wX cI cO cR q t0 u b) (some (.int rr)) (wX cI cO cR q t0 u b) := by
  refine Con.of (by decide +kernel) (Nat.le_of_ble_eq_true rfl) (fun G C hR => ?_)
  unfold mX10_count at hm
  show J l rmX10_count D G (0, 0) (wX cI cO cR q t0 u b) [(0, .ref (q 0)), (1, .int x1)] [] 0
  refine j_iload_n C dX10_count_0 rfl 1 rfl ?_
  refine j_tswD (tgt := 78) C dX10_count_1 (by decide) hm (fun hm => ?_) (fun hm => ?_)
  · refine j_bipush (v := (-102)) C dX10_count_78 (by decide) ?_
    cases hm
    exact j_iret C hR dX10_count_80
  refine j_tswK (k := 0) (tgt := 36) C dX10_count_1 (by decide) (by decide) rfl (by decide) hm (fun hm => ?_) (fun hm => ?_)
  · refine j_aload_n C dX10_count_36 rfl 0 rfl ?_
    refine jX_g0_2_X10 C dX10_count_37 ?_
    refine j_bind hm (fun r1 hr1 hm => ?_)
    refine j_callV (cs' := (0, 0)) (As := []) (rest := []) C (qJx4a65c_size_8abf5 hr1) w2_74 w2_71 w2_72 w2_73 w1_6 wd_Jx4a65c_size_8abf5 ⟨by decide, by decide⟩ 5 rfl rfl rfl (Nat.le_of_ble_eq_true rfl) dX10_count_40 ⟨by decide, by decide⟩ rfl rfl ?_
    cases hm
    exact j_iret C hR dX10_count_43
  refine j_tswK (k := 1) (tgt := 44) C dX10_count_1 (by decide) (by decide) rfl (by decide) hm (fun hm => ?_) (fun hm => ?_)
  · refine j_aload_n C dX10_count_44 rfl 0 rfl ?_
    refine jX_g0_9_X10 C dX10_count_45 ?_
    refine j_if_eqq (tgt := 55) C dX10_count_48 (by decide) hm (fun hm => ?_) (fun hm => ?_)
    · refine j_iconst (v := 0) C dX10_count_55 (by decide) ?_
      exact J.sub [] rfl (kX10_count_56 C hR 0 hm)
    · refine j_iconst (v := 1) C dX10_count_51 (by decide) ?_
      refine j_goto (tgt := 56) C dX10_count_52 (by decide) ?_
      exact J.sub [] rfl (kX10_count_56 C hR 1 hm)
  refine j_tswK (k := 2) (tgt := 57) C dX10_count_1 (by decide) (by decide) rfl (by decide) hm (fun hm => ?_) (fun hm => ?_)
  · refine j_aload_n C dX10_count_57 rfl 0 rfl ?_
    refine jX_g0_3_X10 C dX10_count_58 ?_
    refine j_bind hm (fun r2 hr2 hm => ?_)
    refine j_callV (cs' := (0, 0)) (As := []) (rest := []) C (qX5_size_6 hr2) w4_105 w4_102 w4_103 w4_104 w1_7 wd_X5_size ⟨by decide, by decide⟩ 6 rfl rfl rfl (Nat.le_of_ble_eq_true rfl) dX10_count_61 ⟨by decide, by decide⟩ rfl rfl ?_
    cases hm
    exact j_iret C hR dX10_count_64
  refine j_tswK (k := 3) (tgt := 65) C dX10_count_1 (by decide) (by decide) rfl (by decide) hm (fun hm => ?_) (fun hm => ?_)
  · refine j_aload_n C dX10_count_65 rfl 0 rfl ?_
    refine jX_g0_0_X10 C dX10_count_66 ?_
    refine j_bind hm (fun r3 hr3 hm => ?_)
    refine j_callV (cs' := (0, 0)) (As := []) (rest := []) C (qX6_size hr3) w2_15 w2_12 w2_13 w2_14 w1_2 wd_X6_size ⟨by decide, by decide⟩ 1 rfl rfl rfl (Nat.le_of_ble_eq_true rfl) dX10_count_69 ⟨by decide, by decide⟩ rfl rfl ?_
    cases hm
    exact j_iret C hR dX10_count_72
  refine j_tswK (k := 4) (tgt := 73) C dX10_count_1 (by decide) (by decide) rfl (by decide) hm (fun hm => ?_) (fun hm => ?_)
  · refine j_aload_n C dX10_count_73 rfl 0 rfl ?_
    refine j_bind hm (fun r4 hr4 hm => ?_)
    refine j_callV (cs' := (0, 0)) (As := []) (rest := []) C (qX10_turningBridges hr4) w4_170 w4_167 w4_169 w0_24 w1_1 wd_X10_turningBridges ⟨by decide, by decide⟩ 0 rfl rfl rfl (Nat.le_of_ble_eq_true rfl) dX10_count_74 ⟨by decide, by decide⟩ rfl rfl ?_
    cases hm
    exact j_iret C hR dX10_count_77
  cases hm
def rmX10_with : Room := { frames := 0, cells := 0, slots := 0, locals := 0 }
theorem wd_X10_with : yX10_with.cls ≠ "java/lang/invoke/MethodHandle" ∧ yX10_with.cls ≠ "java/lang/invoke/VarHandle" ∧ (parseMethodDescriptor yX10_with.desc).map (fun d => d.parameters.length) = some 2 := by decide +kernel
def mX10_with (N : Nat) (x0 : Int64) (x2 : Int64) : Option Int64 := some ((31 * x0) + x2)
set_option maxRecDepth 100000 in
set_option maxHeartbeats 4000000 in
theorem qX10_with {l : Launch} {D : va_G} {tys : List (ClassId × FieldType)} {N : Nat} {x0 : Int64} {x2 : Int64} {rr : Int64} (hm : mX10_with N x0 x2 = some rr) : Con l D tys yX10_with (wS yX10_with cX10_with 4 (some .long)) rmX10_with [.long x0, .long x2] [] (some (.long rr)) [] := by
  refine Con.of (by decide +kernel) (Nat.le_of_ble_eq_true rfl) (fun G C hR => ?_)
  unfold mX10_with at hm
  show J l rmX10_with D G (0, 0) [] [(0, .long x0), (2, .long x2)] [] 0
  refine j_ldc2 C dX10_with_0 w4_183 ?_
  refine j_lload_n C dX10_with_3 rfl 0 rfl ?_
  refine j_lmul C dX10_with_4 ?_
  refine j_lload_n C dX10_with_5 rfl 1 rfl ?_
  refine j_ladd C dX10_with_6 ?_
  cases hm
  exact j_lret C hR dX10_with_7
def rmX10_withBridge : Room := { frames := 4, cells := 0, slots := 0, locals := 86 }
theorem wd_X10_withBridge : yX10_withBridge.cls ≠ "java/lang/invoke/MethodHandle" ∧ yX10_withBridge.cls ≠ "java/lang/invoke/VarHandle" ∧ (parseMethodDescriptor yX10_withBridge.desc).map (fun d => d.parameters.length) = some 2 := by decide +kernel
def mX10_withBridge_69 (N : Nat) (u : USt) (b : BSt) (k69 : Nat → Int64 → Int32 → Option Int64) (a3 : Nat) (x4 : Int64) (x6 : Int32) : Option Int64 := if 7 < x6 then (some x4) else (bfi b a3 5 (fun f1 => (vX0_endAt N b a3 (x6 + f1) (u.1 19)).bind (fun r2 => (mX10_with N x4 (Int32.toInt64 r2)).bind (fun r3 => bfi b a3 5 (fun f4 => (vX0_standsStill N b a3 (x6 + f4) (u.1 19)).bind (fun r5 => (mX10_with N r3 (Int32.toInt64 r5)).bind (fun r6 => k69 a3 r6 (x6 + 7))))))))
set_option maxRecDepth 100000 in
set_option maxHeartbeats 4000000 in
theorem kX10_withBridge_69 {l : Launch} {D : va_G} {cI cO cR : ClassId} {q : Nat → Nat} {t0 : Nat} {u : USt} {b : BSt} {G : Gx} {N : Nat} {rr : Int64} (C : jC l rmX10_withBridge D (tX cI cO cR) G cX10_withBridge 7 RX10) (hR : jR D (tX cI cO cR) G (0, 0) (some .long) (some (.long rr)) (wX cI cO cR q t0 u b)) (k69 : Nat → Int64 → Int32 → Option Int64) (K69 : ∀ (a3 : Nat) (x4 : Int64) (x6 : Int32), k69 a3 x4 x6 = some rr → J l rmX10_withBridge D G (0, 0) (wX cI cO cR q t0 u b) [(0, .ref (q 0)), (3, .ref (bA b a3)), (4, .long x4), (6, .int x6)] [] 69) (a3 : Nat) (x4 : Int64) (x6 : Int32) (hm : mX10_withBridge_69 N u b k69 a3 x4 x6 = some rr) : J l rmX10_withBridge D G (0, 0) (wX cI cO cR q t0 u b) [(0, .ref (q 0)), (3, .ref (bA b a3)), (4, .long x4), (6, .int x6)] [] 69 := by
  unfold mX10_withBridge_69 at hm
  refine j_iload C dX10_withBridge_69 3 rfl ?_
  refine j_bipush (v := 7) C dX10_withBridge_71 (by decide) ?_
  refine j_icmp_gtq (tgt := 128) C dX10_withBridge_73 (by decide) hm (fun hm => ?_) (fun hm => ?_)
  · refine j_lload C dX10_withBridge_128 2 rfl ?_
    cases hm
    exact j_lret C hR dX10_withBridge_130
  · refine j_lload C dX10_withBridge_76 2 rfl ?_
    refine j_aload_n C dX10_withBridge_78 rfl 1 rfl ?_
    refine j_iload C dX10_withBridge_79 3 rfl ?_
    refine j_aload_n C dX10_withBridge_81 rfl 1 rfl ?_
    refine jX_b5 C w2_121 dX10_withBridge_82 hm (fun f1 hm => ?_)
    refine j_iadd C dX10_withBridge_85 ?_
    refine j_aload_n C dX10_withBridge_86 rfl 0 rfl ?_
    refine jX_g0_9_X10 C dX10_withBridge_87 ?_
    refine j_bind hm (fun r2 hr2 hm => ?_)
    refine jX_v_X10_130 (rest := [.long x4]) C hr2 ⟨by decide, by decide⟩ (Nat.le_of_ble_eq_true rfl) dX10_withBridge_90 (by decide) ?_
    refine j_i2l C dX10_withBridge_93 ?_
    refine j_bind hm (fun r3 hr3 hm => ?_)
    refine j_callS (cs' := (0, 0)) (As := [.long x4, .long (Int32.toInt64 r2)]) (rest := []) C (qX10_with hr3) w4_182 w4_180 w4_181 w1_1 wd_X10_with ⟨by decide, by decide⟩ rfl (Nat.le_of_ble_eq_true rfl) dX10_withBridge_94 ⟨by decide, by decide⟩ rfl rfl ?_
    refine j_lstore C dX10_withBridge_97 (by decide) rfl ?_
    refine j_lload C dX10_withBridge_99 0 rfl ?_
    refine j_aload_n C dX10_withBridge_101 rfl 2 rfl ?_
    refine j_iload C dX10_withBridge_102 3 rfl ?_
    refine j_aload_n C dX10_withBridge_104 rfl 2 rfl ?_
    refine jX_b5 C w2_121 dX10_withBridge_105 hm (fun f4 hm => ?_)
    refine j_iadd C dX10_withBridge_108 ?_
    refine j_aload_n C dX10_withBridge_109 rfl 1 rfl ?_
    refine jX_g0_9_X10 C dX10_withBridge_110 ?_
    refine j_bind hm (fun r5 hr5 hm => ?_)
    refine jX_v_X10_134 (rest := [.long r3]) C hr5 ⟨by decide, by decide⟩ (Nat.le_of_ble_eq_true rfl) dX10_withBridge_113 (by decide) ?_
    refine j_i2l C dX10_withBridge_116 ?_
    refine j_bind hm (fun r6 hr6 hm => ?_)
    refine j_callS (cs' := (0, 0)) (As := [.long r3, .long (Int32.toInt64 r5)]) (rest := []) C (qX10_with hr6) w4_182 w4_180 w4_181 w1_1 wd_X10_with ⟨by decide, by decide⟩ rfl (Nat.le_of_ble_eq_true rfl) dX10_withBridge_117 ⟨by decide, by decide⟩ rfl rfl ?_
    refine j_lstore C dX10_withBridge_120 (by decide) rfl ?_
    refine j_iinc (v := (x6 + 7)) C dX10_withBridge_122 3 rfl rfl (by decide) rfl ?_
    refine j_goto (tgt := 69) C dX10_withBridge_125 (by decide) ?_
    exact J.sub [2, 3, 1, 0] rfl (K69 a3 r6 (x6 + 7) hm)
def mX10_withBridge_h69 (N : Nat) (u : USt) (b : BSt) : Nat → Nat → Int64 → Int32 → Option Int64
  | 0, _, _, _ => none
  | n + 1, a3, x4, x6 => mX10_withBridge_69 N u b (mX10_withBridge_h69 N u b n) a3 x4 x6
theorem kX10_withBridge_h69 {l : Launch} {D : va_G} {cI cO cR : ClassId} {q : Nat → Nat} {t0 : Nat} {u : USt} {b : BSt} {G : Gx} {N : Nat} {rr : Int64} (C : jC l rmX10_withBridge D (tX cI cO cR) G cX10_withBridge 7 RX10) (hR : jR D (tX cI cO cR) G (0, 0) (some .long) (some (.long rr)) (wX cI cO cR q t0 u b))  : ∀ (n : Nat) (a3 : Nat) (x4 : Int64) (x6 : Int32), mX10_withBridge_h69 N u b n a3 x4 x6 = some rr → J l rmX10_withBridge D G (0, 0) (wX cI cO cR q t0 u b) [(0, .ref (q 0)), (3, .ref (bA b a3)), (4, .long x4), (6, .int x6)] [] 69 := by
  intro n
  induction n with
  | zero =>
    intro a3 x4 x6 hm
    have hm : (none : Option Int64) = some rr := hm
    cases hm
  | succ n ih =>
    intro a3 x4 x6 hm
    exact kX10_withBridge_69 C hR _ ih a3 x4 x6 hm
def mX10_withBridge_38 (N : Nat) (u : USt) (b : BSt) (k38 : Nat → Int64 → Int32 → Option Int64) (a3 : Nat) (x4 : Int64) (x6 : Int32) : Option Int64 := if 12 < x6 then (mX10_withBridge_h69 N u b N a3 x4 0) else ((mX10_told N u b a3 x6).bind (fun r1 => (mX10_with N x4 (Int32.toInt64 r1)).bind (fun r2 => k38 a3 r2 (x6 + 1))))
set_option maxRecDepth 100000 in
set_option maxHeartbeats 4000000 in
theorem kX10_withBridge_38 {l : Launch} {D : va_G} {cI cO cR : ClassId} {q : Nat → Nat} {t0 : Nat} {u : USt} {b : BSt} {G : Gx} {N : Nat} {rr : Int64} (C : jC l rmX10_withBridge D (tX cI cO cR) G cX10_withBridge 7 RX10) (hR : jR D (tX cI cO cR) G (0, 0) (some .long) (some (.long rr)) (wX cI cO cR q t0 u b)) (k38 : Nat → Int64 → Int32 → Option Int64) (K38 : ∀ (a3 : Nat) (x4 : Int64) (x6 : Int32), k38 a3 x4 x6 = some rr → J l rmX10_withBridge D G (0, 0) (wX cI cO cR q t0 u b) [(0, .ref (q 0)), (3, .ref (bA b a3)), (4, .long x4), (6, .int x6)] [] 38) (a3 : Nat) (x4 : Int64) (x6 : Int32) (hm : mX10_withBridge_38 N u b k38 a3 x4 x6 = some rr) : J l rmX10_withBridge D G (0, 0) (wX cI cO cR q t0 u b) [(0, .ref (q 0)), (3, .ref (bA b a3)), (4, .long x4), (6, .int x6)] [] 38 := by
  unfold mX10_withBridge_38 at hm
  refine j_iload C dX10_withBridge_38 3 rfl ?_
  refine j_bipush (v := 12) C dX10_withBridge_40 (by decide) ?_
  refine j_icmp_gtq (tgt := 66) C dX10_withBridge_42 (by decide) hm (fun hm => ?_) (fun hm => ?_)
  · refine j_iconst (v := 0) C dX10_withBridge_66 (by decide) ?_
    refine j_istore C dX10_withBridge_67 (by decide) rfl ?_
    exact J.sub [1, 2, 3, 0] rfl (kX10_withBridge_h69 C hR N a3 x4 0 hm)
  · refine j_lload C dX10_withBridge_45 2 rfl ?_
    refine j_aload_n C dX10_withBridge_47 rfl 0 rfl ?_
    refine j_aload_n C dX10_withBridge_48 rfl 1 rfl ?_
    refine j_iload C dX10_withBridge_49 3 rfl ?_
    refine j_bind hm (fun r1 hr1 hm => ?_)
    refine j_callV (cs' := (0, 0)) (As := [.ref (bA b a3), .int x6]) (rest := [.long x4]) C (qX10_told hr1) w3_19 w3_16 w3_18 w0_9 w1_1 wd_X10_told ⟨by decide, by decide⟩ 0 rfl rfl rfl (Nat.le_of_ble_eq_true rfl) dX10_withBridge_51 ⟨by decide, by decide⟩ rfl rfl ?_
    refine j_i2l C dX10_withBridge_54 ?_
    refine j_bind hm (fun r2 hr2 hm => ?_)
    refine j_callS (cs' := (0, 0)) (As := [.long x4, .long (Int32.toInt64 r1)]) (rest := []) C (qX10_with hr2) w4_182 w4_180 w4_181 w1_1 wd_X10_with ⟨by decide, by decide⟩ rfl (Nat.le_of_ble_eq_true rfl) dX10_withBridge_55 ⟨by decide, by decide⟩ rfl rfl ?_
    refine j_lstore C dX10_withBridge_58 (by decide) rfl ?_
    refine j_iinc (v := (x6 + 1)) C dX10_withBridge_60 3 rfl rfl (by decide) rfl ?_
    refine j_goto (tgt := 38) C dX10_withBridge_63 (by decide) ?_
    exact J.sub [2, 3, 1, 0] rfl (K38 a3 r2 (x6 + 1) hm)
def mX10_withBridge_h38 (N : Nat) (u : USt) (b : BSt) : Nat → Nat → Int64 → Int32 → Option Int64
  | 0, _, _, _ => none
  | n + 1, a3, x4, x6 => mX10_withBridge_38 N u b (mX10_withBridge_h38 N u b n) a3 x4 x6
theorem kX10_withBridge_h38 {l : Launch} {D : va_G} {cI cO cR : ClassId} {q : Nat → Nat} {t0 : Nat} {u : USt} {b : BSt} {G : Gx} {N : Nat} {rr : Int64} (C : jC l rmX10_withBridge D (tX cI cO cR) G cX10_withBridge 7 RX10) (hR : jR D (tX cI cO cR) G (0, 0) (some .long) (some (.long rr)) (wX cI cO cR q t0 u b))  : ∀ (n : Nat) (a3 : Nat) (x4 : Int64) (x6 : Int32), mX10_withBridge_h38 N u b n a3 x4 x6 = some rr → J l rmX10_withBridge D G (0, 0) (wX cI cO cR q t0 u b) [(0, .ref (q 0)), (3, .ref (bA b a3)), (4, .long x4), (6, .int x6)] [] 38 := by
  intro n
  induction n with
  | zero =>
    intro a3 x4 x6 hm
    have hm : (none : Option Int64) = some rr := hm
    cases hm
  | succ n ih =>
    intro a3 x4 x6 hm
    exact kX10_withBridge_38 C hR _ ih a3 x4 x6 hm
def mX10_withBridge_6 (N : Nat) (u : USt) (b : BSt) (k6 : Nat → Int64 → Int32 → Option Int64) (a3 : Nat) (x4 : Int64) (x6 : Int32) : Option Int64 := if 7 < x6 then (mX10_withBridge_h38 N u b N a3 x4 10) else ((mX10_told N u b a3 x6).bind (fun r1 => (mX10_with N x4 (Int32.toInt64 r1)).bind (fun r2 => k6 a3 r2 (x6 + 1))))
set_option maxRecDepth 100000 in
set_option maxHeartbeats 4000000 in
theorem kX10_withBridge_6 {l : Launch} {D : va_G} {cI cO cR : ClassId} {q : Nat → Nat} {t0 : Nat} {u : USt} {b : BSt} {G : Gx} {N : Nat} {rr : Int64} (C : jC l rmX10_withBridge D (tX cI cO cR) G cX10_withBridge 7 RX10) (hR : jR D (tX cI cO cR) G (0, 0) (some .long) (some (.long rr)) (wX cI cO cR q t0 u b)) (k6 : Nat → Int64 → Int32 → Option Int64) (K6 : ∀ (a3 : Nat) (x4 : Int64) (x6 : Int32), k6 a3 x4 x6 = some rr → J l rmX10_withBridge D G (0, 0) (wX cI cO cR q t0 u b) [(0, .ref (q 0)), (3, .ref (bA b a3)), (4, .long x4), (6, .int x6)] [] 6) (a3 : Nat) (x4 : Int64) (x6 : Int32) (hm : mX10_withBridge_6 N u b k6 a3 x4 x6 = some rr) : J l rmX10_withBridge D G (0, 0) (wX cI cO cR q t0 u b) [(0, .ref (q 0)), (3, .ref (bA b a3)), (4, .long x4), (6, .int x6)] [] 6 := by
  unfold mX10_withBridge_6 at hm
  refine j_iload C dX10_withBridge_6 3 rfl ?_
  refine j_bipush (v := 7) C dX10_withBridge_8 (by decide) ?_
  refine j_icmp_gtq (tgt := 34) C dX10_withBridge_10 (by decide) hm (fun hm => ?_) (fun hm => ?_)
  · refine j_bipush (v := 10) C dX10_withBridge_34 (by decide) ?_
    refine j_istore C dX10_withBridge_36 (by decide) rfl ?_
    exact J.sub [1, 2, 3, 0] rfl (kX10_withBridge_h38 C hR N a3 x4 10 hm)
  · refine j_lload C dX10_withBridge_13 2 rfl ?_
    refine j_aload_n C dX10_withBridge_15 rfl 0 rfl ?_
    refine j_aload_n C dX10_withBridge_16 rfl 1 rfl ?_
    refine j_iload C dX10_withBridge_17 3 rfl ?_
    refine j_bind hm (fun r1 hr1 hm => ?_)
    refine j_callV (cs' := (0, 0)) (As := [.ref (bA b a3), .int x6]) (rest := [.long x4]) C (qX10_told hr1) w3_19 w3_16 w3_18 w0_9 w1_1 wd_X10_told ⟨by decide, by decide⟩ 0 rfl rfl rfl (Nat.le_of_ble_eq_true rfl) dX10_withBridge_19 ⟨by decide, by decide⟩ rfl rfl ?_
    refine j_i2l C dX10_withBridge_22 ?_
    refine j_bind hm (fun r2 hr2 hm => ?_)
    refine j_callS (cs' := (0, 0)) (As := [.long x4, .long (Int32.toInt64 r1)]) (rest := []) C (qX10_with hr2) w4_182 w4_180 w4_181 w1_1 wd_X10_with ⟨by decide, by decide⟩ rfl (Nat.le_of_ble_eq_true rfl) dX10_withBridge_23 ⟨by decide, by decide⟩ rfl rfl ?_
    refine j_lstore C dX10_withBridge_26 (by decide) rfl ?_
    refine j_iinc (v := (x6 + 1)) C dX10_withBridge_28 3 rfl rfl (by decide) rfl ?_
    refine j_goto (tgt := 6) C dX10_withBridge_31 (by decide) ?_
    exact J.sub [2, 3, 1, 0] rfl (K6 a3 r2 (x6 + 1) hm)
def mX10_withBridge_h6 (N : Nat) (u : USt) (b : BSt) : Nat → Nat → Int64 → Int32 → Option Int64
  | 0, _, _, _ => none
  | n + 1, a3, x4, x6 => mX10_withBridge_6 N u b (mX10_withBridge_h6 N u b n) a3 x4 x6
theorem kX10_withBridge_h6 {l : Launch} {D : va_G} {cI cO cR : ClassId} {q : Nat → Nat} {t0 : Nat} {u : USt} {b : BSt} {G : Gx} {N : Nat} {rr : Int64} (C : jC l rmX10_withBridge D (tX cI cO cR) G cX10_withBridge 7 RX10) (hR : jR D (tX cI cO cR) G (0, 0) (some .long) (some (.long rr)) (wX cI cO cR q t0 u b))  : ∀ (n : Nat) (a3 : Nat) (x4 : Int64) (x6 : Int32), mX10_withBridge_h6 N u b n a3 x4 x6 = some rr → J l rmX10_withBridge D G (0, 0) (wX cI cO cR q t0 u b) [(0, .ref (q 0)), (3, .ref (bA b a3)), (4, .long x4), (6, .int x6)] [] 6 := by
  intro n
  induction n with
  | zero =>
    intro a3 x4 x6 hm
    have hm : (none : Option Int64) = some rr := hm
    cases hm
  | succ n ih =>
    intro a3 x4 x6 hm
    exact kX10_withBridge_6 C hR _ ih a3 x4 x6 hm
def mX10_withBridge (N : Nat) (u : USt) (b : BSt) (x1 : Int64) (a3 : Nat) : Option Int64 := mX10_withBridge_h6 N u b N a3 x1 0
set_option maxRecDepth 100000 in
set_option maxHeartbeats 4000000 in
theorem qX10_withBridge {l : Launch} {D : va_G} {cI cO cR : ClassId} {q : Nat → Nat} {t0 : Nat} {u : USt} {b : BSt} {N : Nat} {x1 : Int64} {a3 : Nat} {rr : Int64} (hm : mX10_withBridge N u b x1 a3 = some rr) : Con l D (tX cI cO cR) yX10_withBridge (wS yX10_withBridge cX10_withBridge 7 (some .long)) rmX10_withBridge [.ref (q 0), .long x1, .ref (bA b a3)] (wX cI cO cR q t0 u b) (some (.long rr)) (wX cI cO cR q t0 u b) := by
  refine Con.of (by decide +kernel) (Nat.le_of_ble_eq_true rfl) (fun G C hR => ?_)
  unfold mX10_withBridge at hm
  show J l rmX10_withBridge D G (0, 0) (wX cI cO cR q t0 u b) [(0, .ref (q 0)), (1, .long x1), (3, .ref (bA b a3))] [] 0
  refine j_lload_n C dX10_withBridge_0 rfl 1 rfl ?_
  refine j_lstore C dX10_withBridge_1 (by decide) rfl ?_
  refine j_iconst (v := 0) C dX10_withBridge_3 (by decide) ?_
  refine j_istore C dX10_withBridge_4 (by decide) rfl ?_
  exact J.sub [2, 4, 1, 0] rfl (kX10_withBridge_h6 C hR N a3 x1 0 hm)
def rmX10_digest : Room := { frames := 6, cells := 0, slots := 0, locals := 142 }
theorem wd_X10_digest : yX10_digest.cls ≠ "java/lang/invoke/MethodHandle" ∧ yX10_digest.cls ≠ "java/lang/invoke/VarHandle" ∧ (parseMethodDescriptor yX10_digest.desc).map (fun d => d.parameters.length) = some 0 := by decide +kernel
def mX10_digest_108 (N : Nat) (b : BSt) (k77 : USt → Int64 → Int32 → Option (Int64 × USt)) (u : USt) (x3 : Int32) (s0 : Int64) (s1 : Int64) : Option (Int64 × USt) := (mX10_with N s1 s0).bind (fun r1 => (mX10_minutesApart N u b x3 0 60).bind (fun r2 => (mX10_with N r1 (Int32.toInt64 r2)).bind (fun r3 => k77 u r3 (x3 + 1))))
set_option maxRecDepth 100000 in
set_option maxHeartbeats 4000000 in
theorem kX10_digest_108 {l : Launch} {D : va_G} {cI cO cR : ClassId} {q : Nat → Nat} {t0 : Nat} {b : BSt} {G : Gx} {N : Nat} {rr : (Int64 × USt)} (C : jC l rmX10_digest D (tX cI cO cR) G cX10_digest 5 RX10) (hR : jR D (tX cI cO cR) G (0, 0) (some .long) (some (.long rr.1)) (wX cI cO cR q t0 rr.2 b)) (k77 : USt → Int64 → Int32 → Option (Int64 × USt)) (K77 : ∀ (u : USt) (x1 : Int64) (x3 : Int32), k77 u x1 x3 = some rr → J l rmX10_digest D G (0, 0) (wX cI cO cR q t0 u b) [(0, .ref (q 0)), (1, .long x1), (3, .int x3)] [] 77) (u : USt) (x3 : Int32) (s0 : Int64) (s1 : Int64) (hm : mX10_digest_108 N b k77 u x3 s0 s1 = some rr) : J l rmX10_digest D G (0, 0) (wX cI cO cR q t0 u b) [(0, .ref (q 0)), (3, .int x3)] [.long s0, .long s1] 108 := by
  unfold mX10_digest_108 at hm
  refine j_bind hm (fun r1 hr1 hm => ?_)
  refine j_callS (cs' := (0, 0)) (As := [.long s1, .long s0]) (rest := []) C (qX10_with hr1) w4_182 w4_180 w4_181 w1_1 wd_X10_with ⟨by decide, by decide⟩ rfl (Nat.le_of_ble_eq_true rfl) dX10_digest_108 ⟨by decide, by decide⟩ rfl rfl ?_
  refine j_lstore_n C dX10_digest_111 rfl (by decide) rfl ?_
  refine j_lload_n C dX10_digest_112 rfl 0 rfl ?_
  refine j_aload_n C dX10_digest_113 rfl 1 rfl ?_
  refine j_iload_n C dX10_digest_114 rfl 2 rfl ?_
  refine j_iconst (v := 0) C dX10_digest_115 (by decide) ?_
  refine j_bipush (v := 60) C dX10_digest_116 (by decide) ?_
  refine j_bind hm (fun r2 hr2 hm => ?_)
  refine j_callV (cs' := (0, 0)) (As := [.int x3, .int 0, .int 60]) (rest := [.long r1]) C (qX10_minutesApart hr2) w3_216 w3_213 w3_215 w0_12 w1_1 wd_X10_minutesApart ⟨by decide, by decide⟩ 0 rfl rfl rfl (Nat.le_of_ble_eq_true rfl) dX10_digest_118 ⟨by decide, by decide⟩ rfl rfl ?_
  refine j_i2l C dX10_digest_121 ?_
  refine j_bind hm (fun r3 hr3 hm => ?_)
  refine j_callS (cs' := (0, 0)) (As := [.long r1, .long (Int32.toInt64 r2)]) (rest := []) C (qX10_with hr3) w4_182 w4_180 w4_181 w1_1 wd_X10_with ⟨by decide, by decide⟩ rfl (Nat.le_of_ble_eq_true rfl) dX10_digest_122 ⟨by decide, by decide⟩ rfl rfl ?_
  refine j_lstore_n C dX10_digest_125 rfl (by decide) rfl ?_
  refine j_iinc (v := (x3 + 1)) C dX10_digest_126 2 rfl rfl (by decide) rfl ?_
  refine j_goto (tgt := 77) C dX10_digest_129 (by decide) ?_
  exact J.sub [2, 1, 0] rfl (K77 u r3 (x3 + 1) hm)
def mX10_digest_148 (N : Nat) (b : BSt) (k134 : USt → Int64 → Int32 → Option (Int64 × USt)) (k148 : USt → Int64 → Int32 → Int32 → Option (Int64 × USt)) (u : USt) (x1 : Int64) (x3 : Int32) (x4 : Int32) : Option (Int64 × USt) := if 4 ≤ x4 then (k134 u x1 (x3 + 1)) else ((mX5_part_6 N u x3 x4).bind (fun r1 => (mX10_with N x1 (Int32.toInt64 r1)).bind (fun r2 => k148 u r2 x3 (x4 + 1))))
set_option maxRecDepth 100000 in
set_option maxHeartbeats 4000000 in
theorem kX10_digest_148 {l : Launch} {D : va_G} {cI cO cR : ClassId} {q : Nat → Nat} {t0 : Nat} {b : BSt} {G : Gx} {N : Nat} {rr : (Int64 × USt)} (C : jC l rmX10_digest D (tX cI cO cR) G cX10_digest 5 RX10) (hR : jR D (tX cI cO cR) G (0, 0) (some .long) (some (.long rr.1)) (wX cI cO cR q t0 rr.2 b)) (k134 : USt → Int64 → Int32 → Option (Int64 × USt)) (K134 : ∀ (u : USt) (x1 : Int64) (x3 : Int32), k134 u x1 x3 = some rr → J l rmX10_digest D G (0, 0) (wX cI cO cR q t0 u b) [(0, .ref (q 0)), (1, .long x1), (3, .int x3)] [] 134) (k148 : USt → Int64 → Int32 → Int32 → Option (Int64 × USt)) (K148 : ∀ (u : USt) (x1 : Int64) (x3 : Int32) (x4 : Int32), k148 u x1 x3 x4 = some rr → J l rmX10_digest D G (0, 0) (wX cI cO cR q t0 u b) [(0, .ref (q 0)), (1, .long x1), (3, .int x3), (4, .int x4)] [] 148) (u : USt) (x1 : Int64) (x3 : Int32) (x4 : Int32) (hm : mX10_digest_148 N b k134 k148 u x1 x3 x4 = some rr) : J l rmX10_digest D G (0, 0) (wX cI cO cR q t0 u b) [(0, .ref (q 0)), (1, .long x1), (3, .int x3), (4, .int x4)] [] 148 := by
  unfold mX10_digest_148 at hm
  refine j_iload C dX10_digest_148 3 rfl ?_
  refine j_iconst (v := 4) C dX10_digest_150 (by decide) ?_
  refine j_icmp_geq (tgt := 176) C dX10_digest_151 (by decide) hm (fun hm => ?_) (fun hm => ?_)
  · refine j_iinc (v := (x3 + 1)) C dX10_digest_176 2 rfl rfl (by decide) rfl ?_
    refine j_goto (tgt := 134) C dX10_digest_179 (by decide) ?_
    exact J.sub [1, 2, 0] rfl (K134 u x1 (x3 + 1) hm)
  · refine j_lload_n C dX10_digest_154 rfl 1 rfl ?_
    refine j_aload_n C dX10_digest_155 rfl 0 rfl ?_
    refine jX_g0_3_X10 C dX10_digest_156 ?_
    refine j_iload_n C dX10_digest_159 rfl 2 rfl ?_
    refine j_iload C dX10_digest_160 3 rfl ?_
    refine j_bind hm (fun r1 hr1 hm => ?_)
    refine j_callV (cs' := (0, 0)) (As := [.int x3, .int x4]) (rest := [.long x1]) C (qX5_part_6 hr1) w4_109 w4_106 w4_107 w4_108 w1_7 wd_X5_part ⟨by decide, by decide⟩ 6 rfl rfl rfl (Nat.le_of_ble_eq_true rfl) dX10_digest_162 ⟨by decide, by decide⟩ rfl rfl ?_
    refine j_i2l C dX10_digest_165 ?_
    refine j_bind hm (fun r2 hr2 hm => ?_)
    refine j_callS (cs' := (0, 0)) (As := [.long x1, .long (Int32.toInt64 r1)]) (rest := []) C (qX10_with hr2) w4_182 w4_180 w4_181 w1_1 wd_X10_with ⟨by decide, by decide⟩ rfl (Nat.le_of_ble_eq_true rfl) dX10_digest_166 ⟨by decide, by decide⟩ rfl rfl ?_
    refine j_lstore_n C dX10_digest_169 rfl (by decide) rfl ?_
    refine j_iinc (v := (x4 + 1)) C dX10_digest_170 3 rfl rfl (by decide) rfl ?_
    refine j_goto (tgt := 148) C dX10_digest_173 (by decide) ?_
    exact J.sub [2, 1, 3, 0] rfl (K148 u r2 x3 (x4 + 1) hm)
def mX10_digest_h148 (N : Nat) (b : BSt) (k134 : USt → Int64 → Int32 → Option (Int64 × USt)) : Nat → USt → Int64 → Int32 → Int32 → Option (Int64 × USt)
  | 0, _, _, _, _ => none
  | n + 1, u, x1, x3, x4 => mX10_digest_148 N b k134 (mX10_digest_h148 N b k134 n) u x1 x3 x4
theorem kX10_digest_h148 {l : Launch} {D : va_G} {cI cO cR : ClassId} {q : Nat → Nat} {t0 : Nat} {b : BSt} {G : Gx} {N : Nat} {rr : (Int64 × USt)} (C : jC l rmX10_digest D (tX cI cO cR) G cX10_digest 5 RX10) (hR : jR D (tX cI cO cR) G (0, 0) (some .long) (some (.long rr.1)) (wX cI cO cR q t0 rr.2 b)) (k134 : USt → Int64 → Int32 → Option (Int64 × USt)) (K134 : ∀ (u : USt) (x1 : Int64) (x3 : Int32), k134 u x1 x3 = some rr → J l rmX10_digest D G (0, 0) (wX cI cO cR q t0 u b) [(0, .ref (q 0)), (1, .long x1), (3, .int x3)] [] 134) : ∀ (n : Nat) (u : USt) (x1 : Int64) (x3 : Int32) (x4 : Int32), mX10_digest_h148 N b k134 n u x1 x3 x4 = some rr → J l rmX10_digest D G (0, 0) (wX cI cO cR q t0 u b) [(0, .ref (q 0)), (1, .long x1), (3, .int x3), (4, .int x4)] [] 148 := by
  intro n
  induction n with
  | zero =>
    intro u x1 x3 x4 hm
    have hm : (none : Option (Int64 × USt)) = some rr := hm
    cases hm
  | succ n ih =>
    intro u x1 x3 x4 hm
    exact kX10_digest_148 C hR k134 K134 _ ih u x1 x3 x4 hm
def mX10_digest_217 (N : Nat) (b : BSt) (k217 : USt → Int64 → Int32 → Option (Int64 × USt)) (u : USt) (x1 : Int64) (x3 : Int32) : Option (Int64 × USt) := if 4 < x3 then (some (x1, u)) else ((mX10_count N u b x3).bind (fun r1 => (mX10_with N x1 (Int32.toInt64 r1)).bind (fun r2 => k217 u r2 (x3 + 1))))
set_option maxRecDepth 100000 in
set_option maxHeartbeats 4000000 in
theorem kX10_digest_217 {l : Launch} {D : va_G} {cI cO cR : ClassId} {q : Nat → Nat} {t0 : Nat} {b : BSt} {G : Gx} {N : Nat} {rr : (Int64 × USt)} (C : jC l rmX10_digest D (tX cI cO cR) G cX10_digest 5 RX10) (hR : jR D (tX cI cO cR) G (0, 0) (some .long) (some (.long rr.1)) (wX cI cO cR q t0 rr.2 b)) (k217 : USt → Int64 → Int32 → Option (Int64 × USt)) (K217 : ∀ (u : USt) (x1 : Int64) (x3 : Int32), k217 u x1 x3 = some rr → J l rmX10_digest D G (0, 0) (wX cI cO cR q t0 u b) [(0, .ref (q 0)), (1, .long x1), (3, .int x3)] [] 217) (u : USt) (x1 : Int64) (x3 : Int32) (hm : mX10_digest_217 N b k217 u x1 x3 = some rr) : J l rmX10_digest D G (0, 0) (wX cI cO cR q t0 u b) [(0, .ref (q 0)), (1, .long x1), (3, .int x3)] [] 217 := by
  unfold mX10_digest_217 at hm
  refine j_iload_n C dX10_digest_217 rfl 2 rfl ?_
  refine j_iconst (v := 4) C dX10_digest_218 (by decide) ?_
  refine j_icmp_gtq (tgt := 239) C dX10_digest_219 (by decide) hm (fun hm => ?_) (fun hm => ?_)
  · refine j_lload_n C dX10_digest_239 rfl 1 rfl ?_
    cases hm
    exact j_lret C hR dX10_digest_240
  · refine j_lload_n C dX10_digest_222 rfl 1 rfl ?_
    refine j_aload_n C dX10_digest_223 rfl 0 rfl ?_
    refine j_iload_n C dX10_digest_224 rfl 2 rfl ?_
    refine j_bind hm (fun r1 hr1 hm => ?_)
    refine j_callV (cs' := (0, 0)) (As := [.int x3]) (rest := [.long x1]) C (qX10_count hr1) w4_166 w4_190 w4_164 w4_165 w1_1 wd_X10_count ⟨by decide, by decide⟩ 0 rfl rfl rfl (Nat.le_of_ble_eq_true rfl) dX10_digest_225 ⟨by decide, by decide⟩ rfl rfl ?_
    refine j_i2l C dX10_digest_228 ?_
    refine j_bind hm (fun r2 hr2 hm => ?_)
    refine j_callS (cs' := (0, 0)) (As := [.long x1, .long (Int32.toInt64 r1)]) (rest := []) C (qX10_with hr2) w4_182 w4_180 w4_181 w1_1 wd_X10_with ⟨by decide, by decide⟩ rfl (Nat.le_of_ble_eq_true rfl) dX10_digest_229 ⟨by decide, by decide⟩ rfl rfl ?_
    refine j_lstore_n C dX10_digest_232 rfl (by decide) rfl ?_
    refine j_iinc (v := (x3 + 1)) C dX10_digest_233 2 rfl rfl (by decide) rfl ?_
    refine j_goto (tgt := 217) C dX10_digest_236 (by decide) ?_
    exact J.sub [2, 1, 0] rfl (K217 u r2 (x3 + 1) hm)
def mX10_digest_h217 (N : Nat) (b : BSt) : Nat → USt → Int64 → Int32 → Option (Int64 × USt)
  | 0, _, _, _ => none
  | n + 1, u, x1, x3 => mX10_digest_217 N b (mX10_digest_h217 N b n) u x1 x3
theorem kX10_digest_h217 {l : Launch} {D : va_G} {cI cO cR : ClassId} {q : Nat → Nat} {t0 : Nat} {b : BSt} {G : Gx} {N : Nat} {rr : (Int64 × USt)} (C : jC l rmX10_digest D (tX cI cO cR) G cX10_digest 5 RX10) (hR : jR D (tX cI cO cR) G (0, 0) (some .long) (some (.long rr.1)) (wX cI cO cR q t0 rr.2 b))  : ∀ (n : Nat) (u : USt) (x1 : Int64) (x3 : Int32), mX10_digest_h217 N b n u x1 x3 = some rr → J l rmX10_digest D G (0, 0) (wX cI cO cR q t0 u b) [(0, .ref (q 0)), (1, .long x1), (3, .int x3)] [] 217 := by
  intro n
  induction n with
  | zero =>
    intro u x1 x3 hm
    have hm : (none : Option (Int64 × USt)) = some rr := hm
    cases hm
  | succ n ih =>
    intro u x1 x3 hm
    exact kX10_digest_217 C hR _ ih u x1 x3 hm
def mX10_digest_184 (N : Nat) (b : BSt) (k184 : USt → Int64 → Int32 → Option (Int64 × USt)) (u : USt) (x1 : Int64) (x3 : Int32) : Option (Int64 × USt) := (mX6_size N u).bind (fun r1 => if r1 ≤ x3 then (mX10_digest_h217 N b N u x1 0) else ((mX6_codeAt N u x3).bind (fun r2 => (mX10_with N x1 (Int32.toInt64 r2)).bind (fun r3 => k184 u r3 (x3 + 1)))))
set_option maxRecDepth 100000 in
set_option maxHeartbeats 4000000 in
theorem kX10_digest_184 {l : Launch} {D : va_G} {cI cO cR : ClassId} {q : Nat → Nat} {t0 : Nat} {b : BSt} {G : Gx} {N : Nat} {rr : (Int64 × USt)} (C : jC l rmX10_digest D (tX cI cO cR) G cX10_digest 5 RX10) (hR : jR D (tX cI cO cR) G (0, 0) (some .long) (some (.long rr.1)) (wX cI cO cR q t0 rr.2 b)) (k184 : USt → Int64 → Int32 → Option (Int64 × USt)) (K184 : ∀ (u : USt) (x1 : Int64) (x3 : Int32), k184 u x1 x3 = some rr → J l rmX10_digest D G (0, 0) (wX cI cO cR q t0 u b) [(0, .ref (q 0)), (1, .long x1), (3, .int x3)] [] 184) (u : USt) (x1 : Int64) (x3 : Int32) (hm : mX10_digest_184 N b k184 u x1 x3 = some rr) : J l rmX10_digest D G (0, 0) (wX cI cO cR q t0 u b) [(0, .ref (q 0)), (1, .long x1), (3, .int x3)] [] 184 := by
  unfold mX10_digest_184 at hm
  refine j_iload_n C dX10_digest_184 rfl 2 rfl ?_
  refine j_aload_n C dX10_digest_185 rfl 0 rfl ?_
  refine jX_g0_0_X10 C dX10_digest_186 ?_
  refine j_bind hm (fun r1 hr1 hm => ?_)
  refine j_callV (cs' := (0, 0)) (As := []) (rest := [.int x3]) C (qX6_size hr1) w2_15 w2_12 w2_13 w2_14 w1_2 wd_X6_size ⟨by decide, by decide⟩ 1 rfl rfl rfl (Nat.le_of_ble_eq_true rfl) dX10_digest_189 ⟨by decide, by decide⟩ rfl rfl ?_
  refine j_icmp_geq (tgt := 215) C dX10_digest_192 (by decide) hm (fun hm => ?_) (fun hm => ?_)
  · refine j_iconst (v := 0) C dX10_digest_215 (by decide) ?_
    refine j_istore_n C dX10_digest_216 rfl (by decide) rfl ?_
    exact J.sub [1, 2, 0] rfl (kX10_digest_h217 C hR N u x1 0 hm)
  · refine j_lload_n C dX10_digest_195 rfl 1 rfl ?_
    refine j_aload_n C dX10_digest_196 rfl 0 rfl ?_
    refine jX_g0_0_X10 C dX10_digest_197 ?_
    refine j_iload_n C dX10_digest_200 rfl 2 rfl ?_
    refine j_bind hm (fun r2 hr2 hm => ?_)
    refine j_callV (cs' := (0, 0)) (As := [.int x3]) (rest := [.long x1]) C (qX6_codeAt hr2) w4_189 w4_186 w4_187 w4_188 w1_2 wd_X6_codeAt ⟨by decide, by decide⟩ 1 rfl rfl rfl (Nat.le_of_ble_eq_true rfl) dX10_digest_201 ⟨by decide, by decide⟩ rfl rfl ?_
    refine j_i2l C dX10_digest_204 ?_
    refine j_bind hm (fun r3 hr3 hm => ?_)
    refine j_callS (cs' := (0, 0)) (As := [.long x1, .long (Int32.toInt64 r2)]) (rest := []) C (qX10_with hr3) w4_182 w4_180 w4_181 w1_1 wd_X10_with ⟨by decide, by decide⟩ rfl (Nat.le_of_ble_eq_true rfl) dX10_digest_205 ⟨by decide, by decide⟩ rfl rfl ?_
    refine j_lstore_n C dX10_digest_208 rfl (by decide) rfl ?_
    refine j_iinc (v := (x3 + 1)) C dX10_digest_209 2 rfl rfl (by decide) rfl ?_
    refine j_goto (tgt := 184) C dX10_digest_212 (by decide) ?_
    exact J.sub [2, 1, 0] rfl (K184 u r3 (x3 + 1) hm)
def mX10_digest_h184 (N : Nat) (b : BSt) : Nat → USt → Int64 → Int32 → Option (Int64 × USt)
  | 0, _, _, _ => none
  | n + 1, u, x1, x3 => mX10_digest_184 N b (mX10_digest_h184 N b n) u x1 x3
theorem kX10_digest_h184 {l : Launch} {D : va_G} {cI cO cR : ClassId} {q : Nat → Nat} {t0 : Nat} {b : BSt} {G : Gx} {N : Nat} {rr : (Int64 × USt)} (C : jC l rmX10_digest D (tX cI cO cR) G cX10_digest 5 RX10) (hR : jR D (tX cI cO cR) G (0, 0) (some .long) (some (.long rr.1)) (wX cI cO cR q t0 rr.2 b))  : ∀ (n : Nat) (u : USt) (x1 : Int64) (x3 : Int32), mX10_digest_h184 N b n u x1 x3 = some rr → J l rmX10_digest D G (0, 0) (wX cI cO cR q t0 u b) [(0, .ref (q 0)), (1, .long x1), (3, .int x3)] [] 184 := by
  intro n
  induction n with
  | zero =>
    intro u x1 x3 hm
    have hm : (none : Option (Int64 × USt)) = some rr := hm
    cases hm
  | succ n ih =>
    intro u x1 x3 hm
    exact kX10_digest_184 C hR _ ih u x1 x3 hm
def mX10_digest_134 (N : Nat) (b : BSt) (k134 : USt → Int64 → Int32 → Option (Int64 × USt)) (u : USt) (x1 : Int64) (x3 : Int32) : Option (Int64 × USt) := (mX5_size_6 N u).bind (fun r1 => if r1 ≤ x3 then (mX10_digest_h184 N b N u x1 0) else (mX10_digest_h148 N b k134 N u x1 x3 0))
set_option maxRecDepth 100000 in
set_option maxHeartbeats 4000000 in
theorem kX10_digest_134 {l : Launch} {D : va_G} {cI cO cR : ClassId} {q : Nat → Nat} {t0 : Nat} {b : BSt} {G : Gx} {N : Nat} {rr : (Int64 × USt)} (C : jC l rmX10_digest D (tX cI cO cR) G cX10_digest 5 RX10) (hR : jR D (tX cI cO cR) G (0, 0) (some .long) (some (.long rr.1)) (wX cI cO cR q t0 rr.2 b)) (k134 : USt → Int64 → Int32 → Option (Int64 × USt)) (K134 : ∀ (u : USt) (x1 : Int64) (x3 : Int32), k134 u x1 x3 = some rr → J l rmX10_digest D G (0, 0) (wX cI cO cR q t0 u b) [(0, .ref (q 0)), (1, .long x1), (3, .int x3)] [] 134) (u : USt) (x1 : Int64) (x3 : Int32) (hm : mX10_digest_134 N b k134 u x1 x3 = some rr) : J l rmX10_digest D G (0, 0) (wX cI cO cR q t0 u b) [(0, .ref (q 0)), (1, .long x1), (3, .int x3)] [] 134 := by
  unfold mX10_digest_134 at hm
  refine j_iload_n C dX10_digest_134 rfl 2 rfl ?_
  refine j_aload_n C dX10_digest_135 rfl 0 rfl ?_
  refine jX_g0_3_X10 C dX10_digest_136 ?_
  refine j_bind hm (fun r1 hr1 hm => ?_)
  refine j_callV (cs' := (0, 0)) (As := []) (rest := [.int x3]) C (qX5_size_6 hr1) w4_105 w4_102 w4_103 w4_104 w1_7 wd_X5_size ⟨by decide, by decide⟩ 6 rfl rfl rfl (Nat.le_of_ble_eq_true rfl) dX10_digest_139 ⟨by decide, by decide⟩ rfl rfl ?_
  refine j_icmp_geq (tgt := 182) C dX10_digest_142 (by decide) hm (fun hm => ?_) (fun hm => ?_)
  · refine j_iconst (v := 0) C dX10_digest_182 (by decide) ?_
    refine j_istore_n C dX10_digest_183 rfl (by decide) rfl ?_
    exact J.sub [1, 2, 0] rfl (kX10_digest_h184 C hR N u x1 0 hm)
  · refine j_iconst (v := 0) C dX10_digest_145 (by decide) ?_
    refine j_istore C dX10_digest_146 (by decide) rfl ?_
    exact J.sub [1, 2, 3, 0] rfl (kX10_digest_h148 C hR k134 K134 N u x1 x3 0 hm)
def mX10_digest_h134 (N : Nat) (b : BSt) : Nat → USt → Int64 → Int32 → Option (Int64 × USt)
  | 0, _, _, _ => none
  | n + 1, u, x1, x3 => mX10_digest_134 N b (mX10_digest_h134 N b n) u x1 x3
theorem kX10_digest_h134 {l : Launch} {D : va_G} {cI cO cR : ClassId} {q : Nat → Nat} {t0 : Nat} {b : BSt} {G : Gx} {N : Nat} {rr : (Int64 × USt)} (C : jC l rmX10_digest D (tX cI cO cR) G cX10_digest 5 RX10) (hR : jR D (tX cI cO cR) G (0, 0) (some .long) (some (.long rr.1)) (wX cI cO cR q t0 rr.2 b))  : ∀ (n : Nat) (u : USt) (x1 : Int64) (x3 : Int32), mX10_digest_h134 N b n u x1 x3 = some rr → J l rmX10_digest D G (0, 0) (wX cI cO cR q t0 u b) [(0, .ref (q 0)), (1, .long x1), (3, .int x3)] [] 134 := by
  intro n
  induction n with
  | zero =>
    intro u x1 x3 hm
    have hm : (none : Option (Int64 × USt)) = some rr := hm
    cases hm
  | succ n ih =>
    intro u x1 x3 hm
    exact kX10_digest_134 C hR _ ih u x1 x3 hm
def mX10_digest_77 (N : Nat) (b : BSt) (k77 : USt → Int64 → Int32 → Option (Int64 × USt)) (u : USt) (x1 : Int64) (x3 : Int32) : Option (Int64 × USt) := if 8 ≤ x3 then (mX10_digest_h134 N b N u x1 0) else (rdX u 24 x3 (fun ra1 => if ¬ ra1 = 2147483647 then (rdX u 24 x3 (fun ra2 => mX10_digest_108 N b k77 u x3 (Int32.toInt64 ra2) x1)) else (mX10_digest_108 N b k77 u x3 (-1) x1)))
set_option maxRecDepth 100000 in
set_option maxHeartbeats 4000000 in
theorem kX10_digest_77 {l : Launch} {D : va_G} {cI cO cR : ClassId} {q : Nat → Nat} {t0 : Nat} {b : BSt} {G : Gx} {N : Nat} {rr : (Int64 × USt)} (C : jC l rmX10_digest D (tX cI cO cR) G cX10_digest 5 RX10) (hR : jR D (tX cI cO cR) G (0, 0) (some .long) (some (.long rr.1)) (wX cI cO cR q t0 rr.2 b)) (k77 : USt → Int64 → Int32 → Option (Int64 × USt)) (K77 : ∀ (u : USt) (x1 : Int64) (x3 : Int32), k77 u x1 x3 = some rr → J l rmX10_digest D G (0, 0) (wX cI cO cR q t0 u b) [(0, .ref (q 0)), (1, .long x1), (3, .int x3)] [] 77) (u : USt) (x1 : Int64) (x3 : Int32) (hm : mX10_digest_77 N b k77 u x1 x3 = some rr) : J l rmX10_digest D G (0, 0) (wX cI cO cR q t0 u b) [(0, .ref (q 0)), (1, .long x1), (3, .int x3)] [] 77 := by
  unfold mX10_digest_77 at hm
  refine j_iload_n C dX10_digest_77 rfl 2 rfl ?_
  refine j_bipush (v := 8) C dX10_digest_78 (by decide) ?_
  refine j_icmp_geq (tgt := 132) C dX10_digest_80 (by decide) hm (fun hm => ?_) (fun hm => ?_)
  · refine j_iconst (v := 0) C dX10_digest_132 (by decide) ?_
    refine j_istore_n C dX10_digest_133 rfl (by decide) rfl ?_
    exact J.sub [1, 2, 0] rfl (kX10_digest_h134 C hR N u x1 0 hm)
  · refine j_lload_n C dX10_digest_83 rfl 1 rfl ?_
    refine j_aload_n C dX10_digest_84 rfl 0 rfl ?_
    refine jX_g0_7_X10 C dX10_digest_85 ?_
    refine j_iload_n C dX10_digest_88 rfl 2 rfl ?_
    refine jX_L C dX10_digest_89 hm (fun ra1 hm => ?_)
    refine j_ldc C dX10_digest_90 w3_192 ?_
    refine j_icmp_neq (tgt := 101) C dX10_digest_92 (by decide) hm (fun hm => ?_) (fun hm => ?_)
    · refine j_aload_n C dX10_digest_101 rfl 0 rfl ?_
      refine jX_g0_7_X10 C dX10_digest_102 ?_
      refine j_iload_n C dX10_digest_105 rfl 2 rfl ?_
      refine jX_L C dX10_digest_106 hm (fun ra2 hm => ?_)
      refine j_i2l C dX10_digest_107 ?_
      exact J.sub [0, 2] rfl (kX10_digest_108 C hR k77 K77 u x3 (Int32.toInt64 ra2) x1 hm)
    · refine j_ldc2 C dX10_digest_95 w4_185 ?_
      refine j_goto (tgt := 108) C dX10_digest_98 (by decide) ?_
      exact J.sub [0, 2] rfl (kX10_digest_108 C hR k77 K77 u x3 (-1) x1 hm)
def mX10_digest_h77 (N : Nat) (b : BSt) : Nat → USt → Int64 → Int32 → Option (Int64 × USt)
  | 0, _, _, _ => none
  | n + 1, u, x1, x3 => mX10_digest_77 N b (mX10_digest_h77 N b n) u x1 x3
theorem kX10_digest_h77 {l : Launch} {D : va_G} {cI cO cR : ClassId} {q : Nat → Nat} {t0 : Nat} {b : BSt} {G : Gx} {N : Nat} {rr : (Int64 × USt)} (C : jC l rmX10_digest D (tX cI cO cR) G cX10_digest 5 RX10) (hR : jR D (tX cI cO cR) G (0, 0) (some .long) (some (.long rr.1)) (wX cI cO cR q t0 rr.2 b))  : ∀ (n : Nat) (u : USt) (x1 : Int64) (x3 : Int32), mX10_digest_h77 N b n u x1 x3 = some rr → J l rmX10_digest D G (0, 0) (wX cI cO cR q t0 u b) [(0, .ref (q 0)), (1, .long x1), (3, .int x3)] [] 77 := by
  intro n
  induction n with
  | zero =>
    intro u x1 x3 hm
    have hm : (none : Option (Int64 × USt)) = some rr := hm
    cases hm
  | succ n ih =>
    intro u x1 x3 hm
    exact kX10_digest_77 C hR _ ih u x1 x3 hm
def mX10_digest_6 (N : Nat) (b : BSt) (k6 : USt → Int64 → Int32 → Option (Int64 × USt)) (u : USt) (x1 : Int64) (x3 : Int32) : Option (Int64 × USt) := (mJx4a65c_size_8abf5 N u).bind (fun r1 => if r1 ≤ x3 then ((mX10_again N u b).bind (fun r2 => (mX10_with N x1 r2).bind (fun r3 => (mX10_openTable N b u 0 400 1 1).bind (fun u5 => (mX9_reach N u5 0 0 255 24).bind (fun u7 => mX10_digest_h77 N b N u7 r3 0))))) else ((mJx4a65c_get_915e3 N u b x3).bind (fun r8 => bwt b r8 (fun _ => (mX10_withBridge N u b x1 r8).bind (fun r9 => k6 u r9 (x3 + 1))))))
set_option maxRecDepth 100000 in
set_option maxHeartbeats 4000000 in
theorem kX10_digest_6 {l : Launch} {D : va_G} {cI cO cR : ClassId} {q : Nat → Nat} {t0 : Nat} {b : BSt} {G : Gx} {N : Nat} {rr : (Int64 × USt)} (C : jC l rmX10_digest D (tX cI cO cR) G cX10_digest 5 RX10) (hR : jR D (tX cI cO cR) G (0, 0) (some .long) (some (.long rr.1)) (wX cI cO cR q t0 rr.2 b)) (k6 : USt → Int64 → Int32 → Option (Int64 × USt)) (K6 : ∀ (u : USt) (x1 : Int64) (x3 : Int32), k6 u x1 x3 = some rr → J l rmX10_digest D G (0, 0) (wX cI cO cR q t0 u b) [(0, .ref (q 0)), (1, .long x1), (3, .int x3)] [] 6) (u : USt) (x1 : Int64) (x3 : Int32) (hm : mX10_digest_6 N b k6 u x1 x3 = some rr) : J l rmX10_digest D G (0, 0) (wX cI cO cR q t0 u b) [(0, .ref (q 0)), (1, .long x1), (3, .int x3)] [] 6 := by
  unfold mX10_digest_6 at hm
  refine j_iload_n C dX10_digest_6 rfl 2 rfl ?_
  refine j_aload_n C dX10_digest_7 rfl 0 rfl ?_
  refine jX_g0_2_X10 C dX10_digest_8 ?_
  refine j_bind hm (fun r1 hr1 hm => ?_)
  refine j_callV (cs' := (0, 0)) (As := []) (rest := [.int x3]) C (qJx4a65c_size_8abf5 hr1) w2_74 w2_71 w2_72 w2_73 w1_6 wd_Jx4a65c_size_8abf5 ⟨by decide, by decide⟩ 5 rfl rfl rfl (Nat.le_of_ble_eq_true rfl) dX10_digest_11 ⟨by decide, by decide⟩ rfl rfl ?_
  refine j_icmp_geq (tgt := 40) C dX10_digest_14 (by decide) hm (fun hm => ?_) (fun hm => ?_)
  · refine j_lload_n C dX10_digest_40 rfl 1 rfl ?_
    refine j_aload_n C dX10_digest_41 rfl 0 rfl ?_
    refine j_bind hm (fun r2 hr2 hm => ?_)
    refine j_callV (cs' := (0, 0)) (As := []) (rest := [.long x1]) C (qX10_again hr2) w3_205 w4_184 w3_203 w3_204 w1_1 wd_X10_again ⟨by decide, by decide⟩ 0 rfl rfl rfl (Nat.le_of_ble_eq_true rfl) dX10_digest_42 ⟨by decide, by decide⟩ rfl rfl ?_
    refine j_bind hm (fun r3 hr3 hm => ?_)
    refine j_callS (cs' := (0, 0)) (As := [.long x1, .long r2]) (rest := []) C (qX10_with hr3) w4_182 w4_180 w4_181 w1_1 wd_X10_with ⟨by decide, by decide⟩ rfl (Nat.le_of_ble_eq_true rfl) dX10_digest_45 ⟨by decide, by decide⟩ rfl rfl ?_
    refine j_lstore_n C dX10_digest_48 rfl (by decide) rfl ?_
    refine j_aload_n C dX10_digest_49 rfl 1 rfl ?_
    refine j_iconst (v := 0) C dX10_digest_50 (by decide) ?_
    refine j_sipush (v := 400) C dX10_digest_51 (by decide) ?_
    refine j_iconst (v := 1) C dX10_digest_54 (by decide) ?_
    refine j_iconst (v := 1) C dX10_digest_55 (by decide) ?_
    refine j_bind hm (fun u5 hr4 hm => ?_)
    refine j_callV (cs' := (0, 0)) (As := [.int 0, .int 400, .int 1, .int 1]) (rest := []) C (qX10_openTable hr4) w3_154 w3_151 w3_153 w0_10 w1_1 wd_X10_openTable ⟨by decide, by decide⟩ 0 rfl rfl rfl (Nat.le_of_ble_eq_true rfl) dX10_digest_56 ⟨by decide, by decide⟩ rfl rfl ?_
    refine j_aload_n C dX10_digest_59 rfl 1 rfl ?_
    refine jX_g0_5_X10 C dX10_digest_60 ?_
    refine j_iconst (v := 0) C dX10_digest_63 (by decide) ?_
    refine j_iconst (v := 0) C dX10_digest_64 (by decide) ?_
    refine j_sipush (v := 255) C dX10_digest_65 (by decide) ?_
    refine j_aload_n C dX10_digest_68 rfl 1 rfl ?_
    refine jX_g0_7_X10 C dX10_digest_69 ?_
    refine j_bind hm (fun u7 hr6 hm => ?_)
    refine j_callV (cs' := (0, 0)) (As := [.int 0, .int 0, .int 255, .ref (q 24)]) (rest := []) C (qX9_reach hr6) w3_182 w3_179 w3_180 w3_181 w1_9 wd_X9_reach ⟨by decide, by decide⟩ 12 rfl rfl rfl (Nat.le_of_ble_eq_true rfl) dX10_digest_72 ⟨by decide, by decide⟩ rfl rfl ?_
    refine j_iconst (v := 0) C dX10_digest_75 (by decide) ?_
    refine j_istore_n C dX10_digest_76 rfl (by decide) rfl ?_
    exact J.sub [2, 1, 0] rfl (kX10_digest_h77 C hR N u7 r3 0 hm)
  · refine j_aload_n C dX10_digest_17 rfl 0 rfl ?_
    refine j_lload_n C dX10_digest_18 rfl 1 rfl ?_
    refine j_aload_n C dX10_digest_19 rfl 0 rfl ?_
    refine jX_g0_2_X10 C dX10_digest_20 ?_
    refine j_iload_n C dX10_digest_23 rfl 2 rfl ?_
    refine j_bind hm (fun r8 hr8 hm => ?_)
    refine j_callV (cs' := (0, 0)) (As := [.int x3]) (rest := [.long x1, .ref (q 0)]) C (qJx4a65c_get_915e3 hr8) w2_234 w2_231 w2_232 w2_233 w1_6 wd_Jx4a65c_get_915e3 ⟨by decide, by decide⟩ 5 rfl rfl rfl (Nat.le_of_ble_eq_true rfl) dX10_digest_24 ⟨by decide, by decide⟩ rfl rfl ?_
    refine jX_cast C w3_5 w6_67 w6_68 w6_69 dX10_digest_27 hm (fun hm => ?_)
    refine j_bind hm (fun r9 hr9 hm => ?_)
    refine j_callV (cs' := (0, 0)) (As := [.long x1, .ref (bA b r8)]) (rest := []) C (qX10_withBridge hr9) w4_179 w4_176 w4_178 w0_25 w1_1 wd_X10_withBridge ⟨by decide, by decide⟩ 0 rfl rfl rfl (Nat.le_of_ble_eq_true rfl) dX10_digest_30 ⟨by decide, by decide⟩ rfl rfl ?_
    refine j_lstore_n C dX10_digest_33 rfl (by decide) rfl ?_
    refine j_iinc (v := (x3 + 1)) C dX10_digest_34 2 rfl rfl (by decide) rfl ?_
    refine j_goto (tgt := 6) C dX10_digest_37 (by decide) ?_
    exact J.sub [2, 1, 0] rfl (K6 u r9 (x3 + 1) hm)
def mX10_digest_h6 (N : Nat) (b : BSt) : Nat → USt → Int64 → Int32 → Option (Int64 × USt)
  | 0, _, _, _ => none
  | n + 1, u, x1, x3 => mX10_digest_6 N b (mX10_digest_h6 N b n) u x1 x3
theorem kX10_digest_h6 {l : Launch} {D : va_G} {cI cO cR : ClassId} {q : Nat → Nat} {t0 : Nat} {b : BSt} {G : Gx} {N : Nat} {rr : (Int64 × USt)} (C : jC l rmX10_digest D (tX cI cO cR) G cX10_digest 5 RX10) (hR : jR D (tX cI cO cR) G (0, 0) (some .long) (some (.long rr.1)) (wX cI cO cR q t0 rr.2 b))  : ∀ (n : Nat) (u : USt) (x1 : Int64) (x3 : Int32), mX10_digest_h6 N b n u x1 x3 = some rr → J l rmX10_digest D G (0, 0) (wX cI cO cR q t0 u b) [(0, .ref (q 0)), (1, .long x1), (3, .int x3)] [] 6 := by
  intro n
  induction n with
  | zero =>
    intro u x1 x3 hm
    have hm : (none : Option (Int64 × USt)) = some rr := hm
    cases hm
  | succ n ih =>
    intro u x1 x3 hm
    exact kX10_digest_6 C hR _ ih u x1 x3 hm
def mX10_digest (N : Nat) (b : BSt) (u : USt) : Option (Int64 × USt) := mX10_digest_h6 N b N u 557 0
set_option maxRecDepth 100000 in
set_option maxHeartbeats 4000000 in
theorem qX10_digest {l : Launch} {D : va_G} {cI cO cR : ClassId} {q : Nat → Nat} {t0 : Nat} {u : USt} {b : BSt} {N : Nat}  {rr : (Int64 × USt)} (hm : mX10_digest N b u = some rr) : Con l D (tX cI cO cR) yX10_digest (wS yX10_digest cX10_digest 5 (some .long)) rmX10_digest [.ref (q 0)] (wX cI cO cR q t0 u b) (some (.long rr.1)) (wX cI cO cR q t0 rr.2 b) := by
  refine Con.of (by decide +kernel) (Nat.le_of_ble_eq_true rfl) (fun G C hR => ?_)
  unfold mX10_digest at hm
  show J l rmX10_digest D G (0, 0) (wX cI cO cR q t0 u b) [(0, .ref (q 0))] [] 0
  refine j_ldc2 C dX10_digest_0 w4_175 ?_
  refine j_lstore_n C dX10_digest_3 rfl (by decide) rfl ?_
  refine j_iconst (v := 0) C dX10_digest_4 (by decide) ?_
  refine j_istore_n C dX10_digest_5 rfl (by decide) rfl ?_
  exact J.sub [2, 1, 0] rfl (kX10_digest_h6 C hR N u 557 0 hm)
