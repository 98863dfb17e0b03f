def rmX1_sendWhilePathsAreFound : Room := { frames := 4, cells := 0, slots := 0, locals := 103 }
theorem wd_X1_sendWhilePathsAreFound : yX1_sendWhilePathsAreFound.cls ≠ "java/lang/invoke/MethodHandle" ∧ yX1_sendWhilePathsAreFound.cls ≠ "java/lang/invoke/VarHandle" ∧ (parseMethodDescriptor yX1_sendWhilePathsAreFound.desc).map (fun d => d.parameters.length) = some 3 := by decide +kernel
def mX1_sendWhilePathsAreFound_82 (N : Nat) (u : USt) (x4 : Int32) : Option (Int32 × USt) := some (x4, u)
set_option maxRecDepth 100000 in
set_option maxHeartbeats 4000000 in
theorem kX1_sendWhilePathsAreFound_82 {l : Launch} {D : va_G} {cI cO cR : ClassId} {q : Nat → Nat} {t0 : Nat} {b : BSt} {G : Gx} {N : Nat} {rr : (Int32 × USt)} (C : jC l rmX1_sendWhilePathsAreFound D (tX cI cO cR) G cX1_sendWhilePathsAreFound 8 RX1) (hR : jR D (tX cI cO cR) G (0, 0) (some .int) (some (.int rr.1)) (wX cI cO cR q t0 rr.2 b))  (u : USt) (x4 : Int32) (hm : mX1_sendWhilePathsAreFound_82 N u x4 = some rr) : J l rmX1_sendWhilePathsAreFound D G (0, 0) (wX cI cO cR q t0 u b) [(4, .int x4)] [] 82 := by
  unfold mX1_sendWhilePathsAreFound_82 at hm
  refine j_iload C dX1_sendWhilePathsAreFound_82 0 rfl ?_
  cases hm
  exact j_iret C hR dX1_sendWhilePathsAreFound_84
def mX1_sendWhilePathsAreFound_34 (N : Nat) (k6 : USt → Int32 → Int32 → Int32 → Int32 → Option (Int32 × USt)) (k34 : USt → Int32 → Int32 → Int32 → Int32 → Int32 → Int32 → Option (Int32 × USt)) (u : USt) (x2 : Int32) (x3 : Int32) (x4 : Int32) (x5 : Int32) (x6 : Int32) (x7 : Int32) : Option (Int32 × USt) := if x6 ≤ (x7 + 1) then (k6 u x2 x3 (x4 + 1) (x5 + 1)) else (rdX u 23 x7 (fun ra1 => rdX u 23 x7 (fun ra2 => rdX u 21 ra2 (fun ra3 => (mX1_send N u ra1 ra3).bind (fun u5 => k34 u5 x2 x3 x4 x5 x6 (x7 + 1))))))
set_option maxRecDepth 100000 in
set_option maxHeartbeats 4000000 in
theorem kX1_sendWhilePathsAreFound_34 {l : Launch} {D : va_G} {cI cO cR : ClassId} {q : Nat → Nat} {t0 : Nat} {b : BSt} {G : Gx} {N : Nat} {rr : (Int32 × USt)} (C : jC l rmX1_sendWhilePathsAreFound D (tX cI cO cR) G cX1_sendWhilePathsAreFound 8 RX1) (hR : jR D (tX cI cO cR) G (0, 0) (some .int) (some (.int rr.1)) (wX cI cO cR q t0 rr.2 b)) (k6 : USt → Int32 → Int32 → Int32 → Int32 → Option (Int32 × USt)) (K6 : ∀ (u : USt) (x2 : Int32) (x3 : Int32) (x4 : Int32) (x5 : Int32), k6 u x2 x3 x4 x5 = some rr → J l rmX1_sendWhilePathsAreFound D G (0, 0) (wX cI cO cR q t0 u b) [(0, .ref (q 18)), (1, .ref (q 12)), (2, .int x2), (3, .int x3), (4, .int x4), (5, .int x5)] [] 6) (k34 : USt → Int32 → Int32 → Int32 → Int32 → Int32 → Int32 → Option (Int32 × USt)) (K34 : ∀ (u : USt) (x2 : Int32) (x3 : Int32) (x4 : Int32) (x5 : Int32) (x6 : Int32) (x7 : Int32), k34 u x2 x3 x4 x5 x6 x7 = some rr → J l rmX1_sendWhilePathsAreFound D G (0, 0) (wX cI cO cR q t0 u b) [(0, .ref (q 18)), (1, .ref (q 12)), (2, .int x2), (3, .int x3), (4, .int x4), (5, .int x5), (6, .int x6), (7, .int x7)] [] 34) (u : USt) (x2 : Int32) (x3 : Int32) (x4 : Int32) (x5 : Int32) (x6 : Int32) (x7 : Int32) (hm : mX1_sendWhilePathsAreFound_34 N k6 k34 u x2 x3 x4 x5 x6 x7 = some rr) : J l rmX1_sendWhilePathsAreFound D G (0, 0) (wX cI cO cR q t0 u b) [(0, .ref (q 18)), (1, .ref (q 12)), (2, .int x2), (3, .int x3), (4, .int x4), (5, .int x5), (6, .int x6), (7, .int x7)] [] 34 := by
  unfold mX1_sendWhilePathsAreFound_34 at hm
  refine j_iload C dX1_sendWhilePathsAreFound_34 7 rfl ?_
  refine j_iconst (v := 1) C dX1_sendWhilePathsAreFound_36 (by decide) ?_
  refine j_iadd C dX1_sendWhilePathsAreFound_37 ?_
  refine j_iload C dX1_sendWhilePathsAreFound_38 6 rfl ?_
  refine j_icmp_geq (tgt := 73) C dX1_sendWhilePathsAreFound_40 (by decide) hm (fun hm => ?_) (fun hm => ?_)
  · refine j_iinc (v := (x4 + 1)) C dX1_sendWhilePathsAreFound_73 4 rfl rfl (by decide) rfl ?_
    refine j_iinc (v := (x5 + 1)) C dX1_sendWhilePathsAreFound_76 5 rfl rfl (by decide) rfl ?_
    refine j_goto (tgt := 6) C dX1_sendWhilePathsAreFound_79 (by decide) ?_
    exact J.sub [2, 3, 4, 5, 1, 0] rfl (K6 u x2 x3 (x4 + 1) (x5 + 1) hm)
  · refine j_aload_n C dX1_sendWhilePathsAreFound_43 rfl 0 rfl ?_
    refine j_aload_n C dX1_sendWhilePathsAreFound_44 rfl 1 rfl ?_
    refine j_aload_n C dX1_sendWhilePathsAreFound_45 rfl 0 rfl ?_
    refine jX_g18_4_X1 C dX1_sendWhilePathsAreFound_46 ?_
    refine j_iload C dX1_sendWhilePathsAreFound_49 7 rfl ?_
    refine jX_L C dX1_sendWhilePathsAreFound_51 hm (fun ra1 hm => ?_)
    refine j_aload_n C dX1_sendWhilePathsAreFound_52 rfl 0 rfl ?_
    refine jX_g18_2_X1 C dX1_sendWhilePathsAreFound_53 ?_
    refine j_aload_n C dX1_sendWhilePathsAreFound_56 rfl 0 rfl ?_
    refine jX_g18_4_X1 C dX1_sendWhilePathsAreFound_57 ?_
    refine j_iload C dX1_sendWhilePathsAreFound_60 7 rfl ?_
    refine jX_L C dX1_sendWhilePathsAreFound_62 hm (fun ra2 hm => ?_)
    refine jX_L C dX1_sendWhilePathsAreFound_63 hm (fun ra3 hm => ?_)
    refine j_bind hm (fun u5 hr4 hm => ?_)
    refine j_callV (cs' := (0, 0)) (As := [.ref (q 12), .int ra1, .int ra3]) (rest := []) C (qX1_send hr4) w4_62 w4_59 w4_61 w0_20 w1_10 wd_X1_send ⟨by decide, by decide⟩ 18 rfl rfl rfl (Nat.le_of_ble_eq_true rfl) dX1_sendWhilePathsAreFound_64 ⟨by decide, by decide⟩ rfl rfl ?_
    refine j_iinc (v := (x7 + 1)) C dX1_sendWhilePathsAreFound_67 7 rfl rfl (by decide) rfl ?_
    refine j_goto (tgt := 34) C dX1_sendWhilePathsAreFound_70 (by decide) ?_
    exact J.sub [1, 2, 3, 4, 5, 6, 7, 0] rfl (K34 u5 x2 x3 x4 x5 x6 (x7 + 1) hm)
def mX1_sendWhilePathsAreFound_h34 (N : Nat) (k6 : USt → Int32 → Int32 → Int32 → Int32 → Option (Int32 × USt)) : Nat → USt → Int32 → Int32 → Int32 → Int32 → Int32 → Int32 → Option (Int32 × USt)
  | 0, _, _, _, _, _, _, _ => none
  | n + 1, u, x2, x3, x4, x5, x6, x7 => mX1_sendWhilePathsAreFound_34 N k6 (mX1_sendWhilePathsAreFound_h34 N k6 n) u x2 x3 x4 x5 x6 x7
theorem kX1_sendWhilePathsAreFound_h34 {l : Launch} {D : va_G} {cI cO cR : ClassId} {q : Nat → Nat} {t0 : Nat} {b : BSt} {G : Gx} {N : Nat} {rr : (Int32 × USt)} (C : jC l rmX1_sendWhilePathsAreFound D (tX cI cO cR) G cX1_sendWhilePathsAreFound 8 RX1) (hR : jR D (tX cI cO cR) G (0, 0) (some .int) (some (.int rr.1)) (wX cI cO cR q t0 rr.2 b)) (k6 : USt → Int32 → Int32 → Int32 → Int32 → Option (Int32 × USt)) (K6 : ∀ (u : USt) (x2 : Int32) (x3 : Int32) (x4 : Int32) (x5 : Int32), k6 u x2 x3 x4 x5 = some rr → J l rmX1_sendWhilePathsAreFound D G (0, 0) (wX cI cO cR q t0 u b) [(0, .ref (q 18)), (1, .ref (q 12)), (2, .int x2), (3, .int x3), (4, .int x4), (5, .int x5)] [] 6) : ∀ (n : Nat) (u : USt) (x2 : Int32) (x3 : Int32) (x4 : Int32) (x5 : Int32) (x6 : Int32) (x7 : Int32), mX1_sendWhilePathsAreFound_h34 N k6 n u x2 x3 x4 x5 x6 x7 = some rr → J l rmX1_sendWhilePathsAreFound D G (0, 0) (wX cI cO cR q t0 u b) [(0, .ref (q 18)), (1, .ref (q 12)), (2, .int x2), (3, .int x3), (4, .int x4), (5, .int x5), (6, .int x6), (7, .int x7)] [] 34 := by
  intro n
  induction n with
  | zero =>
    intro u x2 x3 x4 x5 x6 x7 hm
    have hm : (none : Option (Int32 × USt)) = some rr := hm
    cases hm
  | succ n ih =>
    intro u x2 x3 x4 x5 x6 x7 hm
    exact kX1_sendWhilePathsAreFound_34 C hR k6 K6 _ ih u x2 x3 x4 x5 x6 x7 hm
def mX1_sendWhilePathsAreFound_6 (N : Nat) (k6 : USt → Int32 → Int32 → Int32 → Int32 → Option (Int32 × USt)) (u : USt) (x2 : Int32) (x3 : Int32) (x4 : Int32) (x5 : Int32) : Option (Int32 × USt) := if 610 < x5 then (mX1_sendWhilePathsAreFound_82 N u x4) else (bp (mX1_findPath N u x2 x3) (fun r1 u2 => if ¬ r1 = 0 then (mX1_sendWhilePathsAreFound_h34 N k6 N u2 x2 x3 x4 x5 r1 0) else (mX1_sendWhilePathsAreFound_82 N u2 x4)))
set_option maxRecDepth 100000 in
set_option maxHeartbeats 4000000 in
theorem kX1_sendWhilePathsAreFound_6 {l : Launch} {D : va_G} {cI cO cR : ClassId} {q : Nat → Nat} {t0 : Nat} {b : BSt} {G : Gx} {N : Nat} {rr : (Int32 × USt)} (C : jC l rmX1_sendWhilePathsAreFound D (tX cI cO cR) G cX1_sendWhilePathsAreFound 8 RX1) (hR : jR D (tX cI cO cR) G (0, 0) (some .int) (some (.int rr.1)) (wX cI cO cR q t0 rr.2 b)) (k6 : USt → Int32 → Int32 → Int32 → Int32 → Option (Int32 × USt)) (K6 : ∀ (u : USt) (x2 : Int32) (x3 : Int32) (x4 : Int32) (x5 : Int32), k6 u x2 x3 x4 x5 = some rr → J l rmX1_sendWhilePathsAreFound D G (0, 0) (wX cI cO cR q t0 u b) [(0, .ref (q 18)), (1, .ref (q 12)), (2, .int x2), (3, .int x3), (4, .int x4), (5, .int x5)] [] 6) (u : USt) (x2 : Int32) (x3 : Int32) (x4 : Int32) (x5 : Int32) (hm : mX1_sendWhilePathsAreFound_6 N k6 u x2 x3 x4 x5 = some rr) : J l rmX1_sendWhilePathsAreFound D G (0, 0) (wX cI cO cR q t0 u b) [(0, .ref (q 18)), (1, .ref (q 12)), (2, .int x2), (3, .int x3), (4, .int x4), (5, .int x5)] [] 6 := by
  unfold mX1_sendWhilePathsAreFound_6 at hm
  refine j_iload C dX1_sendWhilePathsAreFound_6 5 rfl ?_
  refine j_sipush (v := 610) C dX1_sendWhilePathsAreFound_8 (by decide) ?_
  refine j_icmp_gtq (tgt := 82) C dX1_sendWhilePathsAreFound_11 (by decide) hm (fun hm => ?_) (fun hm => ?_)
  · exact J.sub [4] rfl (kX1_sendWhilePathsAreFound_82 C hR u x4 hm)
  · refine j_aload_n C dX1_sendWhilePathsAreFound_14 rfl 0 rfl ?_
    refine j_aload_n C dX1_sendWhilePathsAreFound_15 rfl 1 rfl ?_
    refine j_iload_n C dX1_sendWhilePathsAreFound_16 rfl 2 rfl ?_
    refine j_iload_n C dX1_sendWhilePathsAreFound_17 rfl 3 rfl ?_
    refine j_bindp hm (fun r1 u2 hr1 hm => ?_)
    refine j_callV (cs' := (0, 0)) (As := [.ref (q 12), .int x2, .int x3]) (rest := []) C (qX1_findPath hr1) w4_33 w4_30 w4_32 w0_16 w1_10 wd_X1_findPath ⟨by decide, by decide⟩ 18 rfl rfl rfl (Nat.le_of_ble_eq_true rfl) dX1_sendWhilePathsAreFound_18 ⟨by decide, by decide⟩ rfl rfl ?_
    refine j_istore C dX1_sendWhilePathsAreFound_21 (by decide) rfl ?_
    refine j_iload C dX1_sendWhilePathsAreFound_23 0 rfl ?_
    refine j_if_neq (tgt := 31) C dX1_sendWhilePathsAreFound_25 (by decide) hm (fun hm => ?_) (fun hm => ?_)
    · refine j_iconst (v := 0) C dX1_sendWhilePathsAreFound_31 (by decide) ?_
      refine j_istore C dX1_sendWhilePathsAreFound_32 (by decide) rfl ?_
      exact J.sub [2, 3, 4, 5, 6, 7, 1, 0] rfl (kX1_sendWhilePathsAreFound_h34 C hR k6 K6 N u2 x2 x3 x4 x5 r1 0 hm)
    · refine j_goto (tgt := 82) C dX1_sendWhilePathsAreFound_28 (by decide) ?_
      exact J.sub [5] rfl (kX1_sendWhilePathsAreFound_82 C hR u2 x4 hm)
def mX1_sendWhilePathsAreFound_h6 (N : Nat) : Nat → USt → Int32 → Int32 → Int32 → Int32 → Option (Int32 × USt)
  | 0, _, _, _, _, _ => none
  | n + 1, u, x2, x3, x4, x5 => mX1_sendWhilePathsAreFound_6 N (mX1_sendWhilePathsAreFound_h6 N n) u x2 x3 x4 x5
theorem kX1_sendWhilePathsAreFound_h6 {l : Launch} {D : va_G} {cI cO cR : ClassId} {q : Nat → Nat} {t0 : Nat} {b : BSt} {G : Gx} {N : Nat} {rr : (Int32 × USt)} (C : jC l rmX1_sendWhilePathsAreFound D (tX cI cO cR) G cX1_sendWhilePathsAreFound 8 RX1) (hR : jR D (tX cI cO cR) G (0, 0) (some .int) (some (.int rr.1)) (wX cI cO cR q t0 rr.2 b))  : ∀ (n : Nat) (u : USt) (x2 : Int32) (x3 : Int32) (x4 : Int32) (x5 : Int32), mX1_sendWhilePathsAreFound_h6 N n u x2 x3 x4 x5 = some rr → J l rmX1_sendWhilePathsAreFound D G (0, 0) (wX cI cO cR q t0 u b) [(0, .ref (q 18)), (1, .ref (q 12)), (2, .int x2), (3, .int x3), (4, .int x4), (5, .int x5)] [] 6 := by
  intro n
  induction n with
  | zero =>
    intro u x2 x3 x4 x5 hm
    have hm : (none : Option (Int32 × USt)) = some rr := hm
    cases hm
  | succ n ih =>
    intro u x2 x3 x4 x5 hm
    exact kX1_sendWhilePathsAreFound_6 C hR _ ih u x2 x3 x4 x5 hm
def mX1_sendWhilePathsAreFound (N : Nat) (u : USt) (x2 : Int32) (x3 : Int32) : Option (Int32 × USt) := mX1_sendWhilePathsAreFound_h6 N N u x2 x3 0 0
set_option maxRecDepth 100000 in
set_option maxHeartbeats 4000000 in
theorem qX1_sendWhilePathsAreFound {l : Launch} {D : va_G} {cI cO cR : ClassId} {q : Nat → Nat} {t0 : Nat} {u : USt} {b : BSt} {N : Nat} {x2 : Int32} {x3 : Int32} {rr : (Int32 × USt)} (hm : mX1_sendWhilePathsAreFound N u x2 x3 = some rr) : Con l D (tX cI cO cR) yX1_sendWhilePathsAreFound (wS yX1_sendWhilePathsAreFound cX1_sendWhilePathsAreFound 8 (some .int)) rmX1_sendWhilePathsAreFound [.ref (q 18), .ref (q 12), .int x2, .int x3] (wX cI cO cR q t0 u b) (some (.int rr.1)) (wX cI cO cR q t0 rr.2 b) := by
  refine Con.of (by decide +kernel) (Nat.le_of_ble_eq_true rfl) (fun G C hR => ?_)
  unfold mX1_sendWhilePathsAreFound at hm
  show J l rmX1_sendWhilePathsAreFound D G (0, 0) (wX cI cO cR q t0 u b) [(0, .ref (q 18)), (1, .ref (q 12)), (2, .int x2), (3, .int x3)] [] 0
  refine j_iconst (v := 0) C dX1_sendWhilePathsAreFound_0 (by decide) ?_
  refine j_istore C dX1_sendWhilePathsAreFound_1 (by decide) rfl ?_
  refine j_iconst (v := 0) C dX1_sendWhilePathsAreFound_3 (by decide) ?_
  refine j_istore C dX1_sendWhilePathsAreFound_4 (by decide) rfl ?_
  exact J.sub [2, 3, 4, 5, 1, 0] rfl (kX1_sendWhilePathsAreFound_h6 C hR N u x2 x3 0 0 hm)
def rmX1_most : Room := { frames := 5, cells := 0, slots := 0, locals := 130 }
theorem wd_X1_most : yX1_most.cls ≠ "java/lang/invoke/MethodHandle" ∧ yX1_most.cls ≠ "java/lang/invoke/VarHandle" ∧ (parseMethodDescriptor yX1_most.desc).map (fun d => d.parameters.length) = some 3 := by decide +kernel
def mX1_most_28 (N : Nat) (u : USt) : Option (Int32 × USt) := some (0, u)
set_option maxRecDepth 100000 in
set_option maxHeartbeats 4000000 in
theorem kX1_most_28 {l : Launch} {D : va_G} {cI cO cR : ClassId} {q : Nat → Nat} {t0 : Nat} {b : BSt} {G : Gx} {N : Nat} {rr : (Int32 × USt)} (C : jC l rmX1_most D (tX cI cO cR) G cX1_most 8 RX1) (hR : jR D (tX cI cO cR) G (0, 0) (some .int) (some (.int rr.1)) (wX cI cO cR q t0 rr.2 b))  (u : USt) (hm : mX1_most_28 N u = some rr) : J l rmX1_most D G (0, 0) (wX cI cO cR q t0 u b) [] [] 28 := by
  unfold mX1_most_28 at hm
  refine j_iconst (v := 0) C dX1_most_28 (by decide) ?_
  cases hm
  exact j_iret C hR dX1_most_29
def mX1_most_102 (N : Nat) (k55 : USt → Int32 → Int32 → Int32 → Int32 → Int32 → Option (Int32 × USt)) (u : USt) (x2 : Int32) (x3 : Int32) (x4 : Int32) (x6 : Int32) (s0 : Int32) : Option (Int32 × USt) := k55 u x2 x3 x4 s0 (x6 + 1)
set_option maxRecDepth 100000 in
set_option maxHeartbeats 4000000 in
theorem kX1_most_102 {l : Launch} {D : va_G} {cI cO cR : ClassId} {q : Nat → Nat} {t0 : Nat} {b : BSt} {G : Gx} {N : Nat} {rr : (Int32 × USt)} (C : jC l rmX1_most D (tX cI cO cR) G cX1_most 8 RX1) (hR : jR D (tX cI cO cR) G (0, 0) (some .int) (some (.int rr.1)) (wX cI cO cR q t0 rr.2 b)) (k55 : USt → Int32 → Int32 → Int32 → Int32 → Int32 → Option (Int32 × USt)) (K55 : ∀ (u : USt) (x2 : Int32) (x3 : Int32) (x4 : Int32) (x5 : Int32) (x6 : Int32), k55 u x2 x3 x4 x5 x6 = some rr → J l rmX1_most D G (0, 0) (wX cI cO cR q t0 u b) [(0, .ref (q 18)), (1, .ref (q 12)), (2, .int x2), (3, .int x3), (4, .int x4), (5, .int x5), (6, .int x6)] [] 55) (u : USt) (x2 : Int32) (x3 : Int32) (x4 : Int32) (x6 : Int32) (s0 : Int32) (hm : mX1_most_102 N k55 u x2 x3 x4 x6 s0 = some rr) : J l rmX1_most D G (0, 0) (wX cI cO cR q t0 u b) [(0, .ref (q 18)), (1, .ref (q 12)), (2, .int x2), (3, .int x3), (4, .int x4), (6, .int x6)] [.int s0] 102 := by
  unfold mX1_most_102 at hm
  refine j_istore C dX1_most_102 (by decide) rfl ?_
  refine j_iinc (v := (x6 + 1)) C dX1_most_104 6 rfl rfl (by decide) rfl ?_
  refine j_goto (tgt := 55) C dX1_most_107 (by decide) ?_
  exact J.sub [2, 3, 4, 5, 6, 1, 0] rfl (K55 u x2 x3 x4 s0 (x6 + 1) hm)
def mX1_most_110 (N : Nat) (u : USt) (x4 : Int32) : Option (Int32 × USt) := some (x4, u)
set_option maxRecDepth 100000 in
set_option maxHeartbeats 4000000 in
theorem kX1_most_110 {l : Launch} {D : va_G} {cI cO cR : ClassId} {q : Nat → Nat} {t0 : Nat} {b : BSt} {G : Gx} {N : Nat} {rr : (Int32 × USt)} (C : jC l rmX1_most D (tX cI cO cR) G cX1_most 8 RX1) (hR : jR D (tX cI cO cR) G (0, 0) (some .int) (some (.int rr.1)) (wX cI cO cR q t0 rr.2 b))  (u : USt) (x4 : Int32) (hm : mX1_most_110 N u x4 = some rr) : J l rmX1_most D G (0, 0) (wX cI cO cR q t0 u b) [(4, .int x4)] [] 110 := by
  unfold mX1_most_110 at hm
  refine j_iload C dX1_most_110 0 rfl ?_
  cases hm
  exact j_iret C hR dX1_most_112
def mX1_most_55 (N : Nat) (k55 : USt → Int32 → Int32 → Int32 → Int32 → Int32 → Option (Int32 × USt)) (u : USt) (x2 : Int32) (x3 : Int32) (x4 : Int32) (x5 : Int32) (x6 : Int32) : Option (Int32 × USt) := if 610 < x6 then (mX1_most_110 N u x4) else (if x5 = 0 then (mX1_most_110 N u x4) else ((mJ7_fill_53178 N u 21 0).bind (fun u2 => bp (mX1_sendWhilePathsAreFound N u2 x2 x3) (fun r3 u4 => nm (x4 + r3) (fun v5 => if r3 ≤ 0 then (mX1_most_102 N k55 u4 x2 x3 v5 x6 0) else (mX1_most_102 N k55 u4 x2 x3 v5 x6 1))))))
set_option maxRecDepth 100000 in
set_option maxHeartbeats 4000000 in
theorem kX1_most_55 {l : Launch} {D : va_G} {cI cO cR : ClassId} {q : Nat → Nat} {t0 : Nat} {b : BSt} {G : Gx} {N : Nat} {rr : (Int32 × USt)} (C : jC l rmX1_most D (tX cI cO cR) G cX1_most 8 RX1) (hR : jR D (tX cI cO cR) G (0, 0) (some .int) (some (.int rr.1)) (wX cI cO cR q t0 rr.2 b)) (k55 : USt → Int32 → Int32 → Int32 → Int32 → Int32 → Option (Int32 × USt)) (K55 : ∀ (u : USt) (x2 : Int32) (x3 : Int32) (x4 : Int32) (x5 : Int32) (x6 : Int32), k55 u x2 x3 x4 x5 x6 = some rr → J l rmX1_most D G (0, 0) (wX cI cO cR q t0 u b) [(0, .ref (q 18)), (1, .ref (q 12)), (2, .int x2), (3, .int x3), (4, .int x4), (5, .int x5), (6, .int x6)] [] 55) (u : USt) (x2 : Int32) (x3 : Int32) (x4 : Int32) (x5 : Int32) (x6 : Int32) (hm : mX1_most_55 N k55 u x2 x3 x4 x5 x6 = some rr) : J l rmX1_most D G (0, 0) (wX cI cO cR q t0 u b) [(0, .ref (q 18)), (1, .ref (q 12)), (2, .int x2), (3, .int x3), (4, .int x4), (5, .int x5), (6, .int x6)] [] 55 := by
  unfold mX1_most_55 at hm
  refine j_iload C dX1_most_55 6 rfl ?_
  refine j_sipush (v := 610) C dX1_most_57 (by decide) ?_
  refine j_icmp_gtq (tgt := 110) C dX1_most_60 (by decide) hm (fun hm => ?_) (fun hm => ?_)
  · exact J.sub [4] rfl (kX1_most_110 C hR u x4 hm)
  · refine j_iload C dX1_most_63 5 rfl ?_
    refine j_if_eqq (tgt := 110) C dX1_most_65 (by decide) hm (fun hm => ?_) (fun hm => ?_)
    · exact J.sub [4] rfl (kX1_most_110 C hR u x4 hm)
    · refine j_aload_n C dX1_most_68 rfl 0 rfl ?_
      refine jX_g18_2_X1 C dX1_most_69 ?_
      refine j_iconst (v := 0) C dX1_most_72 (by decide) ?_
      refine j_bind hm (fun u2 hr1 hm => ?_)
      refine j_callSW (cs' := (0, 0)) (As := [.ref (q 21), .int 0]) (rest := []) C (qJ7_fill_53178 hr1) w3_178 w4_25 w3_177 w1_15 wd_J7_fill_53178 ⟨by decide, by decide⟩ rfl (Nat.le_of_ble_eq_true rfl) dX1_most_73 ⟨by decide, by decide⟩ rfl rfl ?_
      refine j_aload_n C dX1_most_76 rfl 0 rfl ?_
      refine j_aload_n C dX1_most_77 rfl 1 rfl ?_
      refine j_iload_n C dX1_most_78 rfl 2 rfl ?_
      refine j_iload_n C dX1_most_79 rfl 3 rfl ?_
      refine j_bindp hm (fun r3 u4 hr3 hm => ?_)
      refine j_callV (cs' := (0, 0)) (As := [.ref (q 12), .int x2, .int x3]) (rest := []) C (qX1_sendWhilePathsAreFound hr3) w4_29 w4_26 w4_28 w0_15 w1_10 wd_X1_sendWhilePathsAreFound ⟨by decide, by decide⟩ 18 rfl rfl rfl (Nat.le_of_ble_eq_true rfl) dX1_most_80 ⟨by decide, by decide⟩ rfl rfl ?_
      refine j_istore C dX1_most_83 (by decide) rfl ?_
      refine j_iload C dX1_most_85 5 rfl ?_
      refine j_iload C dX1_most_87 0 rfl ?_
      refine j_iadd C dX1_most_89 ?_
      refine j_nmi hm (fun v5 hm => ?_)
      refine j_istore C dX1_most_90 (by decide) rfl ?_
      refine j_iload C dX1_most_92 1 rfl ?_
      refine j_if_leq (tgt := 101) C dX1_most_94 (by decide) hm (fun hm => ?_) (fun hm => ?_)
      · refine j_iconst (v := 0) C dX1_most_101 (by decide) ?_
        exact J.sub [2, 3, 4, 5, 0, 7] rfl (kX1_most_102 C hR k55 K55 u4 x2 x3 v5 x6 0 hm)
      · refine j_iconst (v := 1) C dX1_most_97 (by decide) ?_
        refine j_goto (tgt := 102) C dX1_most_98 (by decide) ?_
        exact J.sub [2, 3, 4, 5, 0, 7] rfl (kX1_most_102 C hR k55 K55 u4 x2 x3 v5 x6 1 hm)
def mX1_most_h55 (N : Nat) : Nat → USt → Int32 → Int32 → Int32 → Int32 → Int32 → Option (Int32 × USt)
  | 0, _, _, _, _, _, _ => none
  | n + 1, u, x2, x3, x4, x5, x6 => mX1_most_55 N (mX1_most_h55 N n) u x2 x3 x4 x5 x6
theorem kX1_most_h55 {l : Launch} {D : va_G} {cI cO cR : ClassId} {q : Nat → Nat} {t0 : Nat} {b : BSt} {G : Gx} {N : Nat} {rr : (Int32 × USt)} (C : jC l rmX1_most D (tX cI cO cR) G cX1_most 8 RX1) (hR : jR D (tX cI cO cR) G (0, 0) (some .int) (some (.int rr.1)) (wX cI cO cR q t0 rr.2 b))  : ∀ (n : Nat) (u : USt) (x2 : Int32) (x3 : Int32) (x4 : Int32) (x5 : Int32) (x6 : Int32), mX1_most_h55 N n u x2 x3 x4 x5 x6 = some rr → J l rmX1_most D G (0, 0) (wX cI cO cR q t0 u b) [(0, .ref (q 18)), (1, .ref (q 12)), (2, .int x2), (3, .int x3), (4, .int x4), (5, .int x5), (6, .int x6)] [] 55 := by
  intro n
  induction n with
  | zero =>
    intro u x2 x3 x4 x5 x6 hm
    have hm : (none : Option (Int32 × USt)) = some rr := hm
    cases hm
  | succ n ih =>
    intro u x2 x3 x4 x5 x6 hm
    exact kX1_most_55 C hR _ ih u x2 x3 x4 x5 x6 hm
def mX1_most (N : Nat) (u : USt) (x2 : Int32) (x3 : Int32) : Option (Int32 × USt) := (mX10_isIslet N x2).bind (fun r1 => if r1 = 0 then (mX1_most_28 N u) else ((mX10_isIslet N x3).bind (fun r2 => if r2 = 0 then (mX1_most_28 N u) else (if x2 = x3 then (mX1_most_28 N u) else ((mX9_span N u).bind (fun r3 => if r3 < 61 then ((mJ7_fill_53178 N u 19 0).bind (fun u5 => (mJ7_fill_53178 N u5 20 0).bind (fun u7 => mX1_most_h55 N N u7 x2 x3 0 1 0))) else (mX1_most_28 N u)))))))
set_option maxRecDepth 100000 in
set_option maxHeartbeats 4000000 in
theorem qX1_most {l : Launch} {D : va_G} {cI cO cR : ClassId} {q : Nat → Nat} {t0 : Nat} {u : USt} {b : BSt} {N : Nat} {x2 : Int32} {x3 : Int32} {rr : (Int32 × USt)} (hm : mX1_most N u x2 x3 = some rr) : Con l D (tX cI cO cR) yX1_most (wS yX1_most cX1_most 8 (some .int)) rmX1_most [.ref (q 18), .ref (q 12), .int x2, .int x3] (wX cI cO cR q t0 u b) (some (.int rr.1)) (wX cI cO cR q t0 rr.2 b) := by
  refine Con.of (by decide +kernel) (Nat.le_of_ble_eq_true rfl) (fun G C hR => ?_)
  unfold mX1_most at hm
  show J l rmX1_most D G (0, 0) (wX cI cO cR q t0 u b) [(0, .ref (q 18)), (1, .ref (q 12)), (2, .int x2), (3, .int x3)] [] 0
  refine j_iload_n C dX1_most_0 rfl 2 rfl ?_
  refine j_bind hm (fun r1 hr1 hm => ?_)
  refine j_callSN (cs' := (0, 0)) (As := [.int x2]) (rest := []) C (qX10_isIslet hr1) w2_50 w4_20 w2_49 w1_1 wd_X10_isIslet ⟨by decide, by decide⟩ rfl (Nat.le_of_ble_eq_true rfl) dX1_most_1 ⟨by decide, by decide⟩ rfl rfl ?_
  refine j_if_eqq (tgt := 28) C dX1_most_4 (by decide) hm (fun hm => ?_) (fun hm => ?_)
  · exact J.sub [] rfl (kX1_most_28 C hR u hm)
  · refine j_iload_n C dX1_most_7 rfl 3 rfl ?_
    refine j_bind hm (fun r2 hr2 hm => ?_)
    refine j_callSN (cs' := (0, 0)) (As := [.int x3]) (rest := []) C (qX10_isIslet hr2) w2_50 w4_20 w2_49 w1_1 wd_X10_isIslet ⟨by decide, by decide⟩ rfl (Nat.le_of_ble_eq_true rfl) dX1_most_8 ⟨by decide, by decide⟩ rfl rfl ?_
    refine j_if_eqq (tgt := 28) C dX1_most_11 (by decide) hm (fun hm => ?_) (fun hm => ?_)
    · exact J.sub [] rfl (kX1_most_28 C hR u hm)
    · refine j_iload_n C dX1_most_14 rfl 2 rfl ?_
      refine j_iload_n C dX1_most_15 rfl 3 rfl ?_
      refine j_icmp_eqq (tgt := 28) C dX1_most_16 (by decide) hm (fun hm => ?_) (fun hm => ?_)
      · exact J.sub [] rfl (kX1_most_28 C hR u hm)
      · refine j_aload_n C dX1_most_19 rfl 1 rfl ?_
        refine j_bind hm (fun r3 hr3 hm => ?_)
        refine j_callV (cs' := (0, 0)) (As := []) (rest := []) C (qX9_span hr3) w4_24 w4_21 w4_22 w4_23 w1_9 wd_X9_span ⟨by decide, by decide⟩ 12 rfl rfl rfl (Nat.le_of_ble_eq_true rfl) dX1_most_20 ⟨by decide, by decide⟩ rfl rfl ?_
        refine j_bipush (v := 61) C dX1_most_23 (by decide) ?_
        refine j_icmp_ltq (tgt := 30) C dX1_most_25 (by decide) hm (fun hm => ?_) (fun hm => ?_)
        · refine j_aload_n C dX1_most_30 rfl 0 rfl ?_
          refine jX_g18_0_X1 C dX1_most_31 ?_
          refine j_iconst (v := 0) C dX1_most_34 (by decide) ?_
          refine j_bind hm (fun u5 hr4 hm => ?_)
          refine j_callSW (cs' := (0, 0)) (As := [.ref (q 19), .int 0]) (rest := []) C (qJ7_fill_53178 hr4) w3_178 w4_25 w3_177 w1_15 wd_J7_fill_53178 ⟨by decide, by decide⟩ rfl (Nat.le_of_ble_eq_true rfl) dX1_most_35 ⟨by decide, by decide⟩ rfl rfl ?_
          refine j_aload_n C dX1_most_38 rfl 0 rfl ?_
          refine jX_g18_1_X1 C dX1_most_39 ?_
          refine j_iconst (v := 0) C dX1_most_42 (by decide) ?_
          refine j_bind hm (fun u7 hr6 hm => ?_)
          refine j_callSW (cs' := (0, 0)) (As := [.ref (q 20), .int 0]) (rest := []) C (qJ7_fill_53178 hr6) w3_178 w4_25 w3_177 w1_15 wd_J7_fill_53178 ⟨by decide, by decide⟩ rfl (Nat.le_of_ble_eq_true rfl) dX1_most_43 ⟨by decide, by decide⟩ rfl rfl ?_
          refine j_iconst (v := 0) C dX1_most_46 (by decide) ?_
          refine j_istore C dX1_most_47 (by decide) rfl ?_
          refine j_iconst (v := 1) C dX1_most_49 (by decide) ?_
          refine j_istore C dX1_most_50 (by decide) rfl ?_
          refine j_iconst (v := 0) C dX1_most_52 (by decide) ?_
          refine j_istore C dX1_most_53 (by decide) rfl ?_
          exact J.sub [3, 4, 5, 6, 2, 1, 0] rfl (kX1_most_h55 C hR N u7 x2 x3 0 1 0 hm)
        · exact J.sub [] rfl (kX1_most_28 C hR u hm)
def rmX2_kind : Room := { frames := 0, cells := 0, slots := 0, locals := 0 }
theorem wd_X2_kind : yX2_kind.cls ≠ "java/lang/invoke/MethodHandle" ∧ yX2_kind.cls ≠ "java/lang/invoke/VarHandle" ∧ (parseMethodDescriptor yX2_kind.desc).map (fun d => d.parameters.length) = some 0 := by decide +kernel
def mX2_kind (N : Nat) (b : BSt) (a0 : Nat) : Option Int32 := some 3
set_option maxRecDepth 100000 in
set_option maxHeartbeats 4000000 in
theorem qX2_kind {l : Launch} {D : va_G} {cI cO cR : ClassId} {q : Nat → Nat} {t0 : Nat} {u : USt} {b : BSt} {N : Nat} {a0 : Nat} {rr : Int32} (hm : mX2_kind N b a0 = some rr) : Con l D (tX cI cO cR) yX2_kind (wS yX2_kind cX2_kind 1 (some .int)) rmX2_kind [.ref (bA b a0)] (wX cI cO cR q t0 u b) (some (.int rr)) (wX cI cO cR q t0 u b) := by
  refine Con.of (by decide +kernel) (Nat.le_of_ble_eq_true rfl) (fun G C hR => ?_)
  unfold mX2_kind at hm
  show J l rmX2_kind D G (0, 0) (wX cI cO cR q t0 u b) [(0, .ref (bA b a0))] [] 0
  refine j_iconst (v := 3) C dX2_kind_0 (by decide) ?_
  cases hm
  exact j_iret C hR dX2_kind_1
def vX2_end (N : Nat) (b : BSt) (k : Nat) (z0 : Int32) : Option Int32 := bwt b k (fun v => if v.2.2.1 = 3 then mX0_end N b k z0 else (none))
theorem jX_v_X2_9 {l : Launch} {R : Room} {D : va_G} {cI cO cR : ClassId} {q : Nat → Nat} {t0 : Nat} {u : USt} {b : BSt} {G : Gx} {cc : ByteArray} {nL : Nat} {lv : List (Nat × Value)} {pc : Nat} {N k : Nat} {z0 r : Int32} {rest : List Value} (C : jC l R D (tX cI cO cR) G cc nL RX2) (hv : vX2_end N b k z0 = some r) (hR : 0 + 1 ≤ R.frames ∧ 8 + (2 + 11) + 0 ≤ R.locals) (hrest : (rest.map fun v => v.category).sum ≤ 8) (d : decode cc pc = .ok (.invokevirtual 9, 3)) (hz : R.cells = 0 ∧ R.slots = 0) (kk : J l R D G (0, 0) (wX cI cO cR q t0 u b) lv (.int r :: rest) (pc + 3)) : J l R D G (0, 0) (wX cI cO cR q t0 u b) lv (.int z0 :: .ref (bA b k) :: rest) pc := by
  unfold vX2_end at hv
  obtain ⟨x, rfl, hk, hc, hv⟩ := bwt_some hv
  have he := (wX_b (cI := cI) (cO := cO) (cR := cR) (q := q) (t0 := t0) (u := u) hk).1
  rcases okc_or hc with e | e | e | e
  · cases (im (by rw [e]; decide) hv)
  · refine j_callU (cs' := (0, 0)) (As := [.int z0]) (rest := rest) C (qX0_end (ip e hv)) w3_83 w3_83 w3_103 w3_104 w3_77 w3_106 w3_77 w1_12 wd_X0_end ⟨Nat.le_trans (by decide) hR.1, Nat.le_trans (by decide) hR.2⟩ (45 + 2 * k) (bCell_at he e) rfl rfl hrest d ⟨by rw [hz.1]; decide, by rw [hz.2]; decide⟩ rfl rfl kk
  · cases (im (by rw [e]; decide) hv)
  · cases (im (by rw [e]; decide) hv)
def rmX2_endAt : Room := { frames := 3, cells := 0, slots := 0, locals := 61 }
theorem wd_X2_endAt : yX2_endAt.cls ≠ "java/lang/invoke/MethodHandle" ∧ yX2_endAt.cls ≠ "java/lang/invoke/VarHandle" ∧ (parseMethodDescriptor yX2_endAt.desc).map (fun d => d.parameters.length) = some 2 := by decide +kernel
def mX2_endAt (N : Nat) (b : BSt) (a0 : Nat) (x1 : Int32) (x2 : Int32) : Option Int32 := (vX2_end N b a0 0).bind (fun r1 => some r1)
set_option maxRecDepth 100000 in
set_option maxHeartbeats 4000000 in
theorem qX2_endAt {l : Launch} {D : va_G} {cI cO cR : ClassId} {q : Nat → Nat} {t0 : Nat} {u : USt} {b : BSt} {N : Nat} {a0 : Nat} {x1 : Int32} {x2 : Int32} {rr : Int32} (hm : mX2_endAt N b a0 x1 x2 = some rr) : Con l D (tX cI cO cR) yX2_endAt (wS yX2_endAt cX2_endAt 3 (some .int)) rmX2_endAt [.ref (bA b a0), .int x1, .int x2] (wX cI cO cR q t0 u b) (some (.int rr)) (wX cI cO cR q t0 u b) := by
  refine Con.of (by decide +kernel) (Nat.le_of_ble_eq_true rfl) (fun G C hR => ?_)
  unfold mX2_endAt at hm
  show J l rmX2_endAt D G (0, 0) (wX cI cO cR q t0 u b) [(0, .ref (bA b a0)), (1, .int x1), (2, .int x2)] [] 0
  refine j_aload_n C dX2_endAt_0 rfl 0 rfl ?_
  refine j_iconst (v := 0) C dX2_endAt_1 (by decide) ?_
  refine j_bind hm (fun r1 hr1 hm => ?_)
  refine jX_v_X2_9 (rest := []) C hr1 ⟨by decide, by decide⟩ (Nat.le_of_ble_eq_true rfl) dX2_endAt_2 (by decide) ?_
  cases hm
  exact j_iret C hR dX2_endAt_5
def rmX2_standsStill : Room := { frames := 1, cells := 0, slots := 0, locals := 21 }
theorem wd_X2_standsStill : yX2_standsStill.cls ≠ "java/lang/invoke/MethodHandle" ∧ yX2_standsStill.cls ≠ "java/lang/invoke/VarHandle" ∧ (parseMethodDescriptor yX2_standsStill.desc).map (fun d => d.parameters.length) = some 2 := by decide +kernel
def mX2_standsStill (N : Nat) (b : BSt) (a0 : Nat) (x1 : Int32) (x2 : Int32) : Option Int32 := some 999
set_option maxRecDepth 100000 in
set_option maxHeartbeats 4000000 in
theorem qX2_standsStill {l : Launch} {D : va_G} {cI cO cR : ClassId} {q : Nat → Nat} {t0 : Nat} {u : USt} {b : BSt} {N : Nat} {a0 : Nat} {x1 : Int32} {x2 : Int32} {rr : Int32} (hm : mX2_standsStill N b a0 x1 x2 = some rr) : Con l D (tX cI cO cR) yX2_standsStill (wS yX2_standsStill cX2_standsStill 3 (some .int)) rmX2_standsStill [.ref (bA b a0), .int x1, .int x2] (wX cI cO cR q t0 u b) (some (.int rr)) (wX cI cO cR q t0 u b) := by
  refine Con.of (by decide +kernel) (Nat.le_of_ble_eq_true rfl) (fun G C hR => ?_)
  unfold mX2_standsStill at hm
  show J l rmX2_standsStill D G (0, 0) (wX cI cO cR q t0 u b) [(0, .ref (bA b a0)), (1, .int x1), (2, .int x2)] [] 0
  refine j_sipush (v := 999) C dX2_standsStill_0 (by decide) ?_
  cases hm
  exact j_iret C hR dX2_standsStill_3
def rmX3_kind : Room := { frames := 0, cells := 0, slots := 0, locals := 0 }
theorem wd_X3_kind : yX3_kind.cls ≠ "java/lang/invoke/MethodHandle" ∧ yX3_kind.cls ≠ "java/lang/invoke/VarHandle" ∧ (parseMethodDescriptor yX3_kind.desc).map (fun d => d.parameters.length) = some 0 := by decide +kernel
def mX3_kind (N : Nat) (b : BSt) (a0 : Nat) : Option Int32 := some 1
set_option maxRecDepth 100000 in
set_option maxHeartbeats 4000000 in
theorem qX3_kind {l : Launch} {D : va_G} {cI cO cR : ClassId} {q : Nat → Nat} {t0 : Nat} {u : USt} {b : BSt} {N : Nat} {a0 : Nat} {rr : Int32} (hm : mX3_kind N b a0 = some rr) : Con l D (tX cI cO cR) yX3_kind (wS yX3_kind cX3_kind 1 (some .int)) rmX3_kind [.ref (bA b a0)] (wX cI cO cR q t0 u b) (some (.int rr)) (wX cI cO cR q t0 u b) := by
  refine Con.of (by decide +kernel) (Nat.le_of_ble_eq_true rfl) (fun G C hR => ?_)
  unfold mX3_kind at hm
  show J l rmX3_kind D G (0, 0) (wX cI cO cR q t0 u b) [(0, .ref (bA b a0))] [] 0
  refine j_iconst (v := 1) C dX3_kind_0 (by decide) ?_
  cases hm
  exact j_iret C hR dX3_kind_1
def rmX4_isKept : Room := { frames := 0, cells := 0, slots := 0, locals := 0 }
theorem wd_X4_isKept : yX4_isKept.cls ≠ "java/lang/invoke/MethodHandle" ∧ yX4_isKept.cls ≠ "java/lang/invoke/VarHandle" ∧ (parseMethodDescriptor yX4_isKept.desc).map (fun d => d.parameters.length) = some 0 := by decide +kernel
def mX4_isKept_13 (N : Nat) (u : USt) (s0 : Int32) : Option Int32 := gd (s0 = 0 ∨ s0 = 1) (some s0)
set_option maxRecDepth 100000 in
set_option maxHeartbeats 4000000 in
theorem kX4_isKept_13 {l : Launch} {D : va_G} {cI cO cR : ClassId} {q : Nat → Nat} {t0 : Nat} {u : USt} {b : BSt} {G : Gx} {N : Nat} {rr : Int32} (C : jC l rmX4_isKept D (tX cI cO cR) G cX4_isKept 1 RX4) (hR : jR D (tX cI cO cR) G (0, 0) (some .boolean) (some (.int rr)) (wX cI cO cR q t0 u b))  (s0 : Int32) (hm : mX4_isKept_13 N u s0 = some rr) : J l rmX4_isKept D G (0, 0) (wX cI cO cR q t0 u b) [] [.int s0] 13 := by
  unfold mX4_isKept_13 at hm
  obtain ⟨g, hm⟩ := gd_some hm
  cases hm
  exact j_zret C hR (jz01 g) dX4_isKept_13
def mX4_isKept (N : Nat) (u : USt) : Option Int32 := if (u.1 12) = (-1) then (mX4_isKept_13 N u 0) else (mX4_isKept_13 N u 1)
set_option maxRecDepth 100000 in
set_option maxHeartbeats 4000000 in
theorem qX4_isKept {l : Launch} {D : va_G} {cI cO cR : ClassId} {q : Nat → Nat} {t0 : Nat} {u : USt} {b : BSt} {N : Nat}  {rr : Int32} (hm : mX4_isKept N u = some rr) : Con l D (tX cI cO cR) yX4_isKept (wS yX4_isKept cX4_isKept 1 (some .boolean)) rmX4_isKept [.ref (q 8)] (wX cI cO cR q t0 u b) (some (.int rr)) (wX cI cO cR q t0 u b) := by
  refine Con.of (by decide +kernel) (Nat.le_of_ble_eq_true rfl) (fun G C hR => ?_)
  unfold mX4_isKept at hm
  show J l rmX4_isKept D G (0, 0) (wX cI cO cR q t0 u b) [(0, .ref (q 8))] [] 0
  refine j_aload_n C dX4_isKept_0 rfl 0 rfl ?_
  refine jX_g8_2_X4 C dX4_isKept_1 ?_
  refine j_iconst (v := (-1)) C dX4_isKept_4 (by decide) ?_
  refine j_icmp_eqq (tgt := 12) C dX4_isKept_5 (by decide) hm (fun hm => ?_) (fun hm => ?_)
  · refine j_iconst (v := 0) C dX4_isKept_12 (by decide) ?_
    exact J.sub [] rfl (kX4_isKept_13 C hR 0 hm)
  · refine j_iconst (v := 1) C dX4_isKept_8 (by decide) ?_
    refine j_goto (tgt := 13) C dX4_isKept_9 (by decide) ?_
    exact J.sub [] rfl (kX4_isKept_13 C hR 1 hm)
def rmX4_wasFrosty : Room := { frames := 0, cells := 0, slots := 0, locals := 0 }
theorem wd_X4_wasFrosty : yX4_wasFrosty.cls ≠ "java/lang/invoke/MethodHandle" ∧ yX4_wasFrosty.cls ≠ "java/lang/invoke/VarHandle" ∧ (parseMethodDescriptor yX4_wasFrosty.desc).map (fun d => d.parameters.length) = some 0 := by decide +kernel
def mX4_wasFrosty (N : Nat) (u : USt) : Option Int32 := gd ((u.1 13) = 0 ∨ (u.1 13) = 1) (some (u.1 13))
set_option maxRecDepth 100000 in
set_option maxHeartbeats 4000000 in
theorem qX4_wasFrosty {l : Launch} {D : va_G} {cI cO cR : ClassId} {q : Nat → Nat} {t0 : Nat} {u : USt} {b : BSt} {N : Nat}  {rr : Int32} (hm : mX4_wasFrosty N u = some rr) : Con l D (tX cI cO cR) yX4_wasFrosty (wS yX4_wasFrosty cX4_wasFrosty 1 (some .boolean)) rmX4_wasFrosty [.ref (q 8)] (wX cI cO cR q t0 u b) (some (.int rr)) (wX cI cO cR q t0 u b) := by
  refine Con.of (by decide +kernel) (Nat.le_of_ble_eq_true rfl) (fun G C hR => ?_)
  unfold mX4_wasFrosty at hm
  show J l rmX4_wasFrosty D G (0, 0) (wX cI cO cR q t0 u b) [(0, .ref (q 8))] [] 0
  refine j_aload_n C dX4_wasFrosty_0 rfl 0 rfl ?_
  refine jX_g8_3_X4 C dX4_wasFrosty_1 ?_
  obtain ⟨g, hm⟩ := gd_some hm
  cases hm
  exact j_zret C hR (jz01 g) dX4_wasFrosty_4
def rmJx4a65c_size_8abf5 : Room := { frames := 0, cells := 0, slots := 0, locals := 0 }
theorem wd_Jx4a65c_size_8abf5 : yJx4a65c_size_8abf5.cls ≠ "java/lang/invoke/MethodHandle" ∧ yJx4a65c_size_8abf5.cls ≠ "java/lang/invoke/VarHandle" ∧ (parseMethodDescriptor yJx4a65c_size_8abf5.desc).map (fun d => d.parameters.length) = some 0 := by decide +kernel
def mJx4a65c_size_8abf5 (N : Nat) (u : USt) : Option Int32 := some (u.1 10)
set_option maxRecDepth 100000 in
set_option maxHeartbeats 4000000 in
theorem qJx4a65c_size_8abf5 {l : Launch} {D : va_G} {cI cO cR : ClassId} {q : Nat → Nat} {t0 : Nat} {u : USt} {b : BSt} {N : Nat}  {rr : Int32} (hm : mJx4a65c_size_8abf5 N u = some rr) : Con l D (tX cI cO cR) yJx4a65c_size_8abf5 (wS yJx4a65c_size_8abf5 cJx4a65c_size_8abf5 1 (some .int)) rmJx4a65c_size_8abf5 [.ref (q 5)] (wX cI cO cR q t0 u b) (some (.int rr)) (wX cI cO cR q t0 u b) := by
  refine Con.of (by decide +kernel) (Nat.le_of_ble_eq_true rfl) (fun G C hR => ?_)
  unfold mJx4a65c_size_8abf5 at hm
  show J l rmJx4a65c_size_8abf5 D G (0, 0) (wX cI cO cR q t0 u b) [(0, .ref (q 5))] [] 0
  refine j_aload_n C dJx4a65c_size_8abf5_0 rfl 0 rfl ?_
  refine jX_g5_2_Jx4a65c C dJx4a65c_size_8abf5_1 ?_
  cases hm
  exact j_iret C hR dJx4a65c_size_8abf5_4
def rmJ9_min_7cf53 : Room := { frames := 0, cells := 0, slots := 0, locals := 0 }
theorem wd_J9_min_7cf53 : yJ9_min_7cf53.cls ≠ "java/lang/invoke/MethodHandle" ∧ yJ9_min_7cf53.cls ≠ "java/lang/invoke/VarHandle" ∧ (parseMethodDescriptor yJ9_min_7cf53.desc).map (fun d => d.parameters.length) = some 2 := by decide +kernel
def mJ9_min_7cf53_10 (N : Nat) (s0 : Int32) : Option Int32 := some s0
set_option maxRecDepth 100000 in
set_option maxHeartbeats 4000000 in
theorem kJ9_min_7cf53_10 {l : Launch} {D : va_G} {tys : List (ClassId × FieldType)} {G : Gx} {N : Nat} {rr : Int32} (C : jC l rmJ9_min_7cf53 D tys G cJ9_min_7cf53 2 RJ9) (hR : jR D tys G (0, 0) (some .int) (some (.int rr)) [])  (s0 : Int32) (hm : mJ9_min_7cf53_10 N s0 = some rr) : J l rmJ9_min_7cf53 D G (0, 0) [] [] [.int s0] 10 := by
  unfold mJ9_min_7cf53_10 at hm
  cases hm
  exact j_iret C hR dJ9_min_7cf53_10
def mJ9_min_7cf53 (N : Nat) (x0 : Int32) (x1 : Int32) : Option Int32 := if x1 < x0 then (mJ9_min_7cf53_10 N x1) else (mJ9_min_7cf53_10 N x0)
set_option maxRecDepth 100000 in
set_option maxHeartbeats 4000000 in
theorem qJ9_min_7cf53 {l : Launch} {D : va_G} {tys : List (ClassId × FieldType)} {N : Nat} {x0 : Int32} {x1 : Int32} {rr : Int32} (hm : mJ9_min_7cf53 N x0 x1 = some rr) : Con l D tys yJ9_min_7cf53 (wS yJ9_min_7cf53 cJ9_min_7cf53 2 (some .int)) rmJ9_min_7cf53 [.int x0, .int x1] [] (some (.int rr)) [] := by
  refine Con.of (by decide +kernel) (Nat.le_of_ble_eq_true rfl) (fun G C hR => ?_)
  unfold mJ9_min_7cf53 at hm
  show J l rmJ9_min_7cf53 D G (0, 0) [] [(0, .int x0), (1, .int x1)] [] 0
  refine j_iload_n C dJ9_min_7cf53_0 rfl 0 rfl ?_
  refine j_iload_n C dJ9_min_7cf53_1 rfl 1 rfl ?_
  refine j_icmp_gtq (tgt := 9) C dJ9_min_7cf53_2 (by decide) hm (fun hm => ?_) (fun hm => ?_)
  · refine j_iload_n C dJ9_min_7cf53_9 rfl 1 rfl ?_
    exact J.sub [] rfl (kJ9_min_7cf53_10 C hR x1 hm)
  · refine j_iload_n C dJ9_min_7cf53_5 rfl 0 rfl ?_
    refine j_goto (tgt := 10) C dJ9_min_7cf53_6 (by decide) ?_
    exact J.sub [] rfl (kJ9_min_7cf53_10 C hR x0 hm)
def rmJ3_checkIndex_8e157 : Room := { frames := 0, cells := 0, slots := 0, locals := 0 }
theorem wd_J3_checkIndex_8e157 : yJ3_checkIndex_8e157.cls ≠ "java/lang/invoke/MethodHandle" ∧ yJ3_checkIndex_8e157.cls ≠ "java/lang/invoke/VarHandle" ∧ (parseMethodDescriptor yJ3_checkIndex_8e157.desc).map (fun d => d.parameters.length) = some 3 := by decide +kernel
def mJ3_checkIndex_8e157_9 (N : Nat) (x0 : Int32) (x1 : Int32) : Option Int32 := none
set_option maxRecDepth 100000 in
set_option maxHeartbeats 4000000 in
theorem kJ3_checkIndex_8e157_9 {l : Launch} {D : va_G} {tys : List (ClassId × FieldType)} {G : Gx} {N : Nat} {rr : Int32} (C : jC l rmJ3_checkIndex_8e157 D tys G cJ3_checkIndex_8e157 3 RJ3) (hR : jR D tys G (0, 0) (some .int) (some (.int rr)) [])  (x0 : Int32) (x1 : Int32) (hm : mJ3_checkIndex_8e157_9 N x0 x1 = some rr) : J l rmJ3_checkIndex_8e157 D G (0, 0) [] [(0, .int x0), (1, .int x1), (2, .null)] [] 9 := by
  unfold mJ3_checkIndex_8e157_9 at hm
  cases hm
def mJ3_checkIndex_8e157 (N : Nat) (x0 : Int32) (x1 : Int32) : Option Int32 := if x0 < 0 then (mJ3_checkIndex_8e157_9 N x0 x1) else (if x0 < x1 then (some x0) else (mJ3_checkIndex_8e157_9 N x0 x1))
set_option maxRecDepth 100000 in
set_option maxHeartbeats 4000000 in
theorem qJ3_checkIndex_8e157 {l : Launch} {D : va_G} {tys : List (ClassId × FieldType)} {N : Nat} {x0 : Int32} {x1 : Int32} {rr : Int32} (hm : mJ3_checkIndex_8e157 N x0 x1 = some rr) : Con l D tys yJ3_checkIndex_8e157 (wS yJ3_checkIndex_8e157 cJ3_checkIndex_8e157 3 (some .int)) rmJ3_checkIndex_8e157 [.int x0, .int x1, .null] [] (some (.int rr)) [] := by
  refine Con.of (by decide +kernel) (Nat.le_of_ble_eq_true rfl) (fun G C hR => ?_)
  unfold mJ3_checkIndex_8e157 at hm
  show J l rmJ3_checkIndex_8e157 D G (0, 0) [] [(0, .int x0), (1, .int x1), (2, .null)] [] 0
  refine j_iload_n C dJ3_checkIndex_8e157_0 rfl 0 rfl ?_
  refine j_if_ltq (tgt := 9) C dJ3_checkIndex_8e157_1 (by decide) hm (fun hm => ?_) (fun hm => ?_)
  · exact kJ3_checkIndex_8e157_9 C hR x0 x1 hm
  · refine j_iload_n C dJ3_checkIndex_8e157_4 rfl 0 rfl ?_
    refine j_iload_n C dJ3_checkIndex_8e157_5 rfl 1 rfl ?_
    refine j_icmp_ltq (tgt := 16) C dJ3_checkIndex_8e157_6 (by decide) hm (fun hm => ?_) (fun hm => ?_)
    · refine j_iload_n C dJ3_checkIndex_8e157_16 rfl 0 rfl ?_
      cases hm
      exact j_iret C hR dJ3_checkIndex_8e157_17
    · exact kJ3_checkIndex_8e157_9 C hR x0 x1 hm
def rmJ15_checkIndex_7cf53 : Room := { frames := 1, cells := 0, slots := 0, locals := 22 }
theorem wd_J15_checkIndex_7cf53 : yJ15_checkIndex_7cf53.cls ≠ "java/lang/invoke/MethodHandle" ∧ yJ15_checkIndex_7cf53.cls ≠ "java/lang/invoke/VarHandle" ∧ (parseMethodDescriptor yJ15_checkIndex_7cf53.desc).map (fun d => d.parameters.length) = some 2 := by decide +kernel
def mJ15_checkIndex_7cf53 (N : Nat) (x0 : Int32) (x1 : Int32) : Option Int32 := (mJ3_checkIndex_8e157 N x0 x1).bind (fun r1 => some r1)
set_option maxRecDepth 100000 in
set_option maxHeartbeats 4000000 in
theorem qJ15_checkIndex_7cf53 {l : Launch} {D : va_G} {tys : List (ClassId × FieldType)} {N : Nat} {x0 : Int32} {x1 : Int32} {rr : Int32} (hm : mJ15_checkIndex_7cf53 N x0 x1 = some rr) : Con l D tys yJ15_checkIndex_7cf53 (wS yJ15_checkIndex_7cf53 cJ15_checkIndex_7cf53 2 (some .int)) rmJ15_checkIndex_7cf53 [.int x0, .int x1] [] (some (.int rr)) [] := by
  refine Con.of (by decide +kernel) (Nat.le_of_ble_eq_true rfl) (fun G C hR => ?_)
  unfold mJ15_checkIndex_7cf53 at hm
  show J l rmJ15_checkIndex_7cf53 D G (0, 0) [] [(0, .int x0), (1, .int x1)] [] 0
  refine j_iload_n C dJ15_checkIndex_7cf53_0 rfl 0 rfl ?_
  refine j_iload_n C dJ15_checkIndex_7cf53_1 rfl 1 rfl ?_
  refine j_null C dJ15_checkIndex_7cf53_2 ?_
  refine j_bind hm (fun r1 hr1 hm => ?_)
  refine j_callS (cs' := (0, 0)) (As := [.int x0, .int x1, .null]) (rest := []) C (qJ3_checkIndex_8e157 hr1) w3_0 w2_238 w2_239 w1_21 wd_J3_checkIndex_8e157 ⟨by decide, by decide⟩ rfl (Nat.le_of_ble_eq_true rfl) dJ15_checkIndex_7cf53_3 ⟨by decide, by decide⟩ rfl rfl ?_
  cases hm
  exact j_iret C hR dJ15_checkIndex_7cf53_6
def rmJx4a65c_elementData_915e3 : Room := { frames := 0, cells := 0, slots := 0, locals := 0 }
theorem wd_Jx4a65c_elementData_915e3 : yJx4a65c_elementData_915e3.cls ≠ "java/lang/invoke/MethodHandle" ∧ yJx4a65c_elementData_915e3.cls ≠ "java/lang/invoke/VarHandle" ∧ (parseMethodDescriptor yJx4a65c_elementData_915e3.desc).map (fun d => d.parameters.length) = some 1 := by decide +kernel
def mJx4a65c_elementData_915e3 (N : Nat) (b : BSt) (x1 : Int32) : Option Nat := bget b x1 (fun j1 => some j1)
set_option maxRecDepth 100000 in
set_option maxHeartbeats 4000000 in
theorem qJx4a65c_elementData_915e3 {l : Launch} {D : va_G} {cI cO cR : ClassId} {q : Nat → Nat} {t0 : Nat} {u : USt} {b : BSt} {N : Nat} {x1 : Int32} {rr : Nat} (hm : mJx4a65c_elementData_915e3 N b x1 = some rr) : Con l D (tX cI cO cR) yJx4a65c_elementData_915e3 (wS yJx4a65c_elementData_915e3 cJx4a65c_elementData_915e3 2 (some (.object "java/lang/Object"))) rmJx4a65c_elementData_915e3 [.ref (q 5), .int x1] (wX cI cO cR q t0 u b) (some (.ref (bA b rr))) (wX cI cO cR q t0 u b) := by
  refine Con.of (by decide +kernel) (Nat.le_of_ble_eq_true rfl) (fun G C hR => ?_)
  unfold mJx4a65c_elementData_915e3 at hm
  show J l rmJx4a65c_elementData_915e3 D G (0, 0) (wX cI cO cR q t0 u b) [(0, .ref (q 5)), (1, .int x1)] [] 0
  refine j_aload_n C dJx4a65c_elementData_915e3_0 rfl 0 rfl ?_
  refine jX_g5_1_Jx4a65c C dJx4a65c_elementData_915e3_1 ?_
  refine j_iload_n C dJx4a65c_elementData_915e3_4 rfl 1 rfl ?_
  refine jX_el C dJx4a65c_elementData_915e3_5 hm (fun j1 hm => ?_)
  cases hm
  exact j_aret C hR (Or.inl ⟨_, rfl⟩) (Or.inr ⟨_, rfl⟩) dJx4a65c_elementData_915e3_6
def rmJx4a65c_get_915e3 : Room := { frames := 2, cells := 0, slots := 0, locals := 43 }
theorem wd_Jx4a65c_get_915e3 : yJx4a65c_get_915e3.cls ≠ "java/lang/invoke/MethodHandle" ∧ yJx4a65c_get_915e3.cls ≠ "java/lang/invoke/VarHandle" ∧ (parseMethodDescriptor yJx4a65c_get_915e3.desc).map (fun d => d.parameters.length) = some 1 := by decide +kernel
def mJx4a65c_get_915e3 (N : Nat) (u : USt) (b : BSt) (x1 : Int32) : Option Nat := (mJ15_checkIndex_7cf53 N x1 (u.1 10)).bind (fun r1 => (mJx4a65c_elementData_915e3 N b x1).bind (fun r2 => some r2))
set_option maxRecDepth 100000 in
set_option maxHeartbeats 4000000 in
theorem qJx4a65c_get_915e3 {l : Launch} {D : va_G} {cI cO cR : ClassId} {q : Nat → Nat} {t0 : Nat} {u : USt} {b : BSt} {N : Nat} {x1 : Int32} {rr : Nat} (hm : mJx4a65c_get_915e3 N u b x1 = some rr) : Con l D (tX cI cO cR) yJx4a65c_get_915e3 (wS yJx4a65c_get_915e3 cJx4a65c_get_915e3 2 (some (.object "java/lang/Object"))) rmJx4a65c_get_915e3 [.ref (q 5), .int x1] (wX cI cO cR q t0 u b) (some (.ref (bA b rr))) (wX cI cO cR q t0 u b) := by
  refine Con.of (by decide +kernel) (Nat.le_of_ble_eq_true rfl) (fun G C hR => ?_)
  unfold mJx4a65c_get_915e3 at hm
  show J l rmJx4a65c_get_915e3 D G (0, 0) (wX cI cO cR q t0 u b) [(0, .ref (q 5)), (1, .int x1)] [] 0
  refine j_iload_n C dJx4a65c_get_915e3_0 rfl 1 rfl ?_
  refine j_aload_n C dJx4a65c_get_915e3_1 rfl 0 rfl ?_
  refine jX_g5_2_Jx4a65c C dJx4a65c_get_915e3_2 ?_
  refine j_bind hm (fun r1 hr1 hm => ?_)
  refine j_callS (cs' := (0, 0)) (As := [.int x1, .int (u.1 10)]) (rest := []) C (qJ15_checkIndex_7cf53 hr1) w2_237 w2_235 w2_236 w1_20 wd_J15_checkIndex_7cf53 ⟨by decide, by decide⟩ rfl (Nat.le_of_ble_eq_true rfl) dJx4a65c_get_915e3_5 ⟨by decide, by decide⟩ rfl rfl ?_
  refine j_pop C dJx4a65c_get_915e3_8 rfl ?_
  refine j_aload_n C dJx4a65c_get_915e3_9 rfl 0 rfl ?_
  refine j_iload_n C dJx4a65c_get_915e3_10 rfl 1 rfl ?_
  refine j_bind hm (fun r2 hr2 hm => ?_)
  refine j_callV (cs' := (0, 0)) (As := [.int x1]) (rest := []) C (qJx4a65c_elementData_915e3 hr2) w3_4 w3_1 w3_2 w3_3 w1_6 wd_Jx4a65c_elementData_915e3 ⟨by decide, by decide⟩ 5 rfl rfl rfl (Nat.le_of_ble_eq_true rfl) dJx4a65c_get_915e3_11 ⟨by decide, by decide⟩ rfl rfl ?_
  cases hm
  exact j_aret C hR (Or.inl ⟨_, rfl⟩) (Or.inr ⟨_, rfl⟩) dJx4a65c_get_915e3_14
def rmX5_becomeLike_10_6 : Room := { frames := 1, cells := 0, slots := 0, locals := 60 }
theorem wd_X5_becomeLike : yX5_becomeLike.cls ≠ "java/lang/invoke/MethodHandle" ∧ yX5_becomeLike.cls ≠ "java/lang/invoke/VarHandle" ∧ (parseMethodDescriptor yX5_becomeLike.desc).map (fun d => d.parameters.length) = some 1 := by decide +kernel
def mX5_becomeLike_10_6 (N : Nat) (u : USt) : Option USt := alX 11 (fun n1 => gd (okA 7 = true ∧ okA 11 = true ∧ 0 ≤ (Int32.toInt n1) ∧ (Int32.toInt n1) ≤ lenX 7 ∧ (Int32.toInt n1) ≤ lenX 11) (nm (sfX u 11 (va_cpy (u.2 7) (u.2 11) 0 0 (Int32.toNatClampNeg n1))) (fun u2 => nm (u2.1 11) (fun f3 => nm (siX u2 14 f3) (fun u4 => some u4)))))
set_option maxRecDepth 100000 in
set_option maxHeartbeats 4000000 in
theorem qX5_becomeLike_10_6 {l : Launch} {D : va_G} {cI cO cR : ClassId} {q : Nat → Nat} {t0 : Nat} {u : USt} {b : BSt} {N : Nat}  {rr : USt} (hm : mX5_becomeLike_10_6 N u = some rr) : Con l D (tX cI cO cR) yX5_becomeLike (wS yX5_becomeLike cX5_becomeLike 2 none) rmX5_becomeLike_10_6 [.ref (q 10), .ref (q 6)] (wX cI cO cR q t0 u b) none (wX cI cO cR q t0 rr b) := by
  refine Con.of (by decide +kernel) (Nat.le_of_ble_eq_true rfl) (fun G C hR => ?_)
  unfold mX5_becomeLike_10_6 at hm
  show J l rmX5_becomeLike_10_6 D G (0, 0) (wX cI cO cR q t0 u b) [(0, .ref (q 10)), (1, .ref (q 6))] [] 0
  refine j_aload_n C dX5_becomeLike_0 rfl 1 rfl ?_
  refine jX_g6_0_X5 C dX5_becomeLike_1 ?_
  refine j_iconst (v := 0) C dX5_becomeLike_4 (by decide) ?_
  refine j_aload_n C dX5_becomeLike_5 rfl 0 rfl ?_
  refine jX_g10_0_X5 C dX5_becomeLike_6 ?_
  refine j_iconst (v := 0) C dX5_becomeLike_9 (by decide) ?_
  refine j_aload_n C dX5_becomeLike_10 rfl 0 rfl ?_
  refine jX_g10_0_X5 C dX5_becomeLike_11 ?_
  refine jX_len C dX5_becomeLike_14 hm (fun n1 hm => ?_)
  refine jX_cp C w4_137 w2_106 w2_105 w1_16 (by decide) (Nat.le_of_ble_eq_true rfl) dX5_becomeLike_15 hm (fun u2 hm => ?_)
  refine j_aload_n C dX5_becomeLike_18 rfl 0 rfl ?_
  refine j_aload_n C dX5_becomeLike_19 rfl 1 rfl ?_
  refine jX_g6_1_X5 C dX5_becomeLike_20 ?_
  refine j_nmi hm (fun f3 hm => ?_)
  refine jX_p10_1_X5 C dX5_becomeLike_23 ?_
  refine j_nmu hm (w := fun u => wX cI cO cR q t0 u b) (fun u4 hm => ?_)
  cases hm
  exact j_vret C hR dX5_becomeLike_26
def rmX4_keep : Room := { frames := 3, cells := 0, slots := 0, locals := 81 }
theorem wd_X4_keep : yX4_keep.cls ≠ "java/lang/invoke/MethodHandle" ∧ yX4_keep.cls ≠ "java/lang/invoke/VarHandle" ∧ (parseMethodDescriptor yX4_keep.desc).map (fun d => d.parameters.length) = some 3 := by decide +kernel
def mX4_keep_16 (N : Nat) (b : BSt) (k16 : USt → Int32 → Int32 → Option USt) (u : USt) (x2 : Int32) (x4 : Int32) : Option USt := nm (u.1 12) (fun f1 => if f1 ≤ x4 then (gd (x2 = 0 ∨ x2 = 1) (nm (siX u 13 x2) (fun u2 => (mX5_becomeLike_10_6 N u2).bind (fun u4 => some u4)))) else ((mJx4a65c_get_915e3 N u b x4).bind (fun r5 => bwt b r5 (fun _ => bfi b r5 5 (fun f6 => wrX 9 x4 (fun i7 => nm (saX u 9 i7 f6) (fun u8 => k16 u8 x2 (x4 + 1))))))))
set_option maxRecDepth 100000 in
set_option maxHeartbeats 4000000 in
theorem kX4_keep_16 {l : Launch} {D : va_G} {cI cO cR : ClassId} {q : Nat → Nat} {t0 : Nat} {b : BSt} {G : Gx} {N : Nat} {rr : USt} (C : jC l rmX4_keep D (tX cI cO cR) G cX4_keep 5 RX4) (hR : jR D (tX cI cO cR) G (0, 0) none none (wX cI cO cR q t0 rr b)) (k16 : USt → Int32 → Int32 → Option USt) (K16 : ∀ (u : USt) (x2 : Int32) (x4 : Int32), k16 u x2 x4 = some rr → J l rmX4_keep D G (0, 0) (wX cI cO cR q t0 u b) [(0, .ref (q 8)), (1, .ref (q 5)), (2, .int x2), (3, .ref (q 6)), (4, .int x4)] [] 16) (u : USt) (x2 : Int32) (x4 : Int32) (hm : mX4_keep_16 N b k16 u x2 x4 = some rr) : J l rmX4_keep D G (0, 0) (wX cI cO cR q t0 u b) [(0, .ref (q 8)), (1, .ref (q 5)), (2, .int x2), (3, .ref (q 6)), (4, .int x4)] [] 16 := by
  unfold mX4_keep_16 at hm
  refine j_iload C dX4_keep_16 4 rfl ?_
  refine j_aload_n C dX4_keep_18 rfl 0 rfl ?_
  refine jX_g8_2_X4 C dX4_keep_19 ?_
  refine j_nmi hm (fun f1 hm => ?_)
  refine j_icmp_geq (tgt := 50) C dX4_keep_22 (by decide) hm (fun hm => ?_) (fun hm => ?_)
  · refine j_aload_n C dX4_keep_50 rfl 0 rfl ?_
    refine j_iload_n C dX4_keep_51 rfl 2 rfl ?_
    obtain ⟨g, hm⟩ := gd_some hm
    refine jX_p8_3_X4 C dX4_keep_52 g ?_
    refine j_nmu hm (w := fun u => wX cI cO cR q t0 u b) (fun u2 hm => ?_)
    refine j_aload_n C dX4_keep_55 rfl 0 rfl ?_
    refine jX_g8_1_X4 C dX4_keep_56 ?_
    refine j_aload_n C dX4_keep_59 rfl 3 rfl ?_
    refine j_bind hm (fun u4 hr3 hm => ?_)
    refine j_callV (cs' := (0, 0)) (As := [.ref (q 6)]) (rest := []) C (qX5_becomeLike_10_6 hr3) w4_136 w4_133 w4_134 w4_135 w1_7 wd_X5_becomeLike ⟨by decide, by decide⟩ 10 rfl rfl rfl (Nat.le_of_ble_eq_true rfl) dX4_keep_60 ⟨by decide, by decide⟩ rfl rfl ?_
    cases hm
    exact j_vret C hR dX4_keep_63
  · refine j_aload_n C dX4_keep_25 rfl 0 rfl ?_
    refine jX_g8_0_X4 C dX4_keep_26 ?_
    refine j_iload C dX4_keep_29 4 rfl ?_
    refine j_aload_n C dX4_keep_31 rfl 1 rfl ?_
    refine j_iload C dX4_keep_32 4 rfl ?_
    refine j_bind hm (fun r5 hr5 hm => ?_)
    refine j_callV (cs' := (0, 0)) (As := [.int x4]) (rest := [.int x4, .ref (q 9)]) C (qJx4a65c_get_915e3 hr5) w2_234 w4_131 w2_232 w2_233 w1_6 wd_Jx4a65c_get_915e3 ⟨by decide, by decide⟩ 5 rfl rfl rfl (Nat.le_of_ble_eq_true rfl) dX4_keep_34 ⟨by decide, by decide⟩ rfl rfl ?_
    refine jX_cast C w4_132 w6_67 w6_68 w6_69 dX4_keep_37 hm (fun hm => ?_)
    refine jX_b5 C w2_120 dX4_keep_40 hm (fun f6 hm => ?_)
    refine jX_S C dX4_keep_43 hm (fun u8 hm => ?_)
    refine j_iinc (v := (x4 + 1)) C dX4_keep_44 4 rfl rfl (by decide) rfl ?_
    refine j_goto (tgt := 16) C dX4_keep_47 (by decide) ?_
    exact J.sub [1, 2, 3, 4, 0] rfl (K16 u8 x2 (x4 + 1) hm)
def mX4_keep_h16 (N : Nat) (b : BSt) : Nat → USt → Int32 → Int32 → Option USt
  | 0, _, _, _ => none
  | n + 1, u, x2, x4 => mX4_keep_16 N b (mX4_keep_h16 N b n) u x2 x4
theorem kX4_keep_h16 {l : Launch} {D : va_G} {cI cO cR : ClassId} {q : Nat → Nat} {t0 : Nat} {b : BSt} {G : Gx} {N : Nat} {rr : USt} (C : jC l rmX4_keep D (tX cI cO cR) G cX4_keep 5 RX4) (hR : jR D (tX cI cO cR) G (0, 0) none none (wX cI cO cR q t0 rr b))  : ∀ (n : Nat) (u : USt) (x2 : Int32) (x4 : Int32), mX4_keep_h16 N b n u x2 x4 = some rr → J l rmX4_keep D G (0, 0) (wX cI cO cR q t0 u b) [(0, .ref (q 8)), (1, .ref (q 5)), (2, .int x2), (3, .ref (q 6)), (4, .int x4)] [] 16 := by
  intro n
  induction n with
  | zero =>
    intro u x2 x4 hm
    have hm : (none : Option USt) = some rr := hm
    cases hm
  | succ n ih =>
    intro u x2 x4 hm
    exact kX4_keep_16 C hR _ ih u x2 x4 hm
def mX4_keep (N : Nat) (b : BSt) (u : USt) (x2 : Int32) : Option USt := (mJx4a65c_size_8abf5 N u).bind (fun r1 => (mJ9_min_7cf53 N r1 10).bind (fun r2 => nm (siX u 12 r2) (fun u3 => mX4_keep_h16 N b N u3 x2 0)))
set_option maxRecDepth 100000 in
set_option maxHeartbeats 4000000 in
theorem qX4_keep {l : Launch} {D : va_G} {cI cO cR : ClassId} {q : Nat → Nat} {t0 : Nat} {u : USt} {b : BSt} {N : Nat} {x2 : Int32} {rr : USt} (hm : mX4_keep N b u x2 = some rr) : Con l D (tX cI cO cR) yX4_keep (wS yX4_keep cX4_keep 5 none) rmX4_keep [.ref (q 8), .ref (q 5), .int x2, .ref (q 6)] (wX cI cO cR q t0 u b) none (wX cI cO cR q t0 rr b) := by
  refine Con.of (by decide +kernel) (Nat.le_of_ble_eq_true rfl) (fun G C hR => ?_)
  unfold mX4_keep at hm
  show J l rmX4_keep D G (0, 0) (wX cI cO cR q t0 u b) [(0, .ref (q 8)), (1, .ref (q 5)), (2, .int x2), (3, .ref (q 6))] [] 0
  refine j_aload_n C dX4_keep_0 rfl 0 rfl ?_
  refine j_aload_n C dX4_keep_1 rfl 1 rfl ?_
  refine j_bind hm (fun r1 hr1 hm => ?_)
  refine j_callV (cs' := (0, 0)) (As := []) (rest := [.ref (q 8)]) C (qJx4a65c_size_8abf5 hr1) w2_74 w4_129 w2_72 w2_73 w1_6 wd_Jx4a65c_size_8abf5 ⟨by decide, by decide⟩ 5 rfl rfl rfl (Nat.le_of_ble_eq_true rfl) dX4_keep_2 ⟨by decide, by decide⟩ rfl rfl ?_
  refine j_bipush (v := 10) C dX4_keep_5 (by decide) ?_
  refine j_bind hm (fun r2 hr2 hm => ?_)
  refine j_callS (cs' := (0, 0)) (As := [.int r1, .int 10]) (rest := [.ref (q 8)]) C (qJ9_min_7cf53 hr2) w2_103 w4_130 w2_102 w1_14 wd_J9_min_7cf53 ⟨by decide, by decide⟩ rfl (Nat.le_of_ble_eq_true rfl) dX4_keep_7 ⟨by decide, by decide⟩ rfl rfl ?_
  refine jX_p8_2_X4 C dX4_keep_10 ?_
  refine j_nmu hm (w := fun u => wX cI cO cR q t0 u b) (fun u3 hm => ?_)
  refine j_iconst (v := 0) C dX4_keep_13 (by decide) ?_
  refine j_istore C dX4_keep_14 (by decide) rfl ?_
  exact J.sub [1, 2, 3, 4, 0] rfl (kX4_keep_h16 C hR N u3 x2 0 hm)
def rmJx4a65c_fastRemove_b59b0 : Room := { frames := 1, cells := 0, slots := 0, locals := 60 }
theorem wd_Jx4a65c_fastRemove_b59b0 : yJx4a65c_fastRemove_b59b0.cls ≠ "java/lang/invoke/MethodHandle" ∧ yJx4a65c_fastRemove_b59b0.cls ≠ "java/lang/invoke/VarHandle" ∧ (parseMethodDescriptor yJx4a65c_fastRemove_b59b0.desc).map (fun d => d.parameters.length) = some 2 := by decide +kernel
def mJx4a65c_fastRemove_b59b0_34 (N : Nat) (u : USt) (b : BSt) (x3 : Int32) : Option (USt × BSt) := nm (siX u 10 x3) (fun u1 => brm b x3 (fun b2 => some (u1, b2)))
set_option maxRecDepth 100000 in
set_option maxHeartbeats 4000000 in
theorem kJx4a65c_fastRemove_b59b0_34 {l : Launch} {D : va_G} {cI cO cR : ClassId} {q : Nat → Nat} {t0 : Nat} {G : Gx} {N : Nat} {rr : (USt × BSt)} (C : jC l rmJx4a65c_fastRemove_b59b0 D (tX cI cO cR) G cJx4a65c_fastRemove_b59b0 4 RJx4a65c) (hR : jR D (tX cI cO cR) G (0, 0) none none (wX cI cO cR q t0 rr.1 rr.2))  (u : USt) (b : BSt) (x3 : Int32) (hm : mJx4a65c_fastRemove_b59b0_34 N u b x3 = some rr) : J l rmJx4a65c_fastRemove_b59b0 D G (0, 0) (wX cI cO cR q t0 u b) [(0, .ref (q 5)), (1, .ref (bQ t0 b)), (3, .int x3)] [] 34 := by
  unfold mJx4a65c_fastRemove_b59b0_34 at hm
  refine j_aload_n C dJx4a65c_fastRemove_b59b0_34 rfl 1 rfl ?_
  refine j_aload_n C dJx4a65c_fastRemove_b59b0_35 rfl 0 rfl ?_
  refine j_iload_n C dJx4a65c_fastRemove_b59b0_36 rfl 2 rfl ?_
  refine j_dup_x1 C dJx4a65c_fastRemove_b59b0_37 rfl rfl ?_
  refine jX_p5_2_Jx4a65c C dJx4a65c_fastRemove_b59b0_38 ?_
  refine j_nmu hm (w := fun u => wX cI cO cR q t0 u b) (fun u1 hm => ?_)
  refine j_null C dJx4a65c_fastRemove_b59b0_41 ?_
  refine jX_rm C dJx4a65c_fastRemove_b59b0_42 hm (fun b2 hm => ?_)
  cases hm
  exact j_vret C hR dJx4a65c_fastRemove_b59b0_43
def mJx4a65c_fastRemove_b59b0 (N : Nat) (u : USt) (b : BSt) (x2 : Int32) : Option (USt × BSt) := nm (u.1 9) (fun f1 => nm (siX u 9 (f1 + 1)) (fun u2 => nm (u2.1 10) (fun f3 => nm (f3 - 1) (fun v4 => if (f3 - 1) ≤ x2 then (mJx4a65c_fastRemove_b59b0_34 N u2 b v4) else (none)))))
set_option maxRecDepth 100000 in
set_option maxHeartbeats 4000000 in
theorem qJx4a65c_fastRemove_b59b0 {l : Launch} {D : va_G} {cI cO cR : ClassId} {q : Nat → Nat} {t0 : Nat} {u : USt} {b : BSt} {N : Nat} {x2 : Int32} {rr : (USt × BSt)} (hm : mJx4a65c_fastRemove_b59b0 N u b x2 = some rr) : Con l D (tX cI cO cR) yJx4a65c_fastRemove_b59b0 (wS yJx4a65c_fastRemove_b59b0 cJx4a65c_fastRemove_b59b0 4 none) rmJx4a65c_fastRemove_b59b0 [.ref (q 5), .ref (bQ t0 b), .int x2] (wX cI cO cR q t0 u b) none (wX cI cO cR q t0 rr.1 rr.2) := by
  refine Con.of (by decide +kernel) (Nat.le_of_ble_eq_true rfl) (fun G C hR => ?_)
  unfold mJx4a65c_fastRemove_b59b0 at hm
  show J l rmJx4a65c_fastRemove_b59b0 D G (0, 0) (wX cI cO cR q t0 u b) [(0, .ref (q 5)), (1, .ref (bQ t0 b)), (2, .int x2)] [] 0
  refine j_aload_n C dJx4a65c_fastRemove_b59b0_0 rfl 0 rfl ?_
  refine j_dup C dJx4a65c_fastRemove_b59b0_1 rfl ?_
  refine jX_g5_0_Jx4a65c C dJx4a65c_fastRemove_b59b0_2 ?_
  refine j_nmi hm (fun f1 hm => ?_)
  refine j_iconst (v := 1) C dJx4a65c_fastRemove_b59b0_5 (by decide) ?_
  refine j_iadd C dJx4a65c_fastRemove_b59b0_6 ?_
  refine jX_p5_0_Jx4a65c C dJx4a65c_fastRemove_b59b0_7 ?_
  refine j_nmu hm (w := fun u => wX cI cO cR q t0 u b) (fun u2 hm => ?_)
  refine j_aload_n C dJx4a65c_fastRemove_b59b0_10 rfl 0 rfl ?_
  refine jX_g5_2_Jx4a65c C dJx4a65c_fastRemove_b59b0_11 ?_
  refine j_nmi hm (fun f3 hm => ?_)
  refine j_iconst (v := 1) C dJx4a65c_fastRemove_b59b0_14 (by decide) ?_
  refine j_isub C dJx4a65c_fastRemove_b59b0_15 ?_
  refine j_dup C dJx4a65c_fastRemove_b59b0_16 rfl ?_
  refine j_nmi hm (fun v4 hm => ?_)
  refine j_istore_n C dJx4a65c_fastRemove_b59b0_17 rfl (by decide) rfl ?_
  refine j_iload_n C dJx4a65c_fastRemove_b59b0_18 rfl 3 rfl ?_
  refine j_icmp_leq (tgt := 34) C dJx4a65c_fastRemove_b59b0_19 (by decide) hm (fun hm => ?_) (fun hm => ?_)
  · exact J.sub [1, 2, 0] rfl (kJx4a65c_fastRemove_b59b0_34 C hR u2 b v4 hm)
  · refine j_aload_n C dJx4a65c_fastRemove_b59b0_22 rfl 2 rfl ?_
    refine j_iload_n C dJx4a65c_fastRemove_b59b0_23 rfl 3 rfl ?_
    refine j_iconst (v := 1) C dJx4a65c_fastRemove_b59b0_24 (by decide) ?_
    refine j_iadd C dJx4a65c_fastRemove_b59b0_25 ?_
    refine j_aload_n C dJx4a65c_fastRemove_b59b0_26 rfl 2 rfl ?_
    refine j_iload_n C dJx4a65c_fastRemove_b59b0_27 rfl 3 rfl ?_
    refine j_iload_n C dJx4a65c_fastRemove_b59b0_28 rfl 0 rfl ?_
    refine j_iload_n C dJx4a65c_fastRemove_b59b0_29 rfl 3 rfl ?_
    refine j_isub C dJx4a65c_fastRemove_b59b0_30 ?_
    cases hm
def rmJx4a65c_remove_915e3 : Room := { frames := 2, cells := 0, slots := 0, locals := 83 }
theorem wd_Jx4a65c_remove_915e3 : yJx4a65c_remove_915e3.cls ≠ "java/lang/invoke/MethodHandle" ∧ yJx4a65c_remove_915e3.cls ≠ "java/lang/invoke/VarHandle" ∧ (parseMethodDescriptor yJx4a65c_remove_915e3.desc).map (fun d => d.parameters.length) = some 1 := by decide +kernel
def mJx4a65c_remove_915e3 (N : Nat) (u : USt) (b : BSt) (x1 : Int32) : Option (Nat × USt × BSt) := nm (u.1 10) (fun f1 => (mJ15_checkIndex_7cf53 N x1 f1).bind (fun r2 => bget b x1 (fun j3 => bp (mJx4a65c_fastRemove_b59b0 N u b x1) (fun u5 b6 => some (j3, u5, b6)))))
set_option maxRecDepth 100000 in
set_option maxHeartbeats 4000000 in
theorem qJx4a65c_remove_915e3 {l : Launch} {D : va_G} {cI cO cR : ClassId} {q : Nat → Nat} {t0 : Nat} {u : USt} {b : BSt} {N : Nat} {x1 : Int32} {rr : (Nat × USt × BSt)} (hm : mJx4a65c_remove_915e3 N u b x1 = some rr) : Con l D (tX cI cO cR) yJx4a65c_remove_915e3 (wS yJx4a65c_remove_915e3 cJx4a65c_remove_915e3 4 (some (.object "java/lang/Object"))) rmJx4a65c_remove_915e3 [.ref (q 5), .int x1] (wX cI cO cR q t0 u b) (some (.ref (bA b rr.1))) (wX cI cO cR q t0 rr.2.1 rr.2.2) := by
  refine Con.of (by decide +kernel) (Nat.le_of_ble_eq_true rfl) (fun G C hR => ?_)
  unfold mJx4a65c_remove_915e3 at hm
  show J l rmJx4a65c_remove_915e3 D G (0, 0) (wX cI cO cR q t0 u b) [(0, .ref (q 5)), (1, .int x1)] [] 0
  refine j_iload_n C dJx4a65c_remove_915e3_0 rfl 1 rfl ?_
  refine j_aload_n C dJx4a65c_remove_915e3_1 rfl 0 rfl ?_
  refine jX_g5_2_Jx4a65c C dJx4a65c_remove_915e3_2 ?_
  refine j_nmi hm (fun f1 hm => ?_)
  refine j_bind hm (fun r2 hr2 hm => ?_)
  refine j_callS (cs' := (0, 0)) (As := [.int x1, .int f1]) (rest := []) C (qJ15_checkIndex_7cf53 hr2) w2_237 w2_235 w2_236 w1_20 wd_J15_checkIndex_7cf53 ⟨by decide, by decide⟩ rfl (Nat.le_of_ble_eq_true rfl) dJx4a65c_remove_915e3_5 ⟨by decide, by decide⟩ rfl rfl ?_
  refine j_pop C dJx4a65c_remove_915e3_8 rfl ?_
  refine j_aload_n C dJx4a65c_remove_915e3_9 rfl 0 rfl ?_
  refine jX_g5_1_Jx4a65c C dJx4a65c_remove_915e3_10 ?_
  refine j_astore_n C dJx4a65c_remove_915e3_13 rfl (by decide) rfl ?_
  refine j_aload_n C dJx4a65c_remove_915e3_14 rfl 0 rfl ?_
  refine j_iload_n C dJx4a65c_remove_915e3_15 rfl 2 rfl ?_
  refine jX_el C dJx4a65c_remove_915e3_16 hm (fun j3 hm => ?_)
  refine j_astore_n C dJx4a65c_remove_915e3_17 rfl (by decide) rfl ?_
  refine j_aload_n C dJx4a65c_remove_915e3_18 rfl 2 rfl ?_
  refine j_aload_n C dJx4a65c_remove_915e3_19 rfl 1 rfl ?_
  refine j_iload_n C dJx4a65c_remove_915e3_20 rfl 3 rfl ?_
  refine j_bindp hm (fun u5 b6 hr4 hm => ?_)
  refine j_callV (cs' := (0, 0)) (As := [.ref (bQ t0 b), .int x1]) (rest := []) C (qJx4a65c_fastRemove_b59b0 hr4) w4_157 w4_154 w4_156 w0_23 w1_6 wd_Jx4a65c_fastRemove_b59b0 ⟨by decide, by decide⟩ 5 rfl rfl rfl (Nat.le_of_ble_eq_true rfl) dJx4a65c_remove_915e3_21 ⟨by decide, by decide⟩ rfl rfl ?_
  refine j_aload_n C dJx4a65c_remove_915e3_24 rfl 0 rfl ?_
  cases hm
  exact j_aret C hR (Or.inl ⟨_, rfl⟩) (Or.inr ⟨_, rfl⟩) dJx4a65c_remove_915e3_25
def rmX5_becomeLike_6_10 : Room := { frames := 1, cells := 0, slots := 0, locals := 60 }
def mX5_becomeLike_6_10 (N : Nat) (u : USt) : Option USt := alX 7 (fun n1 => gd (okA 11 = true ∧ okA 7 = true ∧ 0 ≤ (Int32.toInt n1) ∧ (Int32.toInt n1) ≤ lenX 11 ∧ (Int32.toInt n1) ≤ lenX 7) (nm (sfX u 7 (va_cpy (u.2 11) (u.2 7) 0 0 (Int32.toNatClampNeg n1))) (fun u2 => nm (u2.1 14) (fun f3 => nm (siX u2 11 f3) (fun u4 => some u4)))))
set_option maxRecDepth 100000 in
set_option maxHeartbeats 4000000 in
theorem qX5_becomeLike_6_10 {l : Launch} {D : va_G} {cI cO cR : ClassId} {q : Nat → Nat} {t0 : Nat} {u : USt} {b : BSt} {N : Nat}  {rr : USt} (hm : mX5_becomeLike_6_10 N u = some rr) : Con l D (tX cI cO cR) yX5_becomeLike (wS yX5_becomeLike cX5_becomeLike 2 none) rmX5_becomeLike_6_10 [.ref (q 6), .ref (q 10)] (wX cI cO cR q t0 u b) none (wX cI cO cR q t0 rr b) := by
  refine Con.of (by decide +kernel) (Nat.le_of_ble_eq_true rfl) (fun G C hR => ?_)
  unfold mX5_becomeLike_6_10 at hm
  show J l rmX5_becomeLike_6_10 D G (0, 0) (wX cI cO cR q t0 u b) [(0, .ref (q 6)), (1, .ref (q 10))] [] 0
  refine j_aload_n C dX5_becomeLike_0 rfl 1 rfl ?_
  refine jX_g10_0_X5 C dX5_becomeLike_1 ?_
  refine j_iconst (v := 0) C dX5_becomeLike_4 (by decide) ?_
  refine j_aload_n C dX5_becomeLike_5 rfl 0 rfl ?_
  refine jX_g6_0_X5 C dX5_becomeLike_6 ?_
  refine j_iconst (v := 0) C dX5_becomeLike_9 (by decide) ?_
  refine j_aload_n C dX5_becomeLike_10 rfl 0 rfl ?_
  refine jX_g6_0_X5 C dX5_becomeLike_11 ?_
  refine jX_len C dX5_becomeLike_14 hm (fun n1 hm => ?_)
  refine jX_cp C w4_137 w2_106 w2_105 w1_16 (by decide) (Nat.le_of_ble_eq_true rfl) dX5_becomeLike_15 hm (fun u2 hm => ?_)
  refine j_aload_n C dX5_becomeLike_18 rfl 0 rfl ?_
  refine j_aload_n C dX5_becomeLike_19 rfl 1 rfl ?_
  refine jX_g10_1_X5 C dX5_becomeLike_20 ?_
  refine j_nmi hm (fun f3 hm => ?_)
  refine jX_p6_1_X5 C dX5_becomeLike_23 ?_
  refine j_nmu hm (w := fun u => wX cI cO cR q t0 u b) (fun u4 hm => ?_)
  cases hm
  exact j_vret C hR dX5_becomeLike_26
def rmX4_giveBack : Room := { frames := 3, cells := 0, slots := 0, locals := 106 }
theorem wd_X4_giveBack : yX4_giveBack.cls ≠ "java/lang/invoke/MethodHandle" ∧ yX4_giveBack.cls ≠ "java/lang/invoke/VarHandle" ∧ (parseMethodDescriptor yX4_giveBack.desc).map (fun d => d.parameters.length) = some 2 := by decide +kernel
def mX4_giveBack_70 (N : Nat) (u : USt) (b : BSt) : Option (USt × BSt) := (mX5_becomeLike_6_10 N u).bind (fun u2 => some (u2, b))
set_option maxRecDepth 100000 in
set_option maxHeartbeats 4000000 in
theorem kX4_giveBack_70 {l : Launch} {D : va_G} {cI cO cR : ClassId} {q : Nat → Nat} {t0 : Nat} {G : Gx} {N : Nat} {rr : (USt × BSt)} (C : jC l rmX4_giveBack D (tX cI cO cR) G cX4_giveBack 4 RX4) (hR : jR D (tX cI cO cR) G (0, 0) none none (wX cI cO cR q t0 rr.1 rr.2))  (u : USt) (b : BSt) (hm : mX4_giveBack_70 N u b = some rr) : J l rmX4_giveBack D G (0, 0) (wX cI cO cR q t0 u b) [(0, .ref (q 8)), (2, .ref (q 6))] [] 70 := by
  unfold mX4_giveBack_70 at hm
  refine j_aload_n C dX4_giveBack_70 rfl 1 rfl ?_
  refine j_aload_n C dX4_giveBack_71 rfl 0 rfl ?_
  refine jX_g8_1_X4 C dX4_giveBack_72 ?_
  refine j_bind hm (fun u2 hr1 hm => ?_)
  refine j_callV (cs' := (0, 0)) (As := [.ref (q 10)]) (rest := []) C (qX5_becomeLike_6_10 hr1) w4_136 w4_133 w4_134 w4_135 w1_7 wd_X5_becomeLike ⟨by decide, by decide⟩ 6 rfl rfl rfl (Nat.le_of_ble_eq_true rfl) dX4_giveBack_75 ⟨by decide, by decide⟩ rfl rfl ?_
  cases hm
  exact j_vret C hR dX4_giveBack_78
def mX4_giveBack_33 (N : Nat) (k33 : USt → BSt → Int32 → Option (USt × BSt)) (u : USt) (b : BSt) (x3 : Int32) : Option (USt × BSt) := (mJx4a65c_size_8abf5 N u).bind (fun r1 => if r1 ≤ x3 then (mX4_giveBack_70 N u b) else (if 10 ≤ x3 then (mX4_giveBack_70 N u b) else ((mJx4a65c_get_915e3 N u b x3).bind (fun r2 => bwt b r2 (fun _ => rdX u 9 x3 (fun ra3 => bsh b r2 ra3 (fun b4 => k33 u b4 (x3 + 1))))))))
set_option maxRecDepth 100000 in
set_option maxHeartbeats 4000000 in
theorem kX4_giveBack_33 {l : Launch} {D : va_G} {cI cO cR : ClassId} {q : Nat → Nat} {t0 : Nat} {G : Gx} {N : Nat} {rr : (USt × BSt)} (C : jC l rmX4_giveBack D (tX cI cO cR) G cX4_giveBack 4 RX4) (hR : jR D (tX cI cO cR) G (0, 0) none none (wX cI cO cR q t0 rr.1 rr.2)) (k33 : USt → BSt → Int32 → Option (USt × BSt)) (K33 : ∀ (u : USt) (b : BSt) (x3 : Int32), k33 u b x3 = some rr → J l rmX4_giveBack D G (0, 0) (wX cI cO cR q t0 u b) [(0, .ref (q 8)), (1, .ref (q 5)), (2, .ref (q 6)), (3, .int x3)] [] 33) (u : USt) (b : BSt) (x3 : Int32) (hm : mX4_giveBack_33 N k33 u b x3 = some rr) : J l rmX4_giveBack D G (0, 0) (wX cI cO cR q t0 u b) [(0, .ref (q 8)), (1, .ref (q 5)), (2, .ref (q 6)), (3, .int x3)] [] 33 := by
  unfold mX4_giveBack_33 at hm
  refine j_iload_n C dX4_giveBack_33 rfl 3 rfl ?_
  refine j_aload_n C dX4_giveBack_34 rfl 1 rfl ?_
  refine j_bind hm (fun r1 hr1 hm => ?_)
  refine j_callV (cs' := (0, 0)) (As := []) (rest := [.int x3]) C (qJx4a65c_size_8abf5 hr1) w2_74 w4_129 w2_72 w2_73 w1_6 wd_Jx4a65c_size_8abf5 ⟨by decide, by decide⟩ 5 rfl rfl rfl (Nat.le_of_ble_eq_true rfl) dX4_giveBack_35 ⟨by decide, by decide⟩ rfl rfl ?_
  refine j_icmp_geq (tgt := 70) C dX4_giveBack_38 (by decide) hm (fun hm => ?_) (fun hm => ?_)
  · exact J.sub [0, 2] rfl (kX4_giveBack_70 C hR u b hm)
  · refine j_iload_n C dX4_giveBack_41 rfl 3 rfl ?_
    refine j_bipush (v := 10) C dX4_giveBack_42 (by decide) ?_
    refine j_icmp_geq (tgt := 70) C dX4_giveBack_44 (by decide) hm (fun hm => ?_) (fun hm => ?_)
    · exact J.sub [0, 2] rfl (kX4_giveBack_70 C hR u b hm)
    · refine j_aload_n C dX4_giveBack_47 rfl 1 rfl ?_
      refine j_iload_n C dX4_giveBack_48 rfl 3 rfl ?_
      refine j_bind hm (fun r2 hr2 hm => ?_)
      refine j_callV (cs' := (0, 0)) (As := [.int x3]) (rest := []) C (qJx4a65c_get_915e3 hr2) w2_234 w4_131 w2_232 w2_233 w1_6 wd_Jx4a65c_get_915e3 ⟨by decide, by decide⟩ 5 rfl rfl rfl (Nat.le_of_ble_eq_true rfl) dX4_giveBack_49 ⟨by decide, by decide⟩ rfl rfl ?_
      refine jX_cast C w4_132 w6_67 w6_68 w6_69 dX4_giveBack_52 hm (fun hm => ?_)
      refine j_aload_n C dX4_giveBack_55 rfl 0 rfl ?_
      refine jX_g8_0_X4 C dX4_giveBack_56 ?_
      refine j_iload_n C dX4_giveBack_59 rfl 3 rfl ?_
      refine jX_L C dX4_giveBack_60 hm (fun ra3 hm => ?_)
      refine jX_bp5 C w2_120 dX4_giveBack_61 hm (fun b4 hm => ?_)
      refine j_iinc (v := (x3 + 1)) C dX4_giveBack_64 3 rfl rfl (by decide) rfl ?_
      refine j_goto (tgt := 33) C dX4_giveBack_67 (by decide) ?_
      exact J.sub [1, 2, 3, 0] rfl (K33 u b4 (x3 + 1) hm)
def mX4_giveBack_h33 (N : Nat) : Nat → USt → BSt → Int32 → Option (USt × BSt)
  | 0, _, _, _ => none
  | n + 1, u, b, x3 => mX4_giveBack_33 N (mX4_giveBack_h33 N n) u b x3
theorem kX4_giveBack_h33 {l : Launch} {D : va_G} {cI cO cR : ClassId} {q : Nat → Nat} {t0 : Nat} {G : Gx} {N : Nat} {rr : (USt × BSt)} (C : jC l rmX4_giveBack D (tX cI cO cR) G cX4_giveBack 4 RX4) (hR : jR D (tX cI cO cR) G (0, 0) none none (wX cI cO cR q t0 rr.1 rr.2))  : ∀ (n : Nat) (u : USt) (b : BSt) (x3 : Int32), mX4_giveBack_h33 N n u b x3 = some rr → J l rmX4_giveBack D G (0, 0) (wX cI cO cR q t0 u b) [(0, .ref (q 8)), (1, .ref (q 5)), (2, .ref (q 6)), (3, .int x3)] [] 33 := by
  intro n
  induction n with
  | zero =>
    intro u b x3 hm
    have hm : (none : Option (USt × BSt)) = some rr := hm
    cases hm
  | succ n ih =>
    intro u b x3 hm
    exact kX4_giveBack_33 C hR _ ih u b x3 hm
def mX4_giveBack_31 (N : Nat) (u : USt) (b : BSt) : Option (USt × BSt) := mX4_giveBack_h33 N N u b 0
set_option maxRecDepth 100000 in
set_option maxHeartbeats 4000000 in
theorem kX4_giveBack_31 {l : Launch} {D : va_G} {cI cO cR : ClassId} {q : Nat → Nat} {t0 : Nat} {G : Gx} {N : Nat} {rr : (USt × BSt)} (C : jC l rmX4_giveBack D (tX cI cO cR) G cX4_giveBack 4 RX4) (hR : jR D (tX cI cO cR) G (0, 0) none none (wX cI cO cR q t0 rr.1 rr.2))  (u : USt) (b : BSt) (hm : mX4_giveBack_31 N u b = some rr) : J l rmX4_giveBack D G (0, 0) (wX cI cO cR q t0 u b) [(0, .ref (q 8)), (1, .ref (q 5)), (2, .ref (q 6))] [] 31 := by
  unfold mX4_giveBack_31 at hm
  refine j_iconst (v := 0) C dX4_giveBack_31 (by decide) ?_
  refine j_istore_n C dX4_giveBack_32 rfl (by decide) rfl ?_
  exact J.sub [1, 2, 3, 0] rfl (kX4_giveBack_h33 C hR N u b 0 hm)
def mX4_giveBack_7 (N : Nat) (k7 : USt → BSt → Int32 → Option (USt × BSt)) (u : USt) (b : BSt) (x3 : Int32) : Option (USt × BSt) := if x3 < 0 then (mX4_giveBack_31 N u b) else (nm (u.1 12) (fun f1 => if x3 < f1 then (mX4_giveBack_31 N u b) else (bt3 (mJx4a65c_remove_915e3 N u b x3) (fun r2 u3 b4 => k7 u3 b4 (x3 + (-1))))))
set_option maxRecDepth 100000 in
set_option maxHeartbeats 4000000 in
theorem kX4_giveBack_7 {l : Launch} {D : va_G} {cI cO cR : ClassId} {q : Nat → Nat} {t0 : Nat} {G : Gx} {N : Nat} {rr : (USt × BSt)} (C : jC l rmX4_giveBack D (tX cI cO cR) G cX4_giveBack 4 RX4) (hR : jR D (tX cI cO cR) G (0, 0) none none (wX cI cO cR q t0 rr.1 rr.2)) (k7 : USt → BSt → Int32 → Option (USt × BSt)) (K7 : ∀ (u : USt) (b : BSt) (x3 : Int32), k7 u b x3 = some rr → J l rmX4_giveBack D G (0, 0) (wX cI cO cR q t0 u b) [(0, .ref (q 8)), (1, .ref (q 5)), (2, .ref (q 6)), (3, .int x3)] [] 7) (u : USt) (b : BSt) (x3 : Int32) (hm : mX4_giveBack_7 N k7 u b x3 = some rr) : J l rmX4_giveBack D G (0, 0) (wX cI cO cR q t0 u b) [(0, .ref (q 8)), (1, .ref (q 5)), (2, .ref (q 6)), (3, .int x3)] [] 7 := by
  unfold mX4_giveBack_7 at hm
  refine j_iload_n C dX4_giveBack_7 rfl 3 rfl ?_
  refine j_if_ltq (tgt := 31) C dX4_giveBack_8 (by decide) hm (fun hm => ?_) (fun hm => ?_)
  · exact J.sub [0, 1, 2] rfl (kX4_giveBack_31 C hR u b hm)
  · refine j_iload_n C dX4_giveBack_11 rfl 3 rfl ?_
    refine j_aload_n C dX4_giveBack_12 rfl 0 rfl ?_
    refine jX_g8_2_X4 C dX4_giveBack_13 ?_
    refine j_nmi hm (fun f1 hm => ?_)
    refine j_icmp_ltq (tgt := 31) C dX4_giveBack_16 (by decide) hm (fun hm => ?_) (fun hm => ?_)
    · exact J.sub [0, 1, 2] rfl (kX4_giveBack_31 C hR u b hm)
    · refine j_aload_n C dX4_giveBack_19 rfl 1 rfl ?_
      refine j_iload_n C dX4_giveBack_20 rfl 3 rfl ?_
      refine j_bind3 hm (fun r2 u3 b4 hr2 hm => ?_)
      refine j_callV (cs' := (0, 0)) (As := [.int x3]) (rest := []) C (qJx4a65c_remove_915e3 hr2) w4_153 w4_150 w4_151 w4_152 w1_6 wd_Jx4a65c_remove_915e3 ⟨by decide, by decide⟩ 5 rfl rfl rfl (Nat.le_of_ble_eq_true rfl) dX4_giveBack_21 ⟨by decide, by decide⟩ rfl rfl ?_
      refine j_pop C dX4_giveBack_24 rfl ?_
      refine j_iinc (v := (x3 + (-1))) C dX4_giveBack_25 3 rfl rfl (by decide) rfl ?_
      refine j_goto (tgt := 7) C dX4_giveBack_28 (by decide) ?_
      exact J.sub [1, 2, 3, 0] rfl (K7 u3 b4 (x3 + (-1)) hm)
def mX4_giveBack_h7 (N : Nat) : Nat → USt → BSt → Int32 → Option (USt × BSt)
  | 0, _, _, _ => none
  | n + 1, u, b, x3 => mX4_giveBack_7 N (mX4_giveBack_h7 N n) u b x3
theorem kX4_giveBack_h7 {l : Launch} {D : va_G} {cI cO cR : ClassId} {q : Nat → Nat} {t0 : Nat} {G : Gx} {N : Nat} {rr : (USt × BSt)} (C : jC l rmX4_giveBack D (tX cI cO cR) G cX4_giveBack 4 RX4) (hR : jR D (tX cI cO cR) G (0, 0) none none (wX cI cO cR q t0 rr.1 rr.2))  : ∀ (n : Nat) (u : USt) (b : BSt) (x3 : Int32), mX4_giveBack_h7 N n u b x3 = some rr → J l rmX4_giveBack D G (0, 0) (wX cI cO cR q t0 u b) [(0, .ref (q 8)), (1, .ref (q 5)), (2, .ref (q 6)), (3, .int x3)] [] 7 := by
  intro n
  induction n with
  | zero =>
    intro u b x3 hm
    have hm : (none : Option (USt × BSt)) = some rr := hm
    cases hm
  | succ n ih =>
    intro u b x3 hm
    exact kX4_giveBack_7 C hR _ ih u b x3 hm
def mX4_giveBack (N : Nat) (u : USt) (b : BSt) : Option (USt × BSt) := (mJx4a65c_size_8abf5 N u).bind (fun r1 => nm (r1 - 1) (fun v2 => mX4_giveBack_h7 N N u b v2))
set_option maxRecDepth 100000 in
set_option maxHeartbeats 4000000 in
theorem qX4_giveBack {l : Launch} {D : va_G} {cI cO cR : ClassId} {q : Nat → Nat} {t0 : Nat} {u : USt} {b : BSt} {N : Nat}  {rr : (USt × BSt)} (hm : mX4_giveBack N u b = some rr) : Con l D (tX cI cO cR) yX4_giveBack (wS yX4_giveBack cX4_giveBack 4 none) rmX4_giveBack [.ref (q 8), .ref (q 5), .ref (q 6)] (wX cI cO cR q t0 u b) none (wX cI cO cR q t0 rr.1 rr.2) := by
  refine Con.of (by decide +kernel) (Nat.le_of_ble_eq_true rfl) (fun G C hR => ?_)
  unfold mX4_giveBack at hm
  show J l rmX4_giveBack D G (0, 0) (wX cI cO cR q t0 u b) [(0, .ref (q 8)), (1, .ref (q 5)), (2, .ref (q 6))] [] 0
  refine j_aload_n C dX4_giveBack_0 rfl 1 rfl ?_
  refine j_bind hm (fun r1 hr1 hm => ?_)
  refine j_callV (cs' := (0, 0)) (As := []) (rest := []) C (qJx4a65c_size_8abf5 hr1) w2_74 w4_129 w2_72 w2_73 w1_6 wd_Jx4a65c_size_8abf5 ⟨by decide, by decide⟩ 5 rfl rfl rfl (Nat.le_of_ble_eq_true rfl) dX4_giveBack_1 ⟨by decide, by decide⟩ rfl rfl ?_
  refine j_iconst (v := 1) C dX4_giveBack_4 (by decide) ?_
  refine j_isub C dX4_giveBack_5 ?_
  refine j_nmi hm (fun v2 hm => ?_)
  refine j_istore_n C dX4_giveBack_6 rfl (by decide) rfl ?_
  exact J.sub [1, 2, 3, 0] rfl (kX4_giveBack_h7 C hR N u b v2 hm)
def rmX5_size_6 : Room := { frames := 0, cells := 0, slots := 0, locals := 0 }
theorem wd_X5_size : yX5_size.cls ≠ "java/lang/invoke/MethodHandle" ∧ yX5_size.cls ≠ "java/lang/invoke/VarHandle" ∧ (parseMethodDescriptor yX5_size.desc).map (fun d => d.parameters.length) = some 0 := by decide +kernel
def mX5_size_6 (N : Nat) (u : USt) : Option Int32 := some (u.1 11)
set_option maxRecDepth 100000 in
set_option maxHeartbeats 4000000 in
theorem qX5_size_6 {l : Launch} {D : va_G} {cI cO cR : ClassId} {q : Nat → Nat} {t0 : Nat} {u : USt} {b : BSt} {N : Nat}  {rr : Int32} (hm : mX5_size_6 N u = some rr) : Con l D (tX cI cO cR) yX5_size (wS yX5_size cX5_size 1 (some .int)) rmX5_size_6 [.ref (q 6)] (wX cI cO cR q t0 u b) (some (.int rr)) (wX cI cO cR q t0 u b) := by
  refine Con.of (by decide +kernel) (Nat.le_of_ble_eq_true rfl) (fun G C hR => ?_)
  unfold mX5_size_6 at hm
  show J l rmX5_size_6 D G (0, 0) (wX cI cO cR q t0 u b) [(0, .ref (q 6))] [] 0
  refine j_aload_n C dX5_size_0 rfl 0 rfl ?_
  refine jX_g6_1_X5 C dX5_size_1 ?_
  cases hm
  exact j_iret C hR dX5_size_4
def rmX5_isFull_6 : Room := { frames := 0, cells := 0, slots := 0, locals := 0 }
theorem wd_X5_isFull : yX5_isFull.cls ≠ "java/lang/invoke/MethodHandle" ∧ yX5_isFull.cls ≠ "java/lang/invoke/VarHandle" ∧ (parseMethodDescriptor yX5_isFull.desc).map (fun d => d.parameters.length) = some 0 := by decide +kernel
def mX5_isFull_6_14 (N : Nat) (u : USt) (s0 : Int32) : Option Int32 := gd (s0 = 0 ∨ s0 = 1) (some s0)
set_option maxRecDepth 100000 in
set_option maxHeartbeats 4000000 in
theorem kX5_isFull_6_14 {l : Launch} {D : va_G} {cI cO cR : ClassId} {q : Nat → Nat} {t0 : Nat} {u : USt} {b : BSt} {G : Gx} {N : Nat} {rr : Int32} (C : jC l rmX5_isFull_6 D (tX cI cO cR) G cX5_isFull 1 RX5) (hR : jR D (tX cI cO cR) G (0, 0) (some .boolean) (some (.int rr)) (wX cI cO cR q t0 u b))  (s0 : Int32) (hm : mX5_isFull_6_14 N u s0 = some rr) : J l rmX5_isFull_6 D G (0, 0) (wX cI cO cR q t0 u b) [] [.int s0] 14 := by
  unfold mX5_isFull_6_14 at hm
  obtain ⟨g, hm⟩ := gd_some hm
  cases hm
  exact j_zret C hR (jz01 g) dX5_isFull_14
def mX5_isFull_6 (N : Nat) (u : USt) : Option Int32 := if (u.1 11) < 6 then (mX5_isFull_6_14 N u 0) else (mX5_isFull_6_14 N u 1)
set_option maxRecDepth 100000 in
set_option maxHeartbeats 4000000 in
theorem qX5_isFull_6 {l : Launch} {D : va_G} {cI cO cR : ClassId} {q : Nat → Nat} {t0 : Nat} {u : USt} {b : BSt} {N : Nat}  {rr : Int32} (hm : mX5_isFull_6 N u = some rr) : Con l D (tX cI cO cR) yX5_isFull (wS yX5_isFull cX5_isFull 1 (some .boolean)) rmX5_isFull_6 [.ref (q 6)] (wX cI cO cR q t0 u b) (some (.int rr)) (wX cI cO cR q t0 u b) := by
  refine Con.of (by decide +kernel) (Nat.le_of_ble_eq_true rfl) (fun G C hR => ?_)
  unfold mX5_isFull_6 at hm
  show J l rmX5_isFull_6 D G (0, 0) (wX cI cO cR q t0 u b) [(0, .ref (q 6))] [] 0
  refine j_aload_n C dX5_isFull_0 rfl 0 rfl ?_
  refine jX_g6_1_X5 C dX5_isFull_1 ?_
  refine j_bipush (v := 6) C dX5_isFull_4 (by decide) ?_
  refine j_icmp_ltq (tgt := 13) C dX5_isFull_6 (by decide) hm (fun hm => ?_) (fun hm => ?_)
  · refine j_iconst (v := 0) C dX5_isFull_13 (by decide) ?_
    exact J.sub [] rfl (kX5_isFull_6_14 C hR 0 hm)
  · refine j_iconst (v := 1) C dX5_isFull_9 (by decide) ?_
    refine j_goto (tgt := 14) C dX5_isFull_10 (by decide) ?_
    exact J.sub [] rfl (kX5_isFull_6_14 C hR 1 hm)
def rmX5_add_6 : Room := { frames := 1, cells := 0, slots := 0, locals := 20 }
theorem wd_X5_add : yX5_add.cls ≠ "java/lang/invoke/MethodHandle" ∧ yX5_add.cls ≠ "java/lang/invoke/VarHandle" ∧ (parseMethodDescriptor yX5_add.desc).map (fun d => d.parameters.length) = some 4 := by decide +kernel
def mX5_add_6 (N : Nat) (u : USt) (x1 : Int32) (x2 : Int32) (x3 : Int32) (x4 : Int32) : Option (Int32 × USt) := (mX5_isFull_6 N u).bind (fun r1 => if r1 = 0 then (nm (u.1 11) (fun f2 => nm (f2 * 4) (fun v3 => wrX 7 (v3 + 0) (fun i4 => nm (saX u 7 i4 x1) (fun u5 => wrX 7 (v3 + 1) (fun i6 => nm (saX u5 7 i6 x2) (fun u7 => wrX 7 (v3 + 2) (fun i8 => nm (saX u7 7 i8 x3) (fun u9 => wrX 7 (v3 + 3) (fun i10 => nm (saX u9 7 i10 x4) (fun u11 => nm (u11.1 11) (fun f12 => nm (siX u11 11 (f12 + 1)) (fun u13 => nm (u13.1 11) (fun f14 => some (f14, u13))))))))))))))) else (nm (u.1 11) (fun f15 => some (f15, u))))
set_option maxRecDepth 100000 in
set_option maxHeartbeats 4000000 in
theorem qX5_add_6 {l : Launch} {D : va_G} {cI cO cR : ClassId} {q : Nat → Nat} {t0 : Nat} {u : USt} {b : BSt} {N : Nat} {x1 : Int32} {x2 : Int32} {x3 : Int32} {x4 : Int32} {rr : (Int32 × USt)} (hm : mX5_add_6 N u x1 x2 x3 x4 = some rr) : Con l D (tX cI cO cR) yX5_add (wS yX5_add cX5_add 6 (some .int)) rmX5_add_6 [.ref (q 6), .int x1, .int x2, .int x3, .int x4] (wX cI cO cR q t0 u b) (some (.int rr.1)) (wX cI cO cR q t0 rr.2 b) := by
  refine Con.of (by decide +kernel) (Nat.le_of_ble_eq_true rfl) (fun G C hR => ?_)
  unfold mX5_add_6 at hm
  show J l rmX5_add_6 D G (0, 0) (wX cI cO cR q t0 u b) [(0, .ref (q 6)), (1, .int x1), (2, .int x2), (3, .int x3), (4, .int x4)] [] 0
  refine j_aload_n C dX5_add_0 rfl 0 rfl ?_
  refine j_bind hm (fun r1 hr1 hm => ?_)
  refine j_callV (cs' := (0, 0)) (As := []) (rest := []) C (qX5_isFull_6 hr1) w4_80 w4_85 w4_78 w4_79 w1_7 wd_X5_isFull ⟨by decide, by decide⟩ 6 rfl rfl rfl (Nat.le_of_ble_eq_true rfl) dX5_add_1 ⟨by decide, by decide⟩ rfl rfl ?_
  refine j_if_eqq (tgt := 12) C dX5_add_4 (by decide) hm (fun hm => ?_) (fun hm => ?_)
  · refine j_aload_n C dX5_add_12 rfl 0 rfl ?_
    refine jX_g6_1_X5 C dX5_add_13 ?_
    refine j_nmi hm (fun f2 hm => ?_)
    refine j_iconst (v := 4) C dX5_add_16 (by decide) ?_
    refine j_imul C dX5_add_17 ?_
    refine j_nmi hm (fun v3 hm => ?_)
    refine j_istore C dX5_add_18 (by decide) rfl ?_
    refine j_aload_n C dX5_add_20 rfl 1 rfl ?_
    refine jX_g6_0_X5 C dX5_add_21 ?_
    refine j_iload C dX5_add_24 0 rfl ?_
    refine j_iconst (v := 0) C dX5_add_26 (by decide) ?_
    refine j_iadd C dX5_add_27 ?_
    refine j_iload_n C dX5_add_28 rfl 2 rfl ?_
    refine jX_S C dX5_add_29 hm (fun u5 hm => ?_)
    refine j_aload_n C dX5_add_30 rfl 1 rfl ?_
    refine jX_g6_0_X5 C dX5_add_31 ?_
    refine j_iload C dX5_add_34 0 rfl ?_
    refine j_iconst (v := 1) C dX5_add_36 (by decide) ?_
    refine j_iadd C dX5_add_37 ?_
    refine j_iload_n C dX5_add_38 rfl 3 rfl ?_
    refine jX_S C dX5_add_39 hm (fun u7 hm => ?_)
    refine j_aload_n C dX5_add_40 rfl 1 rfl ?_
    refine jX_g6_0_X5 C dX5_add_41 ?_
    refine j_iload C dX5_add_44 0 rfl ?_
    refine j_iconst (v := 2) C dX5_add_46 (by decide) ?_
    refine j_iadd C dX5_add_47 ?_
    refine j_iload_n C dX5_add_48 rfl 4 rfl ?_
    refine jX_S C dX5_add_49 hm (fun u9 hm => ?_)
    refine j_aload_n C dX5_add_50 rfl 1 rfl ?_
    refine jX_g6_0_X5 C dX5_add_51 ?_
    refine j_iload C dX5_add_54 0 rfl ?_
    refine j_iconst (v := 3) C dX5_add_56 (by decide) ?_
    refine j_iadd C dX5_add_57 ?_
    refine j_iload C dX5_add_58 5 rfl ?_
    refine jX_S C dX5_add_60 hm (fun u11 hm => ?_)
    refine j_aload_n C dX5_add_61 rfl 1 rfl ?_
    refine j_dup C dX5_add_62 rfl ?_
    refine jX_g6_1_X5 C dX5_add_63 ?_
    refine j_nmi hm (fun f12 hm => ?_)
    refine j_iconst (v := 1) C dX5_add_66 (by decide) ?_
    refine j_iadd C dX5_add_67 ?_
    refine jX_p6_1_X5 C dX5_add_68 ?_
    refine j_nmu hm (w := fun u => wX cI cO cR q t0 u b) (fun u13 hm => ?_)
    refine j_aload_n C dX5_add_71 rfl 1 rfl ?_
    refine jX_g6_1_X5 C dX5_add_72 ?_
    refine j_nmi hm (fun f14 hm => ?_)
    cases hm
    exact j_iret C hR dX5_add_75
  · refine j_aload_n C dX5_add_7 rfl 0 rfl ?_
    refine jX_g6_1_X5 C dX5_add_8 ?_
    refine j_nmi hm (fun f15 hm => ?_)
    cases hm
    exact j_iret C hR dX5_add_11
def rmX5_part_6 : Room := { frames := 0, cells := 0, slots := 0, locals := 0 }
theorem wd_X5_part : yX5_part.cls ≠ "java/lang/invoke/MethodHandle" ∧ yX5_part.cls ≠ "java/lang/invoke/VarHandle" ∧ (parseMethodDescriptor yX5_part.desc).map (fun d => d.parameters.length) = some 2 := by decide +kernel
def mX5_part_6_45 (N : Nat) (u : USt) (s0 : Int32) : Option Int32 := some s0
set_option maxRecDepth 100000 in
set_option maxHeartbeats 4000000 in
theorem kX5_part_6_45 {l : Launch} {D : va_G} {cI cO cR : ClassId} {q : Nat → Nat} {t0 : Nat} {u : USt} {b : BSt} {G : Gx} {N : Nat} {rr : Int32} (C : jC l rmX5_part_6 D (tX cI cO cR) G cX5_part 4 RX5) (hR : jR D (tX cI cO cR) G (0, 0) (some .int) (some (.int rr)) (wX cI cO cR q t0 u b))  (s0 : Int32) (hm : mX5_part_6_45 N u s0 = some rr) : J l rmX5_part_6 D G (0, 0) (wX cI cO cR q t0 u b) [] [.int s0] 45 := by
  unfold mX5_part_6_45 at hm
  cases hm
  exact j_iret C hR dX5_part_45
def mX5_part_6_26 (N : Nat) (u : USt) (x1 : Int32) (x2 : Int32) (s0 : Int32) : Option Int32 := if s0 = 0 then (mX5_part_6_45 N u (-1)) else (rdX u 7 ((x1 * 4) + x2) (fun ra1 => mX5_part_6_45 N u ra1))
set_option maxRecDepth 100000 in
set_option maxHeartbeats 4000000 in
theorem kX5_part_6_26 {l : Launch} {D : va_G} {cI cO cR : ClassId} {q : Nat → Nat} {t0 : Nat} {u : USt} {b : BSt} {G : Gx} {N : Nat} {rr : Int32} (C : jC l rmX5_part_6 D (tX cI cO cR) G cX5_part 4 RX5) (hR : jR D (tX cI cO cR) G (0, 0) (some .int) (some (.int rr)) (wX cI cO cR q t0 u b))  (x1 : Int32) (x2 : Int32) (s0 : Int32) (hm : mX5_part_6_26 N u x1 x2 s0 = some rr) : J l rmX5_part_6 D G (0, 0) (wX cI cO cR q t0 u b) [(0, .ref (q 6)), (1, .int x1), (2, .int x2)] [.int s0] 26 := by
  unfold mX5_part_6_26 at hm
  refine j_istore_n C dX5_part_26 rfl (by decide) rfl ?_
  refine j_iload_n C dX5_part_27 rfl 0 rfl ?_
  refine j_if_eqq (tgt := 44) C dX5_part_28 (by decide) hm (fun hm => ?_) (fun hm => ?_)
  · refine j_iconst (v := (-1)) C dX5_part_44 (by decide) ?_
    exact J.sub [] rfl (kX5_part_6_45 C hR (-1) hm)
  · refine j_aload_n C dX5_part_31 rfl 1 rfl ?_
    refine jX_g6_0_X5 C dX5_part_32 ?_
    refine j_iload_n C dX5_part_35 rfl 2 rfl ?_
    refine j_iconst (v := 4) C dX5_part_36 (by decide) ?_
    refine j_imul C dX5_part_37 ?_
    refine j_iload_n C dX5_part_38 rfl 3 rfl ?_
    refine j_iadd C dX5_part_39 ?_
    refine jX_L C dX5_part_40 hm (fun ra1 hm => ?_)
    refine j_goto (tgt := 45) C dX5_part_41 (by decide) ?_
    exact J.sub [] rfl (kX5_part_6_45 C hR ra1 hm)
def mX5_part_6_25 (N : Nat) (u : USt) (x1 : Int32) (x2 : Int32) : Option Int32 := mX5_part_6_26 N u x1 x2 0
set_option maxRecDepth 100000 in
set_option maxHeartbeats 4000000 in
theorem kX5_part_6_25 {l : Launch} {D : va_G} {cI cO cR : ClassId} {q : Nat → Nat} {t0 : Nat} {u : USt} {b : BSt} {G : Gx} {N : Nat} {rr : Int32} (C : jC l rmX5_part_6 D (tX cI cO cR) G cX5_part 4 RX5) (hR : jR D (tX cI cO cR) G (0, 0) (some .int) (some (.int rr)) (wX cI cO cR q t0 u b))  (x1 : Int32) (x2 : Int32) (hm : mX5_part_6_25 N u x1 x2 = some rr) : J l rmX5_part_6 D G (0, 0) (wX cI cO cR q t0 u b) [(0, .ref (q 6)), (1, .int x1), (2, .int x2)] [] 25 := by
  unfold mX5_part_6_25 at hm
  refine j_iconst (v := 0) C dX5_part_25 (by decide) ?_
  exact kX5_part_6_26 C hR x1 x2 0 hm
def mX5_part_6 (N : Nat) (u : USt) (x1 : Int32) (x2 : Int32) : Option Int32 := if x1 < 0 then (mX5_part_6_25 N u x1 x2) else (if (u.1 11) ≤ x1 then (mX5_part_6_25 N u x1 x2) else (if x2 < 0 then (mX5_part_6_25 N u x1 x2) else (if 4 ≤ x2 then (mX5_part_6_25 N u x1 x2) else (mX5_part_6_26 N u x1 x2 1))))
set_option maxRecDepth 100000 in
set_option maxHeartbeats 4000000 in
theorem qX5_part_6 {l : Launch} {D : va_G} {cI cO cR : ClassId} {q : Nat → Nat} {t0 : Nat} {u : USt} {b : BSt} {N : Nat} {x1 : Int32} {x2 : Int32} {rr : Int32} (hm : mX5_part_6 N u x1 x2 = some rr) : Con l D (tX cI cO cR) yX5_part (wS yX5_part cX5_part 4 (some .int)) rmX5_part_6 [.ref (q 6), .int x1, .int x2] (wX cI cO cR q t0 u b) (some (.int rr)) (wX cI cO cR q t0 u b) := by
  refine Con.of (by decide +kernel) (Nat.le_of_ble_eq_true rfl) (fun G C hR => ?_)
  unfold mX5_part_6 at hm
  show J l rmX5_part_6 D G (0, 0) (wX cI cO cR q t0 u b) [(0, .ref (q 6)), (1, .int x1), (2, .int x2)] [] 0
  refine j_iload_n C dX5_part_0 rfl 1 rfl ?_
  refine j_if_ltq (tgt := 25) C dX5_part_1 (by decide) hm (fun hm => ?_) (fun hm => ?_)
  · exact kX5_part_6_25 C hR x1 x2 hm
  · refine j_iload_n C dX5_part_4 rfl 1 rfl ?_
    refine j_aload_n C dX5_part_5 rfl 0 rfl ?_
    refine jX_g6_1_X5 C dX5_part_6 ?_
    refine j_icmp_geq (tgt := 25) C dX5_part_9 (by decide) hm (fun hm => ?_) (fun hm => ?_)
    · exact kX5_part_6_25 C hR x1 x2 hm
    · refine j_iload_n C dX5_part_12 rfl 2 rfl ?_
      refine j_if_ltq (tgt := 25) C dX5_part_13 (by decide) hm (fun hm => ?_) (fun hm => ?_)
      · exact kX5_part_6_25 C hR x1 x2 hm
      · refine j_iload_n C dX5_part_16 rfl 2 rfl ?_
        refine j_iconst (v := 4) C dX5_part_17 (by decide) ?_
        refine j_icmp_geq (tgt := 25) C dX5_part_18 (by decide) hm (fun hm => ?_) (fun hm => ?_)
        · exact kX5_part_6_25 C hR x1 x2 hm
        · refine j_iconst (v := 1) C dX5_part_21 (by decide) ?_
          refine j_goto (tgt := 26) C dX5_part_22 (by decide) ?_
          exact kX5_part_6_26 C hR x1 x2 1 hm
def rmX5_empty_6 : Room := { frames := 0, cells := 0, slots := 0, locals := 0 }
theorem wd_X5_empty : yX5_empty.cls ≠ "java/lang/invoke/MethodHandle" ∧ yX5_empty.cls ≠ "java/lang/invoke/VarHandle" ∧ (parseMethodDescriptor yX5_empty.desc).map (fun d => d.parameters.length) = some 0 := by decide +kernel
def mX5_empty_6 (N : Nat) (u : USt) : Option (Int32 × USt) := nm (u.1 11) (fun f1 => nm (siX u 11 0) (fun u2 => some (f1, u2)))
set_option maxRecDepth 100000 in
set_option maxHeartbeats 4000000 in
theorem qX5_empty_6 {l : Launch} {D : va_G} {cI cO cR : ClassId} {q : Nat → Nat} {t0 : Nat} {u : USt} {b : BSt} {N : Nat}  {rr : (Int32 × USt)} (hm : mX5_empty_6 N u = some rr) : Con l D (tX cI cO cR) yX5_empty (wS yX5_empty cX5_empty 2 (some .int)) rmX5_empty_6 [.ref (q 6)] (wX cI cO cR q t0 u b) (some (.int rr.1)) (wX cI cO cR q t0 rr.2 b) := by
  refine Con.of (by decide +kernel) (Nat.le_of_ble_eq_true rfl) (fun G C hR => ?_)
  unfold mX5_empty_6 at hm
  show J l rmX5_empty_6 D G (0, 0) (wX cI cO cR q t0 u b) [(0, .ref (q 6))] [] 0
  refine j_aload_n C dX5_empty_0 rfl 0 rfl ?_
  refine jX_g6_1_X5 C dX5_empty_1 ?_
  refine j_nmi hm (fun f1 hm => ?_)
  refine j_istore_n C dX5_empty_4 rfl (by decide) rfl ?_
  refine j_aload_n C dX5_empty_5 rfl 1 rfl ?_
  refine j_iconst (v := 0) C dX5_empty_6 (by decide) ?_
  refine jX_p6_1_X5 C dX5_empty_7 ?_
  refine j_nmu hm (w := fun u => wX cI cO cR q t0 u b) (fun u2 hm => ?_)
  refine j_iload_n C dX5_empty_10 rfl 0 rfl ?_
  cases hm
  exact j_iret C hR dX5_empty_11
def rmX6_size : Room := { frames := 0, cells := 0, slots := 0, locals := 0 }
theorem wd_X6_size : yX6_size.cls ≠ "java/lang/invoke/MethodHandle" ∧ yX6_size.cls ≠ "java/lang/invoke/VarHandle" ∧ (parseMethodDescriptor yX6_size.desc).map (fun d => d.parameters.length) = some 0 := by decide +kernel
def mX6_size (N : Nat) (u : USt) : Option Int32 := some (u.1 0)
set_option maxRecDepth 100000 in
set_option maxHeartbeats 4000000 in
theorem qX6_size {l : Launch} {D : va_G} {cI cO cR : ClassId} {q : Nat → Nat} {t0 : Nat} {u : USt} {b : BSt} {N : Nat}  {rr : Int32} (hm : mX6_size N u = some rr) : Con l D (tX cI cO cR) yX6_size (wS yX6_size cX6_size 1 (some .int)) rmX6_size [.ref (q 1)] (wX cI cO cR q t0 u b) (some (.int rr)) (wX cI cO cR q t0 u b) := by
  refine Con.of (by decide +kernel) (Nat.le_of_ble_eq_true rfl) (fun G C hR => ?_)
  unfold mX6_size at hm
  show J l rmX6_size D G (0, 0) (wX cI cO cR q t0 u b) [(0, .ref (q 1))] [] 0
  refine j_aload_n C dX6_size_0 rfl 0 rfl ?_
  refine jX_g1_1_X6 C dX6_size_1 ?_
  cases hm
  exact j_iret C hR dX6_size_4
def rmX6_hasRoom : Room := { frames := 0, cells := 0, slots := 0, locals := 0 }
theorem wd_X6_hasRoom : yX6_hasRoom.cls ≠ "java/lang/invoke/MethodHandle" ∧ yX6_hasRoom.cls ≠ "java/lang/invoke/VarHandle" ∧ (parseMethodDescriptor yX6_hasRoom.desc).map (fun d => d.parameters.length) = some 1 := by decide +kernel
def mX6_hasRoom_19 (N : Nat) (u : USt) (s0 : Int32) : Option Int32 := gd (s0 = 0 ∨ s0 = 1) (some s0)
set_option maxRecDepth 100000 in
set_option maxHeartbeats 4000000 in
theorem kX6_hasRoom_19 {l : Launch} {D : va_G} {cI cO cR : ClassId} {q : Nat → Nat} {t0 : Nat} {u : USt} {b : BSt} {G : Gx} {N : Nat} {rr : Int32} (C : jC l rmX6_hasRoom D (tX cI cO cR) G cX6_hasRoom 2 RX6) (hR : jR D (tX cI cO cR) G (0, 0) (some .boolean) (some (.int rr)) (wX cI cO cR q t0 u b))  (s0 : Int32) (hm : mX6_hasRoom_19 N u s0 = some rr) : J l rmX6_hasRoom D G (0, 0) (wX cI cO cR q t0 u b) [] [.int s0] 19 := by
  unfold mX6_hasRoom_19 at hm
  obtain ⟨g, hm⟩ := gd_some hm
  cases hm
  exact j_zret C hR (jz01 g) dX6_hasRoom_19
def mX6_hasRoom (N : Nat) (u : USt) (x1 : Int32) : Option Int32 := alX 2 (fun n1 => if n1 < ((u.1 0) + x1) then (mX6_hasRoom_19 N u 0) else (mX6_hasRoom_19 N u 1))
set_option maxRecDepth 100000 in
set_option maxHeartbeats 4000000 in
theorem qX6_hasRoom {l : Launch} {D : va_G} {cI cO cR : ClassId} {q : Nat → Nat} {t0 : Nat} {u : USt} {b : BSt} {N : Nat} {x1 : Int32} {rr : Int32} (hm : mX6_hasRoom N u x1 = some rr) : Con l D (tX cI cO cR) yX6_hasRoom (wS yX6_hasRoom cX6_hasRoom 2 (some .boolean)) rmX6_hasRoom [.ref (q 1), .int x1] (wX cI cO cR q t0 u b) (some (.int rr)) (wX cI cO cR q t0 u b) := by
  refine Con.of (by decide +kernel) (Nat.le_of_ble_eq_true rfl) (fun G C hR => ?_)
  unfold mX6_hasRoom at hm
  show J l rmX6_hasRoom D G (0, 0) (wX cI cO cR q t0 u b) [(0, .ref (q 1)), (1, .int x1)] [] 0
  refine j_aload_n C dX6_hasRoom_0 rfl 0 rfl ?_
  refine jX_g1_1_X6 C dX6_hasRoom_1 ?_
  refine j_iload_n C dX6_hasRoom_4 rfl 1 rfl ?_
  refine j_iadd C dX6_hasRoom_5 ?_
  refine j_aload_n C dX6_hasRoom_6 rfl 0 rfl ?_
  refine jX_g1_0_X6 C dX6_hasRoom_7 ?_
  refine jX_len C dX6_hasRoom_10 hm (fun n1 hm => ?_)
  refine j_icmp_gtq (tgt := 18) C dX6_hasRoom_11 (by decide) hm (fun hm => ?_) (fun hm => ?_)
  · refine j_iconst (v := 0) C dX6_hasRoom_18 (by decide) ?_
    exact J.sub [] rfl (kX6_hasRoom_19 C hR 0 hm)
  · refine j_iconst (v := 1) C dX6_hasRoom_14 (by decide) ?_
    refine j_goto (tgt := 19) C dX6_hasRoom_15 (by decide) ?_
    exact J.sub [] rfl (kX6_hasRoom_19 C hR 1 hm)
def rmX6_append : Room := { frames := 0, cells := 0, slots := 0, locals := 0 }
theorem wd_X6_append : yX6_append.cls ≠ "java/lang/invoke/MethodHandle" ∧ yX6_append.cls ≠ "java/lang/invoke/VarHandle" ∧ (parseMethodDescriptor yX6_append.desc).map (fun d => d.parameters.length) = some 1 := by decide +kernel
def mX6_append_29 (N : Nat) (u : USt) : Option USt := some u
set_option maxRecDepth 100000 in
set_option maxHeartbeats 4000000 in
theorem kX6_append_29 {l : Launch} {D : va_G} {cI cO cR : ClassId} {q : Nat → Nat} {t0 : Nat} {b : BSt} {G : Gx} {N : Nat} {rr : USt} (C : jC l rmX6_append D (tX cI cO cR) G cX6_append 2 RX6) (hR : jR D (tX cI cO cR) G (0, 0) none none (wX cI cO cR q t0 rr b))  (u : USt) (hm : mX6_append_29 N u = some rr) : J l rmX6_append D G (0, 0) (wX cI cO cR q t0 u b) [] [] 29 := by
  unfold mX6_append_29 at hm
  cases hm
  exact j_vret C hR dX6_append_29
def mX6_append (N : Nat) (u : USt) (x1 : Int32) : Option USt := nm (u.1 0) (fun f1 => alX 2 (fun n2 => if n2 ≤ f1 then (mX6_append_29 N u) else (nm (u.1 0) (fun f3 => nm (siX u 0 (f3 + 1)) (fun u4 => wrX 2 f3 (fun i5 => nm (saX u4 2 i5 x1) (fun u6 => mX6_append_29 N u6)))))))
set_option maxRecDepth 100000 in
set_option maxHeartbeats 4000000 in
theorem qX6_append {l : Launch} {D : va_G} {cI cO cR : ClassId} {q : Nat → Nat} {t0 : Nat} {u : USt} {b : BSt} {N : Nat} {x1 : Int32} {rr : USt} (hm : mX6_append N u x1 = some rr) : Con l D (tX cI cO cR) yX6_append (wS yX6_append cX6_append 2 none) rmX6_append [.ref (q 1), .int x1] (wX cI cO cR q t0 u b) none (wX cI cO cR q t0 rr b) := by
  refine Con.of (by decide +kernel) (Nat.le_of_ble_eq_true rfl) (fun G C hR => ?_)
  unfold mX6_append at hm
  show J l rmX6_append D G (0, 0) (wX cI cO cR q t0 u b) [(0, .ref (q 1)), (1, .int x1)] [] 0
  refine j_aload_n C dX6_append_0 rfl 0 rfl ?_
  refine jX_g1_1_X6 C dX6_append_1 ?_
  refine j_nmi hm (fun f1 hm => ?_)
  refine j_aload_n C dX6_append_4 rfl 0 rfl ?_
  refine jX_g1_0_X6 C dX6_append_5 ?_
  refine jX_len C dX6_append_8 hm (fun n2 hm => ?_)
  refine j_icmp_geq (tgt := 29) C dX6_append_9 (by decide) hm (fun hm => ?_) (fun hm => ?_)
  · exact J.sub [] rfl (kX6_append_29 C hR u hm)
  · refine j_aload_n C dX6_append_12 rfl 0 rfl ?_
    refine jX_g1_0_X6 C dX6_append_13 ?_
    refine j_aload_n C dX6_append_16 rfl 0 rfl ?_
    refine j_dup C dX6_append_17 rfl ?_
    refine jX_g1_1_X6 C dX6_append_18 ?_
    refine j_nmi hm (fun f3 hm => ?_)
    refine j_dup_x1 C dX6_append_21 rfl rfl ?_
    refine j_iconst (v := 1) C dX6_append_22 (by decide) ?_
    refine j_iadd C dX6_append_23 ?_
    refine jX_p1_1_X6 C dX6_append_24 ?_
    refine j_nmu hm (w := fun u => wX cI cO cR q t0 u b) (fun u4 hm => ?_)
    refine j_iload_n C dX6_append_27 rfl 1 rfl ?_
    refine jX_S C dX6_append_28 hm (fun u6 hm => ?_)
    exact J.sub [] rfl (kX6_append_29 C hR u6 hm)
def rmX6_empty : Room := { frames := 0, cells := 0, slots := 0, locals := 0 }
theorem wd_X6_empty : yX6_empty.cls ≠ "java/lang/invoke/MethodHandle" ∧ yX6_empty.cls ≠ "java/lang/invoke/VarHandle" ∧ (parseMethodDescriptor yX6_empty.desc).map (fun d => d.parameters.length) = some 0 := by decide +kernel
def mX6_empty (N : Nat) (u : USt) : Option (Int32 × USt) := nm (u.1 0) (fun f1 => nm (siX u 0 0) (fun u2 => some (f1, u2)))
set_option maxRecDepth 100000 in
set_option maxHeartbeats 4000000 in
theorem qX6_empty {l : Launch} {D : va_G} {cI cO cR : ClassId} {q : Nat → Nat} {t0 : Nat} {u : USt} {b : BSt} {N : Nat}  {rr : (Int32 × USt)} (hm : mX6_empty N u = some rr) : Con l D (tX cI cO cR) yX6_empty (wS yX6_empty cX6_empty 2 (some .int)) rmX6_empty [.ref (q 1)] (wX cI cO cR q t0 u b) (some (.int rr.1)) (wX cI cO cR q t0 rr.2 b) := by
  refine Con.of (by decide +kernel) (Nat.le_of_ble_eq_true rfl) (fun G C hR => ?_)
  unfold mX6_empty at hm
  show J l rmX6_empty D G (0, 0) (wX cI cO cR q t0 u b) [(0, .ref (q 1))] [] 0
  refine j_aload_n C dX6_empty_0 rfl 0 rfl ?_
  refine jX_g1_1_X6 C dX6_empty_1 ?_
  refine j_nmi hm (fun f1 hm => ?_)
  refine j_istore_n C dX6_empty_4 rfl (by decide) rfl ?_
  refine j_aload_n C dX6_empty_5 rfl 1 rfl ?_
  refine j_iconst (v := 0) C dX6_empty_6 (by decide) ?_
  refine jX_p1_1_X6 C dX6_empty_7 ?_
  refine j_nmu hm (w := fun u => wX cI cO cR q t0 u b) (fun u2 hm => ?_)
  refine j_iload_n C dX6_empty_10 rfl 0 rfl ?_
  cases hm
  exact j_iret C hR dX6_empty_11
def rmX6_codeAt : Room := { frames := 0, cells := 0, slots := 0, locals := 0 }
theorem wd_X6_codeAt : yX6_codeAt.cls ≠ "java/lang/invoke/MethodHandle" ∧ yX6_codeAt.cls ≠ "java/lang/invoke/VarHandle" ∧ (parseMethodDescriptor yX6_codeAt.desc).map (fun d => d.parameters.length) = some 1 := by decide +kernel
def mX6_codeAt_22 (N : Nat) (u : USt) (s0 : Int32) : Option Int32 := some s0
set_option maxRecDepth 100000 in
set_option maxHeartbeats 4000000 in
theorem kX6_codeAt_22 {l : Launch} {D : va_G} {cI cO cR : ClassId} {q : Nat → Nat} {t0 : Nat} {u : USt} {b : BSt} {G : Gx} {N : Nat} {rr : Int32} (C : jC l rmX6_codeAt D (tX cI cO cR) G cX6_codeAt 2 RX6) (hR : jR D (tX cI cO cR) G (0, 0) (some .int) (some (.int rr)) (wX cI cO cR q t0 u b))  (s0 : Int32) (hm : mX6_codeAt_22 N u s0 = some rr) : J l rmX6_codeAt D G (0, 0) (wX cI cO cR q t0 u b) [] [.int s0] 22 := by
  unfold mX6_codeAt_22 at hm
  cases hm
  exact j_iret C hR dX6_codeAt_22
def mX6_codeAt_21 (N : Nat) (u : USt) : Option Int32 := mX6_codeAt_22 N u 0
set_option maxRecDepth 100000 in
set_option maxHeartbeats 4000000 in
theorem kX6_codeAt_21 {l : Launch} {D : va_G} {cI cO cR : ClassId} {q : Nat → Nat} {t0 : Nat} {u : USt} {b : BSt} {G : Gx} {N : Nat} {rr : Int32} (C : jC l rmX6_codeAt D (tX cI cO cR) G cX6_codeAt 2 RX6) (hR : jR D (tX cI cO cR) G (0, 0) (some .int) (some (.int rr)) (wX cI cO cR q t0 u b))   (hm : mX6_codeAt_21 N u = some rr) : J l rmX6_codeAt D G (0, 0) (wX cI cO cR q t0 u b) [] [] 21 := by
  unfold mX6_codeAt_21 at hm
  refine j_iconst (v := 0) C dX6_codeAt_21 (by decide) ?_
  exact kX6_codeAt_22 C hR 0 hm
def mX6_codeAt (N : Nat) (u : USt) (x1 : Int32) : Option Int32 := if x1 < 0 then (mX6_codeAt_21 N u) else (if (u.1 0) ≤ x1 then (mX6_codeAt_21 N u) else (rdX u 2 x1 (fun ra1 => mX6_codeAt_22 N u ra1)))
set_option maxRecDepth 100000 in
set_option maxHeartbeats 4000000 in
theorem qX6_codeAt {l : Launch} {D : va_G} {cI cO cR : ClassId} {q : Nat → Nat} {t0 : Nat} {u : USt} {b : BSt} {N : Nat} {x1 : Int32} {rr : Int32} (hm : mX6_codeAt N u x1 = some rr) : Con l D (tX cI cO cR) yX6_codeAt (wS yX6_codeAt cX6_codeAt 2 (some .int)) rmX6_codeAt [.ref (q 1), .int x1] (wX cI cO cR q t0 u b) (some (.int rr)) (wX cI cO cR q t0 u b) := by
  refine Con.of (by decide +kernel) (Nat.le_of_ble_eq_true rfl) (fun G C hR => ?_)
  unfold mX6_codeAt at hm
  show J l rmX6_codeAt D G (0, 0) (wX cI cO cR q t0 u b) [(0, .ref (q 1)), (1, .int x1)] [] 0
  refine j_iload_n C dX6_codeAt_0 rfl 1 rfl ?_
  refine j_if_ltq (tgt := 21) C dX6_codeAt_1 (by decide) hm (fun hm => ?_) (fun hm => ?_)
  · exact J.sub [] rfl (kX6_codeAt_21 C hR hm)
  · refine j_iload_n C dX6_codeAt_4 rfl 1 rfl ?_
    refine j_aload_n C dX6_codeAt_5 rfl 0 rfl ?_
    refine jX_g1_1_X6 C dX6_codeAt_6 ?_
    refine j_icmp_geq (tgt := 21) C dX6_codeAt_9 (by decide) hm (fun hm => ?_) (fun hm => ?_)
    · exact J.sub [] rfl (kX6_codeAt_21 C hR hm)
    · refine j_aload_n C dX6_codeAt_12 rfl 0 rfl ?_
      refine jX_g1_0_X6 C dX6_codeAt_13 ?_
      refine j_iload_n C dX6_codeAt_16 rfl 1 rfl ?_
      refine jX_L C dX6_codeAt_17 hm (fun ra1 hm => ?_)
      refine j_goto (tgt := 22) C dX6_codeAt_18 (by decide) ?_
      exact J.sub [] rfl (kX6_codeAt_22 C hR ra1 hm)
def rmX7_begin : Room := { frames := 0, cells := 0, slots := 0, locals := 0 }
theorem wd_X7_begin : yX7_begin.cls ≠ "java/lang/invoke/MethodHandle" ∧ yX7_begin.cls ≠ "java/lang/invoke/VarHandle" ∧ (parseMethodDescriptor yX7_begin.desc).map (fun d => d.parameters.length) = some 0 := by decide +kernel
def mX7_begin (N : Nat) (u : USt) : Option USt := nm (siX u 1 0) (fun u1 => nm (siX u1 2 0) (fun u2 => nm (siX u2 4 0) (fun u3 => nm (siX u3 8 9) (fun u4 => some u4))))
set_option maxRecDepth 100000 in
set_option maxHeartbeats 4000000 in
theorem qX7_begin {l : Launch} {D : va_G} {cI cO cR : ClassId} {q : Nat → Nat} {t0 : Nat} {u : USt} {b : BSt} {N : Nat}  {rr : USt} (hm : mX7_begin N u = some rr) : Con l D (tX cI cO cR) yX7_begin (wS yX7_begin cX7_begin 1 none) rmX7_begin [.ref (q 3)] (wX cI cO cR q t0 u b) none (wX cI cO cR q t0 rr b) := by
  refine Con.of (by decide +kernel) (Nat.le_of_ble_eq_true rfl) (fun G C hR => ?_)
  unfold mX7_begin at hm
  show J l rmX7_begin D G (0, 0) (wX cI cO cR q t0 u b) [(0, .ref (q 3))] [] 0
  refine j_aload_n C dX7_begin_0 rfl 0 rfl ?_
  refine j_iconst (v := 0) C dX7_begin_1 (by decide) ?_
  refine jX_p3_1_X7 C dX7_begin_2 ?_
  refine j_nmu hm (w := fun u => wX cI cO cR q t0 u b) (fun u1 hm => ?_)
  refine j_aload_n C dX7_begin_5 rfl 0 rfl ?_
  refine j_iconst (v := 0) C dX7_begin_6 (by decide) ?_
  refine jX_p3_2_X7 C dX7_begin_7 ?_
  refine j_nmu hm (w := fun u => wX cI cO cR q t0 u b) (fun u2 hm => ?_)
  refine j_aload_n C dX7_begin_10 rfl 0 rfl ?_
  refine j_iconst (v := 0) C dX7_begin_11 (by decide) ?_
  refine jX_p3_4_X7 C dX7_begin_12 ?_
  refine j_nmu hm (w := fun u => wX cI cO cR q t0 u b) (fun u3 hm => ?_)
  refine j_aload_n C dX7_begin_15 rfl 0 rfl ?_
  refine j_bipush (v := 9) C dX7_begin_16 (by decide) ?_
  refine jX_p3_8_X7 C dX7_begin_18 ?_
  refine j_nmu hm (w := fun u => wX cI cO cR q t0 u b) (fun u4 hm => ?_)
  cases hm
  exact j_vret C hR dX7_begin_21
def rmX7_takesSign : Room := { frames := 0, cells := 0, slots := 0, locals := 0 }
theorem wd_X7_takesSign : yX7_takesSign.cls ≠ "java/lang/invoke/MethodHandle" ∧ yX7_takesSign.cls ≠ "java/lang/invoke/VarHandle" ∧ (parseMethodDescriptor yX7_takesSign.desc).map (fun d => d.parameters.length) = some 1 := by decide +kernel
def mX7_takesSign_62 (N : Nat) (u : USt) : Option (Int32 × USt) := nm (siX u 1 1) (fun u1 => some (1, u1))
set_option maxRecDepth 100000 in
set_option maxHeartbeats 4000000 in
theorem kX7_takesSign_62 {l : Launch} {D : va_G} {cI cO cR : ClassId} {q : Nat → Nat} {t0 : Nat} {b : BSt} {G : Gx} {N : Nat} {rr : (Int32 × USt)} (C : jC l rmX7_takesSign D (tX cI cO cR) G cX7_takesSign 2 RX7) (hR : jR D (tX cI cO cR) G (0, 0) (some .boolean) (some (.int rr.1)) (wX cI cO cR q t0 rr.2 b))  (u : USt) (hm : mX7_takesSign_62 N u = some rr) : J l rmX7_takesSign D G (0, 0) (wX cI cO cR q t0 u b) [(0, .ref (q 3))] [] 62 := by
  unfold mX7_takesSign_62 at hm
  refine j_aload_n C dX7_takesSign_62 rfl 0 rfl ?_
  refine j_iconst (v := 1) C dX7_takesSign_63 (by decide) ?_
  refine jX_p3_1_X7 C dX7_takesSign_64 ?_
  refine j_nmu hm (w := fun u => wX cI cO cR q t0 u b) (fun u1 hm => ?_)
  refine j_iconst (v := 1) C dX7_takesSign_67 (by decide) ?_
  cases hm
  exact j_zret C hR (by decide) dX7_takesSign_68
def mX7_takesSign (N : Nat) (u : USt) (x1 : Int32) : Option (Int32 × USt) := if x1 = 42 then (nm (siX u 2 1) (fun u1 => mX7_takesSign_62 N u1)) else if x1 = 61 then (nm (siX u 2 3) (fun u2 => mX7_takesSign_62 N u2)) else if x1 = 126 then (nm (siX u 2 2) (fun u3 => mX7_takesSign_62 N u3)) else (some (0, u))
set_option maxRecDepth 100000 in
set_option maxHeartbeats 4000000 in
theorem qX7_takesSign {l : Launch} {D : va_G} {cI cO cR : ClassId} {q : Nat → Nat} {t0 : Nat} {u : USt} {b : BSt} {N : Nat} {x1 : Int32} {rr : (Int32 × USt)} (hm : mX7_takesSign N u x1 = some rr) : Con l D (tX cI cO cR) yX7_takesSign (wS yX7_takesSign cX7_takesSign 2 (some .boolean)) rmX7_takesSign [.ref (q 3), .int x1] (wX cI cO cR q t0 u b) (some (.int rr.1)) (wX cI cO cR q t0 rr.2 b) := by
  refine Con.of (by decide +kernel) (Nat.le_of_ble_eq_true rfl) (fun G C hR => ?_)
  unfold mX7_takesSign at hm
  show J l rmX7_takesSign D G (0, 0) (wX cI cO cR q t0 u b) [(0, .ref (q 3)), (1, .int x1)] [] 0
  refine j_iload_n C dX7_takesSign_0 rfl 1 rfl ?_
  refine j_lswK (k := 42) (tgt := 36) C dX7_takesSign_1 (by decide) rfl (by decide) hm (fun hm => ?_) (fun c42 hm => ?_)
  · refine j_aload_n C dX7_takesSign_36 rfl 0 rfl ?_
    refine j_iconst (v := 1) C dX7_takesSign_37 (by decide) ?_
    refine jX_p3_2_X7 C dX7_takesSign_38 ?_
    refine j_nmu hm (w := fun u => wX cI cO cR q t0 u b) (fun u1 hm => ?_)
    refine j_goto (tgt := 62) C dX7_takesSign_41 (by decide) ?_
    exact J.sub [0] rfl (kX7_takesSign_62 C hR u1 hm)
  refine j_lswK (k := 61) (tgt := 52) C dX7_takesSign_1 (by decide) rfl (by decide) hm (fun hm => ?_) (fun c61 hm => ?_)
  · refine j_aload_n C dX7_takesSign_52 rfl 0 rfl ?_
    refine j_iconst (v := 3) C dX7_takesSign_53 (by decide) ?_
    refine jX_p3_2_X7 C dX7_takesSign_54 ?_
    refine j_nmu hm (w := fun u => wX cI cO cR q t0 u b) (fun u2 hm => ?_)
    refine j_goto (tgt := 62) C dX7_takesSign_57 (by decide) ?_
    exact J.sub [0] rfl (kX7_takesSign_62 C hR u2 hm)
  refine j_lswK (k := 126) (tgt := 44) C dX7_takesSign_1 (by decide) rfl (by decide) hm (fun hm => ?_) (fun c126 hm => ?_)
  · refine j_aload_n C dX7_takesSign_44 rfl 0 rfl ?_
    refine j_iconst (v := 2) C dX7_takesSign_45 (by decide) ?_
    refine jX_p3_2_X7 C dX7_takesSign_46 ?_
    refine j_nmu hm (w := fun u => wX cI cO cR q t0 u b) (fun u3 hm => ?_)
    refine j_goto (tgt := 62) C dX7_takesSign_49 (by decide) ?_
    exact J.sub [0] rfl (kX7_takesSign_62 C hR u3 hm)
  refine j_lswD (tgt := 60) C dX7_takesSign_1 (by decide) (by simp [Op.lookupswitch.offset, lsw_en c42 (n := 42) rfl, lsw_en c61 (n := 61) rfl, lsw_en c126 (n := 126) rfl]) (by decide) ?_
  refine j_iconst (v := 0) C dX7_takesSign_60 (by decide) ?_
  cases hm
  exact j_zret C hR (by decide) dX7_takesSign_61
def rmX7_takesPivot : Room := { frames := 1, cells := 0, slots := 0, locals := 20 }
theorem wd_X7_takesPivot : yX7_takesPivot.cls ≠ "java/lang/invoke/MethodHandle" ∧ yX7_takesPivot.cls ≠ "java/lang/invoke/VarHandle" ∧ (parseMethodDescriptor yX7_takesPivot.desc).map (fun d => d.parameters.length) = some 1 := by decide +kernel
def mX7_takesPivot (N : Nat) (u : USt) (x1 : Int32) : Option (Int32 × USt) := (mX10_isIslet N (x1 - 97)).bind (fun r1 => if ¬ r1 = 0 then (nm (siX u 3 (x1 - 97)) (fun u2 => nm (siX u2 1 2) (fun u3 => some (1, u3)))) else (some (0, u)))
set_option maxRecDepth 100000 in
set_option maxHeartbeats 4000000 in
theorem qX7_takesPivot {l : Launch} {D : va_G} {cI cO cR : ClassId} {q : Nat → Nat} {t0 : Nat} {u : USt} {b : BSt} {N : Nat} {x1 : Int32} {rr : (Int32 × USt)} (hm : mX7_takesPivot N u x1 = some rr) : Con l D (tX cI cO cR) yX7_takesPivot (wS yX7_takesPivot cX7_takesPivot 2 (some .boolean)) rmX7_takesPivot [.ref (q 3), .int x1] (wX cI cO cR q t0 u b) (some (.int rr.1)) (wX cI cO cR q t0 rr.2 b) := by
  refine Con.of (by decide +kernel) (Nat.le_of_ble_eq_true rfl) (fun G C hR => ?_)
  unfold mX7_takesPivot at hm
  show J l rmX7_takesPivot D G (0, 0) (wX cI cO cR q t0 u b) [(0, .ref (q 3)), (1, .int x1)] [] 0
  refine j_iload_n C dX7_takesPivot_0 rfl 1 rfl ?_
  refine j_bipush (v := 97) C dX7_takesPivot_1 (by decide) ?_
  refine j_isub C dX7_takesPivot_3 ?_
  refine j_bind hm (fun r1 hr1 hm => ?_)
  refine j_callSN (cs' := (0, 0)) (As := [.int (x1 - 97)]) (rest := []) C (qX10_isIslet hr1) w2_50 w2_48 w2_49 w1_1 wd_X10_isIslet ⟨by decide, by decide⟩ rfl (Nat.le_of_ble_eq_true rfl) dX7_takesPivot_4 ⟨by decide, by decide⟩ rfl rfl ?_
  refine j_if_neq (tgt := 12) C dX7_takesPivot_7 (by decide) hm (fun hm => ?_) (fun hm => ?_)
  · refine j_aload_n C dX7_takesPivot_12 rfl 0 rfl ?_
    refine j_iload_n C dX7_takesPivot_13 rfl 1 rfl ?_
    refine j_bipush (v := 97) C dX7_takesPivot_14 (by decide) ?_
    refine j_isub C dX7_takesPivot_16 ?_
    refine jX_p3_3_X7 C dX7_takesPivot_17 ?_
    refine j_nmu hm (w := fun u => wX cI cO cR q t0 u b) (fun u2 hm => ?_)
    refine j_aload_n C dX7_takesPivot_20 rfl 0 rfl ?_
    refine j_iconst (v := 2) C dX7_takesPivot_21 (by decide) ?_
    refine jX_p3_1_X7 C dX7_takesPivot_22 ?_
    refine j_nmu hm (w := fun u => wX cI cO cR q t0 u b) (fun u3 hm => ?_)
    refine j_iconst (v := 1) C dX7_takesPivot_25 (by decide) ?_
    cases hm
    exact j_zret C hR (by decide) dX7_takesPivot_26
  · refine j_iconst (v := 0) C dX7_takesPivot_10 (by decide) ?_
    cases hm
    exact j_zret C hR (by decide) dX7_takesPivot_11
def rmX7_takesMark : Room := { frames := 0, cells := 0, slots := 0, locals := 0 }
theorem wd_X7_takesMark : yX7_takesMark.cls ≠ "java/lang/invoke/MethodHandle" ∧ yX7_takesMark.cls ≠ "java/lang/invoke/VarHandle" ∧ (parseMethodDescriptor yX7_takesMark.desc).map (fun d => d.parameters.length) = some 2 := by decide +kernel
def mX7_takesMark (N : Nat) (u : USt) (x1 : Int32) (x2 : Int32) : Option (Int32 × USt) := if x1 = x2 then (nm (u.1 1) (fun f1 => nm (siX u 1 (f1 + 1)) (fun u2 => some (1, u2)))) else (some (0, u))
set_option maxRecDepth 100000 in
set_option maxHeartbeats 4000000 in
theorem qX7_takesMark {l : Launch} {D : va_G} {cI cO cR : ClassId} {q : Nat → Nat} {t0 : Nat} {u : USt} {b : BSt} {N : Nat} {x1 : Int32} {x2 : Int32} {rr : (Int32 × USt)} (hm : mX7_takesMark N u x1 x2 = some rr) : Con l D (tX cI cO cR) yX7_takesMark (wS yX7_takesMark cX7_takesMark 3 (some .boolean)) rmX7_takesMark [.ref (q 3), .int x1, .int x2] (wX cI cO cR q t0 u b) (some (.int rr.1)) (wX cI cO cR q t0 rr.2 b) := by
  refine Con.of (by decide +kernel) (Nat.le_of_ble_eq_true rfl) (fun G C hR => ?_)
  unfold mX7_takesMark at hm
  show J l rmX7_takesMark D G (0, 0) (wX cI cO cR q t0 u b) [(0, .ref (q 3)), (1, .int x1), (2, .int x2)] [] 0
  refine j_iload_n C dX7_takesMark_0 rfl 1 rfl ?_
  refine j_iload_n C dX7_takesMark_1 rfl 2 rfl ?_
  refine j_icmp_eqq (tgt := 7) C dX7_takesMark_2 (by decide) hm (fun hm => ?_) (fun hm => ?_)
  · refine j_aload_n C dX7_takesMark_7 rfl 0 rfl ?_
    refine j_dup C dX7_takesMark_8 rfl ?_
    refine jX_g3_1_X7 C dX7_takesMark_9 ?_
    refine j_nmi hm (fun f1 hm => ?_)
    refine j_iconst (v := 1) C dX7_takesMark_12 (by decide) ?_
    refine j_iadd C dX7_takesMark_13 ?_
    refine jX_p3_1_X7 C dX7_takesMark_14 ?_
    refine j_nmu hm (w := fun u => wX cI cO cR q t0 u b) (fun u2 hm => ?_)
    refine j_iconst (v := 1) C dX7_takesMark_17 (by decide) ?_
    cases hm
    exact j_zret C hR (by decide) dX7_takesMark_18
  · refine j_iconst (v := 0) C dX7_takesMark_5 (by decide) ?_
    cases hm
    exact j_zret C hR (by decide) dX7_takesMark_6
def rmX7_takesEnd : Room := { frames := 1, cells := 0, slots := 0, locals := 20 }
theorem wd_X7_takesEnd : yX7_takesEnd.cls ≠ "java/lang/invoke/MethodHandle" ∧ yX7_takesEnd.cls ≠ "java/lang/invoke/VarHandle" ∧ (parseMethodDescriptor yX7_takesEnd.desc).map (fun d => d.parameters.length) = some 1 := by decide +kernel
def mX7_takesEnd_32 (N : Nat) (u : USt) : Option (Int32 × USt) := some (0, u)
set_option maxRecDepth 100000 in
set_option maxHeartbeats 4000000 in
theorem kX7_takesEnd_32 {l : Launch} {D : va_G} {cI cO cR : ClassId} {q : Nat → Nat} {t0 : Nat} {b : BSt} {G : Gx} {N : Nat} {rr : (Int32 × USt)} (C : jC l rmX7_takesEnd D (tX cI cO cR) G cX7_takesEnd 4 RX7) (hR : jR D (tX cI cO cR) G (0, 0) (some .boolean) (some (.int rr.1)) (wX cI cO cR q t0 rr.2 b))  (u : USt) (hm : mX7_takesEnd_32 N u = some rr) : J l rmX7_takesEnd D G (0, 0) (wX cI cO cR q t0 u b) [] [] 32 := by
  unfold mX7_takesEnd_32 at hm
  refine j_iconst (v := 0) C dX7_takesEnd_32 (by decide) ?_
  cases hm
  exact j_zret C hR (by decide) dX7_takesEnd_33
def mX7_takesEnd_36 (N : Nat) (k36 : USt → Int32 → Int32 → Option (Int32 × USt)) (u : USt) (x2 : Int32) (x3 : Int32) : Option (Int32 × USt) := nm (u.1 4) (fun f1 => if f1 ≤ x3 then (nm (u.1 4) (fun f2 => nm (siX u 4 (f2 + 1)) (fun u3 => wrX 4 f2 (fun i4 => nm (saX u3 4 i4 x2) (fun u5 => some (1, u5)))))) else (rdX u 4 x3 (fun ra6 => if ¬ ra6 = x2 then (k36 u x2 (x3 + 1)) else (some (0, u)))))
set_option maxRecDepth 100000 in
set_option maxHeartbeats 4000000 in
theorem kX7_takesEnd_36 {l : Launch} {D : va_G} {cI cO cR : ClassId} {q : Nat → Nat} {t0 : Nat} {b : BSt} {G : Gx} {N : Nat} {rr : (Int32 × USt)} (C : jC l rmX7_takesEnd D (tX cI cO cR) G cX7_takesEnd 4 RX7) (hR : jR D (tX cI cO cR) G (0, 0) (some .boolean) (some (.int rr.1)) (wX cI cO cR q t0 rr.2 b)) (k36 : USt → Int32 → Int32 → Option (Int32 × USt)) (K36 : ∀ (u : USt) (x2 : Int32) (x3 : Int32), k36 u x2 x3 = some rr → J l rmX7_takesEnd D G (0, 0) (wX cI cO cR q t0 u b) [(0, .ref (q 3)), (2, .int x2), (3, .int x3)] [] 36) (u : USt) (x2 : Int32) (x3 : Int32) (hm : mX7_takesEnd_36 N k36 u x2 x3 = some rr) : J l rmX7_takesEnd D G (0, 0) (wX cI cO cR q t0 u b) [(0, .ref (q 3)), (2, .int x2), (3, .int x3)] [] 36 := by
  unfold mX7_takesEnd_36 at hm
  refine j_iload_n C dX7_takesEnd_36 rfl 2 rfl ?_
  refine j_aload_n C dX7_takesEnd_37 rfl 0 rfl ?_
  refine jX_g3_4_X7 C dX7_takesEnd_38 ?_
  refine j_nmi hm (fun f1 hm => ?_)
  refine j_icmp_geq (tgt := 62) C dX7_takesEnd_41 (by decide) hm (fun hm => ?_) (fun hm => ?_)
  · refine j_aload_n C dX7_takesEnd_62 rfl 0 rfl ?_
    refine jX_g3_0_X7 C dX7_takesEnd_63 ?_
    refine j_aload_n C dX7_takesEnd_66 rfl 0 rfl ?_
    refine j_dup C dX7_takesEnd_67 rfl ?_
    refine jX_g3_4_X7 C dX7_takesEnd_68 ?_
    refine j_nmi hm (fun f2 hm => ?_)
    refine j_dup_x1 C dX7_takesEnd_71 rfl rfl ?_
    refine j_iconst (v := 1) C dX7_takesEnd_72 (by decide) ?_
    refine j_iadd C dX7_takesEnd_73 ?_
    refine jX_p3_4_X7 C dX7_takesEnd_74 ?_
    refine j_nmu hm (w := fun u => wX cI cO cR q t0 u b) (fun u3 hm => ?_)
    refine j_iload_n C dX7_takesEnd_77 rfl 1 rfl ?_
    refine jX_S C dX7_takesEnd_78 hm (fun u5 hm => ?_)
    refine j_iconst (v := 1) C dX7_takesEnd_79 (by decide) ?_
    cases hm
    exact j_zret C hR (by decide) dX7_takesEnd_80
  · refine j_aload_n C dX7_takesEnd_44 rfl 0 rfl ?_
    refine jX_g3_0_X7 C dX7_takesEnd_45 ?_
    refine j_iload_n C dX7_takesEnd_48 rfl 2 rfl ?_
    refine jX_L C dX7_takesEnd_49 hm (fun ra6 hm => ?_)
    refine j_iload_n C dX7_takesEnd_50 rfl 1 rfl ?_
    refine j_icmp_neq (tgt := 56) C dX7_takesEnd_51 (by decide) hm (fun hm => ?_) (fun hm => ?_)
    · refine j_iinc (v := (x3 + 1)) C dX7_takesEnd_56 2 rfl rfl (by decide) rfl ?_
      refine j_goto (tgt := 36) C dX7_takesEnd_59 (by decide) ?_
      exact J.sub [1, 2, 0] rfl (K36 u x2 (x3 + 1) hm)
    · refine j_iconst (v := 0) C dX7_takesEnd_54 (by decide) ?_
      cases hm
      exact j_zret C hR (by decide) dX7_takesEnd_55
def mX7_takesEnd_h36 (N : Nat) : Nat → USt → Int32 → Int32 → Option (Int32 × USt)
  | 0, _, _, _ => none
  | n + 1, u, x2, x3 => mX7_takesEnd_36 N (mX7_takesEnd_h36 N n) u x2 x3
theorem kX7_takesEnd_h36 {l : Launch} {D : va_G} {cI cO cR : ClassId} {q : Nat → Nat} {t0 : Nat} {b : BSt} {G : Gx} {N : Nat} {rr : (Int32 × USt)} (C : jC l rmX7_takesEnd D (tX cI cO cR) G cX7_takesEnd 4 RX7) (hR : jR D (tX cI cO cR) G (0, 0) (some .boolean) (some (.int rr.1)) (wX cI cO cR q t0 rr.2 b))  : ∀ (n : Nat) (u : USt) (x2 : Int32) (x3 : Int32), mX7_takesEnd_h36 N n u x2 x3 = some rr → J l rmX7_takesEnd D G (0, 0) (wX cI cO cR q t0 u b) [(0, .ref (q 3)), (2, .int x2), (3, .int x3)] [] 36 := by
  intro n
  induction n with
  | zero =>
    intro u x2 x3 hm
    have hm : (none : Option (Int32 × USt)) = some rr := hm
    cases hm
  | succ n ih =>
    intro u x2 x3 hm
    exact kX7_takesEnd_36 C hR _ ih u x2 x3 hm
def mX7_takesEnd (N : Nat) (u : USt) (x1 : Int32) : Option (Int32 × USt) := nm (x1 - 97) (fun v1 => (mX10_isIslet N v1).bind (fun r2 => if r2 = 0 then (mX7_takesEnd_32 N u) else (nm (u.1 3) (fun f3 => if v1 = f3 then (mX7_takesEnd_32 N u) else (nm (u.1 4) (fun f4 => alX 4 (fun n5 => if f4 < n5 then (mX7_takesEnd_h36 N N u v1 0) else (mX7_takesEnd_32 N u))))))))
set_option maxRecDepth 100000 in
set_option maxHeartbeats 4000000 in
theorem qX7_takesEnd {l : Launch} {D : va_G} {cI cO cR : ClassId} {q : Nat → Nat} {t0 : Nat} {u : USt} {b : BSt} {N : Nat} {x1 : Int32} {rr : (Int32 × USt)} (hm : mX7_takesEnd N u x1 = some rr) : Con l D (tX cI cO cR) yX7_takesEnd (wS yX7_takesEnd cX7_takesEnd 4 (some .boolean)) rmX7_takesEnd [.ref (q 3), .int x1] (wX cI cO cR q t0 u b) (some (.int rr.1)) (wX cI cO cR q t0 rr.2 b) := by
  refine Con.of (by decide +kernel) (Nat.le_of_ble_eq_true rfl) (fun G C hR => ?_)
  unfold mX7_takesEnd at hm
  show J l rmX7_takesEnd D G (0, 0) (wX cI cO cR q t0 u b) [(0, .ref (q 3)), (1, .int x1)] [] 0
  refine j_iload_n C dX7_takesEnd_0 rfl 1 rfl ?_
  refine j_bipush (v := 97) C dX7_takesEnd_1 (by decide) ?_
  refine j_isub C dX7_takesEnd_3 ?_
  refine j_nmi hm (fun v1 hm => ?_)
  refine j_istore_n C dX7_takesEnd_4 rfl (by decide) rfl ?_
  refine j_iload_n C dX7_takesEnd_5 rfl 0 rfl ?_
  refine j_bind hm (fun r2 hr2 hm => ?_)
  refine j_callSN (cs' := (0, 0)) (As := [.int v1]) (rest := []) C (qX10_isIslet hr2) w2_50 w2_48 w2_49 w1_1 wd_X10_isIslet ⟨by decide, by decide⟩ rfl (Nat.le_of_ble_eq_true rfl) dX7_takesEnd_6 ⟨by decide, by decide⟩ rfl rfl ?_
  refine j_if_eqq (tgt := 32) C dX7_takesEnd_9 (by decide) hm (fun hm => ?_) (fun hm => ?_)
  · exact J.sub [] rfl (kX7_takesEnd_32 C hR u hm)
  · refine j_iload_n C dX7_takesEnd_12 rfl 0 rfl ?_
    refine j_aload_n C dX7_takesEnd_13 rfl 1 rfl ?_
    refine jX_g3_3_X7 C dX7_takesEnd_14 ?_
    refine j_nmi hm (fun f3 hm => ?_)
    refine j_icmp_eqq (tgt := 32) C dX7_takesEnd_17 (by decide) hm (fun hm => ?_) (fun hm => ?_)
    · exact J.sub [] rfl (kX7_takesEnd_32 C hR u hm)
    · refine j_aload_n C dX7_takesEnd_20 rfl 1 rfl ?_
      refine jX_g3_4_X7 C dX7_takesEnd_21 ?_
      refine j_nmi hm (fun f4 hm => ?_)
      refine j_aload_n C dX7_takesEnd_24 rfl 1 rfl ?_
      refine jX_g3_0_X7 C dX7_takesEnd_25 ?_
      refine jX_len C dX7_takesEnd_28 hm (fun n5 hm => ?_)
      refine j_icmp_ltq (tgt := 34) C dX7_takesEnd_29 (by decide) hm (fun hm => ?_) (fun hm => ?_)
      · refine j_iconst (v := 0) C dX7_takesEnd_34 (by decide) ?_
        refine j_istore_n C dX7_takesEnd_35 rfl (by decide) rfl ?_
        exact J.sub [2, 1, 0] rfl (kX7_takesEnd_h36 C hR N u v1 0 hm)
      · exact J.sub [] rfl (kX7_takesEnd_32 C hR u hm)
def rmX7_takesDigit : Room := { frames := 0, cells := 0, slots := 0, locals := 0 }
theorem wd_X7_takesDigit : yX7_takesDigit.cls ≠ "java/lang/invoke/MethodHandle" ∧ yX7_takesDigit.cls ≠ "java/lang/invoke/VarHandle" ∧ (parseMethodDescriptor yX7_takesDigit.desc).map (fun d => d.parameters.length) = some 1 := by decide +kernel
def mX7_takesDigit_101 (N : Nat) (u : USt) : Option (Int32 × USt) := nm (u.1 1) (fun f1 => nm (siX u 1 (f1 + 1)) (fun u2 => some (1, u2)))
set_option maxRecDepth 100000 in
set_option maxHeartbeats 4000000 in
theorem kX7_takesDigit_101 {l : Launch} {D : va_G} {cI cO cR : ClassId} {q : Nat → Nat} {t0 : Nat} {b : BSt} {G : Gx} {N : Nat} {rr : (Int32 × USt)} (C : jC l rmX7_takesDigit D (tX cI cO cR) G cX7_takesDigit 4 RX7) (hR : jR D (tX cI cO cR) G (0, 0) (some .boolean) (some (.int rr.1)) (wX cI cO cR q t0 rr.2 b))  (u : USt) (hm : mX7_takesDigit_101 N u = some rr) : J l rmX7_takesDigit D G (0, 0) (wX cI cO cR q t0 u b) [(0, .ref (q 3))] [] 101 := by
  unfold mX7_takesDigit_101 at hm
  refine j_aload_n C dX7_takesDigit_101 rfl 0 rfl ?_
  refine j_dup C dX7_takesDigit_102 rfl ?_
  refine jX_g3_1_X7 C dX7_takesDigit_103 ?_
  refine j_nmi hm (fun f1 hm => ?_)
  refine j_iconst (v := 1) C dX7_takesDigit_106 (by decide) ?_
  refine j_iadd C dX7_takesDigit_107 ?_
  refine jX_p3_1_X7 C dX7_takesDigit_108 ?_
  refine j_nmu hm (w := fun u => wX cI cO cR q t0 u b) (fun u2 hm => ?_)
  refine j_iconst (v := 1) C dX7_takesDigit_111 (by decide) ?_
  cases hm
  exact j_zret C hR (by decide) dX7_takesDigit_112
def mX7_takesDigit_31 (N : Nat) (u : USt) : Option (Int32 × USt) := some (0, u)
set_option maxRecDepth 100000 in
set_option maxHeartbeats 4000000 in
theorem kX7_takesDigit_31 {l : Launch} {D : va_G} {cI cO cR : ClassId} {q : Nat → Nat} {t0 : Nat} {b : BSt} {G : Gx} {N : Nat} {rr : (Int32 × USt)} (C : jC l rmX7_takesDigit D (tX cI cO cR) G cX7_takesDigit 4 RX7) (hR : jR D (tX cI cO cR) G (0, 0) (some .boolean) (some (.int rr.1)) (wX cI cO cR q t0 rr.2 b))  (u : USt) (hm : mX7_takesDigit_31 N u = some rr) : J l rmX7_takesDigit D G (0, 0) (wX cI cO cR q t0 u b) [] [] 31 := by
  unfold mX7_takesDigit_31 at hm
  refine j_iconst (v := 0) C dX7_takesDigit_31 (by decide) ?_
  cases hm
  exact j_zret C hR (by decide) dX7_takesDigit_32
def mX7_takesDigit_96 (N : Nat) (u : USt) (x2 : Int32) : Option (Int32 × USt) := nm (siX u 8 x2) (fun u1 => mX7_takesDigit_101 N u1)
set_option maxRecDepth 100000 in
set_option maxHeartbeats 4000000 in
theorem kX7_takesDigit_96 {l : Launch} {D : va_G} {cI cO cR : ClassId} {q : Nat → Nat} {t0 : Nat} {b : BSt} {G : Gx} {N : Nat} {rr : (Int32 × USt)} (C : jC l rmX7_takesDigit D (tX cI cO cR) G cX7_takesDigit 4 RX7) (hR : jR D (tX cI cO cR) G (0, 0) (some .boolean) (some (.int rr.1)) (wX cI cO cR q t0 rr.2 b))  (u : USt) (x2 : Int32) (hm : mX7_takesDigit_96 N u x2 = some rr) : J l rmX7_takesDigit D G (0, 0) (wX cI cO cR q t0 u b) [(0, .ref (q 3)), (2, .int x2)] [] 96 := by
  unfold mX7_takesDigit_96 at hm
  refine j_aload_n C dX7_takesDigit_96 rfl 0 rfl ?_
  refine j_iload_n C dX7_takesDigit_97 rfl 1 rfl ?_
  refine jX_p3_8_X7 C dX7_takesDigit_98 ?_
  refine j_nmu hm (w := fun u => wX cI cO cR q t0 u b) (fun u1 hm => ?_)
  exact J.sub [0] rfl (kX7_takesDigit_101 C hR u1 hm)
def mX7_takesDigit_19 (N : Nat) (u : USt) (x2 : Int32) (s0 : Int32) : Option (Int32 × USt) := if x2 < s0 then (mX7_takesDigit_31 N u) else (if x2 ≤ 9 then (nm (u.1 1) (fun f1 => if (Int32.toInt f1) < 4 ∨ 8 < (Int32.toInt f1) then (mX7_takesDigit_96 N u x2) else if f1 = 4 then (nm (siX u 5 x2) (fun u2 => mX7_takesDigit_101 N u2)) else if f1 = 5 then (mX7_takesDigit_96 N u x2) else if f1 = 6 then (nm (siX u 6 x2) (fun u3 => mX7_takesDigit_101 N u3)) else if f1 = 7 then (mX7_takesDigit_96 N u x2) else if f1 = 8 then (nm (siX u 7 x2) (fun u4 => mX7_takesDigit_101 N u4)) else none)) else (mX7_takesDigit_31 N u))
set_option maxRecDepth 100000 in
set_option maxHeartbeats 4000000 in
theorem kX7_takesDigit_19 {l : Launch} {D : va_G} {cI cO cR : ClassId} {q : Nat → Nat} {t0 : Nat} {b : BSt} {G : Gx} {N : Nat} {rr : (Int32 × USt)} (C : jC l rmX7_takesDigit D (tX cI cO cR) G cX7_takesDigit 4 RX7) (hR : jR D (tX cI cO cR) G (0, 0) (some .boolean) (some (.int rr.1)) (wX cI cO cR q t0 rr.2 b))  (u : USt) (x2 : Int32) (s0 : Int32) (hm : mX7_takesDigit_19 N u x2 s0 = some rr) : J l rmX7_takesDigit D G (0, 0) (wX cI cO cR q t0 u b) [(0, .ref (q 3)), (2, .int x2)] [.int s0] 19 := by
  unfold mX7_takesDigit_19 at hm
  refine j_istore_n C dX7_takesDigit_19 rfl (by decide) rfl ?_
  refine j_iload_n C dX7_takesDigit_20 rfl 2 rfl ?_
  refine j_iload_n C dX7_takesDigit_21 rfl 0 rfl ?_
  refine j_icmp_ltq (tgt := 31) C dX7_takesDigit_22 (by decide) hm (fun hm => ?_) (fun hm => ?_)
  · exact J.sub [] rfl (kX7_takesDigit_31 C hR u hm)
  · refine j_iload_n C dX7_takesDigit_25 rfl 2 rfl ?_
    refine j_bipush (v := 9) C dX7_takesDigit_26 (by decide) ?_
    refine j_icmp_leq (tgt := 33) C dX7_takesDigit_28 (by decide) hm (fun hm => ?_) (fun hm => ?_)
    · refine j_aload_n C dX7_takesDigit_33 rfl 1 rfl ?_
      refine jX_g3_1_X7 C dX7_takesDigit_34 ?_
      refine j_nmi hm (fun f1 hm => ?_)
      refine j_tswD (tgt := 96) C dX7_takesDigit_37 (by decide) hm (fun hm => ?_) (fun hm => ?_)
      · exact J.sub [1, 2] rfl (kX7_takesDigit_96 C hR u x2 hm)
      refine j_tswK (k := 4) (tgt := 72) C dX7_takesDigit_37 (by decide) (by decide) rfl (by decide) hm (fun hm => ?_) (fun hm => ?_)
      · refine j_aload_n C dX7_takesDigit_72 rfl 1 rfl ?_
        refine j_iload_n C dX7_takesDigit_73 rfl 2 rfl ?_
        refine jX_p3_5_X7 C dX7_takesDigit_74 ?_
        refine j_nmu hm (w := fun u => wX cI cO cR q t0 u b) (fun u2 hm => ?_)
        refine j_goto (tgt := 101) C dX7_takesDigit_77 (by decide) ?_
        exact J.sub [1] rfl (kX7_takesDigit_101 C hR u2 hm)
      refine j_tswK (k := 5) (tgt := 96) C dX7_takesDigit_37 (by decide) (by decide) rfl (by decide) hm (fun hm => ?_) (fun hm => ?_)
      · exact J.sub [1, 2] rfl (kX7_takesDigit_96 C hR u x2 hm)
      refine j_tswK (k := 6) (tgt := 80) C dX7_takesDigit_37 (by decide) (by decide) rfl (by decide) hm (fun hm => ?_) (fun hm => ?_)
      · refine j_aload_n C dX7_takesDigit_80 rfl 1 rfl ?_
        refine j_iload_n C dX7_takesDigit_81 rfl 2 rfl ?_
        refine jX_p3_6_X7 C dX7_takesDigit_82 ?_
        refine j_nmu hm (w := fun u => wX cI cO cR q t0 u b) (fun u3 hm => ?_)
        refine j_goto (tgt := 101) C dX7_takesDigit_85 (by decide) ?_
        exact J.sub [1] rfl (kX7_takesDigit_101 C hR u3 hm)
      refine j_tswK (k := 7) (tgt := 96) C dX7_takesDigit_37 (by decide) (by decide) rfl (by decide) hm (fun hm => ?_) (fun hm => ?_)
      · exact J.sub [1, 2] rfl (kX7_takesDigit_96 C hR u x2 hm)
      refine j_tswK (k := 8) (tgt := 88) C dX7_takesDigit_37 (by decide) (by decide) rfl (by decide) hm (fun hm => ?_) (fun hm => ?_)
      · refine j_aload_n C dX7_takesDigit_88 rfl 1 rfl ?_
        refine j_iload_n C dX7_takesDigit_89 rfl 2 rfl ?_
        refine jX_p3_7_X7 C dX7_takesDigit_90 ?_
        refine j_nmu hm (w := fun u => wX cI cO cR q t0 u b) (fun u4 hm => ?_)
        refine j_goto (tgt := 101) C dX7_takesDigit_93 (by decide) ?_
        exact J.sub [1] rfl (kX7_takesDigit_101 C hR u4 hm)
      cases hm
    · exact J.sub [] rfl (kX7_takesDigit_31 C hR u hm)
def mX7_takesDigit (N : Nat) (u : USt) (x1 : Int32) : Option (Int32 × USt) := nm (x1 - 48) (fun v1 => nm (u.1 1) (fun f2 => if ¬ f2 = 8 then (mX7_takesDigit_19 N u v1 1) else (mX7_takesDigit_19 N u v1 0)))
set_option maxRecDepth 100000 in
set_option maxHeartbeats 4000000 in
theorem qX7_takesDigit {l : Launch} {D : va_G} {cI cO cR : ClassId} {q : Nat → Nat} {t0 : Nat} {u : USt} {b : BSt} {N : Nat} {x1 : Int32} {rr : (Int32 × USt)} (hm : mX7_takesDigit N u x1 = some rr) : Con l D (tX cI cO cR) yX7_takesDigit (wS yX7_takesDigit cX7_takesDigit 4 (some .boolean)) rmX7_takesDigit [.ref (q 3), .int x1] (wX cI cO cR q t0 u b) (some (.int rr.1)) (wX cI cO cR q t0 rr.2 b) := by
  refine Con.of (by decide +kernel) (Nat.le_of_ble_eq_true rfl) (fun G C hR => ?_)
  unfold mX7_takesDigit at hm
  show J l rmX7_takesDigit D G (0, 0) (wX cI cO cR q t0 u b) [(0, .ref (q 3)), (1, .int x1)] [] 0
  refine j_iload_n C dX7_takesDigit_0 rfl 1 rfl ?_
  refine j_bipush (v := 48) C dX7_takesDigit_1 (by decide) ?_
  refine j_isub C dX7_takesDigit_3 ?_
  refine j_nmi hm (fun v1 hm => ?_)
  refine j_istore_n C dX7_takesDigit_4 rfl (by decide) rfl ?_
  refine j_aload_n C dX7_takesDigit_5 rfl 1 rfl ?_
  refine jX_g3_1_X7 C dX7_takesDigit_6 ?_
  refine j_nmi hm (fun f2 hm => ?_)
  refine j_bipush (v := 8) C dX7_takesDigit_9 (by decide) ?_
  refine j_icmp_neq (tgt := 18) C dX7_takesDigit_11 (by decide) hm (fun hm => ?_) (fun hm => ?_)
  · refine j_iconst (v := 1) C dX7_takesDigit_18 (by decide) ?_
    exact J.sub [1, 0] rfl (kX7_takesDigit_19 C hR u v1 1 hm)
  · refine j_iconst (v := 0) C dX7_takesDigit_14 (by decide) ?_
    refine j_goto (tgt := 19) C dX7_takesDigit_15 (by decide) ?_
    exact J.sub [1, 0] rfl (kX7_takesDigit_19 C hR u v1 0 hm)
