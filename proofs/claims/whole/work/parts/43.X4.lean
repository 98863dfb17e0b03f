def rmX9_waitFrom : Room := { frames := 1, cells := 0, slots := 0, locals := 20 }
theorem wd_X9_waitFrom : yX9_waitFrom.cls ≠ "java/lang/invoke/MethodHandle" ∧ yX9_waitFrom.cls ≠ "java/lang/invoke/VarHandle" ∧ (parseMethodDescriptor yX9_waitFrom.desc).map (fun d => d.parameters.length) = some 2 := by decide +kernel
def mX9_waitFrom_25 (N : Nat) (u : USt) : Option Int32 := some (-1)
set_option maxRecDepth 100000 in
set_option maxHeartbeats 4000000 in
theorem kX9_waitFrom_25 {l : Launch} {D : va_G} {cI cO cR : ClassId} {q : Nat → Nat} {t0 : Nat} {u : USt} {b : BSt} {G : Gx} {N : Nat} {rr : Int32} (C : jC l rmX9_waitFrom D (tX cI cO cR) G cX9_waitFrom 4 RX9) (hR : jR D (tX cI cO cR) G (0, 0) (some .int) (some (.int rr)) (wX cI cO cR q t0 u b))   (hm : mX9_waitFrom_25 N u = some rr) : J l rmX9_waitFrom D G (0, 0) (wX cI cO cR q t0 u b) [] [] 25 := by
  unfold mX9_waitFrom_25 at hm
  refine j_iconst (v := (-1)) C dX9_waitFrom_25 (by decide) ?_
  cases hm
  exact j_iret C hR dX9_waitFrom_26
def mX9_waitFrom_58 (N : Nat) (u : USt) (s0 : Int32) : Option Int32 := some s0
set_option maxRecDepth 100000 in
set_option maxHeartbeats 4000000 in
theorem kX9_waitFrom_58 {l : Launch} {D : va_G} {cI cO cR : ClassId} {q : Nat → Nat} {t0 : Nat} {u : USt} {b : BSt} {G : Gx} {N : Nat} {rr : Int32} (C : jC l rmX9_waitFrom D (tX cI cO cR) G cX9_waitFrom 4 RX9) (hR : jR D (tX cI cO cR) G (0, 0) (some .int) (some (.int rr)) (wX cI cO cR q t0 u b))  (s0 : Int32) (hm : mX9_waitFrom_58 N u s0 = some rr) : J l rmX9_waitFrom D G (0, 0) (wX cI cO cR q t0 u b) [] [.int s0] 58 := by
  unfold mX9_waitFrom_58 at hm
  cases hm
  exact j_iret C hR dX9_waitFrom_58
def mX9_waitFrom_51 (N : Nat) (u : USt) : Option Int32 := mX9_waitFrom_58 N u (-1)
set_option maxRecDepth 100000 in
set_option maxHeartbeats 4000000 in
theorem kX9_waitFrom_51 {l : Launch} {D : va_G} {cI cO cR : ClassId} {q : Nat → Nat} {t0 : Nat} {u : USt} {b : BSt} {G : Gx} {N : Nat} {rr : Int32} (C : jC l rmX9_waitFrom D (tX cI cO cR) G cX9_waitFrom 4 RX9) (hR : jR D (tX cI cO cR) G (0, 0) (some .int) (some (.int rr)) (wX cI cO cR q t0 u b))   (hm : mX9_waitFrom_51 N u = some rr) : J l rmX9_waitFrom D G (0, 0) (wX cI cO cR q t0 u b) [] [] 51 := by
  unfold mX9_waitFrom_51 at hm
  refine j_iconst (v := (-1)) C dX9_waitFrom_51 (by decide) ?_
  refine j_goto (tgt := 58) C dX9_waitFrom_52 (by decide) ?_
  exact kX9_waitFrom_58 C hR (-1) hm
def mX9_waitFrom (N : Nat) (u : USt) (x1 : Int32) (x2 : Int32) : Option Int32 := (mX10_isIslet N x1).bind (fun r1 => if r1 = 0 then (mX9_waitFrom_25 N u) else (if x2 < 0 then (mX9_waitFrom_25 N u) else (if 60 ≤ x2 then (mX9_waitFrom_25 N u) else (if x2 ≤ (u.1 16) then (wr 8 x1 (fun j2 => rdX u (36 + j2) x2 (fun ra3 => if ra3 = 2147483647 then (mX9_waitFrom_51 N u) else (if (ra3 - x2) ≤ 400 then (mX9_waitFrom_58 N u (ra3 - x2)) else (mX9_waitFrom_51 N u))))) else (mX9_waitFrom_25 N u)))))
set_option maxRecDepth 100000 in
set_option maxHeartbeats 4000000 in
theorem qX9_waitFrom {l : Launch} {D : va_G} {cI cO cR : ClassId} {q : Nat → Nat} {t0 : Nat} {u : USt} {b : BSt} {N : Nat} {x1 : Int32} {x2 : Int32} {rr : Int32} (hm : mX9_waitFrom N u x1 x2 = some rr) : Con l D (tX cI cO cR) yX9_waitFrom (wS yX9_waitFrom cX9_waitFrom 4 (some .int)) rmX9_waitFrom [.ref (q 12), .int x1, .int x2] (wX cI cO cR q t0 u b) (some (.int rr)) (wX cI cO cR q t0 u b) := by
  refine Con.of (by decide +kernel) (Nat.le_of_ble_eq_true rfl) (fun G C hR => ?_)
  unfold mX9_waitFrom at hm
  show J l rmX9_waitFrom D G (0, 0) (wX cI cO cR q t0 u b) [(0, .ref (q 12)), (1, .int x1), (2, .int x2)] [] 0
  refine j_iload_n C dX9_waitFrom_0 rfl 1 rfl ?_
  refine j_bind hm (fun r1 hr1 hm => ?_)
  refine j_callSN (cs' := (0, 0)) (As := [.int x1]) (rest := []) C (qX10_isIslet hr1) w2_50 w3_201 w2_49 w1_1 wd_X10_isIslet ⟨by decide, by decide⟩ rfl (Nat.le_of_ble_eq_true rfl) dX9_waitFrom_1 ⟨by decide, by decide⟩ rfl rfl ?_
  refine j_if_eqq (tgt := 25) C dX9_waitFrom_4 (by decide) hm (fun hm => ?_) (fun hm => ?_)
  · exact J.sub [] rfl (kX9_waitFrom_25 C hR hm)
  · refine j_iload_n C dX9_waitFrom_7 rfl 2 rfl ?_
    refine j_if_ltq (tgt := 25) C dX9_waitFrom_8 (by decide) hm (fun hm => ?_) (fun hm => ?_)
    · exact J.sub [] rfl (kX9_waitFrom_25 C hR hm)
    · refine j_iload_n C dX9_waitFrom_11 rfl 2 rfl ?_
      refine j_bipush (v := 60) C dX9_waitFrom_12 (by decide) ?_
      refine j_icmp_geq (tgt := 25) C dX9_waitFrom_14 (by decide) hm (fun hm => ?_) (fun hm => ?_)
      · exact J.sub [] rfl (kX9_waitFrom_25 C hR hm)
      · refine j_iload_n C dX9_waitFrom_17 rfl 2 rfl ?_
        refine j_aload_n C dX9_waitFrom_18 rfl 0 rfl ?_
        refine jX_g12_6_X9 C dX9_waitFrom_19 ?_
        refine j_icmp_leq (tgt := 27) C dX9_waitFrom_22 (by decide) hm (fun hm => ?_) (fun hm => ?_)
        · refine j_aload_n C dX9_waitFrom_27 rfl 0 rfl ?_
          refine jX_g12_3_X9 C dX9_waitFrom_28 ?_
          refine j_iload_n C dX9_waitFrom_31 rfl 1 rfl ?_
          refine jX_o16 C dX9_waitFrom_32 hm (fun j2 hm => ?_)
          refine j_iload_n C dX9_waitFrom_33 rfl 2 rfl ?_
          refine jX_L C dX9_waitFrom_34 hm (fun ra3 hm => ?_)
          refine j_istore_n C dX9_waitFrom_35 rfl (by decide) rfl ?_
          refine j_iload_n C dX9_waitFrom_36 rfl 0 rfl ?_
          refine j_ldc C dX9_waitFrom_37 w3_183 ?_
          refine j_icmp_eqq (tgt := 51) C dX9_waitFrom_39 (by decide) hm (fun hm => ?_) (fun hm => ?_)
          · exact J.sub [] rfl (kX9_waitFrom_51 C hR hm)
          · refine j_iload_n C dX9_waitFrom_42 rfl 0 rfl ?_
            refine j_iload_n C dX9_waitFrom_43 rfl 3 rfl ?_
            refine j_isub C dX9_waitFrom_44 ?_
            refine j_sipush (v := 400) C dX9_waitFrom_45 (by decide) ?_
            refine j_icmp_leq (tgt := 55) C dX9_waitFrom_48 (by decide) hm (fun hm => ?_) (fun hm => ?_)
            · refine j_iload_n C dX9_waitFrom_55 rfl 0 rfl ?_
              refine j_iload_n C dX9_waitFrom_56 rfl 3 rfl ?_
              refine j_isub C dX9_waitFrom_57 ?_
              exact J.sub [] rfl (kX9_waitFrom_58 C hR (ra3 - x2) hm)
            · exact J.sub [] rfl (kX9_waitFrom_51 C hR hm)
        · exact J.sub [] rfl (kX9_waitFrom_25 C hR hm)
def rmX9_longestWait : Room := { frames := 2, cells := 0, slots := 0, locals := 43 }
theorem wd_X9_longestWait : yX9_longestWait.cls ≠ "java/lang/invoke/MethodHandle" ∧ yX9_longestWait.cls ≠ "java/lang/invoke/VarHandle" ∧ (parseMethodDescriptor yX9_longestWait.desc).map (fun d => d.parameters.length) = some 2 := by decide +kernel
def mX9_longestWait_5 (N : Nat) (u : USt) (k5 : Int32 → Int32 → Int32 → Int32 → Option Int32) (x1 : Int32) (x2 : Int32) (x3 : Int32) (x4 : Int32) : Option Int32 := if x2 ≤ x4 then (some x3) else ((mX9_waitFrom N u x1 x4).bind (fun r1 => if ¬ r1 = (-1) then ((mJ9_max_7cf53 N x3 r1).bind (fun r2 => k5 x1 x2 r2 (x4 + 1))) else (some (-1))))
set_option maxRecDepth 100000 in
set_option maxHeartbeats 4000000 in
theorem kX9_longestWait_5 {l : Launch} {D : va_G} {cI cO cR : ClassId} {q : Nat → Nat} {t0 : Nat} {u : USt} {b : BSt} {G : Gx} {N : Nat} {rr : Int32} (C : jC l rmX9_longestWait D (tX cI cO cR) G cX9_longestWait 6 RX9) (hR : jR D (tX cI cO cR) G (0, 0) (some .int) (some (.int rr)) (wX cI cO cR q t0 u b)) (k5 : Int32 → Int32 → Int32 → Int32 → Option Int32) (K5 : ∀ (x1 : Int32) (x2 : Int32) (x3 : Int32) (x4 : Int32), k5 x1 x2 x3 x4 = some rr → J l rmX9_longestWait D G (0, 0) (wX cI cO cR q t0 u b) [(0, .ref (q 12)), (1, .int x1), (2, .int x2), (3, .int x3), (4, .int x4)] [] 5) (x1 : Int32) (x2 : Int32) (x3 : Int32) (x4 : Int32) (hm : mX9_longestWait_5 N u k5 x1 x2 x3 x4 = some rr) : J l rmX9_longestWait D G (0, 0) (wX cI cO cR q t0 u b) [(0, .ref (q 12)), (1, .int x1), (2, .int x2), (3, .int x3), (4, .int x4)] [] 5 := by
  unfold mX9_longestWait_5 at hm
  refine j_iload C dX9_longestWait_5 4 rfl ?_
  refine j_iload_n C dX9_longestWait_7 rfl 2 rfl ?_
  refine j_icmp_geq (tgt := 41) C dX9_longestWait_8 (by decide) hm (fun hm => ?_) (fun hm => ?_)
  · refine j_iload_n C dX9_longestWait_41 rfl 3 rfl ?_
    cases hm
    exact j_iret C hR dX9_longestWait_42
  · refine j_aload_n C dX9_longestWait_11 rfl 0 rfl ?_
    refine j_iload_n C dX9_longestWait_12 rfl 1 rfl ?_
    refine j_iload C dX9_longestWait_13 4 rfl ?_
    refine j_bind hm (fun r1 hr1 hm => ?_)
    refine j_callV (cs' := (0, 0)) (As := [.int x1, .int x4]) (rest := []) C (qX9_waitFrom hr1) w3_239 w3_236 w3_238 w0_14 w1_9 wd_X9_waitFrom ⟨by decide, by decide⟩ 12 rfl rfl rfl (Nat.le_of_ble_eq_true rfl) dX9_longestWait_15 ⟨by decide, by decide⟩ rfl rfl ?_
    refine j_istore C dX9_longestWait_18 (by decide) rfl ?_
    refine j_iload C dX9_longestWait_20 0 rfl ?_
    refine j_iconst (v := (-1)) C dX9_longestWait_22 (by decide) ?_
    refine j_icmp_neq (tgt := 28) C dX9_longestWait_23 (by decide) hm (fun hm => ?_) (fun hm => ?_)
    · refine j_iload_n C dX9_longestWait_28 rfl 4 rfl ?_
      refine j_iload C dX9_longestWait_29 0 rfl ?_
      refine j_bind hm (fun r2 hr2 hm => ?_)
      refine j_callS (cs' := (0, 0)) (As := [.int x3, .int r1]) (rest := []) C (qJ9_max_7cf53 hr2) w2_90 w3_160 w2_89 w1_14 wd_J9_max_7cf53 ⟨by decide, by decide⟩ rfl (Nat.le_of_ble_eq_true rfl) dX9_longestWait_31 ⟨by decide, by decide⟩ rfl rfl ?_
      refine j_istore_n C dX9_longestWait_34 rfl (by decide) rfl ?_
      refine j_iinc (v := (x4 + 1)) C dX9_longestWait_35 5 rfl rfl (by decide) rfl ?_
      refine j_goto (tgt := 5) C dX9_longestWait_38 (by decide) ?_
      exact J.sub [3, 4, 5, 1, 0] rfl (K5 x1 x2 r2 (x4 + 1) hm)
    · refine j_iconst (v := (-1)) C dX9_longestWait_26 (by decide) ?_
      cases hm
      exact j_iret C hR dX9_longestWait_27
def mX9_longestWait_h5 (N : Nat) (u : USt) : Nat → Int32 → Int32 → Int32 → Int32 → Option Int32
  | 0, _, _, _, _ => none
  | n + 1, x1, x2, x3, x4 => mX9_longestWait_5 N u (mX9_longestWait_h5 N u n) x1 x2 x3 x4
theorem kX9_longestWait_h5 {l : Launch} {D : va_G} {cI cO cR : ClassId} {q : Nat → Nat} {t0 : Nat} {u : USt} {b : BSt} {G : Gx} {N : Nat} {rr : Int32} (C : jC l rmX9_longestWait D (tX cI cO cR) G cX9_longestWait 6 RX9) (hR : jR D (tX cI cO cR) G (0, 0) (some .int) (some (.int rr)) (wX cI cO cR q t0 u b))  : ∀ (n : Nat) (x1 : Int32) (x2 : Int32) (x3 : Int32) (x4 : Int32), mX9_longestWait_h5 N u n x1 x2 x3 x4 = some rr → J l rmX9_longestWait D G (0, 0) (wX cI cO cR q t0 u b) [(0, .ref (q 12)), (1, .int x1), (2, .int x2), (3, .int x3), (4, .int x4)] [] 5 := by
  intro n
  induction n with
  | zero =>
    intro x1 x2 x3 x4 hm
    have hm : (none : Option Int32) = some rr := hm
    cases hm
  | succ n ih =>
    intro x1 x2 x3 x4 hm
    exact kX9_longestWait_5 C hR _ ih x1 x2 x3 x4 hm
def mX9_longestWait (N : Nat) (u : USt) (x1 : Int32) (x2 : Int32) : Option Int32 := mX9_longestWait_h5 N u N x1 x2 0 0
set_option maxRecDepth 100000 in
set_option maxHeartbeats 4000000 in
theorem qX9_longestWait {l : Launch} {D : va_G} {cI cO cR : ClassId} {q : Nat → Nat} {t0 : Nat} {u : USt} {b : BSt} {N : Nat} {x1 : Int32} {x2 : Int32} {rr : Int32} (hm : mX9_longestWait N u x1 x2 = some rr) : Con l D (tX cI cO cR) yX9_longestWait (wS yX9_longestWait cX9_longestWait 6 (some .int)) rmX9_longestWait [.ref (q 12), .int x1, .int x2] (wX cI cO cR q t0 u b) (some (.int rr)) (wX cI cO cR q t0 u b) := by
  refine Con.of (by decide +kernel) (Nat.le_of_ble_eq_true rfl) (fun G C hR => ?_)
  unfold mX9_longestWait at hm
  show J l rmX9_longestWait D G (0, 0) (wX cI cO cR q t0 u b) [(0, .ref (q 12)), (1, .int x1), (2, .int x2)] [] 0
  refine j_iconst (v := 0) C dX9_longestWait_0 (by decide) ?_
  refine j_istore_n C dX9_longestWait_1 rfl (by decide) rfl ?_
  refine j_iconst (v := 0) C dX9_longestWait_2 (by decide) ?_
  refine j_istore C dX9_longestWait_3 (by decide) rfl ?_
  exact J.sub [2, 3, 4, 1, 0] rfl (kX9_longestWait_h5 C hR N x1 x2 0 0 hm)
def rmX9_waitsTogether : Room := { frames := 2, cells := 0, slots := 0, locals := 43 }
theorem wd_X9_waitsTogether : yX9_waitsTogether.cls ≠ "java/lang/invoke/MethodHandle" ∧ yX9_waitsTogether.cls ≠ "java/lang/invoke/VarHandle" ∧ (parseMethodDescriptor yX9_waitsTogether.desc).map (fun d => d.parameters.length) = some 2 := by decide +kernel
def mX9_waitsTogether_5 (N : Nat) (u : USt) (k5 : Int32 → Int32 → Int32 → Int32 → Option Int32) (x1 : Int32) (x2 : Int32) (x3 : Int32) (x4 : Int32) : Option Int32 := if x2 ≤ x4 then (some x3) else ((mX9_waitFrom N u x1 x4).bind (fun r1 => if ¬ r1 = (-1) then (nm (x3 + r1) (fun v2 => k5 x1 x2 v2 (x4 + 1))) else (some (-1))))
set_option maxRecDepth 100000 in
set_option maxHeartbeats 4000000 in
theorem kX9_waitsTogether_5 {l : Launch} {D : va_G} {cI cO cR : ClassId} {q : Nat → Nat} {t0 : Nat} {u : USt} {b : BSt} {G : Gx} {N : Nat} {rr : Int32} (C : jC l rmX9_waitsTogether D (tX cI cO cR) G cX9_waitsTogether 6 RX9) (hR : jR D (tX cI cO cR) G (0, 0) (some .int) (some (.int rr)) (wX cI cO cR q t0 u b)) (k5 : Int32 → Int32 → Int32 → Int32 → Option Int32) (K5 : ∀ (x1 : Int32) (x2 : Int32) (x3 : Int32) (x4 : Int32), k5 x1 x2 x3 x4 = some rr → J l rmX9_waitsTogether D G (0, 0) (wX cI cO cR q t0 u b) [(0, .ref (q 12)), (1, .int x1), (2, .int x2), (3, .int x3), (4, .int x4)] [] 5) (x1 : Int32) (x2 : Int32) (x3 : Int32) (x4 : Int32) (hm : mX9_waitsTogether_5 N u k5 x1 x2 x3 x4 = some rr) : J l rmX9_waitsTogether D G (0, 0) (wX cI cO cR q t0 u b) [(0, .ref (q 12)), (1, .int x1), (2, .int x2), (3, .int x3), (4, .int x4)] [] 5 := by
  unfold mX9_waitsTogether_5 at hm
  refine j_iload C dX9_waitsTogether_5 4 rfl ?_
  refine j_iload_n C dX9_waitsTogether_7 rfl 2 rfl ?_
  refine j_icmp_geq (tgt := 39) C dX9_waitsTogether_8 (by decide) hm (fun hm => ?_) (fun hm => ?_)
  · refine j_iload_n C dX9_waitsTogether_39 rfl 3 rfl ?_
    cases hm
    exact j_iret C hR dX9_waitsTogether_40
  · refine j_aload_n C dX9_waitsTogether_11 rfl 0 rfl ?_
    refine j_iload_n C dX9_waitsTogether_12 rfl 1 rfl ?_
    refine j_iload C dX9_waitsTogether_13 4 rfl ?_
    refine j_bind hm (fun r1 hr1 hm => ?_)
    refine j_callV (cs' := (0, 0)) (As := [.int x1, .int x4]) (rest := []) C (qX9_waitFrom hr1) w3_239 w3_236 w3_238 w0_14 w1_9 wd_X9_waitFrom ⟨by decide, by decide⟩ 12 rfl rfl rfl (Nat.le_of_ble_eq_true rfl) dX9_waitsTogether_15 ⟨by decide, by decide⟩ rfl rfl ?_
    refine j_istore C dX9_waitsTogether_18 (by decide) rfl ?_
    refine j_iload C dX9_waitsTogether_20 0 rfl ?_
    refine j_iconst (v := (-1)) C dX9_waitsTogether_22 (by decide) ?_
    refine j_icmp_neq (tgt := 28) C dX9_waitsTogether_23 (by decide) hm (fun hm => ?_) (fun hm => ?_)
    · refine j_iload_n C dX9_waitsTogether_28 rfl 4 rfl ?_
      refine j_iload C dX9_waitsTogether_29 0 rfl ?_
      refine j_iadd C dX9_waitsTogether_31 ?_
      refine j_nmi hm (fun v2 hm => ?_)
      refine j_istore_n C dX9_waitsTogether_32 rfl (by decide) rfl ?_
      refine j_iinc (v := (x4 + 1)) C dX9_waitsTogether_33 5 rfl rfl (by decide) rfl ?_
      refine j_goto (tgt := 5) C dX9_waitsTogether_36 (by decide) ?_
      exact J.sub [3, 4, 5, 1, 0] rfl (K5 x1 x2 v2 (x4 + 1) hm)
    · refine j_iconst (v := (-1)) C dX9_waitsTogether_26 (by decide) ?_
      cases hm
      exact j_iret C hR dX9_waitsTogether_27
def mX9_waitsTogether_h5 (N : Nat) (u : USt) : Nat → Int32 → Int32 → Int32 → Int32 → Option Int32
  | 0, _, _, _, _ => none
  | n + 1, x1, x2, x3, x4 => mX9_waitsTogether_5 N u (mX9_waitsTogether_h5 N u n) x1 x2 x3 x4
theorem kX9_waitsTogether_h5 {l : Launch} {D : va_G} {cI cO cR : ClassId} {q : Nat → Nat} {t0 : Nat} {u : USt} {b : BSt} {G : Gx} {N : Nat} {rr : Int32} (C : jC l rmX9_waitsTogether D (tX cI cO cR) G cX9_waitsTogether 6 RX9) (hR : jR D (tX cI cO cR) G (0, 0) (some .int) (some (.int rr)) (wX cI cO cR q t0 u b))  : ∀ (n : Nat) (x1 : Int32) (x2 : Int32) (x3 : Int32) (x4 : Int32), mX9_waitsTogether_h5 N u n x1 x2 x3 x4 = some rr → J l rmX9_waitsTogether D G (0, 0) (wX cI cO cR q t0 u b) [(0, .ref (q 12)), (1, .int x1), (2, .int x2), (3, .int x3), (4, .int x4)] [] 5 := by
  intro n
  induction n with
  | zero =>
    intro x1 x2 x3 x4 hm
    have hm : (none : Option Int32) = some rr := hm
    cases hm
  | succ n ih =>
    intro x1 x2 x3 x4 hm
    exact kX9_waitsTogether_5 C hR _ ih x1 x2 x3 x4 hm
def mX9_waitsTogether (N : Nat) (u : USt) (x1 : Int32) (x2 : Int32) : Option Int32 := mX9_waitsTogether_h5 N u N x1 x2 0 0
set_option maxRecDepth 100000 in
set_option maxHeartbeats 4000000 in
theorem qX9_waitsTogether {l : Launch} {D : va_G} {cI cO cR : ClassId} {q : Nat → Nat} {t0 : Nat} {u : USt} {b : BSt} {N : Nat} {x1 : Int32} {x2 : Int32} {rr : Int32} (hm : mX9_waitsTogether N u x1 x2 = some rr) : Con l D (tX cI cO cR) yX9_waitsTogether (wS yX9_waitsTogether cX9_waitsTogether 6 (some .int)) rmX9_waitsTogether [.ref (q 12), .int x1, .int x2] (wX cI cO cR q t0 u b) (some (.int rr)) (wX cI cO cR q t0 u b) := by
  refine Con.of (by decide +kernel) (Nat.le_of_ble_eq_true rfl) (fun G C hR => ?_)
  unfold mX9_waitsTogether at hm
  show J l rmX9_waitsTogether D G (0, 0) (wX cI cO cR q t0 u b) [(0, .ref (q 12)), (1, .int x1), (2, .int x2)] [] 0
  refine j_iconst (v := 0) C dX9_waitsTogether_0 (by decide) ?_
  refine j_istore_n C dX9_waitsTogether_1 rfl (by decide) rfl ?_
  refine j_iconst (v := 0) C dX9_waitsTogether_2 (by decide) ?_
  refine j_istore C dX9_waitsTogether_3 (by decide) rfl ?_
  exact J.sub [2, 3, 4, 1, 0] rfl (kX9_waitsTogether_h5 C hR N x1 x2 0 0 hm)
def rmX10_byteOf : Room := { frames := 0, cells := 0, slots := 0, locals := 0 }
theorem wd_X10_byteOf : yX10_byteOf.cls ≠ "java/lang/invoke/MethodHandle" ∧ yX10_byteOf.cls ≠ "java/lang/invoke/VarHandle" ∧ (parseMethodDescriptor yX10_byteOf.desc).map (fun d => d.parameters.length) = some 2 := by decide +kernel
def mX10_byteOf (N : Nat) (x0 : Int64) (x2 : Int32) : Option Int32 := some ((Int64.toInt32 ((Int64.toUInt64 x0 >>> ((Int32.toInt64 (8 * x2)).toUInt64 &&& Int64.toUInt64 63)).toInt64)) &&& 255)
set_option maxRecDepth 100000 in
set_option maxHeartbeats 4000000 in
theorem qX10_byteOf {l : Launch} {D : va_G} {tys : List (ClassId × FieldType)} {N : Nat} {x0 : Int64} {x2 : Int32} {rr : Int32} (hm : mX10_byteOf N x0 x2 = some rr) : Con l D tys yX10_byteOf (wS yX10_byteOf cX10_byteOf 3 (some .int)) rmX10_byteOf [.long x0, .int x2] [] (some (.int rr)) [] := by
  refine Con.of (by decide +kernel) (Nat.le_of_ble_eq_true rfl) (fun G C hR => ?_)
  unfold mX10_byteOf at hm
  show J l rmX10_byteOf D G (0, 0) [] [(0, .long x0), (2, .int x2)] [] 0
  refine j_lload_n C dX10_byteOf_0 rfl 0 rfl ?_
  refine j_bipush (v := 8) C dX10_byteOf_1 (by decide) ?_
  refine j_iload_n C dX10_byteOf_3 rfl 1 rfl ?_
  refine j_imul C dX10_byteOf_4 ?_
  refine j_lushr C dX10_byteOf_5 ?_
  refine j_l2i C dX10_byteOf_6 ?_
  refine j_sipush (v := 255) C dX10_byteOf_7 (by decide) ?_
  refine j_iand C dX10_byteOf_10 ?_
  cases hm
  exact j_iret C hR dX10_byteOf_11
def rmX10_lettersIn : Room := { frames := 1, cells := 0, slots := 0, locals := 22 }
theorem wd_X10_lettersIn : yX10_lettersIn.cls ≠ "java/lang/invoke/MethodHandle" ∧ yX10_lettersIn.cls ≠ "java/lang/invoke/VarHandle" ∧ (parseMethodDescriptor yX10_lettersIn.desc).map (fun d => d.parameters.length) = some 1 := by decide +kernel
def mX10_lettersIn_38 (N : Nat) : Option Int32 := some (-102)
set_option maxRecDepth 100000 in
set_option maxHeartbeats 4000000 in
theorem kX10_lettersIn_38 {l : Launch} {D : va_G} {tys : List (ClassId × FieldType)} {G : Gx} {N : Nat} {rr : Int32} (C : jC l rmX10_lettersIn D tys G cX10_lettersIn 6 RX10) (hR : jR D tys G (0, 0) (some .int) (some (.int rr)) [])   (hm : mX10_lettersIn_38 N = some rr) : J l rmX10_lettersIn D G (0, 0) [] [] [] 38 := by
  unfold mX10_lettersIn_38 at hm
  refine j_bipush (v := (-102)) C dX10_lettersIn_38 (by decide) ?_
  cases hm
  exact j_iret C hR dX10_lettersIn_40
def mX10_lettersIn_54 (N : Nat) (k7 : Int64 → Int32 → Int32 → Int32 → Option Int32) (x0 : Int64) (x2 : Int32) (x3 : Int32) (x4 : Int32) : Option Int32 := k7 x0 x2 x3 (x4 + 1)
set_option maxRecDepth 100000 in
set_option maxHeartbeats 4000000 in
theorem kX10_lettersIn_54 {l : Launch} {D : va_G} {tys : List (ClassId × FieldType)} {G : Gx} {N : Nat} {rr : Int32} (C : jC l rmX10_lettersIn D tys G cX10_lettersIn 6 RX10) (hR : jR D tys G (0, 0) (some .int) (some (.int rr)) []) (k7 : Int64 → Int32 → Int32 → Int32 → Option Int32) (K7 : ∀ (x0 : Int64) (x2 : Int32) (x3 : Int32) (x4 : Int32), k7 x0 x2 x3 x4 = some rr → J l rmX10_lettersIn D G (0, 0) [] [(0, .long x0), (2, .int x2), (3, .int x3), (4, .int x4)] [] 7) (x0 : Int64) (x2 : Int32) (x3 : Int32) (x4 : Int32) (hm : mX10_lettersIn_54 N k7 x0 x2 x3 x4 = some rr) : J l rmX10_lettersIn D G (0, 0) [] [(0, .long x0), (2, .int x2), (3, .int x3), (4, .int x4)] [] 54 := by
  unfold mX10_lettersIn_54 at hm
  refine j_iinc (v := (x4 + 1)) C dX10_lettersIn_54 3 rfl rfl (by decide) rfl ?_
  refine j_goto (tgt := 7) C dX10_lettersIn_57 (by decide) ?_
  exact J.sub [1, 2, 3, 0] rfl (K7 x0 x2 x3 (x4 + 1) hm)
def mX10_lettersIn_41 (N : Nat) (k7 : Int64 → Int32 → Int32 → Int32 → Option Int32) (x0 : Int64) (x2 : Int32) (x3 : Int32) (x4 : Int32) (x5 : Int32) : Option Int32 := if ¬ x5 = 0 then (mX10_lettersIn_54 N k7 x0 (x2 + 1) x3 x4) else (mX10_lettersIn_54 N k7 x0 x2 1 x4)
set_option maxRecDepth 100000 in
set_option maxHeartbeats 4000000 in
theorem kX10_lettersIn_41 {l : Launch} {D : va_G} {tys : List (ClassId × FieldType)} {G : Gx} {N : Nat} {rr : Int32} (C : jC l rmX10_lettersIn D tys G cX10_lettersIn 6 RX10) (hR : jR D tys G (0, 0) (some .int) (some (.int rr)) []) (k7 : Int64 → Int32 → Int32 → Int32 → Option Int32) (K7 : ∀ (x0 : Int64) (x2 : Int32) (x3 : Int32) (x4 : Int32), k7 x0 x2 x3 x4 = some rr → J l rmX10_lettersIn D G (0, 0) [] [(0, .long x0), (2, .int x2), (3, .int x3), (4, .int x4)] [] 7) (x0 : Int64) (x2 : Int32) (x3 : Int32) (x4 : Int32) (x5 : Int32) (hm : mX10_lettersIn_41 N k7 x0 x2 x3 x4 x5 = some rr) : J l rmX10_lettersIn D G (0, 0) [] [(0, .long x0), (2, .int x2), (3, .int x3), (4, .int x4), (5, .int x5)] [] 41 := by
  unfold mX10_lettersIn_41 at hm
  refine j_iload C dX10_lettersIn_41 4 rfl ?_
  refine j_if_neq (tgt := 51) C dX10_lettersIn_43 (by decide) hm (fun hm => ?_) (fun hm => ?_)
  · refine j_iinc (v := (x2 + 1)) C dX10_lettersIn_51 1 rfl rfl (by decide) rfl ?_
    exact J.sub [1, 0, 2, 3] rfl (kX10_lettersIn_54 C hR k7 K7 x0 (x2 + 1) x3 x4 hm)
  · refine j_iconst (v := 1) C dX10_lettersIn_46 (by decide) ?_
    refine j_istore_n C dX10_lettersIn_47 rfl (by decide) rfl ?_
    refine j_goto (tgt := 54) C dX10_lettersIn_48 (by decide) ?_
    exact J.sub [1, 2, 0, 3] rfl (kX10_lettersIn_54 C hR k7 K7 x0 x2 1 x4 hm)
def mX10_lettersIn_7 (N : Nat) (k7 : Int64 → Int32 → Int32 → Int32 → Option Int32) (x0 : Int64) (x2 : Int32) (x3 : Int32) (x4 : Int32) : Option Int32 := if 8 ≤ x4 then (some x2) else ((mX10_byteOf N x0 x4).bind (fun r1 => if 126 < r1 then (mX10_lettersIn_38 N) else (if x3 = 0 then (mX10_lettersIn_41 N k7 x0 x2 x3 x4 r1) else (if r1 = 0 then (mX10_lettersIn_41 N k7 x0 x2 x3 x4 r1) else (mX10_lettersIn_38 N)))))
set_option maxRecDepth 100000 in
set_option maxHeartbeats 4000000 in
theorem kX10_lettersIn_7 {l : Launch} {D : va_G} {tys : List (ClassId × FieldType)} {G : Gx} {N : Nat} {rr : Int32} (C : jC l rmX10_lettersIn D tys G cX10_lettersIn 6 RX10) (hR : jR D tys G (0, 0) (some .int) (some (.int rr)) []) (k7 : Int64 → Int32 → Int32 → Int32 → Option Int32) (K7 : ∀ (x0 : Int64) (x2 : Int32) (x3 : Int32) (x4 : Int32), k7 x0 x2 x3 x4 = some rr → J l rmX10_lettersIn D G (0, 0) [] [(0, .long x0), (2, .int x2), (3, .int x3), (4, .int x4)] [] 7) (x0 : Int64) (x2 : Int32) (x3 : Int32) (x4 : Int32) (hm : mX10_lettersIn_7 N k7 x0 x2 x3 x4 = some rr) : J l rmX10_lettersIn D G (0, 0) [] [(0, .long x0), (2, .int x2), (3, .int x3), (4, .int x4)] [] 7 := by
  unfold mX10_lettersIn_7 at hm
  refine j_iload C dX10_lettersIn_7 3 rfl ?_
  refine j_bipush (v := 8) C dX10_lettersIn_9 (by decide) ?_
  refine j_icmp_geq (tgt := 60) C dX10_lettersIn_11 (by decide) hm (fun hm => ?_) (fun hm => ?_)
  · refine j_iload_n C dX10_lettersIn_60 rfl 1 rfl ?_
    cases hm
    exact j_iret C hR dX10_lettersIn_61
  · refine j_lload_n C dX10_lettersIn_14 rfl 0 rfl ?_
    refine j_iload C dX10_lettersIn_15 3 rfl ?_
    refine j_bind hm (fun r1 hr1 hm => ?_)
    refine j_callS (cs' := (0, 0)) (As := [.long x0, .int x4]) (rest := []) C (qX10_byteOf hr1) w2_3 w2_1 w2_2 w1_1 wd_X10_byteOf ⟨by decide, by decide⟩ rfl (Nat.le_of_ble_eq_true rfl) dX10_lettersIn_17 ⟨by decide, by decide⟩ rfl rfl ?_
    refine j_istore C dX10_lettersIn_20 (by decide) rfl ?_
    refine j_iload C dX10_lettersIn_22 0 rfl ?_
    refine j_bipush (v := 126) C dX10_lettersIn_24 (by decide) ?_
    refine j_icmp_gtq (tgt := 38) C dX10_lettersIn_26 (by decide) hm (fun hm => ?_) (fun hm => ?_)
    · exact J.sub [] rfl (kX10_lettersIn_38 C hR hm)
    · refine j_iload_n C dX10_lettersIn_29 rfl 3 rfl ?_
      refine j_if_eqq (tgt := 41) C dX10_lettersIn_30 (by decide) hm (fun hm => ?_) (fun hm => ?_)
      · exact J.sub [1, 2, 3, 4, 0] rfl (kX10_lettersIn_41 C hR k7 K7 x0 x2 x3 x4 r1 hm)
      · refine j_iload C dX10_lettersIn_33 0 rfl ?_
        refine j_if_eqq (tgt := 41) C dX10_lettersIn_35 (by decide) hm (fun hm => ?_) (fun hm => ?_)
        · exact J.sub [1, 2, 3, 4, 0] rfl (kX10_lettersIn_41 C hR k7 K7 x0 x2 x3 x4 r1 hm)
        · exact J.sub [] rfl (kX10_lettersIn_38 C hR hm)
def mX10_lettersIn_h7 (N : Nat) : Nat → Int64 → Int32 → Int32 → Int32 → Option Int32
  | 0, _, _, _, _ => none
  | n + 1, x0, x2, x3, x4 => mX10_lettersIn_7 N (mX10_lettersIn_h7 N n) x0 x2 x3 x4
theorem kX10_lettersIn_h7 {l : Launch} {D : va_G} {tys : List (ClassId × FieldType)} {G : Gx} {N : Nat} {rr : Int32} (C : jC l rmX10_lettersIn D tys G cX10_lettersIn 6 RX10) (hR : jR D tys G (0, 0) (some .int) (some (.int rr)) [])  : ∀ (n : Nat) (x0 : Int64) (x2 : Int32) (x3 : Int32) (x4 : Int32), mX10_lettersIn_h7 N n x0 x2 x3 x4 = some rr → J l rmX10_lettersIn D G (0, 0) [] [(0, .long x0), (2, .int x2), (3, .int x3), (4, .int x4)] [] 7 := by
  intro n
  induction n with
  | zero =>
    intro x0 x2 x3 x4 hm
    have hm : (none : Option Int32) = some rr := hm
    cases hm
  | succ n ih =>
    intro x0 x2 x3 x4 hm
    exact kX10_lettersIn_7 C hR _ ih x0 x2 x3 x4 hm
def mX10_lettersIn (N : Nat) (x0 : Int64) : Option Int32 := mX10_lettersIn_h7 N N x0 0 0 0
set_option maxRecDepth 100000 in
set_option maxHeartbeats 4000000 in
theorem qX10_lettersIn {l : Launch} {D : va_G} {tys : List (ClassId × FieldType)} {N : Nat} {x0 : Int64} {rr : Int32} (hm : mX10_lettersIn N x0 = some rr) : Con l D tys yX10_lettersIn (wS yX10_lettersIn cX10_lettersIn 6 (some .int)) rmX10_lettersIn [.long x0] [] (some (.int rr)) [] := by
  refine Con.of (by decide +kernel) (Nat.le_of_ble_eq_true rfl) (fun G C hR => ?_)
  unfold mX10_lettersIn at hm
  show J l rmX10_lettersIn D G (0, 0) [] [(0, .long x0)] [] 0
  refine j_iconst (v := 0) C dX10_lettersIn_0 (by decide) ?_
  refine j_istore_n C dX10_lettersIn_1 rfl (by decide) rfl ?_
  refine j_iconst (v := 0) C dX10_lettersIn_2 (by decide) ?_
  refine j_istore_n C dX10_lettersIn_3 rfl (by decide) rfl ?_
  refine j_iconst (v := 0) C dX10_lettersIn_4 (by decide) ?_
  refine j_istore C dX10_lettersIn_5 (by decide) rfl ?_
  exact J.sub [3, 2, 1, 0] rfl (kX10_lettersIn_h7 C hR N x0 0 0 0 hm)
def rmX10_letters : Room := { frames := 2, cells := 0, slots := 0, locals := 47 }
theorem wd_X10_letters : yX10_letters.cls ≠ "java/lang/invoke/MethodHandle" ∧ yX10_letters.cls ≠ "java/lang/invoke/VarHandle" ∧ (parseMethodDescriptor yX10_letters.desc).map (fun d => d.parameters.length) = some 1 := by decide +kernel
def mX10_letters_31 (N : Nat) (k31 : USt → Int64 → Int32 → Int32 → Option (Int32 × USt)) (u : USt) (x1 : Int64) (x3 : Int32) (x4 : Int32) : Option (Int32 × USt) := if x3 ≤ x4 then ((mX6_size N u).bind (fun r1 => some (r1, u))) else ((mX10_byteOf N x1 x4).bind (fun r2 => (mX6_append N u r2).bind (fun u4 => k31 u4 x1 x3 (x4 + 1))))
set_option maxRecDepth 100000 in
set_option maxHeartbeats 4000000 in
theorem kX10_letters_31 {l : Launch} {D : va_G} {cI cO cR : ClassId} {q : Nat → Nat} {t0 : Nat} {b : BSt} {G : Gx} {N : Nat} {rr : (Int32 × USt)} (C : jC l rmX10_letters D (tX cI cO cR) G cX10_letters 5 RX10) (hR : jR D (tX cI cO cR) G (0, 0) (some .int) (some (.int rr.1)) (wX cI cO cR q t0 rr.2 b)) (k31 : USt → Int64 → Int32 → Int32 → Option (Int32 × USt)) (K31 : ∀ (u : USt) (x1 : Int64) (x3 : Int32) (x4 : Int32), k31 u x1 x3 x4 = some rr → J l rmX10_letters D G (0, 0) (wX cI cO cR q t0 u b) [(0, .ref (q 0)), (1, .long x1), (3, .int x3), (4, .int x4)] [] 31) (u : USt) (x1 : Int64) (x3 : Int32) (x4 : Int32) (hm : mX10_letters_31 N k31 u x1 x3 x4 = some rr) : J l rmX10_letters D G (0, 0) (wX cI cO cR q t0 u b) [(0, .ref (q 0)), (1, .long x1), (3, .int x3), (4, .int x4)] [] 31 := by
  unfold mX10_letters_31 at hm
  refine j_iload C dX10_letters_31 3 rfl ?_
  refine j_iload_n C dX10_letters_33 rfl 2 rfl ?_
  refine j_icmp_geq (tgt := 56) C dX10_letters_34 (by decide) hm (fun hm => ?_) (fun hm => ?_)
  · refine j_aload_n C dX10_letters_56 rfl 0 rfl ?_
    refine jX_g0_0_X10 C dX10_letters_57 ?_
    refine j_bind hm (fun r1 hr1 hm => ?_)
    refine j_callV (cs' := (0, 0)) (As := []) (rest := []) C (qX6_size hr1) w2_15 w2_12 w2_13 w2_14 w1_2 wd_X6_size ⟨by decide, by decide⟩ 1 rfl rfl rfl (Nat.le_of_ble_eq_true rfl) dX10_letters_60 ⟨by decide, by decide⟩ rfl rfl ?_
    cases hm
    exact j_iret C hR dX10_letters_63
  · refine j_aload_n C dX10_letters_37 rfl 0 rfl ?_
    refine jX_g0_0_X10 C dX10_letters_38 ?_
    refine j_lload_n C dX10_letters_41 rfl 1 rfl ?_
    refine j_iload C dX10_letters_42 3 rfl ?_
    refine j_bind hm (fun r2 hr2 hm => ?_)
    refine j_callS (cs' := (0, 0)) (As := [.long x1, .int x4]) (rest := [.ref (q 1)]) C (qX10_byteOf hr2) w2_3 w2_1 w2_2 w1_1 wd_X10_byteOf ⟨by decide, by decide⟩ rfl (Nat.le_of_ble_eq_true rfl) dX10_letters_44 ⟨by decide, by decide⟩ rfl rfl ?_
    refine j_bind hm (fun u4 hr3 hm => ?_)
    refine j_callV (cs' := (0, 0)) (As := [.int r2]) (rest := []) C (qX6_append hr3) w2_11 w2_8 w2_9 w2_10 w1_2 wd_X6_append ⟨by decide, by decide⟩ 1 rfl rfl rfl (Nat.le_of_ble_eq_true rfl) dX10_letters_47 ⟨by decide, by decide⟩ rfl rfl ?_
    refine j_iinc (v := (x4 + 1)) C dX10_letters_50 3 rfl rfl (by decide) rfl ?_
    refine j_goto (tgt := 31) C dX10_letters_53 (by decide) ?_
    exact J.sub [1, 2, 3, 0] rfl (K31 u4 x1 x3 (x4 + 1) hm)
def mX10_letters_h31 (N : Nat) : Nat → USt → Int64 → Int32 → Int32 → Option (Int32 × USt)
  | 0, _, _, _, _ => none
  | n + 1, u, x1, x3, x4 => mX10_letters_31 N (mX10_letters_h31 N n) u x1 x3 x4
theorem kX10_letters_h31 {l : Launch} {D : va_G} {cI cO cR : ClassId} {q : Nat → Nat} {t0 : Nat} {b : BSt} {G : Gx} {N : Nat} {rr : (Int32 × USt)} (C : jC l rmX10_letters D (tX cI cO cR) G cX10_letters 5 RX10) (hR : jR D (tX cI cO cR) G (0, 0) (some .int) (some (.int rr.1)) (wX cI cO cR q t0 rr.2 b))  : ∀ (n : Nat) (u : USt) (x1 : Int64) (x3 : Int32) (x4 : Int32), mX10_letters_h31 N n u x1 x3 x4 = some rr → J l rmX10_letters D G (0, 0) (wX cI cO cR q t0 u b) [(0, .ref (q 0)), (1, .long x1), (3, .int x3), (4, .int x4)] [] 31 := by
  intro n
  induction n with
  | zero =>
    intro u x1 x3 x4 hm
    have hm : (none : Option (Int32 × USt)) = some rr := hm
    cases hm
  | succ n ih =>
    intro u x1 x3 x4 hm
    exact kX10_letters_31 C hR _ ih u x1 x3 x4 hm
def mX10_letters (N : Nat) (u : USt) (x1 : Int64) : Option (Int32 × USt) := (mX10_lettersIn N x1).bind (fun r1 => if ¬ r1 = (-102) then ((mX6_hasRoom N u r1).bind (fun r2 => if ¬ r2 = 0 then (mX10_letters_h31 N N u x1 r1 0) else (some ((-104), u)))) else (some ((-102), u)))
set_option maxRecDepth 100000 in
set_option maxHeartbeats 4000000 in
theorem qX10_letters {l : Launch} {D : va_G} {cI cO cR : ClassId} {q : Nat → Nat} {t0 : Nat} {u : USt} {b : BSt} {N : Nat} {x1 : Int64} {rr : (Int32 × USt)} (hm : mX10_letters N u x1 = some rr) : Con l D (tX cI cO cR) yX10_letters (wS yX10_letters cX10_letters 5 (some .int)) rmX10_letters [.ref (q 0), .long x1] (wX cI cO cR q t0 u b) (some (.int rr.1)) (wX cI cO cR q t0 rr.2 b) := by
  refine Con.of (by decide +kernel) (Nat.le_of_ble_eq_true rfl) (fun G C hR => ?_)
  unfold mX10_letters at hm
  show J l rmX10_letters D G (0, 0) (wX cI cO cR q t0 u b) [(0, .ref (q 0)), (1, .long x1)] [] 0
  refine j_lload_n C dX10_letters_0 rfl 1 rfl ?_
  refine j_bind hm (fun r1 hr1 hm => ?_)
  refine j_callS (cs' := (0, 0)) (As := [.long x1]) (rest := []) C (qX10_lettersIn hr1) w2_0 w1_238 w1_239 w1_1 wd_X10_lettersIn ⟨by decide, by decide⟩ rfl (Nat.le_of_ble_eq_true rfl) dX10_letters_1 ⟨by decide, by decide⟩ rfl rfl ?_
  refine j_istore_n C dX10_letters_4 rfl (by decide) rfl ?_
  refine j_iload_n C dX10_letters_5 rfl 0 rfl ?_
  refine j_bipush (v := (-102)) C dX10_letters_6 (by decide) ?_
  refine j_icmp_neq (tgt := 14) C dX10_letters_8 (by decide) hm (fun hm => ?_) (fun hm => ?_)
  · refine j_aload_n C dX10_letters_14 rfl 1 rfl ?_
    refine jX_g0_0_X10 C dX10_letters_15 ?_
    refine j_iload_n C dX10_letters_18 rfl 0 rfl ?_
    refine j_bind hm (fun r2 hr2 hm => ?_)
    refine j_callV (cs' := (0, 0)) (As := [.int r1]) (rest := []) C (qX6_hasRoom hr2) w2_7 w2_4 w2_5 w2_6 w1_2 wd_X6_hasRoom ⟨by decide, by decide⟩ 1 rfl rfl rfl (Nat.le_of_ble_eq_true rfl) dX10_letters_19 ⟨by decide, by decide⟩ rfl rfl ?_
    refine j_if_neq (tgt := 28) C dX10_letters_22 (by decide) hm (fun hm => ?_) (fun hm => ?_)
    · refine j_iconst (v := 0) C dX10_letters_28 (by decide) ?_
      refine j_istore C dX10_letters_29 (by decide) rfl ?_
      exact J.sub [2, 3, 1, 0] rfl (kX10_letters_h31 C hR N u x1 r1 0 hm)
    · refine j_bipush (v := (-104)) C dX10_letters_25 (by decide) ?_
      cases hm
      exact j_iret C hR dX10_letters_27
  · refine j_bipush (v := (-102)) C dX10_letters_11 (by decide) ?_
    cases hm
    exact j_iret C hR dX10_letters_13
def rmX10_blank : Room := { frames := 1, cells := 0, slots := 0, locals := 21 }
theorem wd_X10_blank : yX10_blank.cls ≠ "java/lang/invoke/MethodHandle" ∧ yX10_blank.cls ≠ "java/lang/invoke/VarHandle" ∧ (parseMethodDescriptor yX10_blank.desc).map (fun d => d.parameters.length) = some 0 := by decide +kernel
def mX10_blank (N : Nat) (u : USt) : Option (Int32 × USt) := bp (mX6_empty N u) (fun r1 u2 => some (r1, u2))
set_option maxRecDepth 100000 in
set_option maxHeartbeats 4000000 in
theorem qX10_blank {l : Launch} {D : va_G} {cI cO cR : ClassId} {q : Nat → Nat} {t0 : Nat} {u : USt} {b : BSt} {N : Nat}  {rr : (Int32 × USt)} (hm : mX10_blank N u = some rr) : Con l D (tX cI cO cR) yX10_blank (wS yX10_blank cX10_blank 1 (some .int)) rmX10_blank [.ref (q 0)] (wX cI cO cR q t0 u b) (some (.int rr.1)) (wX cI cO cR q t0 rr.2 b) := by
  refine Con.of (by decide +kernel) (Nat.le_of_ble_eq_true rfl) (fun G C hR => ?_)
  unfold mX10_blank at hm
  show J l rmX10_blank D G (0, 0) (wX cI cO cR q t0 u b) [(0, .ref (q 0))] [] 0
  refine j_aload_n C dX10_blank_0 rfl 0 rfl ?_
  refine jX_g0_0_X10 C dX10_blank_1 ?_
  refine j_bindp hm (fun r1 u2 hr1 hm => ?_)
  refine j_callV (cs' := (0, 0)) (As := []) (rest := []) C (qX6_empty hr1) w2_23 w2_20 w2_21 w2_22 w1_2 wd_X6_empty ⟨by decide, by decide⟩ 1 rfl rfl rfl (Nat.le_of_ble_eq_true rfl) dX10_blank_4 ⟨by decide, by decide⟩ rfl rfl ?_
  cases hm
  exact j_iret C hR dX10_blank_7
def rmX10_fault : Room := { frames := 4, cells := 0, slots := 0, locals := 86 }
theorem wd_X10_fault : yX10_fault.cls ≠ "java/lang/invoke/MethodHandle" ∧ yX10_fault.cls ≠ "java/lang/invoke/VarHandle" ∧ (parseMethodDescriptor yX10_fault.desc).map (fun d => d.parameters.length) = some 0 := by decide +kernel
def mX10_fault (N : Nat) (u : USt) : Option (Int32 × USt) := bp (mX6_readBy N u) (fun r1 u2 => some (r1, u2))
set_option maxRecDepth 100000 in
set_option maxHeartbeats 4000000 in
theorem qX10_fault {l : Launch} {D : va_G} {cI cO cR : ClassId} {q : Nat → Nat} {t0 : Nat} {u : USt} {b : BSt} {N : Nat}  {rr : (Int32 × USt)} (hm : mX10_fault N u = some rr) : Con l D (tX cI cO cR) yX10_fault (wS yX10_fault cX10_fault 1 (some .int)) rmX10_fault [.ref (q 0)] (wX cI cO cR q t0 u b) (some (.int rr.1)) (wX cI cO cR q t0 rr.2 b) := by
  refine Con.of (by decide +kernel) (Nat.le_of_ble_eq_true rfl) (fun G C hR => ?_)
  unfold mX10_fault at hm
  show J l rmX10_fault D G (0, 0) (wX cI cO cR q t0 u b) [(0, .ref (q 0))] [] 0
  refine j_aload_n C dX10_fault_0 rfl 0 rfl ?_
  refine jX_g0_0_X10 C dX10_fault_1 ?_
  refine j_aload_n C dX10_fault_4 rfl 0 rfl ?_
  refine jX_g0_1_X10 C dX10_fault_5 ?_
  refine j_bindp hm (fun r1 u2 hr1 hm => ?_)
  refine j_callV (cs' := (0, 0)) (As := [.ref (q 3)]) (rest := []) C (qX6_readBy hr1) w2_31 w2_28 w2_29 w2_30 w1_2 wd_X6_readBy ⟨by decide, by decide⟩ 1 rfl rfl rfl (Nat.le_of_ble_eq_true rfl) dX10_fault_8 ⟨by decide, by decide⟩ rfl rfl ?_
  cases hm
  exact j_iret C hR dX10_fault_11
def rmX10_isBridge : Room := { frames := 1, cells := 0, slots := 0, locals := 20 }
theorem wd_X10_isBridge : yX10_isBridge.cls ≠ "java/lang/invoke/MethodHandle" ∧ yX10_isBridge.cls ≠ "java/lang/invoke/VarHandle" ∧ (parseMethodDescriptor yX10_isBridge.desc).map (fun d => d.parameters.length) = some 1 := by decide +kernel
def mX10_isBridge_20 (N : Nat) (u : USt) (s0 : Int32) : Option Int32 := gd (s0 = 0 ∨ s0 = 1) (some s0)
set_option maxRecDepth 100000 in
set_option maxHeartbeats 4000000 in
theorem kX10_isBridge_20 {l : Launch} {D : va_G} {cI cO cR : ClassId} {q : Nat → Nat} {t0 : Nat} {u : USt} {b : BSt} {G : Gx} {N : Nat} {rr : Int32} (C : jC l rmX10_isBridge D (tX cI cO cR) G cX10_isBridge 2 RX10) (hR : jR D (tX cI cO cR) G (0, 0) (some .boolean) (some (.int rr)) (wX cI cO cR q t0 u b))  (s0 : Int32) (hm : mX10_isBridge_20 N u s0 = some rr) : J l rmX10_isBridge D G (0, 0) (wX cI cO cR q t0 u b) [] [.int s0] 20 := by
  unfold mX10_isBridge_20 at hm
  obtain ⟨g, hm⟩ := gd_some hm
  cases hm
  exact j_zret C hR (jz01 g) dX10_isBridge_20
def mX10_isBridge_19 (N : Nat) (u : USt) : Option Int32 := mX10_isBridge_20 N u 0
set_option maxRecDepth 100000 in
set_option maxHeartbeats 4000000 in
theorem kX10_isBridge_19 {l : Launch} {D : va_G} {cI cO cR : ClassId} {q : Nat → Nat} {t0 : Nat} {u : USt} {b : BSt} {G : Gx} {N : Nat} {rr : Int32} (C : jC l rmX10_isBridge D (tX cI cO cR) G cX10_isBridge 2 RX10) (hR : jR D (tX cI cO cR) G (0, 0) (some .boolean) (some (.int rr)) (wX cI cO cR q t0 u b))   (hm : mX10_isBridge_19 N u = some rr) : J l rmX10_isBridge D G (0, 0) (wX cI cO cR q t0 u b) [] [] 19 := by
  unfold mX10_isBridge_19 at hm
  refine j_iconst (v := 0) C dX10_isBridge_19 (by decide) ?_
  exact kX10_isBridge_20 C hR 0 hm
def mX10_isBridge (N : Nat) (u : USt) (x1 : Int32) : Option Int32 := if x1 < 0 then (mX10_isBridge_19 N u) else ((mJx4a65c_size_8abf5 N u).bind (fun r1 => if r1 ≤ x1 then (mX10_isBridge_19 N u) else (mX10_isBridge_20 N u 1)))
set_option maxRecDepth 100000 in
set_option maxHeartbeats 4000000 in
theorem qX10_isBridge {l : Launch} {D : va_G} {cI cO cR : ClassId} {q : Nat → Nat} {t0 : Nat} {u : USt} {b : BSt} {N : Nat} {x1 : Int32} {rr : Int32} (hm : mX10_isBridge N u x1 = some rr) : Con l D (tX cI cO cR) yX10_isBridge (wS yX10_isBridge cX10_isBridge 2 (some .boolean)) rmX10_isBridge [.ref (q 0), .int x1] (wX cI cO cR q t0 u b) (some (.int rr)) (wX cI cO cR q t0 u b) := by
  refine Con.of (by decide +kernel) (Nat.le_of_ble_eq_true rfl) (fun G C hR => ?_)
  unfold mX10_isBridge at hm
  show J l rmX10_isBridge D G (0, 0) (wX cI cO cR q t0 u b) [(0, .ref (q 0)), (1, .int x1)] [] 0
  refine j_iload_n C dX10_isBridge_0 rfl 1 rfl ?_
  refine j_if_ltq (tgt := 19) C dX10_isBridge_1 (by decide) hm (fun hm => ?_) (fun hm => ?_)
  · exact J.sub [] rfl (kX10_isBridge_19 C hR hm)
  · refine j_iload_n C dX10_isBridge_4 rfl 1 rfl ?_
    refine j_aload_n C dX10_isBridge_5 rfl 0 rfl ?_
    refine jX_g0_2_X10 C dX10_isBridge_6 ?_
    refine j_bind hm (fun r1 hr1 hm => ?_)
    refine j_callV (cs' := (0, 0)) (As := []) (rest := [.int x1]) C (qJx4a65c_size_8abf5 hr1) w2_74 w2_71 w2_72 w2_73 w1_6 wd_Jx4a65c_size_8abf5 ⟨by decide, by decide⟩ 5 rfl rfl rfl (Nat.le_of_ble_eq_true rfl) dX10_isBridge_9 ⟨by decide, by decide⟩ rfl rfl ?_
    refine j_icmp_geq (tgt := 19) C dX10_isBridge_12 (by decide) hm (fun hm => ?_) (fun hm => ?_)
    · exact J.sub [] rfl (kX10_isBridge_19 C hR hm)
    · refine j_iconst (v := 1) C dX10_isBridge_15 (by decide) ?_
      refine j_goto (tgt := 20) C dX10_isBridge_16 (by decide) ?_
      exact J.sub [] rfl (kX10_isBridge_20 C hR 1 hm)
def rmX10_isOfKind : Room := { frames := 0, cells := 0, slots := 0, locals := 0 }
theorem wd_X10_isOfKind : yX10_isOfKind.cls ≠ "java/lang/invoke/MethodHandle" ∧ yX10_isOfKind.cls ≠ "java/lang/invoke/VarHandle" ∧ (parseMethodDescriptor yX10_isOfKind.desc).map (fun d => d.parameters.length) = some 2 := by decide +kernel
def mX10_isOfKind (N : Nat) (b : BSt) (a0 : Nat) (x1 : Int32) : Option Int32 := if (Int32.toInt x1) < 0 ∨ 3 < (Int32.toInt x1) then (some 0) else if x1 = 0 then (some 1) else if x1 = 1 then (bcl b a0 (fun c => nm (ivFrosty c) (fun z1 => gd (z1 = 0 ∨ z1 = 1) (some z1)))) else if x1 = 2 then (bcl b a0 (fun c => nm (ivSwinging c) (fun z2 => gd (z2 = 0 ∨ z2 = 1) (some z2)))) else if x1 = 3 then (bcl b a0 (fun c => nm (ivFixed c) (fun z3 => gd (z3 = 0 ∨ z3 = 1) (some z3)))) else none
set_option maxRecDepth 100000 in
set_option maxHeartbeats 4000000 in
theorem qX10_isOfKind {l : Launch} {D : va_G} {cI cO cR : ClassId} {q : Nat → Nat} {t0 : Nat} {u : USt} {b : BSt} {N : Nat} {a0 : Nat} {x1 : Int32} {rr : Int32} (hm : mX10_isOfKind N b a0 x1 = some rr) : Con l D (tX cI cO cR) yX10_isOfKind (wS yX10_isOfKind cX10_isOfKind 2 (some .boolean)) rmX10_isOfKind [.ref (bA b a0), .int x1] (wX cI cO cR q t0 u b) (some (.int rr)) (wX cI cO cR q t0 u b) := by
  refine Con.of (by decide +kernel) (Nat.le_of_ble_eq_true rfl) (fun G C hR => ?_)
  unfold mX10_isOfKind at hm
  show J l rmX10_isOfKind D G (0, 0) (wX cI cO cR q t0 u b) [(0, .ref (bA b a0)), (1, .int x1)] [] 0
  refine j_iload_n C dX10_isOfKind_0 rfl 1 rfl ?_
  refine j_tswD (tgt := 49) C dX10_isOfKind_1 (by decide) hm (fun hm => ?_) (fun hm => ?_)
  · refine j_iconst (v := 0) C dX10_isOfKind_49 (by decide) ?_
    cases hm
    exact j_zret C hR (by decide) dX10_isOfKind_50
  refine j_tswK (k := 0) (tgt := 32) C dX10_isOfKind_1 (by decide) (by decide) rfl (by decide) hm (fun hm => ?_) (fun hm => ?_)
  · refine j_iconst (v := 1) C dX10_isOfKind_32 (by decide) ?_
    cases hm
    exact j_zret C hR (by decide) dX10_isOfKind_33
  refine j_tswK (k := 1) (tgt := 34) C dX10_isOfKind_1 (by decide) (by decide) rfl (by decide) hm (fun hm => ?_) (fun hm => ?_)
  · refine j_aload_n C dX10_isOfKind_34 rfl 0 rfl ?_
    refine jX_iFrosty C w3_9 w6_70 dX10_isOfKind_35 hm (fun z1 hm => ?_)
    obtain ⟨g, hm⟩ := gd_some hm
    cases hm
    exact j_zret C hR (jz01 g) dX10_isOfKind_38
  refine j_tswK (k := 2) (tgt := 39) C dX10_isOfKind_1 (by decide) (by decide) rfl (by decide) hm (fun hm => ?_) (fun hm => ?_)
  · refine j_aload_n C dX10_isOfKind_39 rfl 0 rfl ?_
    refine jX_iSwinging C w3_10 dX10_isOfKind_40 hm (fun z2 hm => ?_)
    obtain ⟨g, hm⟩ := gd_some hm
    cases hm
    exact j_zret C hR (jz01 g) dX10_isOfKind_43
  refine j_tswK (k := 3) (tgt := 44) C dX10_isOfKind_1 (by decide) (by decide) rfl (by decide) hm (fun hm => ?_) (fun hm => ?_)
  · refine j_aload_n C dX10_isOfKind_44 rfl 0 rfl ?_
    refine jX_iFixed C w3_11 dX10_isOfKind_45 hm (fun z3 hm => ?_)
    obtain ⟨g, hm⟩ := gd_some hm
    cases hm
    exact j_zret C hR (jz01 g) dX10_isOfKind_48
  cases hm
def rmX10_as : Room := { frames := 3, cells := 0, slots := 0, locals := 64 }
theorem wd_X10_as : yX10_as.cls ≠ "java/lang/invoke/MethodHandle" ∧ yX10_as.cls ≠ "java/lang/invoke/VarHandle" ∧ (parseMethodDescriptor yX10_as.desc).map (fun d => d.parameters.length) = some 2 := by decide +kernel
def mX10_as_20 (N : Nat) (u : USt) (b : BSt) : Option Int32 := some (-102)
set_option maxRecDepth 100000 in
set_option maxHeartbeats 4000000 in
theorem kX10_as_20 {l : Launch} {D : va_G} {cI cO cR : ClassId} {q : Nat → Nat} {t0 : Nat} {u : USt} {b : BSt} {G : Gx} {N : Nat} {rr : Int32} (C : jC l rmX10_as D (tX cI cO cR) G cX10_as 3 RX10) (hR : jR D (tX cI cO cR) G (0, 0) (some .int) (some (.int rr)) (wX cI cO cR q t0 u b))   (hm : mX10_as_20 N u b = some rr) : J l rmX10_as D G (0, 0) (wX cI cO cR q t0 u b) [] [] 20 := by
  unfold mX10_as_20 at hm
  refine j_bipush (v := (-102)) C dX10_as_20 (by decide) ?_
  cases hm
  exact j_iret C hR dX10_as_22
def mX10_as_46 (N : Nat) (u : USt) (b : BSt) (s0 : Int32) : Option Int32 := some s0
set_option maxRecDepth 100000 in
set_option maxHeartbeats 4000000 in
theorem kX10_as_46 {l : Launch} {D : va_G} {cI cO cR : ClassId} {q : Nat → Nat} {t0 : Nat} {u : USt} {b : BSt} {G : Gx} {N : Nat} {rr : Int32} (C : jC l rmX10_as D (tX cI cO cR) G cX10_as 3 RX10) (hR : jR D (tX cI cO cR) G (0, 0) (some .int) (some (.int rr)) (wX cI cO cR q t0 u b))  (s0 : Int32) (hm : mX10_as_46 N u b s0 = some rr) : J l rmX10_as D G (0, 0) (wX cI cO cR q t0 u b) [] [.int s0] 46 := by
  unfold mX10_as_46 at hm
  cases hm
  exact j_iret C hR dX10_as_46
def mX10_as (N : Nat) (u : USt) (b : BSt) (x1 : Int32) (x2 : Int32) : Option Int32 := (mX10_isBridge N u x1).bind (fun r1 => if ¬ r1 = 0 then (if x2 < 0 then (mX10_as_20 N u b) else (if x2 ≤ 3 then ((mJx4a65c_get_915e3 N u b x1).bind (fun r2 => bwt b r2 (fun _ => (mX10_isOfKind N b r2 x2).bind (fun r3 => if r3 = 0 then (mX10_as_46 N u b (-1)) else (mX10_as_46 N u b x1))))) else (mX10_as_20 N u b))) else (some (-101)))
set_option maxRecDepth 100000 in
set_option maxHeartbeats 4000000 in
theorem qX10_as {l : Launch} {D : va_G} {cI cO cR : ClassId} {q : Nat → Nat} {t0 : Nat} {u : USt} {b : BSt} {N : Nat} {x1 : Int32} {x2 : Int32} {rr : Int32} (hm : mX10_as N u b x1 x2 = some rr) : Con l D (tX cI cO cR) yX10_as (wS yX10_as cX10_as 3 (some .int)) rmX10_as [.ref (q 0), .int x1, .int x2] (wX cI cO cR q t0 u b) (some (.int rr)) (wX cI cO cR q t0 u b) := by
  refine Con.of (by decide +kernel) (Nat.le_of_ble_eq_true rfl) (fun G C hR => ?_)
  unfold mX10_as at hm
  show J l rmX10_as D G (0, 0) (wX cI cO cR q t0 u b) [(0, .ref (q 0)), (1, .int x1), (2, .int x2)] [] 0
  refine j_aload_n C dX10_as_0 rfl 0 rfl ?_
  refine j_iload_n C dX10_as_1 rfl 1 rfl ?_
  refine j_bind hm (fun r1 hr1 hm => ?_)
  refine j_callV (cs' := (0, 0)) (As := [.int x1]) (rest := []) C (qX10_isBridge hr1) w2_230 w2_227 w2_229 w0_8 w1_1 wd_X10_isBridge ⟨by decide, by decide⟩ 0 rfl rfl rfl (Nat.le_of_ble_eq_true rfl) dX10_as_2 ⟨by decide, by decide⟩ rfl rfl ?_
  refine j_if_neq (tgt := 11) C dX10_as_5 (by decide) hm (fun hm => ?_) (fun hm => ?_)
  · refine j_iload_n C dX10_as_11 rfl 2 rfl ?_
    refine j_if_ltq (tgt := 20) C dX10_as_12 (by decide) hm (fun hm => ?_) (fun hm => ?_)
    · exact J.sub [] rfl (kX10_as_20 C hR hm)
    · refine j_iload_n C dX10_as_15 rfl 2 rfl ?_
      refine j_iconst (v := 3) C dX10_as_16 (by decide) ?_
      refine j_icmp_leq (tgt := 23) C dX10_as_17 (by decide) hm (fun hm => ?_) (fun hm => ?_)
      · refine j_aload_n C dX10_as_23 rfl 0 rfl ?_
        refine jX_g0_2_X10 C dX10_as_24 ?_
        refine j_iload_n C dX10_as_27 rfl 1 rfl ?_
        refine j_bind hm (fun r2 hr2 hm => ?_)
        refine j_callV (cs' := (0, 0)) (As := [.int x1]) (rest := []) C (qJx4a65c_get_915e3 hr2) w2_234 w2_231 w2_232 w2_233 w1_6 wd_Jx4a65c_get_915e3 ⟨by decide, by decide⟩ 5 rfl rfl rfl (Nat.le_of_ble_eq_true rfl) dX10_as_28 ⟨by decide, by decide⟩ rfl rfl ?_
        refine jX_cast C w3_5 w6_67 w6_68 w6_69 dX10_as_31 hm (fun hm => ?_)
        refine j_iload_n C dX10_as_34 rfl 2 rfl ?_
        refine j_bind hm (fun r3 hr3 hm => ?_)
        refine j_callSW (cs' := (0, 0)) (As := [.ref (bA b r2), .int x2]) (rest := []) C (qX10_isOfKind hr3) w3_8 w3_6 w3_7 w1_1 wd_X10_isOfKind ⟨by decide, by decide⟩ rfl (Nat.le_of_ble_eq_true rfl) dX10_as_35 ⟨by decide, by decide⟩ rfl rfl ?_
        refine j_if_eqq (tgt := 45) C dX10_as_38 (by decide) hm (fun hm => ?_) (fun hm => ?_)
        · refine j_iconst (v := (-1)) C dX10_as_45 (by decide) ?_
          exact J.sub [] rfl (kX10_as_46 C hR (-1) hm)
        · refine j_iload_n C dX10_as_41 rfl 1 rfl ?_
          refine j_goto (tgt := 46) C dX10_as_42 (by decide) ?_
          exact J.sub [] rfl (kX10_as_46 C hR x1 hm)
      · exact J.sub [] rfl (kX10_as_20 C hR hm)
  · refine j_bipush (v := (-101)) C dX10_as_8 (by decide) ?_
    cases hm
    exact j_iret C hR dX10_as_10
def vX0_kind (N : Nat) (b : BSt) (k : Nat) : Option Int32 := bwt b k (fun v => if v.2.2.1 = 1 then mX0_kind N b k else (if v.2.2.1 = 3 then mX2_kind N b k else (if v.2.2.1 = 4 then mX3_kind N b k else (if v.2.2.1 = 9 then mX8_kind N b k else (none)))))
theorem jX_v_X10_278 {l : Launch} {R : Room} {D : va_G} {cI cO cR : ClassId} {q : Nat → Nat} {t0 : Nat} {u : USt} {b : BSt} {G : Gx} {cc : ByteArray} {nL : Nat} {lv : List (Nat × Value)} {pc : Nat} {N k : Nat} {r : Int32} {rest : List Value} (C : jC l R D (tX cI cO cR) G cc nL RX10) (hv : vX0_kind N b k  = some r) (hR : 0 + 1 ≤ R.frames ∧ 8 + (1 + 11) + 0 ≤ R.locals) (hrest : (rest.map fun v => v.category).sum ≤ 8) (d : decode cc pc = .ok (.invokevirtual 278, 3)) (hz : R.cells = 0 ∧ R.slots = 0) (kk : J l R D G (0, 0) (wX cI cO cR q t0 u b) lv (.int r :: rest) (pc + 3)) : J l R D G (0, 0) (wX cI cO cR q t0 u b) lv (.ref (bA b k) :: rest) pc := by
  unfold vX0_kind at hv
  obtain ⟨x, rfl, hk, hc, hv⟩ := bwt_some hv
  have he := (wX_b (cI := cI) (cO := cO) (cR := cR) (q := q) (t0 := t0) (u := u) hk).1
  rcases okc_or hc with e | e | e | e
  · refine j_callU (cs' := (0, 0)) (As := []) (rest := rest) C (qX0_kind (ip e hv)) w3_33 w3_33 w3_20 w3_23 w3_21 w3_22 w3_21 w1_12 wd_X0_kind ⟨Nat.le_trans (by decide) hR.1, Nat.le_trans (by decide) hR.2⟩ (45 + 2 * k) (bCell_at he e) rfl rfl hrest d ⟨by rw [hz.1]; decide, by rw [hz.2]; decide⟩ rfl rfl kk
  · refine j_callU (cs' := (0, 0)) (As := []) (rest := rest) C (qX2_kind (ip e (im (by rw [e]; decide) hv))) w3_26 w3_33 w3_20 w3_23 w3_21 w3_24 w3_25 w1_18 wd_X0_kind ⟨Nat.le_trans (by decide) hR.1, Nat.le_trans (by decide) hR.2⟩ (45 + 2 * k) (bCell_at he e) rfl rfl hrest d ⟨by rw [hz.1]; decide, by rw [hz.2]; decide⟩ rfl rfl kk
  · refine j_callU (cs' := (0, 0)) (As := []) (rest := rest) C (qX3_kind (ip e (im (by rw [e]; decide) (im (by rw [e]; decide) hv)))) w3_29 w3_33 w3_20 w3_23 w3_21 w3_27 w3_28 w1_13 wd_X0_kind ⟨Nat.le_trans (by decide) hR.1, Nat.le_trans (by decide) hR.2⟩ (45 + 2 * k) (bCell_at he e) rfl rfl hrest d ⟨by rw [hz.1]; decide, by rw [hz.2]; decide⟩ rfl rfl kk
  · refine j_callU (cs' := (0, 0)) (As := []) (rest := rest) C (qX8_kind (ip e (im (by rw [e]; decide) (im (by rw [e]; decide) (im (by rw [e]; decide) hv))))) w3_32 w3_33 w3_20 w3_23 w3_21 w3_30 w3_31 w1_17 wd_X0_kind ⟨Nat.le_trans (by decide) hR.1, Nat.le_trans (by decide) hR.2⟩ (45 + 2 * k) (bCell_at he e) rfl rfl hrest d ⟨by rw [hz.1]; decide, by rw [hz.2]; decide⟩ rfl rfl kk
def vX0_endCount (N : Nat) (b : BSt) (k : Nat) : Option Int32 := bwt b k (fun v => if v.2.2.1 = 1 then mX0_endCount N b k else (if v.2.2.1 = 3 then mX0_endCount N b k else (if v.2.2.1 = 4 then mX0_endCount N b k else (if v.2.2.1 = 9 then mX0_endCount N b k else (none)))))
theorem jX_v_X10_194 {l : Launch} {R : Room} {D : va_G} {cI cO cR : ClassId} {q : Nat → Nat} {t0 : Nat} {u : USt} {b : BSt} {G : Gx} {cc : ByteArray} {nL : Nat} {lv : List (Nat × Value)} {pc : Nat} {N k : Nat} {r : Int32} {rest : List Value} (C : jC l R D (tX cI cO cR) G cc nL RX10) (hv : vX0_endCount N b k  = some r) (hR : 0 + 1 ≤ R.frames ∧ 8 + (1 + 11) + 0 ≤ R.locals) (hrest : (rest.map fun v => v.category).sum ≤ 8) (d : decode cc pc = .ok (.invokevirtual 194, 3)) (hz : R.cells = 0 ∧ R.slots = 0) (kk : J l R D G (0, 0) (wX cI cO cR q t0 u b) lv (.int r :: rest) (pc + 3)) : J l R D G (0, 0) (wX cI cO cR q t0 u b) lv (.ref (bA b k) :: rest) pc := by
  unfold vX0_endCount at hv
  obtain ⟨x, rfl, hk, hc, hv⟩ := bwt_some hv
  have he := (wX_b (cI := cI) (cO := cO) (cR := cR) (q := q) (t0 := t0) (u := u) hk).1
  rcases okc_or hc with e | e | e | e
  · refine j_callU (cs' := (0, 0)) (As := []) (rest := rest) C (qX0_endCount (ip e hv)) w3_41 w3_41 w3_34 w3_37 w3_35 w3_36 w3_35 w1_12 wd_X0_endCount ⟨Nat.le_trans (by decide) hR.1, Nat.le_trans (by decide) hR.2⟩ (45 + 2 * k) (bCell_at he e) rfl rfl hrest d ⟨by rw [hz.1]; decide, by rw [hz.2]; decide⟩ rfl rfl kk
  · refine j_callU (cs' := (0, 0)) (As := []) (rest := rest) C (qX0_endCount (ip e (im (by rw [e]; decide) hv))) w3_41 w3_41 w3_34 w3_37 w3_35 w3_38 w3_35 w1_12 wd_X0_endCount ⟨Nat.le_trans (by decide) hR.1, Nat.le_trans (by decide) hR.2⟩ (45 + 2 * k) (bCell_at he e) rfl rfl hrest d ⟨by rw [hz.1]; decide, by rw [hz.2]; decide⟩ rfl rfl kk
  · refine j_callU (cs' := (0, 0)) (As := []) (rest := rest) C (qX0_endCount (ip e (im (by rw [e]; decide) (im (by rw [e]; decide) hv)))) w3_41 w3_41 w3_34 w3_37 w3_35 w3_39 w3_35 w1_12 wd_X0_endCount ⟨Nat.le_trans (by decide) hR.1, Nat.le_trans (by decide) hR.2⟩ (45 + 2 * k) (bCell_at he e) rfl rfl hrest d ⟨by rw [hz.1]; decide, by rw [hz.2]; decide⟩ rfl rfl kk
  · refine j_callU (cs' := (0, 0)) (As := []) (rest := rest) C (qX0_endCount (ip e (im (by rw [e]; decide) (im (by rw [e]; decide) (im (by rw [e]; decide) hv))))) w3_41 w3_41 w3_34 w3_37 w3_35 w3_40 w3_35 w1_12 wd_X0_endCount ⟨Nat.le_trans (by decide) hR.1, Nat.le_trans (by decide) hR.2⟩ (45 + 2 * k) (bCell_at he e) rfl rfl hrest d ⟨by rw [hz.1]; decide, by rw [hz.2]; decide⟩ rfl rfl kk
theorem jX_v_X10_160 {l : Launch} {R : Room} {D : va_G} {cI cO cR : ClassId} {q : Nat → Nat} {t0 : Nat} {u : USt} {b : BSt} {G : Gx} {cc : ByteArray} {nL : Nat} {lv : List (Nat × Value)} {pc : Nat} {N k : Nat} {z0 r : Int32} {rest : List Value} (C : jC l R D (tX cI cO cR) G cc nL RX10) (hv : vX0_roundMinutes N b k z0 = some r) (hR : 2 + 1 ≤ R.frames ∧ 8 + (2 + 11) + 40 ≤ R.locals) (hrest : (rest.map fun v => v.category).sum ≤ 8) (d : decode cc pc = .ok (.invokevirtual 160, 3)) (hz : R.cells = 0 ∧ R.slots = 0) (kk : J l R D G (0, 0) (wX cI cO cR q t0 u b) lv (.int r :: rest) (pc + 3)) : J l R D G (0, 0) (wX cI cO cR q t0 u b) lv (.int z0 :: .ref (bA b k) :: rest) pc := by
  unfold vX0_roundMinutes at hv
  obtain ⟨x, rfl, hk, hc, hv⟩ := bwt_some hv
  have he := (wX_b (cI := cI) (cO := cO) (cR := cR) (q := q) (t0 := t0) (u := u) hk).1
  rcases okc_or hc with e | e | e | e
  · refine j_callU (cs' := (0, 0)) (As := [.int z0]) (rest := rest) C (qX0_roundMinutes (ip e hv)) w3_51 w3_51 w3_42 w3_45 w3_43 w3_44 w3_43 w1_12 wd_X0_roundMinutes ⟨Nat.le_trans (by decide) hR.1, Nat.le_trans (by decide) hR.2⟩ (45 + 2 * k) (bCell_at he e) rfl rfl hrest d ⟨by rw [hz.1]; decide, by rw [hz.2]; decide⟩ rfl rfl kk
  · refine j_callU (cs' := (0, 0)) (As := [.int z0]) (rest := rest) C (qX2_roundMinutes (ip e (im (by rw [e]; decide) hv))) w3_48 w3_51 w3_42 w3_45 w3_43 w3_46 w3_47 w1_18 wd_X0_roundMinutes ⟨Nat.le_trans (by decide) hR.1, Nat.le_trans (by decide) hR.2⟩ (45 + 2 * k) (bCell_at he e) rfl rfl hrest d ⟨by rw [hz.1]; decide, by rw [hz.2]; decide⟩ rfl rfl kk
  · refine j_callU (cs' := (0, 0)) (As := [.int z0]) (rest := rest) C (qX0_roundMinutes (ip e (im (by rw [e]; decide) (im (by rw [e]; decide) hv)))) w3_51 w3_51 w3_42 w3_45 w3_43 w3_49 w3_43 w1_12 wd_X0_roundMinutes ⟨Nat.le_trans (by decide) hR.1, Nat.le_trans (by decide) hR.2⟩ (45 + 2 * k) (bCell_at he e) rfl rfl hrest d ⟨by rw [hz.1]; decide, by rw [hz.2]; decide⟩ rfl rfl kk
  · refine j_callU (cs' := (0, 0)) (As := [.int z0]) (rest := rest) C (qX0_roundMinutes (ip e (im (by rw [e]; decide) (im (by rw [e]; decide) (im (by rw [e]; decide) hv))))) w3_51 w3_51 w3_42 w3_45 w3_43 w3_50 w3_43 w1_12 wd_X0_roundMinutes ⟨Nat.le_trans (by decide) hR.1, Nat.le_trans (by decide) hR.2⟩ (45 + 2 * k) (bCell_at he e) rfl rfl hrest d ⟨by rw [hz.1]; decide, by rw [hz.2]; decide⟩ rfl rfl kk
theorem jX_v_X10_200 {l : Launch} {R : Room} {D : va_G} {cI cO cR : ClassId} {q : Nat → Nat} {t0 : Nat} {u : USt} {b : BSt} {G : Gx} {cc : ByteArray} {nL : Nat} {lv : List (Nat × Value)} {pc : Nat} {N k : Nat} {z0 r : Int32} {rest : List Value} (C : jC l R D (tX cI cO cR) G cc nL RX10) (hv : vX0_end N b k z0 = some r) (hR : 0 + 1 ≤ R.frames ∧ 8 + (2 + 11) + 0 ≤ R.locals) (hrest : (rest.map fun v => v.category).sum ≤ 8) (d : decode cc pc = .ok (.invokevirtual 200, 3)) (hz : R.cells = 0 ∧ R.slots = 0) (kk : J l R D G (0, 0) (wX cI cO cR q t0 u b) lv (.int r :: rest) (pc + 3)) : J l R D G (0, 0) (wX cI cO cR q t0 u b) lv (.int z0 :: .ref (bA b k) :: rest) pc := by
  unfold vX0_end at hv
  obtain ⟨x, rfl, hk, hc, hv⟩ := bwt_some hv
  have he := (wX_b (cI := cI) (cO := cO) (cR := cR) (q := q) (t0 := t0) (u := u) hk).1
  rcases okc_or hc with e | e | e | e
  · refine j_callU (cs' := (0, 0)) (As := [.int z0]) (rest := rest) C (qX0_end (ip e hv)) w3_83 w3_83 w3_76 w3_79 w3_77 w3_78 w3_77 w1_12 wd_X0_end ⟨Nat.le_trans (by decide) hR.1, Nat.le_trans (by decide) hR.2⟩ (45 + 2 * k) (bCell_at he e) rfl rfl hrest d ⟨by rw [hz.1]; decide, by rw [hz.2]; decide⟩ rfl rfl kk
  · refine j_callU (cs' := (0, 0)) (As := [.int z0]) (rest := rest) C (qX0_end (ip e (im (by rw [e]; decide) hv))) w3_83 w3_83 w3_76 w3_79 w3_77 w3_80 w3_77 w1_12 wd_X0_end ⟨Nat.le_trans (by decide) hR.1, Nat.le_trans (by decide) hR.2⟩ (45 + 2 * k) (bCell_at he e) rfl rfl hrest d ⟨by rw [hz.1]; decide, by rw [hz.2]; decide⟩ rfl rfl kk
  · refine j_callU (cs' := (0, 0)) (As := [.int z0]) (rest := rest) C (qX0_end (ip e (im (by rw [e]; decide) (im (by rw [e]; decide) hv)))) w3_83 w3_83 w3_76 w3_79 w3_77 w3_81 w3_77 w1_12 wd_X0_end ⟨Nat.le_trans (by decide) hR.1, Nat.le_trans (by decide) hR.2⟩ (45 + 2 * k) (bCell_at he e) rfl rfl hrest d ⟨by rw [hz.1]; decide, by rw [hz.2]; decide⟩ rfl rfl kk
  · refine j_callU (cs' := (0, 0)) (As := [.int z0]) (rest := rest) C (qX0_end (ip e (im (by rw [e]; decide) (im (by rw [e]; decide) (im (by rw [e]; decide) hv))))) w3_83 w3_83 w3_76 w3_79 w3_77 w3_82 w3_77 w1_12 wd_X0_end ⟨Nat.le_trans (by decide) hR.1, Nat.le_trans (by decide) hR.2⟩ (45 + 2 * k) (bCell_at he e) rfl rfl hrest d ⟨by rw [hz.1]; decide, by rw [hz.2]; decide⟩ rfl rfl kk
def rmX10_told : Room := { frames := 3, cells := 0, slots := 0, locals := 61 }
theorem wd_X10_told : yX10_told.cls ≠ "java/lang/invoke/MethodHandle" ∧ yX10_told.cls ≠ "java/lang/invoke/VarHandle" ∧ (parseMethodDescriptor yX10_told.desc).map (fun d => d.parameters.length) = some 2 := by decide +kernel
def mX10_told_130 (N : Nat) (u : USt) (b : BSt) : Option Int32 := some (-102)
set_option maxRecDepth 100000 in
set_option maxHeartbeats 4000000 in
theorem kX10_told_130 {l : Launch} {D : va_G} {cI cO cR : ClassId} {q : Nat → Nat} {t0 : Nat} {u : USt} {b : BSt} {G : Gx} {N : Nat} {rr : Int32} (C : jC l rmX10_told D (tX cI cO cR) G cX10_told 3 RX10) (hR : jR D (tX cI cO cR) G (0, 0) (some .int) (some (.int rr)) (wX cI cO cR q t0 u b))   (hm : mX10_told_130 N u b = some rr) : J l rmX10_told D G (0, 0) (wX cI cO cR q t0 u b) [] [] 130 := by
  unfold mX10_told_130 at hm
  refine j_bipush (v := (-102)) C dX10_told_130 (by decide) ?_
  cases hm
  exact j_iret C hR dX10_told_132
def mX10_told (N : Nat) (u : USt) (b : BSt) (a1 : Nat) (x2 : Int32) : Option Int32 := if (Int32.toInt x2) < 0 ∨ 12 < (Int32.toInt x2) then (mX10_told_130 N u b) else if x2 = 0 then ((vX0_kind N b a1).bind (fun r1 => some r1)) else if x2 = 1 then (bfi b a1 0 (fun f2 => some f2)) else if x2 = 2 then ((vX0_endCount N b a1).bind (fun r3 => some r3)) else if x2 = 3 then (bfi b a1 1 (fun f4 => some f4)) else if x2 = 4 then (bfi b a1 2 (fun f5 => some f5)) else if x2 = 5 then (bfi b a1 5 (fun f6 => some f6)) else if x2 = 6 then (bfi b a1 3 (fun f7 => some f7)) else if x2 = 7 then ((vX0_roundMinutes N b a1 (u.1 19)).bind (fun r8 => some r8)) else if x2 = 8 then (mX10_told_130 N u b) else if x2 = 9 then (mX10_told_130 N u b) else if x2 = 10 then ((vX0_end N b a1 0).bind (fun r9 => some r9)) else if x2 = 11 then ((vX0_end N b a1 1).bind (fun r10 => some r10)) else if x2 = 12 then ((vX0_end N b a1 2).bind (fun r11 => some r11)) else none
set_option maxRecDepth 100000 in
set_option maxHeartbeats 4000000 in
theorem qX10_told {l : Launch} {D : va_G} {cI cO cR : ClassId} {q : Nat → Nat} {t0 : Nat} {u : USt} {b : BSt} {N : Nat} {a1 : Nat} {x2 : Int32} {rr : Int32} (hm : mX10_told N u b a1 x2 = some rr) : Con l D (tX cI cO cR) yX10_told (wS yX10_told cX10_told 3 (some .int)) rmX10_told [.ref (q 0), .ref (bA b a1), .int x2] (wX cI cO cR q t0 u b) (some (.int rr)) (wX cI cO cR q t0 u b) := by
  refine Con.of (by decide +kernel) (Nat.le_of_ble_eq_true rfl) (fun G C hR => ?_)
  unfold mX10_told at hm
  show J l rmX10_told D G (0, 0) (wX cI cO cR q t0 u b) [(0, .ref (q 0)), (1, .ref (bA b a1)), (2, .int x2)] [] 0
  refine j_iload_n C dX10_told_0 rfl 2 rfl ?_
  refine j_tswD (tgt := 130) C dX10_told_1 (by decide) hm (fun hm => ?_) (fun hm => ?_)
  · exact J.sub [] rfl (kX10_told_130 C hR hm)
  refine j_tswK (k := 0) (tgt := 68) C dX10_told_1 (by decide) (by decide) rfl (by decide) hm (fun hm => ?_) (fun hm => ?_)
  · refine j_aload_n C dX10_told_68 rfl 1 rfl ?_
    refine j_bind hm (fun r1 hr1 hm => ?_)
    refine jX_v_X10_278 (rest := []) C hr1 ⟨by decide, by decide⟩ (Nat.le_of_ble_eq_true rfl) dX10_told_69 (by decide) ?_
    cases hm
    exact j_iret C hR dX10_told_72
  refine j_tswK (k := 1) (tgt := 73) C dX10_told_1 (by decide) (by decide) rfl (by decide) hm (fun hm => ?_) (fun hm => ?_)
  · refine j_aload_n C dX10_told_73 rfl 1 rfl ?_
    refine jX_b0 C w2_109 dX10_told_74 hm (fun f2 hm => ?_)
    cases hm
    exact j_iret C hR dX10_told_77
  refine j_tswK (k := 2) (tgt := 78) C dX10_told_1 (by decide) (by decide) rfl (by decide) hm (fun hm => ?_) (fun hm => ?_)
  · refine j_aload_n C dX10_told_78 rfl 1 rfl ?_
    refine j_bind hm (fun r3 hr3 hm => ?_)
    refine jX_v_X10_194 (rest := []) C hr3 ⟨by decide, by decide⟩ (Nat.le_of_ble_eq_true rfl) dX10_told_79 (by decide) ?_
    cases hm
    exact j_iret C hR dX10_told_82
  refine j_tswK (k := 3) (tgt := 83) C dX10_told_1 (by decide) (by decide) rfl (by decide) hm (fun hm => ?_) (fun hm => ?_)
  · refine j_aload_n C dX10_told_83 rfl 1 rfl ?_
    refine jX_b1 C w2_111 dX10_told_84 hm (fun f4 hm => ?_)
    cases hm
    exact j_iret C hR dX10_told_87
  refine j_tswK (k := 4) (tgt := 88) C dX10_told_1 (by decide) (by decide) rfl (by decide) hm (fun hm => ?_) (fun hm => ?_)
  · refine j_aload_n C dX10_told_88 rfl 1 rfl ?_
    refine jX_b2 C w2_115 dX10_told_89 hm (fun f5 hm => ?_)
    cases hm
    exact j_iret C hR dX10_told_92
  refine j_tswK (k := 5) (tgt := 93) C dX10_told_1 (by decide) (by decide) rfl (by decide) hm (fun hm => ?_) (fun hm => ?_)
  · refine j_aload_n C dX10_told_93 rfl 1 rfl ?_
    refine jX_b5 C w2_121 dX10_told_94 hm (fun f6 hm => ?_)
    cases hm
    exact j_iret C hR dX10_told_97
  refine j_tswK (k := 6) (tgt := 98) C dX10_told_1 (by decide) (by decide) rfl (by decide) hm (fun hm => ?_) (fun hm => ?_)
  · refine j_aload_n C dX10_told_98 rfl 1 rfl ?_
    refine jX_b3 C w2_117 dX10_told_99 hm (fun f7 hm => ?_)
    cases hm
    exact j_iret C hR dX10_told_102
  refine j_tswK (k := 7) (tgt := 103) C dX10_told_1 (by decide) (by decide) rfl (by decide) hm (fun hm => ?_) (fun hm => ?_)
  · refine j_aload_n C dX10_told_103 rfl 1 rfl ?_
    refine j_aload_n C dX10_told_104 rfl 0 rfl ?_
    refine jX_g0_9_X10 C dX10_told_105 ?_
    refine j_bind hm (fun r8 hr8 hm => ?_)
    refine jX_v_X10_160 (rest := []) C hr8 ⟨by decide, by decide⟩ (Nat.le_of_ble_eq_true rfl) dX10_told_108 (by decide) ?_
    cases hm
    exact j_iret C hR dX10_told_111
  refine j_tswK (k := 8) (tgt := 130) C dX10_told_1 (by decide) (by decide) rfl (by decide) hm (fun hm => ?_) (fun hm => ?_)
  · exact J.sub [] rfl (kX10_told_130 C hR hm)
  refine j_tswK (k := 9) (tgt := 130) C dX10_told_1 (by decide) (by decide) rfl (by decide) hm (fun hm => ?_) (fun hm => ?_)
  · exact J.sub [] rfl (kX10_told_130 C hR hm)
  refine j_tswK (k := 10) (tgt := 112) C dX10_told_1 (by decide) (by decide) rfl (by decide) hm (fun hm => ?_) (fun hm => ?_)
  · refine j_aload_n C dX10_told_112 rfl 1 rfl ?_
    refine j_iconst (v := 0) C dX10_told_113 (by decide) ?_
    refine j_bind hm (fun r9 hr9 hm => ?_)
    refine jX_v_X10_200 (rest := []) C hr9 ⟨by decide, by decide⟩ (Nat.le_of_ble_eq_true rfl) dX10_told_114 (by decide) ?_
    cases hm
    exact j_iret C hR dX10_told_117
  refine j_tswK (k := 11) (tgt := 118) C dX10_told_1 (by decide) (by decide) rfl (by decide) hm (fun hm => ?_) (fun hm => ?_)
  · refine j_aload_n C dX10_told_118 rfl 1 rfl ?_
    refine j_iconst (v := 1) C dX10_told_119 (by decide) ?_
    refine j_bind hm (fun r10 hr10 hm => ?_)
    refine jX_v_X10_200 (rest := []) C hr10 ⟨by decide, by decide⟩ (Nat.le_of_ble_eq_true rfl) dX10_told_120 (by decide) ?_
    cases hm
    exact j_iret C hR dX10_told_123
  refine j_tswK (k := 12) (tgt := 124) C dX10_told_1 (by decide) (by decide) rfl (by decide) hm (fun hm => ?_) (fun hm => ?_)
  · refine j_aload_n C dX10_told_124 rfl 1 rfl ?_
    refine j_iconst (v := 2) C dX10_told_125 (by decide) ?_
    refine j_bind hm (fun r11 hr11 hm => ?_)
    refine jX_v_X10_200 (rest := []) C hr11 ⟨by decide, by decide⟩ (Nat.le_of_ble_eq_true rfl) dX10_told_126 (by decide) ?_
    cases hm
    exact j_iret C hR dX10_told_129
  cases hm
def rmX10_about : Room := { frames := 4, cells := 0, slots := 0, locals := 83 }
theorem wd_X10_about : yX10_about.cls ≠ "java/lang/invoke/MethodHandle" ∧ yX10_about.cls ≠ "java/lang/invoke/VarHandle" ∧ (parseMethodDescriptor yX10_about.desc).map (fun d => d.parameters.length) = some 2 := by decide +kernel
def mX10_about (N : Nat) (u : USt) (b : BSt) (x1 : Int32) (x2 : Int32) : Option Int32 := (mX10_isBridge N u x1).bind (fun r1 => if ¬ r1 = 0 then ((mJx4a65c_get_915e3 N u b x1).bind (fun r2 => bwt b r2 (fun _ => (mX10_told N u b r2 x2).bind (fun r3 => some r3)))) else (some (-101)))
set_option maxRecDepth 100000 in
set_option maxHeartbeats 4000000 in
theorem qX10_about {l : Launch} {D : va_G} {cI cO cR : ClassId} {q : Nat → Nat} {t0 : Nat} {u : USt} {b : BSt} {N : Nat} {x1 : Int32} {x2 : Int32} {rr : Int32} (hm : mX10_about N u b x1 x2 = some rr) : Con l D (tX cI cO cR) yX10_about (wS yX10_about cX10_about 3 (some .int)) rmX10_about [.ref (q 0), .int x1, .int x2] (wX cI cO cR q t0 u b) (some (.int rr)) (wX cI cO cR q t0 u b) := by
  refine Con.of (by decide +kernel) (Nat.le_of_ble_eq_true rfl) (fun G C hR => ?_)
  unfold mX10_about at hm
  show J l rmX10_about D G (0, 0) (wX cI cO cR q t0 u b) [(0, .ref (q 0)), (1, .int x1), (2, .int x2)] [] 0
  refine j_aload_n C dX10_about_0 rfl 0 rfl ?_
  refine j_iload_n C dX10_about_1 rfl 1 rfl ?_
  refine j_bind hm (fun r1 hr1 hm => ?_)
  refine j_callV (cs' := (0, 0)) (As := [.int x1]) (rest := []) C (qX10_isBridge hr1) w2_230 w2_227 w2_229 w0_8 w1_1 wd_X10_isBridge ⟨by decide, by decide⟩ 0 rfl rfl rfl (Nat.le_of_ble_eq_true rfl) dX10_about_2 ⟨by decide, by decide⟩ rfl rfl ?_
  refine j_if_neq (tgt := 11) C dX10_about_5 (by decide) hm (fun hm => ?_) (fun hm => ?_)
  · refine j_aload_n C dX10_about_11 rfl 0 rfl ?_
    refine j_aload_n C dX10_about_12 rfl 0 rfl ?_
    refine jX_g0_2_X10 C dX10_about_13 ?_
    refine j_iload_n C dX10_about_16 rfl 1 rfl ?_
    refine j_bind hm (fun r2 hr2 hm => ?_)
    refine j_callV (cs' := (0, 0)) (As := [.int x1]) (rest := [.ref (q 0)]) C (qJx4a65c_get_915e3 hr2) w2_234 w2_231 w2_232 w2_233 w1_6 wd_Jx4a65c_get_915e3 ⟨by decide, by decide⟩ 5 rfl rfl rfl (Nat.le_of_ble_eq_true rfl) dX10_about_17 ⟨by decide, by decide⟩ rfl rfl ?_
    refine jX_cast C w3_5 w6_67 w6_68 w6_69 dX10_about_20 hm (fun hm => ?_)
    refine j_iload_n C dX10_about_23 rfl 2 rfl ?_
    refine j_bind hm (fun r3 hr3 hm => ?_)
    refine j_callV (cs' := (0, 0)) (As := [.ref (bA b r2), .int x2]) (rest := []) C (qX10_told hr3) w3_19 w3_16 w3_18 w0_9 w1_1 wd_X10_told ⟨by decide, by decide⟩ 0 rfl rfl rfl (Nat.le_of_ble_eq_true rfl) dX10_about_24 ⟨by decide, by decide⟩ rfl rfl ?_
    cases hm
    exact j_iret C hR dX10_about_27
  · refine j_bipush (v := (-101)) C dX10_about_8 (by decide) ?_
    cases hm
    exact j_iret C hR dX10_about_10
def rmX10_offset : Room := { frames := 3, cells := 0, slots := 0, locals := 64 }
theorem wd_X10_offset : yX10_offset.cls ≠ "java/lang/invoke/MethodHandle" ∧ yX10_offset.cls ≠ "java/lang/invoke/VarHandle" ∧ (parseMethodDescriptor yX10_offset.desc).map (fun d => d.parameters.length) = some 2 := by decide +kernel
def mX10_offset_21 (N : Nat) (u : USt) (b : BSt) : Option (Int32 × BSt) := some ((-102), b)
set_option maxRecDepth 100000 in
set_option maxHeartbeats 4000000 in
theorem kX10_offset_21 {l : Launch} {D : va_G} {cI cO cR : ClassId} {q : Nat → Nat} {t0 : Nat} {u : USt} {G : Gx} {N : Nat} {rr : (Int32 × BSt)} (C : jC l rmX10_offset D (tX cI cO cR) G cX10_offset 5 RX10) (hR : jR D (tX cI cO cR) G (0, 0) (some .int) (some (.int rr.1)) (wX cI cO cR q t0 u rr.2))  (b : BSt) (hm : mX10_offset_21 N u b = some rr) : J l rmX10_offset D G (0, 0) (wX cI cO cR q t0 u b) [] [] 21 := by
  unfold mX10_offset_21 at hm
  refine j_bipush (v := (-102)) C dX10_offset_21 (by decide) ?_
  cases hm
  exact j_iret C hR dX10_offset_23
def mX10_offset (N : Nat) (u : USt) (b : BSt) (x1 : Int32) (x2 : Int32) : Option (Int32 × BSt) := (mX10_isBridge N u x1).bind (fun r1 => if ¬ r1 = 0 then (if x2 < 0 then (mX10_offset_21 N u b) else (if x2 ≤ 9 then ((mJx4a65c_get_915e3 N u b x1).bind (fun r2 => bwt b r2 (fun _ => bfi b r2 5 (fun f3 => bsh b r2 x2 (fun b4 => some (f3, b4)))))) else (mX10_offset_21 N u b))) else (some ((-101), b)))
set_option maxRecDepth 100000 in
set_option maxHeartbeats 4000000 in
theorem qX10_offset {l : Launch} {D : va_G} {cI cO cR : ClassId} {q : Nat → Nat} {t0 : Nat} {u : USt} {b : BSt} {N : Nat} {x1 : Int32} {x2 : Int32} {rr : (Int32 × BSt)} (hm : mX10_offset N u b x1 x2 = some rr) : Con l D (tX cI cO cR) yX10_offset (wS yX10_offset cX10_offset 5 (some .int)) rmX10_offset [.ref (q 0), .int x1, .int x2] (wX cI cO cR q t0 u b) (some (.int rr.1)) (wX cI cO cR q t0 u rr.2) := by
  refine Con.of (by decide +kernel) (Nat.le_of_ble_eq_true rfl) (fun G C hR => ?_)
  unfold mX10_offset at hm
  show J l rmX10_offset D G (0, 0) (wX cI cO cR q t0 u b) [(0, .ref (q 0)), (1, .int x1), (2, .int x2)] [] 0
  refine j_aload_n C dX10_offset_0 rfl 0 rfl ?_
  refine j_iload_n C dX10_offset_1 rfl 1 rfl ?_
  refine j_bind hm (fun r1 hr1 hm => ?_)
  refine j_callV (cs' := (0, 0)) (As := [.int x1]) (rest := []) C (qX10_isBridge hr1) w2_230 w2_227 w2_229 w0_8 w1_1 wd_X10_isBridge ⟨by decide, by decide⟩ 0 rfl rfl rfl (Nat.le_of_ble_eq_true rfl) dX10_offset_2 ⟨by decide, by decide⟩ rfl rfl ?_
  refine j_if_neq (tgt := 11) C dX10_offset_5 (by decide) hm (fun hm => ?_) (fun hm => ?_)
  · refine j_iload_n C dX10_offset_11 rfl 2 rfl ?_
    refine j_if_ltq (tgt := 21) C dX10_offset_12 (by decide) hm (fun hm => ?_) (fun hm => ?_)
    · exact J.sub [] rfl (kX10_offset_21 C hR b hm)
    · refine j_iload_n C dX10_offset_15 rfl 2 rfl ?_
      refine j_bipush (v := 9) C dX10_offset_16 (by decide) ?_
      refine j_icmp_leq (tgt := 24) C dX10_offset_18 (by decide) hm (fun hm => ?_) (fun hm => ?_)
      · refine j_aload_n C dX10_offset_24 rfl 0 rfl ?_
        refine jX_g0_2_X10 C dX10_offset_25 ?_
        refine j_iload_n C dX10_offset_28 rfl 1 rfl ?_
        refine j_bind hm (fun r2 hr2 hm => ?_)
        refine j_callV (cs' := (0, 0)) (As := [.int x1]) (rest := []) C (qJx4a65c_get_915e3 hr2) w2_234 w2_231 w2_232 w2_233 w1_6 wd_Jx4a65c_get_915e3 ⟨by decide, by decide⟩ 5 rfl rfl rfl (Nat.le_of_ble_eq_true rfl) dX10_offset_29 ⟨by decide, by decide⟩ rfl rfl ?_
        refine jX_cast C w3_5 w6_67 w6_68 w6_69 dX10_offset_32 hm (fun hm => ?_)
        refine j_astore_n C dX10_offset_35 rfl (by decide) rfl ?_
        refine j_aload_n C dX10_offset_36 rfl 0 rfl ?_
        refine jX_b5 C w2_121 dX10_offset_37 hm (fun f3 hm => ?_)
        refine j_istore C dX10_offset_40 (by decide) rfl ?_
        refine j_aload_n C dX10_offset_42 rfl 1 rfl ?_
        refine j_iload_n C dX10_offset_43 rfl 4 rfl ?_
        refine jX_bp5 C w2_121 dX10_offset_44 hm (fun b4 hm => ?_)
        refine j_iload C dX10_offset_47 0 rfl ?_
        cases hm
        exact j_iret C hR dX10_offset_49
      · exact J.sub [] rfl (kX10_offset_21 C hR b hm)
  · refine j_bipush (v := (-101)) C dX10_offset_8 (by decide) ?_
    cases hm
    exact j_iret C hR dX10_offset_10
def rmX10_frost : Room := { frames := 0, cells := 0, slots := 0, locals := 0 }
theorem wd_X10_frost : yX10_frost.cls ≠ "java/lang/invoke/MethodHandle" ∧ yX10_frost.cls ≠ "java/lang/invoke/VarHandle" ∧ (parseMethodDescriptor yX10_frost.desc).map (fun d => d.parameters.length) = some 1 := by decide +kernel
def mX10_frost_12 (N : Nat) (u : USt) (x1 : Int32) (s0 : Int32) : Option (Int32 × USt) := gd (x1 = 0 ∨ x1 = 1) (nm (siX u 19 x1) (fun u1 => some (s0, u1)))
set_option maxRecDepth 100000 in
set_option maxHeartbeats 4000000 in
theorem kX10_frost_12 {l : Launch} {D : va_G} {cI cO cR : ClassId} {q : Nat → Nat} {t0 : Nat} {b : BSt} {G : Gx} {N : Nat} {rr : (Int32 × USt)} (C : jC l rmX10_frost D (tX cI cO cR) G cX10_frost 3 RX10) (hR : jR D (tX cI cO cR) G (0, 0) (some .int) (some (.int rr.1)) (wX cI cO cR q t0 rr.2 b))  (u : USt) (x1 : Int32) (s0 : Int32) (hm : mX10_frost_12 N u x1 s0 = some rr) : J l rmX10_frost D G (0, 0) (wX cI cO cR q t0 u b) [(0, .ref (q 0)), (1, .int x1)] [.int s0] 12 := by
  unfold mX10_frost_12 at hm
  refine j_istore_n C dX10_frost_12 rfl (by decide) rfl ?_
  refine j_aload_n C dX10_frost_13 rfl 1 rfl ?_
  refine j_iload_n C dX10_frost_14 rfl 2 rfl ?_
  obtain ⟨g, hm⟩ := gd_some hm
  refine jX_p0_9_X10 C dX10_frost_15 g ?_
  refine j_nmu hm (w := fun u => wX cI cO cR q t0 u b) (fun u1 hm => ?_)
  refine j_iload_n C dX10_frost_18 rfl 0 rfl ?_
  cases hm
  exact j_iret C hR dX10_frost_19
def mX10_frost (N : Nat) (u : USt) (x1 : Int32) : Option (Int32 × USt) := nm (u.1 19) (fun f1 => if f1 = 0 then (mX10_frost_12 N u x1 0) else (mX10_frost_12 N u x1 1))
set_option maxRecDepth 100000 in
set_option maxHeartbeats 4000000 in
theorem qX10_frost {l : Launch} {D : va_G} {cI cO cR : ClassId} {q : Nat → Nat} {t0 : Nat} {u : USt} {b : BSt} {N : Nat} {x1 : Int32} {rr : (Int32 × USt)} (hm : mX10_frost N u x1 = some rr) : Con l D (tX cI cO cR) yX10_frost (wS yX10_frost cX10_frost 3 (some .int)) rmX10_frost [.ref (q 0), .int x1] (wX cI cO cR q t0 u b) (some (.int rr.1)) (wX cI cO cR q t0 rr.2 b) := by
  refine Con.of (by decide +kernel) (Nat.le_of_ble_eq_true rfl) (fun G C hR => ?_)
  unfold mX10_frost at hm
  show J l rmX10_frost D G (0, 0) (wX cI cO cR q t0 u b) [(0, .ref (q 0)), (1, .int x1)] [] 0
  refine j_aload_n C dX10_frost_0 rfl 0 rfl ?_
  refine jX_g0_9_X10 C dX10_frost_1 ?_
  refine j_nmi hm (fun f1 hm => ?_)
  refine j_if_eqq (tgt := 11) C dX10_frost_4 (by decide) hm (fun hm => ?_) (fun hm => ?_)
  · refine j_iconst (v := 0) C dX10_frost_11 (by decide) ?_
    exact kX10_frost_12 C hR u x1 0 hm
  · refine j_iconst (v := 1) C dX10_frost_7 (by decide) ?_
    refine j_goto (tgt := 12) C dX10_frost_8 (by decide) ?_
    exact kX10_frost_12 C hR u x1 1 hm
theorem jX_v_X10_130 {l : Launch} {R : Room} {D : va_G} {cI cO cR : ClassId} {q : Nat → Nat} {t0 : Nat} {u : USt} {b : BSt} {G : Gx} {cc : ByteArray} {nL : Nat} {lv : List (Nat × Value)} {pc : Nat} {N k : Nat} {z0 z1 r : Int32} {rest : List Value} (C : jC l R D (tX cI cO cR) G cc nL RX10) (hv : vX0_endAt N b k z0 z1 = some r) (hR : 3 + 1 ≤ R.frames ∧ 8 + (6 + 11) + 61 ≤ R.locals) (hrest : (rest.map fun v => v.category).sum ≤ 8) (d : decode cc pc = .ok (.invokevirtual 130, 3)) (hz : R.cells = 0 ∧ R.slots = 0) (kk : J l R D G (0, 0) (wX cI cO cR q t0 u b) lv (.int r :: rest) (pc + 3)) : J l R D G (0, 0) (wX cI cO cR q t0 u b) lv (.int z1 :: .int z0 :: .ref (bA b k) :: rest) pc := by
  unfold vX0_endAt at hv
  obtain ⟨x, rfl, hk, hc, hv⟩ := bwt_some hv
  have he := (wX_b (cI := cI) (cO := cO) (cR := cR) (q := q) (t0 := t0) (u := u) hk).1
  rcases okc_or hc with e | e | e | e
  · refine j_callU (cs' := (0, 0)) (As := [.int z0, .int z1]) (rest := rest) C (qX0_endAt (ip e hv)) w3_109 w3_109 w3_96 w3_99 w3_97 w3_98 w3_97 w1_12 wd_X0_endAt ⟨Nat.le_trans (by decide) hR.1, Nat.le_trans (by decide) hR.2⟩ (45 + 2 * k) (bCell_at he e) rfl rfl hrest d ⟨by rw [hz.1]; decide, by rw [hz.2]; decide⟩ rfl rfl kk
  · refine j_callU (cs' := (0, 0)) (As := [.int z0, .int z1]) (rest := rest) C (qX2_endAt (ip e (im (by rw [e]; decide) hv))) w3_102 w3_109 w3_96 w3_99 w3_97 w3_100 w3_101 w1_18 wd_X0_endAt ⟨Nat.le_trans (by decide) hR.1, Nat.le_trans (by decide) hR.2⟩ (45 + 2 * k) (bCell_at he e) rfl rfl hrest d ⟨by rw [hz.1]; decide, by rw [hz.2]; decide⟩ rfl rfl kk
  · refine j_callU (cs' := (0, 0)) (As := [.int z0, .int z1]) (rest := rest) C (qX0_endAt (ip e (im (by rw [e]; decide) (im (by rw [e]; decide) hv)))) w3_109 w3_109 w3_96 w3_99 w3_97 w3_107 w3_97 w1_12 wd_X0_endAt ⟨Nat.le_trans (by decide) hR.1, Nat.le_trans (by decide) hR.2⟩ (45 + 2 * k) (bCell_at he e) rfl rfl hrest d ⟨by rw [hz.1]; decide, by rw [hz.2]; decide⟩ rfl rfl kk
  · refine j_callU (cs' := (0, 0)) (As := [.int z0, .int z1]) (rest := rest) C (qX0_endAt (ip e (im (by rw [e]; decide) (im (by rw [e]; decide) (im (by rw [e]; decide) hv))))) w3_109 w3_109 w3_96 w3_99 w3_97 w3_108 w3_97 w1_12 wd_X0_endAt ⟨Nat.le_trans (by decide) hR.1, Nat.le_trans (by decide) hR.2⟩ (45 + 2 * k) (bCell_at he e) rfl rfl hrest d ⟨by rw [hz.1]; decide, by rw [hz.2]; decide⟩ rfl rfl kk
def rmX10_joins : Room := { frames := 4, cells := 0, slots := 0, locals := 86 }
theorem wd_X10_joins : yX10_joins.cls ≠ "java/lang/invoke/MethodHandle" ∧ yX10_joins.cls ≠ "java/lang/invoke/VarHandle" ∧ (parseMethodDescriptor yX10_joins.desc).map (fun d => d.parameters.length) = some 2 := by decide +kernel
def mX10_joins_22 (N : Nat) (u : USt) (b : BSt) : Option Int32 := some (-102)
set_option maxRecDepth 100000 in
set_option maxHeartbeats 4000000 in
theorem kX10_joins_22 {l : Launch} {D : va_G} {cI cO cR : ClassId} {q : Nat → Nat} {t0 : Nat} {u : USt} {b : BSt} {G : Gx} {N : Nat} {rr : Int32} (C : jC l rmX10_joins D (tX cI cO cR) G cX10_joins 4 RX10) (hR : jR D (tX cI cO cR) G (0, 0) (some .int) (some (.int rr)) (wX cI cO cR q t0 u b))   (hm : mX10_joins_22 N u b = some rr) : J l rmX10_joins D G (0, 0) (wX cI cO cR q t0 u b) [] [] 22 := by
  unfold mX10_joins_22 at hm
  refine j_bipush (v := (-102)) C dX10_joins_22 (by decide) ?_
  cases hm
  exact j_iret C hR dX10_joins_24
def mX10_joins (N : Nat) (u : USt) (b : BSt) (x1 : Int32) (x2 : Int32) : Option Int32 := (mX10_isBridge N u x1).bind (fun r1 => if ¬ r1 = 0 then (if x2 < 0 then (mX10_joins_22 N u b) else (if x2 ≤ 9999 then ((mJx4a65c_get_915e3 N u b x1).bind (fun r2 => bwt b r2 (fun _ => bfi b r2 5 (fun f3 => (vX0_endAt N b r2 (x2 + f3) (u.1 19)).bind (fun r4 => some r4))))) else (mX10_joins_22 N u b))) else (some (-101)))
set_option maxRecDepth 100000 in
set_option maxHeartbeats 4000000 in
theorem qX10_joins {l : Launch} {D : va_G} {cI cO cR : ClassId} {q : Nat → Nat} {t0 : Nat} {u : USt} {b : BSt} {N : Nat} {x1 : Int32} {x2 : Int32} {rr : Int32} (hm : mX10_joins N u b x1 x2 = some rr) : Con l D (tX cI cO cR) yX10_joins (wS yX10_joins cX10_joins 4 (some .int)) rmX10_joins [.ref (q 0), .int x1, .int x2] (wX cI cO cR q t0 u b) (some (.int rr)) (wX cI cO cR q t0 u b) := by
  refine Con.of (by decide +kernel) (Nat.le_of_ble_eq_true rfl) (fun G C hR => ?_)
  unfold mX10_joins at hm
  show J l rmX10_joins D G (0, 0) (wX cI cO cR q t0 u b) [(0, .ref (q 0)), (1, .int x1), (2, .int x2)] [] 0
  refine j_aload_n C dX10_joins_0 rfl 0 rfl ?_
  refine j_iload_n C dX10_joins_1 rfl 1 rfl ?_
  refine j_bind hm (fun r1 hr1 hm => ?_)
  refine j_callV (cs' := (0, 0)) (As := [.int x1]) (rest := []) C (qX10_isBridge hr1) w2_230 w2_227 w2_229 w0_8 w1_1 wd_X10_isBridge ⟨by decide, by decide⟩ 0 rfl rfl rfl (Nat.le_of_ble_eq_true rfl) dX10_joins_2 ⟨by decide, by decide⟩ rfl rfl ?_
  refine j_if_neq (tgt := 11) C dX10_joins_5 (by decide) hm (fun hm => ?_) (fun hm => ?_)
  · refine j_iload_n C dX10_joins_11 rfl 2 rfl ?_
    refine j_if_ltq (tgt := 22) C dX10_joins_12 (by decide) hm (fun hm => ?_) (fun hm => ?_)
    · exact J.sub [] rfl (kX10_joins_22 C hR hm)
    · refine j_iload_n C dX10_joins_15 rfl 2 rfl ?_
      refine j_sipush (v := 9999) C dX10_joins_16 (by decide) ?_
      refine j_icmp_leq (tgt := 25) C dX10_joins_19 (by decide) hm (fun hm => ?_) (fun hm => ?_)
      · refine j_aload_n C dX10_joins_25 rfl 0 rfl ?_
        refine jX_g0_2_X10 C dX10_joins_26 ?_
        refine j_iload_n C dX10_joins_29 rfl 1 rfl ?_
        refine j_bind hm (fun r2 hr2 hm => ?_)
        refine j_callV (cs' := (0, 0)) (As := [.int x1]) (rest := []) C (qJx4a65c_get_915e3 hr2) w2_234 w2_231 w2_232 w2_233 w1_6 wd_Jx4a65c_get_915e3 ⟨by decide, by decide⟩ 5 rfl rfl rfl (Nat.le_of_ble_eq_true rfl) dX10_joins_30 ⟨by decide, by decide⟩ rfl rfl ?_
        refine jX_cast C w3_5 w6_67 w6_68 w6_69 dX10_joins_33 hm (fun hm => ?_)
        refine j_astore_n C dX10_joins_36 rfl (by decide) rfl ?_
        refine j_aload_n C dX10_joins_37 rfl 0 rfl ?_
        refine j_iload_n C dX10_joins_38 rfl 3 rfl ?_
        refine j_aload_n C dX10_joins_39 rfl 0 rfl ?_
        refine jX_b5 C w2_121 dX10_joins_40 hm (fun f3 hm => ?_)
        refine j_iadd C dX10_joins_43 ?_
        refine j_aload_n C dX10_joins_44 rfl 1 rfl ?_
        refine jX_g0_9_X10 C dX10_joins_45 ?_
        refine j_bind hm (fun r4 hr4 hm => ?_)
        refine jX_v_X10_130 (rest := []) C hr4 ⟨by decide, by decide⟩ (Nat.le_of_ble_eq_true rfl) dX10_joins_48 (by decide) ?_
        cases hm
        exact j_iret C hR dX10_joins_51
      · exact J.sub [] rfl (kX10_joins_22 C hR hm)
  · refine j_bipush (v := (-101)) C dX10_joins_8 (by decide) ?_
    cases hm
    exact j_iret C hR dX10_joins_10
theorem jX_v_X10_134 {l : Launch} {R : Room} {D : va_G} {cI cO cR : ClassId} {q : Nat → Nat} {t0 : Nat} {u : USt} {b : BSt} {G : Gx} {cc : ByteArray} {nL : Nat} {lv : List (Nat × Value)} {pc : Nat} {N k : Nat} {z0 z1 r : Int32} {rest : List Value} (C : jC l R D (tX cI cO cR) G cc nL RX10) (hv : vX0_standsStill N b k z0 z1 = some r) (hR : 1 + 1 ≤ R.frames ∧ 8 + (4 + 11) + 21 ≤ R.locals) (hrest : (rest.map fun v => v.category).sum ≤ 8) (d : decode cc pc = .ok (.invokevirtual 134, 3)) (hz : R.cells = 0 ∧ R.slots = 0) (kk : J l R D G (0, 0) (wX cI cO cR q t0 u b) lv (.int r :: rest) (pc + 3)) : J l R D G (0, 0) (wX cI cO cR q t0 u b) lv (.int z1 :: .int z0 :: .ref (bA b k) :: rest) pc := by
  unfold vX0_standsStill at hv
  obtain ⟨x, rfl, hk, hc, hv⟩ := bwt_some hv
  have he := (wX_b (cI := cI) (cO := cO) (cR := cR) (q := q) (t0 := t0) (u := u) hk).1
  rcases okc_or hc with e | e | e | e
  · refine j_callU (cs' := (0, 0)) (As := [.int z0, .int z1]) (rest := rest) C (qX0_standsStill (ip e hv)) w3_139 w3_139 w3_130 w3_133 w3_131 w3_132 w3_131 w1_12 wd_X0_standsStill ⟨Nat.le_trans (by decide) hR.1, Nat.le_trans (by decide) hR.2⟩ (45 + 2 * k) (bCell_at he e) rfl rfl hrest d ⟨by rw [hz.1]; decide, by rw [hz.2]; decide⟩ rfl rfl kk
  · refine j_callU (cs' := (0, 0)) (As := [.int z0, .int z1]) (rest := rest) C (qX2_standsStill (ip e (im (by rw [e]; decide) hv))) w3_136 w3_139 w3_130 w3_133 w3_131 w3_134 w3_135 w1_18 wd_X0_standsStill ⟨Nat.le_trans (by decide) hR.1, Nat.le_trans (by decide) hR.2⟩ (45 + 2 * k) (bCell_at he e) rfl rfl hrest d ⟨by rw [hz.1]; decide, by rw [hz.2]; decide⟩ rfl rfl kk
  · refine j_callU (cs' := (0, 0)) (As := [.int z0, .int z1]) (rest := rest) C (qX0_standsStill (ip e (im (by rw [e]; decide) (im (by rw [e]; decide) hv)))) w3_139 w3_139 w3_130 w3_133 w3_131 w3_137 w3_131 w1_12 wd_X0_standsStill ⟨Nat.le_trans (by decide) hR.1, Nat.le_trans (by decide) hR.2⟩ (45 + 2 * k) (bCell_at he e) rfl rfl hrest d ⟨by rw [hz.1]; decide, by rw [hz.2]; decide⟩ rfl rfl kk
  · refine j_callU (cs' := (0, 0)) (As := [.int z0, .int z1]) (rest := rest) C (qX0_standsStill (ip e (im (by rw [e]; decide) (im (by rw [e]; decide) (im (by rw [e]; decide) hv))))) w3_139 w3_139 w3_130 w3_133 w3_131 w3_138 w3_131 w1_12 wd_X0_standsStill ⟨Nat.le_trans (by decide) hR.1, Nat.le_trans (by decide) hR.2⟩ (45 + 2 * k) (bCell_at he e) rfl rfl hrest d ⟨by rw [hz.1]; decide, by rw [hz.2]; decide⟩ rfl rfl kk
def rmX10_lasts : Room := { frames := 3, cells := 0, slots := 0, locals := 64 }
theorem wd_X10_lasts : yX10_lasts.cls ≠ "java/lang/invoke/MethodHandle" ∧ yX10_lasts.cls ≠ "java/lang/invoke/VarHandle" ∧ (parseMethodDescriptor yX10_lasts.desc).map (fun d => d.parameters.length) = some 2 := by decide +kernel
def mX10_lasts_22 (N : Nat) (u : USt) (b : BSt) : Option Int32 := some (-102)
set_option maxRecDepth 100000 in
set_option maxHeartbeats 4000000 in
theorem kX10_lasts_22 {l : Launch} {D : va_G} {cI cO cR : ClassId} {q : Nat → Nat} {t0 : Nat} {u : USt} {b : BSt} {G : Gx} {N : Nat} {rr : Int32} (C : jC l rmX10_lasts D (tX cI cO cR) G cX10_lasts 4 RX10) (hR : jR D (tX cI cO cR) G (0, 0) (some .int) (some (.int rr)) (wX cI cO cR q t0 u b))   (hm : mX10_lasts_22 N u b = some rr) : J l rmX10_lasts D G (0, 0) (wX cI cO cR q t0 u b) [] [] 22 := by
  unfold mX10_lasts_22 at hm
  refine j_bipush (v := (-102)) C dX10_lasts_22 (by decide) ?_
  cases hm
  exact j_iret C hR dX10_lasts_24
def mX10_lasts (N : Nat) (u : USt) (b : BSt) (x1 : Int32) (x2 : Int32) : Option Int32 := (mX10_isBridge N u x1).bind (fun r1 => if ¬ r1 = 0 then (if x2 < 0 then (mX10_lasts_22 N u b) else (if x2 ≤ 9999 then ((mJx4a65c_get_915e3 N u b x1).bind (fun r2 => bwt b r2 (fun _ => bfi b r2 5 (fun f3 => (vX0_standsStill N b r2 (x2 + f3) (u.1 19)).bind (fun r4 => some r4))))) else (mX10_lasts_22 N u b))) else (some (-101)))
set_option maxRecDepth 100000 in
set_option maxHeartbeats 4000000 in
theorem qX10_lasts {l : Launch} {D : va_G} {cI cO cR : ClassId} {q : Nat → Nat} {t0 : Nat} {u : USt} {b : BSt} {N : Nat} {x1 : Int32} {x2 : Int32} {rr : Int32} (hm : mX10_lasts N u b x1 x2 = some rr) : Con l D (tX cI cO cR) yX10_lasts (wS yX10_lasts cX10_lasts 4 (some .int)) rmX10_lasts [.ref (q 0), .int x1, .int x2] (wX cI cO cR q t0 u b) (some (.int rr)) (wX cI cO cR q t0 u b) := by
  refine Con.of (by decide +kernel) (Nat.le_of_ble_eq_true rfl) (fun G C hR => ?_)
  unfold mX10_lasts at hm
  show J l rmX10_lasts D G (0, 0) (wX cI cO cR q t0 u b) [(0, .ref (q 0)), (1, .int x1), (2, .int x2)] [] 0
  refine j_aload_n C dX10_lasts_0 rfl 0 rfl ?_
  refine j_iload_n C dX10_lasts_1 rfl 1 rfl ?_
  refine j_bind hm (fun r1 hr1 hm => ?_)
  refine j_callV (cs' := (0, 0)) (As := [.int x1]) (rest := []) C (qX10_isBridge hr1) w2_230 w2_227 w2_229 w0_8 w1_1 wd_X10_isBridge ⟨by decide, by decide⟩ 0 rfl rfl rfl (Nat.le_of_ble_eq_true rfl) dX10_lasts_2 ⟨by decide, by decide⟩ rfl rfl ?_
  refine j_if_neq (tgt := 11) C dX10_lasts_5 (by decide) hm (fun hm => ?_) (fun hm => ?_)
  · refine j_iload_n C dX10_lasts_11 rfl 2 rfl ?_
    refine j_if_ltq (tgt := 22) C dX10_lasts_12 (by decide) hm (fun hm => ?_) (fun hm => ?_)
    · exact J.sub [] rfl (kX10_lasts_22 C hR hm)
    · refine j_iload_n C dX10_lasts_15 rfl 2 rfl ?_
      refine j_sipush (v := 9999) C dX10_lasts_16 (by decide) ?_
      refine j_icmp_leq (tgt := 25) C dX10_lasts_19 (by decide) hm (fun hm => ?_) (fun hm => ?_)
      · refine j_aload_n C dX10_lasts_25 rfl 0 rfl ?_
        refine jX_g0_2_X10 C dX10_lasts_26 ?_
        refine j_iload_n C dX10_lasts_29 rfl 1 rfl ?_
        refine j_bind hm (fun r2 hr2 hm => ?_)
        refine j_callV (cs' := (0, 0)) (As := [.int x1]) (rest := []) C (qJx4a65c_get_915e3 hr2) w2_234 w2_231 w2_232 w2_233 w1_6 wd_Jx4a65c_get_915e3 ⟨by decide, by decide⟩ 5 rfl rfl rfl (Nat.le_of_ble_eq_true rfl) dX10_lasts_30 ⟨by decide, by decide⟩ rfl rfl ?_
        refine jX_cast C w3_5 w6_67 w6_68 w6_69 dX10_lasts_33 hm (fun hm => ?_)
        refine j_astore_n C dX10_lasts_36 rfl (by decide) rfl ?_
        refine j_aload_n C dX10_lasts_37 rfl 0 rfl ?_
        refine j_iload_n C dX10_lasts_38 rfl 3 rfl ?_
        refine j_aload_n C dX10_lasts_39 rfl 0 rfl ?_
        refine jX_b5 C w2_121 dX10_lasts_40 hm (fun f3 hm => ?_)
        refine j_iadd C dX10_lasts_43 ?_
        refine j_aload_n C dX10_lasts_44 rfl 1 rfl ?_
        refine jX_g0_9_X10 C dX10_lasts_45 ?_
        refine j_bind hm (fun r4 hr4 hm => ?_)
        refine jX_v_X10_134 (rest := []) C hr4 ⟨by decide, by decide⟩ (Nat.le_of_ble_eq_true rfl) dX10_lasts_48 (by decide) ?_
        cases hm
        exact j_iret C hR dX10_lasts_51
      · exact J.sub [] rfl (kX10_lasts_22 C hR hm)
  · refine j_bipush (v := (-101)) C dX10_lasts_8 (by decide) ?_
    cases hm
    exact j_iret C hR dX10_lasts_10
def rmX10_isMinute : Room := { frames := 0, cells := 0, slots := 0, locals := 0 }
theorem wd_X10_isMinute : yX10_isMinute.cls ≠ "java/lang/invoke/MethodHandle" ∧ yX10_isMinute.cls ≠ "java/lang/invoke/VarHandle" ∧ (parseMethodDescriptor yX10_isMinute.desc).map (fun d => d.parameters.length) = some 1 := by decide +kernel
def mX10_isMinute_16 (N : Nat) (s0 : Int32) : Option Int32 := gd (s0 = 0 ∨ s0 = 1) (some s0)
set_option maxRecDepth 100000 in
set_option maxHeartbeats 4000000 in
theorem kX10_isMinute_16 {l : Launch} {D : va_G} {tys : List (ClassId × FieldType)} {G : Gx} {N : Nat} {rr : Int32} (C : jC l rmX10_isMinute D tys G cX10_isMinute 1 RX10) (hR : jR D tys G (0, 0) (some .boolean) (some (.int rr)) [])  (s0 : Int32) (hm : mX10_isMinute_16 N s0 = some rr) : J l rmX10_isMinute D G (0, 0) [] [] [.int s0] 16 := by
  unfold mX10_isMinute_16 at hm
  obtain ⟨g, hm⟩ := gd_some hm
  cases hm
  exact j_zret C hR (jz01 g) dX10_isMinute_16
def mX10_isMinute_15 (N : Nat) : Option Int32 := mX10_isMinute_16 N 0
set_option maxRecDepth 100000 in
set_option maxHeartbeats 4000000 in
theorem kX10_isMinute_15 {l : Launch} {D : va_G} {tys : List (ClassId × FieldType)} {G : Gx} {N : Nat} {rr : Int32} (C : jC l rmX10_isMinute D tys G cX10_isMinute 1 RX10) (hR : jR D tys G (0, 0) (some .boolean) (some (.int rr)) [])   (hm : mX10_isMinute_15 N = some rr) : J l rmX10_isMinute D G (0, 0) [] [] [] 15 := by
  unfold mX10_isMinute_15 at hm
  refine j_iconst (v := 0) C dX10_isMinute_15 (by decide) ?_
  exact kX10_isMinute_16 C hR 0 hm
def mX10_isMinute (N : Nat) (x0 : Int32) : Option Int32 := if x0 < 0 then (mX10_isMinute_15 N) else (if 999 < x0 then (mX10_isMinute_15 N) else (mX10_isMinute_16 N 1))
set_option maxRecDepth 100000 in
set_option maxHeartbeats 4000000 in
theorem qX10_isMinute {l : Launch} {D : va_G} {tys : List (ClassId × FieldType)} {N : Nat} {x0 : Int32} {rr : Int32} (hm : mX10_isMinute N x0 = some rr) : Con l D tys yX10_isMinute (wS yX10_isMinute cX10_isMinute 1 (some .boolean)) rmX10_isMinute [.int x0] [] (some (.int rr)) [] := by
  refine Con.of (by decide +kernel) (Nat.le_of_ble_eq_true rfl) (fun G C hR => ?_)
  unfold mX10_isMinute at hm
  show J l rmX10_isMinute D G (0, 0) [] [(0, .int x0)] [] 0
  refine j_iload_n C dX10_isMinute_0 rfl 0 rfl ?_
  refine j_if_ltq (tgt := 15) C dX10_isMinute_1 (by decide) hm (fun hm => ?_) (fun hm => ?_)
  · exact J.sub [] rfl (kX10_isMinute_15 C hR hm)
  · refine j_iload_n C dX10_isMinute_4 rfl 0 rfl ?_
    refine j_sipush (v := 999) C dX10_isMinute_5 (by decide) ?_
    refine j_icmp_gtq (tgt := 15) C dX10_isMinute_8 (by decide) hm (fun hm => ?_) (fun hm => ?_)
    · exact J.sub [] rfl (kX10_isMinute_15 C hR hm)
    · refine j_iconst (v := 1) C dX10_isMinute_11 (by decide) ?_
      refine j_goto (tgt := 16) C dX10_isMinute_12 (by decide) ?_
      exact J.sub [] rfl (kX10_isMinute_16 C hR 1 hm)
def rmX10_isCarrier : Room := { frames := 0, cells := 0, slots := 0, locals := 0 }
theorem wd_X10_isCarrier : yX10_isCarrier.cls ≠ "java/lang/invoke/MethodHandle" ∧ yX10_isCarrier.cls ≠ "java/lang/invoke/VarHandle" ∧ (parseMethodDescriptor yX10_isCarrier.desc).map (fun d => d.parameters.length) = some 2 := by decide +kernel
def mX10_isCarrier_27 (N : Nat) (s0 : Int32) : Option Int32 := gd (s0 = 0 ∨ s0 = 1) (some s0)
set_option maxRecDepth 100000 in
set_option maxHeartbeats 4000000 in
theorem kX10_isCarrier_27 {l : Launch} {D : va_G} {tys : List (ClassId × FieldType)} {G : Gx} {N : Nat} {rr : Int32} (C : jC l rmX10_isCarrier D tys G cX10_isCarrier 2 RX10) (hR : jR D tys G (0, 0) (some .boolean) (some (.int rr)) [])  (s0 : Int32) (hm : mX10_isCarrier_27 N s0 = some rr) : J l rmX10_isCarrier D G (0, 0) [] [] [.int s0] 27 := by
  unfold mX10_isCarrier_27 at hm
  obtain ⟨g, hm⟩ := gd_some hm
  cases hm
  exact j_zret C hR (jz01 g) dX10_isCarrier_27
def mX10_isCarrier_26 (N : Nat) : Option Int32 := mX10_isCarrier_27 N 0
set_option maxRecDepth 100000 in
set_option maxHeartbeats 4000000 in
theorem kX10_isCarrier_26 {l : Launch} {D : va_G} {tys : List (ClassId × FieldType)} {G : Gx} {N : Nat} {rr : Int32} (C : jC l rmX10_isCarrier D tys G cX10_isCarrier 2 RX10) (hR : jR D tys G (0, 0) (some .boolean) (some (.int rr)) [])   (hm : mX10_isCarrier_26 N = some rr) : J l rmX10_isCarrier D G (0, 0) [] [] [] 26 := by
  unfold mX10_isCarrier_26 at hm
  refine j_iconst (v := 0) C dX10_isCarrier_26 (by decide) ?_
  exact kX10_isCarrier_27 C hR 0 hm
def mX10_isCarrier (N : Nat) (x0 : Int32) (x1 : Int32) : Option Int32 := if x0 < 1 then (mX10_isCarrier_26 N) else (if 9 < x0 then (mX10_isCarrier_26 N) else (if x1 < 1 then (mX10_isCarrier_26 N) else (if 9 < x1 then (mX10_isCarrier_26 N) else (mX10_isCarrier_27 N 1))))
set_option maxRecDepth 100000 in
set_option maxHeartbeats 4000000 in
theorem qX10_isCarrier {l : Launch} {D : va_G} {tys : List (ClassId × FieldType)} {N : Nat} {x0 : Int32} {x1 : Int32} {rr : Int32} (hm : mX10_isCarrier N x0 x1 = some rr) : Con l D tys yX10_isCarrier (wS yX10_isCarrier cX10_isCarrier 2 (some .boolean)) rmX10_isCarrier [.int x0, .int x1] [] (some (.int rr)) [] := by
  refine Con.of (by decide +kernel) (Nat.le_of_ble_eq_true rfl) (fun G C hR => ?_)
  unfold mX10_isCarrier at hm
  show J l rmX10_isCarrier D G (0, 0) [] [(0, .int x0), (1, .int x1)] [] 0
  refine j_iload_n C dX10_isCarrier_0 rfl 0 rfl ?_
  refine j_iconst (v := 1) C dX10_isCarrier_1 (by decide) ?_
  refine j_icmp_ltq (tgt := 26) C dX10_isCarrier_2 (by decide) hm (fun hm => ?_) (fun hm => ?_)
  · exact J.sub [] rfl (kX10_isCarrier_26 C hR hm)
  · refine j_iload_n C dX10_isCarrier_5 rfl 0 rfl ?_
    refine j_bipush (v := 9) C dX10_isCarrier_6 (by decide) ?_
    refine j_icmp_gtq (tgt := 26) C dX10_isCarrier_8 (by decide) hm (fun hm => ?_) (fun hm => ?_)
    · exact J.sub [] rfl (kX10_isCarrier_26 C hR hm)
    · refine j_iload_n C dX10_isCarrier_11 rfl 1 rfl ?_
      refine j_iconst (v := 1) C dX10_isCarrier_12 (by decide) ?_
      refine j_icmp_ltq (tgt := 26) C dX10_isCarrier_13 (by decide) hm (fun hm => ?_) (fun hm => ?_)
      · exact J.sub [] rfl (kX10_isCarrier_26 C hR hm)
      · refine j_iload_n C dX10_isCarrier_16 rfl 1 rfl ?_
        refine j_bipush (v := 9) C dX10_isCarrier_17 (by decide) ?_
        refine j_icmp_gtq (tgt := 26) C dX10_isCarrier_19 (by decide) hm (fun hm => ?_) (fun hm => ?_)
        · exact J.sub [] rfl (kX10_isCarrier_26 C hR hm)
        · refine j_iconst (v := 1) C dX10_isCarrier_22 (by decide) ?_
          refine j_goto (tgt := 27) C dX10_isCarrier_23 (by decide) ?_
          exact J.sub [] rfl (kX10_isCarrier_27 C hR 1 hm)
def rmX10_openTable : Room := { frames := 5, cells := 0, slots := 0, locals := 116 }
theorem wd_X10_openTable : yX10_openTable.cls ≠ "java/lang/invoke/MethodHandle" ∧ yX10_openTable.cls ≠ "java/lang/invoke/VarHandle" ∧ (parseMethodDescriptor yX10_openTable.desc).map (fun d => d.parameters.length) = some 4 := by decide +kernel
def mX10_openTable_88 (N : Nat) (b : BSt) (k20 : USt → Int32 → Int32 → Option USt) (u : USt) (x4 : Int32) (x5 : Int32) : Option USt := k20 u x4 (x5 + 1)
set_option maxRecDepth 100000 in
set_option maxHeartbeats 4000000 in
theorem kX10_openTable_88 {l : Launch} {D : va_G} {cI cO cR : ClassId} {q : Nat → Nat} {t0 : Nat} {b : BSt} {G : Gx} {N : Nat} {rr : USt} (C : jC l rmX10_openTable D (tX cI cO cR) G cX10_openTable 7 RX10) (hR : jR D (tX cI cO cR) G (0, 0) none none (wX cI cO cR q t0 rr b)) (k20 : USt → Int32 → Int32 → Option USt) (K20 : ∀ (u : USt) (x4 : Int32) (x5 : Int32), k20 u x4 x5 = some rr → J l rmX10_openTable D G (0, 0) (wX cI cO cR q t0 u b) [(0, .ref (q 0)), (4, .int x4), (5, .int x5)] [] 20) (u : USt) (x4 : Int32) (x5 : Int32) (hm : mX10_openTable_88 N b k20 u x4 x5 = some rr) : J l rmX10_openTable D G (0, 0) (wX cI cO cR q t0 u b) [(0, .ref (q 0)), (4, .int x4), (5, .int x5)] [] 88 := by
  unfold mX10_openTable_88 at hm
  refine j_iinc (v := (x5 + 1)) C dX10_openTable_88 2 rfl rfl (by decide) rfl ?_
  refine j_goto (tgt := 20) C dX10_openTable_91 (by decide) ?_
  exact J.sub [1, 2, 0] rfl (K20 u x4 (x5 + 1) hm)
def mX10_openTable_20 (N : Nat) (b : BSt) (k20 : USt → Int32 → Int32 → Option USt) (u : USt) (x4 : Int32) (x5 : Int32) : Option USt := (mJx4a65c_size_8abf5 N u).bind (fun r1 => if r1 ≤ x5 then (some u) else ((mJx4a65c_get_915e3 N u b x5).bind (fun r2 => bwt b r2 (fun _ => bfi b r2 3 (fun f3 => if f3 < x4 then ((mX9_layNothing N u x5).bind (fun u5 => mX10_openTable_88 N b k20 u5 x4 x5)) else (bfi b r2 5 (fun f6 => nm (u.1 19) (fun f7 => (mX9_lay N b u x5 r2 f6 f7).bind (fun u9 => mX10_openTable_88 N b k20 u9 x4 x5)))))))))
set_option maxRecDepth 100000 in
set_option maxHeartbeats 4000000 in
theorem kX10_openTable_20 {l : Launch} {D : va_G} {cI cO cR : ClassId} {q : Nat → Nat} {t0 : Nat} {b : BSt} {G : Gx} {N : Nat} {rr : USt} (C : jC l rmX10_openTable D (tX cI cO cR) G cX10_openTable 7 RX10) (hR : jR D (tX cI cO cR) G (0, 0) none none (wX cI cO cR q t0 rr b)) (k20 : USt → Int32 → Int32 → Option USt) (K20 : ∀ (u : USt) (x4 : Int32) (x5 : Int32), k20 u x4 x5 = some rr → J l rmX10_openTable D G (0, 0) (wX cI cO cR q t0 u b) [(0, .ref (q 0)), (4, .int x4), (5, .int x5)] [] 20) (u : USt) (x4 : Int32) (x5 : Int32) (hm : mX10_openTable_20 N b k20 u x4 x5 = some rr) : J l rmX10_openTable D G (0, 0) (wX cI cO cR q t0 u b) [(0, .ref (q 0)), (4, .int x4), (5, .int x5)] [] 20 := by
  unfold mX10_openTable_20 at hm
  refine j_iload C dX10_openTable_20 2 rfl ?_
  refine j_aload_n C dX10_openTable_22 rfl 0 rfl ?_
  refine jX_g0_2_X10 C dX10_openTable_23 ?_
  refine j_bind hm (fun r1 hr1 hm => ?_)
  refine j_callV (cs' := (0, 0)) (As := []) (rest := [.int x5]) C (qJx4a65c_size_8abf5 hr1) w2_74 w2_71 w2_72 w2_73 w1_6 wd_Jx4a65c_size_8abf5 ⟨by decide, by decide⟩ 5 rfl rfl rfl (Nat.le_of_ble_eq_true rfl) dX10_openTable_26 ⟨by decide, by decide⟩ rfl rfl ?_
  refine j_icmp_geq (tgt := 94) C dX10_openTable_29 (by decide) hm (fun hm => ?_) (fun hm => ?_)
  · cases hm
    exact j_vret C hR dX10_openTable_94
  · refine j_aload_n C dX10_openTable_32 rfl 0 rfl ?_
    refine jX_g0_2_X10 C dX10_openTable_33 ?_
    refine j_iload C dX10_openTable_36 2 rfl ?_
    refine j_bind hm (fun r2 hr2 hm => ?_)
    refine j_callV (cs' := (0, 0)) (As := [.int x5]) (rest := []) C (qJx4a65c_get_915e3 hr2) w2_234 w2_231 w2_232 w2_233 w1_6 wd_Jx4a65c_get_915e3 ⟨by decide, by decide⟩ 5 rfl rfl rfl (Nat.le_of_ble_eq_true rfl) dX10_openTable_38 ⟨by decide, by decide⟩ rfl rfl ?_
    refine jX_cast C w3_5 w6_67 w6_68 w6_69 dX10_openTable_41 hm (fun hm => ?_)
    refine j_astore C dX10_openTable_44 (by decide) rfl ?_
    refine j_aload C dX10_openTable_46 0 rfl ?_
    refine jX_b3 C w2_117 dX10_openTable_48 hm (fun f3 hm => ?_)
    refine j_iload C dX10_openTable_51 2 rfl ?_
    refine j_icmp_ltq (tgt := 79) C dX10_openTable_53 (by decide) hm (fun hm => ?_) (fun hm => ?_)
    · refine j_aload_n C dX10_openTable_79 rfl 1 rfl ?_
      refine jX_g0_5_X10 C dX10_openTable_80 ?_
      refine j_iload C dX10_openTable_83 3 rfl ?_
      refine j_bind hm (fun u5 hr4 hm => ?_)
      refine j_callV (cs' := (0, 0)) (As := [.int x5]) (rest := []) C (qX9_layNothing hr4) w3_171 w3_168 w3_169 w3_170 w1_9 wd_X9_layNothing ⟨by decide, by decide⟩ 12 rfl rfl rfl (Nat.le_of_ble_eq_true rfl) dX10_openTable_85 ⟨by decide, by decide⟩ rfl rfl ?_
      exact J.sub [1, 2, 3] rfl (kX10_openTable_88 C hR k20 K20 u5 x4 x5 hm)
    · refine j_aload_n C dX10_openTable_56 rfl 1 rfl ?_
      refine jX_g0_5_X10 C dX10_openTable_57 ?_
      refine j_iload C dX10_openTable_60 3 rfl ?_
      refine j_aload C dX10_openTable_62 0 rfl ?_
      refine j_aload C dX10_openTable_64 0 rfl ?_
      refine jX_b5 C w2_121 dX10_openTable_66 hm (fun f6 hm => ?_)
      refine j_aload_n C dX10_openTable_69 rfl 1 rfl ?_
      refine jX_g0_9_X10 C dX10_openTable_70 ?_
      refine j_nmi hm (fun f7 hm => ?_)
      refine j_bind hm (fun u9 hr8 hm => ?_)
      refine j_callV (cs' := (0, 0)) (As := [.int x5, .ref (bA b r2), .int f6, .int f7]) (rest := []) C (qX9_lay hr8) w3_164 w3_161 w3_162 w3_163 w1_9 wd_X9_lay ⟨by decide, by decide⟩ 12 rfl rfl rfl (Nat.le_of_ble_eq_true rfl) dX10_openTable_73 ⟨by decide, by decide⟩ rfl rfl ?_
      refine j_goto (tgt := 88) C dX10_openTable_76 (by decide) ?_
      exact J.sub [1, 2, 3] rfl (kX10_openTable_88 C hR k20 K20 u9 x4 x5 hm)
def mX10_openTable_h20 (N : Nat) (b : BSt) : Nat → USt → Int32 → Int32 → Option USt
  | 0, _, _, _ => none
  | n + 1, u, x4, x5 => mX10_openTable_20 N b (mX10_openTable_h20 N b n) u x4 x5
theorem kX10_openTable_h20 {l : Launch} {D : va_G} {cI cO cR : ClassId} {q : Nat → Nat} {t0 : Nat} {b : BSt} {G : Gx} {N : Nat} {rr : USt} (C : jC l rmX10_openTable D (tX cI cO cR) G cX10_openTable 7 RX10) (hR : jR D (tX cI cO cR) G (0, 0) none none (wX cI cO cR q t0 rr b))  : ∀ (n : Nat) (u : USt) (x4 : Int32) (x5 : Int32), mX10_openTable_h20 N b n u x4 x5 = some rr → J l rmX10_openTable D G (0, 0) (wX cI cO cR q t0 u b) [(0, .ref (q 0)), (4, .int x4), (5, .int x5)] [] 20 := by
  intro n
  induction n with
  | zero =>
    intro u x4 x5 hm
    have hm : (none : Option USt) = some rr := hm
    cases hm
  | succ n ih =>
    intro u x4 x5 hm
    exact kX10_openTable_20 C hR _ ih u x4 x5 hm
def mX10_openTable (N : Nat) (b : BSt) (u : USt) (x1 : Int32) (x2 : Int32) (x3 : Int32) (x4 : Int32) : Option USt := (mJx4a65c_size_8abf5 N u).bind (fun r1 => (mX9_open N u x1 x2 x3 r1).bind (fun u3 => mX10_openTable_h20 N b N u3 x4 0))
set_option maxRecDepth 100000 in
set_option maxHeartbeats 4000000 in
theorem qX10_openTable {l : Launch} {D : va_G} {cI cO cR : ClassId} {q : Nat → Nat} {t0 : Nat} {u : USt} {b : BSt} {N : Nat} {x1 : Int32} {x2 : Int32} {x3 : Int32} {x4 : Int32} {rr : USt} (hm : mX10_openTable N b u x1 x2 x3 x4 = some rr) : Con l D (tX cI cO cR) yX10_openTable (wS yX10_openTable cX10_openTable 7 none) rmX10_openTable [.ref (q 0), .int x1, .int x2, .int x3, .int x4] (wX cI cO cR q t0 u b) none (wX cI cO cR q t0 rr b) := by
  refine Con.of (by decide +kernel) (Nat.le_of_ble_eq_true rfl) (fun G C hR => ?_)
  unfold mX10_openTable at hm
  show J l rmX10_openTable D G (0, 0) (wX cI cO cR q t0 u b) [(0, .ref (q 0)), (1, .int x1), (2, .int x2), (3, .int x3), (4, .int x4)] [] 0
  refine j_aload_n C dX10_openTable_0 rfl 0 rfl ?_
  refine jX_g0_5_X10 C dX10_openTable_1 ?_
  refine j_iload_n C dX10_openTable_4 rfl 1 rfl ?_
  refine j_iload_n C dX10_openTable_5 rfl 2 rfl ?_
  refine j_iload_n C dX10_openTable_6 rfl 3 rfl ?_
  refine j_aload_n C dX10_openTable_7 rfl 0 rfl ?_
  refine jX_g0_2_X10 C dX10_openTable_8 ?_
  refine j_bind hm (fun r1 hr1 hm => ?_)
  refine j_callV (cs' := (0, 0)) (As := []) (rest := [.int x3, .int x2, .int x1, .ref (q 12)]) C (qJx4a65c_size_8abf5 hr1) w2_74 w2_71 w2_72 w2_73 w1_6 wd_Jx4a65c_size_8abf5 ⟨by decide, by decide⟩ 5 rfl rfl rfl (Nat.le_of_ble_eq_true rfl) dX10_openTable_11 ⟨by decide, by decide⟩ rfl rfl ?_
  refine j_bind hm (fun u3 hr2 hm => ?_)
  refine j_callV (cs' := (0, 0)) (As := [.int x1, .int x2, .int x3, .int r1]) (rest := []) C (qX9_open hr2) w3_158 w3_155 w3_156 w3_157 w1_9 wd_X9_open ⟨by decide, by decide⟩ 12 rfl rfl rfl (Nat.le_of_ble_eq_true rfl) dX10_openTable_14 ⟨by decide, by decide⟩ rfl rfl ?_
  refine j_iconst (v := 0) C dX10_openTable_17 (by decide) ?_
  refine j_istore C dX10_openTable_18 (by decide) rfl ?_
  exact J.sub [1, 5, 0] rfl (kX10_openTable_h20 C hR N u3 x4 0 hm)
def rmX10_soonest : Room := { frames := 6, cells := 0, slots := 0, locals := 142 }
theorem wd_X10_soonest : yX10_soonest.cls ≠ "java/lang/invoke/MethodHandle" ∧ yX10_soonest.cls ≠ "java/lang/invoke/VarHandle" ∧ (parseMethodDescriptor yX10_soonest.desc).map (fun d => d.parameters.length) = some 5 := by decide +kernel
def mX10_soonest_14 (N : Nat) (b : BSt) (u : USt) : Option (Int32 × USt) := some ((-101), u)
set_option maxRecDepth 100000 in
set_option maxHeartbeats 4000000 in
theorem kX10_soonest_14 {l : Launch} {D : va_G} {cI cO cR : ClassId} {q : Nat → Nat} {t0 : Nat} {b : BSt} {G : Gx} {N : Nat} {rr : (Int32 × USt)} (C : jC l rmX10_soonest D (tX cI cO cR) G cX10_soonest 6 RX10) (hR : jR D (tX cI cO cR) G (0, 0) (some .int) (some (.int rr.1)) (wX cI cO cR q t0 rr.2 b))  (u : USt) (hm : mX10_soonest_14 N b u = some rr) : J l rmX10_soonest D G (0, 0) (wX cI cO cR q t0 u b) [] [] 14 := by
  unfold mX10_soonest_14 at hm
  refine j_bipush (v := (-101)) C dX10_soonest_14 (by decide) ?_
  cases hm
  exact j_iret C hR dX10_soonest_16
def mX10_soonest_34 (N : Nat) (b : BSt) (u : USt) : Option (Int32 × USt) := some ((-102), u)
set_option maxRecDepth 100000 in
set_option maxHeartbeats 4000000 in
theorem kX10_soonest_34 {l : Launch} {D : va_G} {cI cO cR : ClassId} {q : Nat → Nat} {t0 : Nat} {b : BSt} {G : Gx} {N : Nat} {rr : (Int32 × USt)} (C : jC l rmX10_soonest D (tX cI cO cR) G cX10_soonest 6 RX10) (hR : jR D (tX cI cO cR) G (0, 0) (some .int) (some (.int rr.1)) (wX cI cO cR q t0 rr.2 b))  (u : USt) (hm : mX10_soonest_34 N b u = some rr) : J l rmX10_soonest D G (0, 0) (wX cI cO cR q t0 u b) [] [] 34 := by
  unfold mX10_soonest_34 at hm
  refine j_bipush (v := (-102)) C dX10_soonest_34 (by decide) ?_
  cases hm
  exact j_iret C hR dX10_soonest_36
def mX10_soonest_88 (N : Nat) (b : BSt) (u : USt) (s0 : Int32) : Option (Int32 × USt) := some (s0, u)
set_option maxRecDepth 100000 in
set_option maxHeartbeats 4000000 in
theorem kX10_soonest_88 {l : Launch} {D : va_G} {cI cO cR : ClassId} {q : Nat → Nat} {t0 : Nat} {b : BSt} {G : Gx} {N : Nat} {rr : (Int32 × USt)} (C : jC l rmX10_soonest D (tX cI cO cR) G cX10_soonest 6 RX10) (hR : jR D (tX cI cO cR) G (0, 0) (some .int) (some (.int rr.1)) (wX cI cO cR q t0 rr.2 b))  (u : USt) (s0 : Int32) (hm : mX10_soonest_88 N b u s0 = some rr) : J l rmX10_soonest D G (0, 0) (wX cI cO cR q t0 u b) [] [.int s0] 88 := by
  unfold mX10_soonest_88 at hm
  cases hm
  exact j_iret C hR dX10_soonest_88
def mX10_soonest (N : Nat) (b : BSt) (u : USt) (x1 : Int32) (x2 : Int32) (x3 : Int32) (x4 : Int32) (x5 : Int32) : Option (Int32 × USt) := (mX10_isIslet N x1).bind (fun r1 => if r1 = 0 then (mX10_soonest_14 N b u) else ((mX10_isIslet N x2).bind (fun r2 => if ¬ r2 = 0 then ((mX10_isMinute N x3).bind (fun r3 => if r3 = 0 then (mX10_soonest_34 N b u) else ((mX10_isCarrier N x4 x5).bind (fun r4 => if ¬ r4 = 0 then ((mX10_openTable N b u x3 400 x4 x5).bind (fun u6 => (mX9_reach N u6 x1 0 (1 <<< (x2 &&& 31)) 24).bind (fun u8 => rdX u8 24 x2 (fun ra9 => if ¬ ra9 = 2147483647 then (rdX u8 24 x2 (fun ra10 => mX10_soonest_88 N b u8 (x3 + ra10))) else (mX10_soonest_88 N b u8 (-1)))))) else (mX10_soonest_34 N b u))))) else (mX10_soonest_14 N b u))))
set_option maxRecDepth 100000 in
set_option maxHeartbeats 4000000 in
theorem qX10_soonest {l : Launch} {D : va_G} {cI cO cR : ClassId} {q : Nat → Nat} {t0 : Nat} {u : USt} {b : BSt} {N : Nat} {x1 : Int32} {x2 : Int32} {x3 : Int32} {x4 : Int32} {x5 : Int32} {rr : (Int32 × USt)} (hm : mX10_soonest N b u x1 x2 x3 x4 x5 = some rr) : Con l D (tX cI cO cR) yX10_soonest (wS yX10_soonest cX10_soonest 6 (some .int)) rmX10_soonest [.ref (q 0), .int x1, .int x2, .int x3, .int x4, .int x5] (wX cI cO cR q t0 u b) (some (.int rr.1)) (wX cI cO cR q t0 rr.2 b) := by
  refine Con.of (by decide +kernel) (Nat.le_of_ble_eq_true rfl) (fun G C hR => ?_)
  unfold mX10_soonest at hm
  show J l rmX10_soonest D G (0, 0) (wX cI cO cR q t0 u b) [(0, .ref (q 0)), (1, .int x1), (2, .int x2), (3, .int x3), (4, .int x4), (5, .int x5)] [] 0
  refine j_iload_n C dX10_soonest_0 rfl 1 rfl ?_
  refine j_bind hm (fun r1 hr1 hm => ?_)
  refine j_callS (cs' := (0, 0)) (As := [.int x1]) (rest := []) C (qX10_isIslet hr1) w2_50 w3_144 w2_49 w1_1 wd_X10_isIslet ⟨by decide, by decide⟩ rfl (Nat.le_of_ble_eq_true rfl) dX10_soonest_1 ⟨by decide, by decide⟩ rfl rfl ?_
  refine j_if_eqq (tgt := 14) C dX10_soonest_4 (by decide) hm (fun hm => ?_) (fun hm => ?_)
  · exact J.sub [] rfl (kX10_soonest_14 C hR u hm)
  · refine j_iload_n C dX10_soonest_7 rfl 2 rfl ?_
    refine j_bind hm (fun r2 hr2 hm => ?_)
    refine j_callS (cs' := (0, 0)) (As := [.int x2]) (rest := []) C (qX10_isIslet hr2) w2_50 w3_144 w2_49 w1_1 wd_X10_isIslet ⟨by decide, by decide⟩ rfl (Nat.le_of_ble_eq_true rfl) dX10_soonest_8 ⟨by decide, by decide⟩ rfl rfl ?_
    refine j_if_neq (tgt := 17) C dX10_soonest_11 (by decide) hm (fun hm => ?_) (fun hm => ?_)
    · refine j_iload_n C dX10_soonest_17 rfl 3 rfl ?_
      refine j_bind hm (fun r3 hr3 hm => ?_)
      refine j_callS (cs' := (0, 0)) (As := [.int x3]) (rest := []) C (qX10_isMinute hr3) w3_147 w3_145 w3_146 w1_1 wd_X10_isMinute ⟨by decide, by decide⟩ rfl (Nat.le_of_ble_eq_true rfl) dX10_soonest_18 ⟨by decide, by decide⟩ rfl rfl ?_
      refine j_if_eqq (tgt := 34) C dX10_soonest_21 (by decide) hm (fun hm => ?_) (fun hm => ?_)
      · exact J.sub [] rfl (kX10_soonest_34 C hR u hm)
      · refine j_iload C dX10_soonest_24 4 rfl ?_
        refine j_iload C dX10_soonest_26 5 rfl ?_
        refine j_bind hm (fun r4 hr4 hm => ?_)
        refine j_callS (cs' := (0, 0)) (As := [.int x4, .int x5]) (rest := []) C (qX10_isCarrier hr4) w3_150 w3_148 w3_149 w1_1 wd_X10_isCarrier ⟨by decide, by decide⟩ rfl (Nat.le_of_ble_eq_true rfl) dX10_soonest_28 ⟨by decide, by decide⟩ rfl rfl ?_
        refine j_if_neq (tgt := 37) C dX10_soonest_31 (by decide) hm (fun hm => ?_) (fun hm => ?_)
        · refine j_aload_n C dX10_soonest_37 rfl 0 rfl ?_
          refine j_iload_n C dX10_soonest_38 rfl 3 rfl ?_
          refine j_sipush (v := 400) C dX10_soonest_39 (by decide) ?_
          refine j_iload C dX10_soonest_42 4 rfl ?_
          refine j_iload C dX10_soonest_44 5 rfl ?_
          refine j_bind hm (fun u6 hr5 hm => ?_)
          refine j_callV (cs' := (0, 0)) (As := [.int x3, .int 400, .int x4, .int x5]) (rest := []) C (qX10_openTable hr5) w3_154 w3_151 w3_153 w0_10 w1_1 wd_X10_openTable ⟨by decide, by decide⟩ 0 rfl rfl rfl (Nat.le_of_ble_eq_true rfl) dX10_soonest_46 ⟨by decide, by decide⟩ rfl rfl ?_
          refine j_aload_n C dX10_soonest_49 rfl 0 rfl ?_
          refine jX_g0_5_X10 C dX10_soonest_50 ?_
          refine j_iload_n C dX10_soonest_53 rfl 1 rfl ?_
          refine j_iconst (v := 0) C dX10_soonest_54 (by decide) ?_
          refine j_iconst (v := 1) C dX10_soonest_55 (by decide) ?_
          refine j_iload_n C dX10_soonest_56 rfl 2 rfl ?_
          refine j_ishl C dX10_soonest_57 ?_
          refine j_aload_n C dX10_soonest_58 rfl 0 rfl ?_
          refine jX_g0_7_X10 C dX10_soonest_59 ?_
          refine j_bind hm (fun u8 hr7 hm => ?_)
          refine j_callV (cs' := (0, 0)) (As := [.int x1, .int 0, .int (1 <<< (x2 &&& 31)), .ref (q 24)]) (rest := []) C (qX9_reach hr7) w3_182 w3_179 w3_180 w3_181 w1_9 wd_X9_reach ⟨by decide, by decide⟩ 12 rfl rfl rfl (Nat.le_of_ble_eq_true rfl) dX10_soonest_62 ⟨by decide, by decide⟩ rfl rfl ?_
          refine j_aload_n C dX10_soonest_65 rfl 0 rfl ?_
          refine jX_g0_7_X10 C dX10_soonest_66 ?_
          refine j_iload_n C dX10_soonest_69 rfl 2 rfl ?_
          refine jX_L C dX10_soonest_70 hm (fun ra9 hm => ?_)
          refine j_ldc C dX10_soonest_71 w3_192 ?_
          refine j_icmp_neq (tgt := 80) C dX10_soonest_73 (by decide) hm (fun hm => ?_) (fun hm => ?_)
          · refine j_iload_n C dX10_soonest_80 rfl 3 rfl ?_
            refine j_aload_n C dX10_soonest_81 rfl 0 rfl ?_
            refine jX_g0_7_X10 C dX10_soonest_82 ?_
            refine j_iload_n C dX10_soonest_85 rfl 2 rfl ?_
            refine jX_L C dX10_soonest_86 hm (fun ra10 hm => ?_)
            refine j_iadd C dX10_soonest_87 ?_
            exact J.sub [] rfl (kX10_soonest_88 C hR u8 (x3 + ra10) hm)
          · refine j_iconst (v := (-1)) C dX10_soonest_76 (by decide) ?_
            refine j_goto (tgt := 88) C dX10_soonest_77 (by decide) ?_
            exact J.sub [] rfl (kX10_soonest_88 C hR u8 (-1) hm)
        · exact J.sub [] rfl (kX10_soonest_34 C hR u hm)
    · exact J.sub [] rfl (kX10_soonest_14 C hR u hm)
def rmX10_last : Room := { frames := 6, cells := 0, slots := 0, locals := 142 }
theorem wd_X10_last : yX10_last.cls ≠ "java/lang/invoke/MethodHandle" ∧ yX10_last.cls ≠ "java/lang/invoke/VarHandle" ∧ (parseMethodDescriptor yX10_last.desc).map (fun d => d.parameters.length) = some 6 := by decide +kernel
def mX10_last_14 (N : Nat) (b : BSt) (u : USt) : Option (Int32 × USt) := some ((-101), u)
set_option maxRecDepth 100000 in
set_option maxHeartbeats 4000000 in
theorem kX10_last_14 {l : Launch} {D : va_G} {cI cO cR : ClassId} {q : Nat → Nat} {t0 : Nat} {b : BSt} {G : Gx} {N : Nat} {rr : (Int32 × USt)} (C : jC l rmX10_last D (tX cI cO cR) G cX10_last 8 RX10) (hR : jR D (tX cI cO cR) G (0, 0) (some .int) (some (.int rr.1)) (wX cI cO cR q t0 rr.2 b))  (u : USt) (hm : mX10_last_14 N b u = some rr) : J l rmX10_last D G (0, 0) (wX cI cO cR q t0 u b) [] [] 14 := by
  unfold mX10_last_14 at hm
  refine j_bipush (v := (-101)) C dX10_last_14 (by decide) ?_
  cases hm
  exact j_iret C hR dX10_last_16
def mX10_last_38 (N : Nat) (b : BSt) (u : USt) : Option (Int32 × USt) := some ((-102), u)
set_option maxRecDepth 100000 in
set_option maxHeartbeats 4000000 in
theorem kX10_last_38 {l : Launch} {D : va_G} {cI cO cR : ClassId} {q : Nat → Nat} {t0 : Nat} {b : BSt} {G : Gx} {N : Nat} {rr : (Int32 × USt)} (C : jC l rmX10_last D (tX cI cO cR) G cX10_last 8 RX10) (hR : jR D (tX cI cO cR) G (0, 0) (some .int) (some (.int rr.1)) (wX cI cO cR q t0 rr.2 b))  (u : USt) (hm : mX10_last_38 N b u = some rr) : J l rmX10_last D G (0, 0) (wX cI cO cR q t0 u b) [] [] 38 := by
  unfold mX10_last_38 at hm
  refine j_bipush (v := (-102)) C dX10_last_38 (by decide) ?_
  cases hm
  exact j_iret C hR dX10_last_40
def mX10_last_92 (N : Nat) (b : BSt) (u : USt) (s0 : Int32) : Option (Int32 × USt) := some (s0, u)
set_option maxRecDepth 100000 in
set_option maxHeartbeats 4000000 in
theorem kX10_last_92 {l : Launch} {D : va_G} {cI cO cR : ClassId} {q : Nat → Nat} {t0 : Nat} {b : BSt} {G : Gx} {N : Nat} {rr : (Int32 × USt)} (C : jC l rmX10_last D (tX cI cO cR) G cX10_last 8 RX10) (hR : jR D (tX cI cO cR) G (0, 0) (some .int) (some (.int rr.1)) (wX cI cO cR q t0 rr.2 b))  (u : USt) (s0 : Int32) (hm : mX10_last_92 N b u s0 = some rr) : J l rmX10_last D G (0, 0) (wX cI cO cR q t0 u b) [] [.int s0] 92 := by
  unfold mX10_last_92 at hm
  cases hm
  exact j_iret C hR dX10_last_92
def mX10_last (N : Nat) (b : BSt) (u : USt) (x1 : Int32) (x2 : Int32) (x3 : Int32) (x4 : Int32) (x5 : Int32) (x6 : Int32) : Option (Int32 × USt) := (mX10_isIslet N x1).bind (fun r1 => if r1 = 0 then (mX10_last_14 N b u) else ((mX10_isIslet N x2).bind (fun r2 => if ¬ r2 = 0 then ((mX10_isMinute N x3).bind (fun r3 => if r3 = 0 then (mX10_last_38 N b u) else ((mX10_isMinute N x4).bind (fun r4 => if r4 = 0 then (mX10_last_38 N b u) else (if x3 ≤ x4 then ((mX10_isCarrier N x5 x6).bind (fun r5 => if ¬ r5 = 0 then ((mX10_openTable N b u x3 (x4 - x3) x5 x6).bind (fun u7 => bp (mX9_latestStart N u7 x1 x2) (fun r8 u9 => if ¬ r8 = (-1) then (mX10_last_92 N b u9 (x3 + r8)) else (mX10_last_92 N b u9 (-1))))) else (some ((-102), u)))) else (mX10_last_38 N b u)))))) else (mX10_last_14 N b u))))
set_option maxRecDepth 100000 in
set_option maxHeartbeats 4000000 in
theorem qX10_last {l : Launch} {D : va_G} {cI cO cR : ClassId} {q : Nat → Nat} {t0 : Nat} {u : USt} {b : BSt} {N : Nat} {x1 : Int32} {x2 : Int32} {x3 : Int32} {x4 : Int32} {x5 : Int32} {x6 : Int32} {rr : (Int32 × USt)} (hm : mX10_last N b u x1 x2 x3 x4 x5 x6 = some rr) : Con l D (tX cI cO cR) yX10_last (wS yX10_last cX10_last 8 (some .int)) rmX10_last [.ref (q 0), .int x1, .int x2, .int x3, .int x4, .int x5, .int x6] (wX cI cO cR q t0 u b) (some (.int rr.1)) (wX cI cO cR q t0 rr.2 b) := by
  refine Con.of (by decide +kernel) (Nat.le_of_ble_eq_true rfl) (fun G C hR => ?_)
  unfold mX10_last at hm
  show J l rmX10_last D G (0, 0) (wX cI cO cR q t0 u b) [(0, .ref (q 0)), (1, .int x1), (2, .int x2), (3, .int x3), (4, .int x4), (5, .int x5), (6, .int x6)] [] 0
  refine j_iload_n C dX10_last_0 rfl 1 rfl ?_
  refine j_bind hm (fun r1 hr1 hm => ?_)
  refine j_callS (cs' := (0, 0)) (As := [.int x1]) (rest := []) C (qX10_isIslet hr1) w2_50 w3_144 w2_49 w1_1 wd_X10_isIslet ⟨by decide, by decide⟩ rfl (Nat.le_of_ble_eq_true rfl) dX10_last_1 ⟨by decide, by decide⟩ rfl rfl ?_
  refine j_if_eqq (tgt := 14) C dX10_last_4 (by decide) hm (fun hm => ?_) (fun hm => ?_)
  · exact J.sub [] rfl (kX10_last_14 C hR u hm)
  · refine j_iload_n C dX10_last_7 rfl 2 rfl ?_
    refine j_bind hm (fun r2 hr2 hm => ?_)
    refine j_callS (cs' := (0, 0)) (As := [.int x2]) (rest := []) C (qX10_isIslet hr2) w2_50 w3_144 w2_49 w1_1 wd_X10_isIslet ⟨by decide, by decide⟩ rfl (Nat.le_of_ble_eq_true rfl) dX10_last_8 ⟨by decide, by decide⟩ rfl rfl ?_
    refine j_if_neq (tgt := 17) C dX10_last_11 (by decide) hm (fun hm => ?_) (fun hm => ?_)
    · refine j_iload_n C dX10_last_17 rfl 3 rfl ?_
      refine j_bind hm (fun r3 hr3 hm => ?_)
      refine j_callS (cs' := (0, 0)) (As := [.int x3]) (rest := []) C (qX10_isMinute hr3) w3_147 w3_145 w3_146 w1_1 wd_X10_isMinute ⟨by decide, by decide⟩ rfl (Nat.le_of_ble_eq_true rfl) dX10_last_18 ⟨by decide, by decide⟩ rfl rfl ?_
      refine j_if_eqq (tgt := 38) C dX10_last_21 (by decide) hm (fun hm => ?_) (fun hm => ?_)
      · exact J.sub [] rfl (kX10_last_38 C hR u hm)
      · refine j_iload C dX10_last_24 4 rfl ?_
        refine j_bind hm (fun r4 hr4 hm => ?_)
        refine j_callS (cs' := (0, 0)) (As := [.int x4]) (rest := []) C (qX10_isMinute hr4) w3_147 w3_145 w3_146 w1_1 wd_X10_isMinute ⟨by decide, by decide⟩ rfl (Nat.le_of_ble_eq_true rfl) dX10_last_26 ⟨by decide, by decide⟩ rfl rfl ?_
        refine j_if_eqq (tgt := 38) C dX10_last_29 (by decide) hm (fun hm => ?_) (fun hm => ?_)
        · exact J.sub [] rfl (kX10_last_38 C hR u hm)
        · refine j_iload C dX10_last_32 4 rfl ?_
          refine j_iload_n C dX10_last_34 rfl 3 rfl ?_
          refine j_icmp_geq (tgt := 41) C dX10_last_35 (by decide) hm (fun hm => ?_) (fun hm => ?_)
          · refine j_iload C dX10_last_41 5 rfl ?_
            refine j_iload C dX10_last_43 6 rfl ?_
            refine j_bind hm (fun r5 hr5 hm => ?_)
            refine j_callS (cs' := (0, 0)) (As := [.int x5, .int x6]) (rest := []) C (qX10_isCarrier hr5) w3_150 w3_148 w3_149 w1_1 wd_X10_isCarrier ⟨by decide, by decide⟩ rfl (Nat.le_of_ble_eq_true rfl) dX10_last_45 ⟨by decide, by decide⟩ rfl rfl ?_
            refine j_if_neq (tgt := 54) C dX10_last_48 (by decide) hm (fun hm => ?_) (fun hm => ?_)
            · refine j_aload_n C dX10_last_54 rfl 0 rfl ?_
              refine j_iload_n C dX10_last_55 rfl 3 rfl ?_
              refine j_iload C dX10_last_56 4 rfl ?_
              refine j_iload_n C dX10_last_58 rfl 3 rfl ?_
              refine j_isub C dX10_last_59 ?_
              refine j_iload C dX10_last_60 5 rfl ?_
              refine j_iload C dX10_last_62 6 rfl ?_
              refine j_bind hm (fun u7 hr6 hm => ?_)
              refine j_callV (cs' := (0, 0)) (As := [.int x3, .int (x4 - x3), .int x5, .int x6]) (rest := []) C (qX10_openTable hr6) w3_154 w3_151 w3_153 w0_10 w1_1 wd_X10_openTable ⟨by decide, by decide⟩ 0 rfl rfl rfl (Nat.le_of_ble_eq_true rfl) dX10_last_64 ⟨by decide, by decide⟩ rfl rfl ?_
              refine j_aload_n C dX10_last_67 rfl 0 rfl ?_
              refine jX_g0_5_X10 C dX10_last_68 ?_
              refine j_iload_n C dX10_last_71 rfl 1 rfl ?_
              refine j_iload_n C dX10_last_72 rfl 2 rfl ?_
              refine j_bindp hm (fun r8 u9 hr8 hm => ?_)
              refine j_callV (cs' := (0, 0)) (As := [.int x1, .int x2]) (rest := []) C (qX9_latestStart hr8) w3_200 w3_197 w3_198 w3_199 w1_9 wd_X9_latestStart ⟨by decide, by decide⟩ 12 rfl rfl rfl (Nat.le_of_ble_eq_true rfl) dX10_last_73 ⟨by decide, by decide⟩ rfl rfl ?_
              refine j_istore C dX10_last_76 (by decide) rfl ?_
              refine j_iload C dX10_last_78 0 rfl ?_
              refine j_iconst (v := (-1)) C dX10_last_80 (by decide) ?_
              refine j_icmp_neq (tgt := 88) C dX10_last_81 (by decide) hm (fun hm => ?_) (fun hm => ?_)
              · refine j_iload_n C dX10_last_88 rfl 4 rfl ?_
                refine j_iload C dX10_last_89 0 rfl ?_
                refine j_iadd C dX10_last_91 ?_
                exact J.sub [] rfl (kX10_last_92 C hR u9 (x3 + r8) hm)
              · refine j_iconst (v := (-1)) C dX10_last_84 (by decide) ?_
                refine j_goto (tgt := 92) C dX10_last_85 (by decide) ?_
                exact J.sub [] rfl (kX10_last_92 C hR u9 (-1) hm)
            · refine j_bipush (v := (-102)) C dX10_last_51 (by decide) ?_
              cases hm
              exact j_iret C hR dX10_last_53
          · exact J.sub [] rfl (kX10_last_38 C hR u hm)
    · exact J.sub [] rfl (kX10_last_14 C hR u hm)
def rmX10_sharedDivisor : Room := { frames := 0, cells := 0, slots := 0, locals := 0 }
theorem wd_X10_sharedDivisor : yX10_sharedDivisor.cls ≠ "java/lang/invoke/MethodHandle" ∧ yX10_sharedDivisor.cls ≠ "java/lang/invoke/VarHandle" ∧ (parseMethodDescriptor yX10_sharedDivisor.desc).map (fun d => d.parameters.length) = some 2 := by decide +kernel
def mX10_sharedDivisor_32 (N : Nat) (x0 : Int64) : Option Int64 := some x0
set_option maxRecDepth 100000 in
set_option maxHeartbeats 4000000 in
theorem kX10_sharedDivisor_32 {l : Launch} {D : va_G} {tys : List (ClassId × FieldType)} {G : Gx} {N : Nat} {rr : Int64} (C : jC l rmX10_sharedDivisor D tys G cX10_sharedDivisor 7 RX10) (hR : jR D tys G (0, 0) (some .long) (some (.long rr)) [])  (x0 : Int64) (hm : mX10_sharedDivisor_32 N x0 = some rr) : J l rmX10_sharedDivisor D G (0, 0) [] [(0, .long x0)] [] 32 := by
  unfold mX10_sharedDivisor_32 at hm
  refine j_lload_n C dX10_sharedDivisor_32 rfl 0 rfl ?_
  cases hm
  exact j_lret C hR dX10_sharedDivisor_33
def mX10_sharedDivisor_3 (N : Nat) (k3 : Int64 → Int64 → Int32 → Option Int64) (x0 : Int64) (x2 : Int64) (x4 : Int32) : Option Int64 := if 100 ≤ x4 then (mX10_sharedDivisor_32 N x0) else (if (lg_cmp x2 0) = 0 then (mX10_sharedDivisor_32 N x0) else (gd (¬ x2 = 0) (nm (x0 - x0 / x2 * x2) (fun v1 => k3 x2 v1 (x4 + 1)))))
set_option maxRecDepth 100000 in
set_option maxHeartbeats 4000000 in
theorem kX10_sharedDivisor_3 {l : Launch} {D : va_G} {tys : List (ClassId × FieldType)} {G : Gx} {N : Nat} {rr : Int64} (C : jC l rmX10_sharedDivisor D tys G cX10_sharedDivisor 7 RX10) (hR : jR D tys G (0, 0) (some .long) (some (.long rr)) []) (k3 : Int64 → Int64 → Int32 → Option Int64) (K3 : ∀ (x0 : Int64) (x2 : Int64) (x4 : Int32), k3 x0 x2 x4 = some rr → J l rmX10_sharedDivisor D G (0, 0) [] [(0, .long x0), (2, .long x2), (4, .int x4)] [] 3) (x0 : Int64) (x2 : Int64) (x4 : Int32) (hm : mX10_sharedDivisor_3 N k3 x0 x2 x4 = some rr) : J l rmX10_sharedDivisor D G (0, 0) [] [(0, .long x0), (2, .long x2), (4, .int x4)] [] 3 := by
  unfold mX10_sharedDivisor_3 at hm
  refine j_iload C dX10_sharedDivisor_3 2 rfl ?_
  refine j_bipush (v := 100) C dX10_sharedDivisor_5 (by decide) ?_
  refine j_icmp_geq (tgt := 32) C dX10_sharedDivisor_7 (by decide) hm (fun hm => ?_) (fun hm => ?_)
  · exact J.sub [0] rfl (kX10_sharedDivisor_32 C hR x0 hm)
  · refine j_lload_n C dX10_sharedDivisor_10 rfl 1 rfl ?_
    refine j_lconst (v := 0) C dX10_sharedDivisor_11 (by decide) ?_
    refine j_lcmp C dX10_sharedDivisor_12 ?_
    refine j_if_eqq (tgt := 32) C dX10_sharedDivisor_13 (by decide) hm (fun hm => ?_) (fun hm => ?_)
    · exact J.sub [0] rfl (kX10_sharedDivisor_32 C hR x0 hm)
    · refine j_lload_n C dX10_sharedDivisor_16 rfl 0 rfl ?_
      refine j_lload_n C dX10_sharedDivisor_17 rfl 1 rfl ?_
      obtain ⟨g, hm⟩ := gd_some hm
      refine j_lrem C dX10_sharedDivisor_18 g ?_
      refine j_nml hm (fun v1 hm => ?_)
      refine j_lstore C dX10_sharedDivisor_19 (by decide) rfl ?_
      refine j_lload_n C dX10_sharedDivisor_21 rfl 2 rfl ?_
      refine j_lstore_n C dX10_sharedDivisor_22 rfl (by decide) rfl ?_
      refine j_lload C dX10_sharedDivisor_23 1 rfl ?_
      refine j_lstore_n C dX10_sharedDivisor_25 rfl (by decide) rfl ?_
      refine j_iinc (v := (x4 + 1)) C dX10_sharedDivisor_26 3 rfl rfl (by decide) rfl ?_
      refine j_goto (tgt := 3) C dX10_sharedDivisor_29 (by decide) ?_
      exact J.sub [2, 1, 0] rfl (K3 x2 v1 (x4 + 1) hm)
def mX10_sharedDivisor_h3 (N : Nat) : Nat → Int64 → Int64 → Int32 → Option Int64
  | 0, _, _, _ => none
  | n + 1, x0, x2, x4 => mX10_sharedDivisor_3 N (mX10_sharedDivisor_h3 N n) x0 x2 x4
theorem kX10_sharedDivisor_h3 {l : Launch} {D : va_G} {tys : List (ClassId × FieldType)} {G : Gx} {N : Nat} {rr : Int64} (C : jC l rmX10_sharedDivisor D tys G cX10_sharedDivisor 7 RX10) (hR : jR D tys G (0, 0) (some .long) (some (.long rr)) [])  : ∀ (n : Nat) (x0 : Int64) (x2 : Int64) (x4 : Int32), mX10_sharedDivisor_h3 N n x0 x2 x4 = some rr → J l rmX10_sharedDivisor D G (0, 0) [] [(0, .long x0), (2, .long x2), (4, .int x4)] [] 3 := by
  intro n
  induction n with
  | zero =>
    intro x0 x2 x4 hm
    have hm : (none : Option Int64) = some rr := hm
    cases hm
  | succ n ih =>
    intro x0 x2 x4 hm
    exact kX10_sharedDivisor_3 C hR _ ih x0 x2 x4 hm
def mX10_sharedDivisor (N : Nat) (x0 : Int64) (x2 : Int64) : Option Int64 := mX10_sharedDivisor_h3 N N x0 x2 0
set_option maxRecDepth 100000 in
set_option maxHeartbeats 4000000 in
theorem qX10_sharedDivisor {l : Launch} {D : va_G} {tys : List (ClassId × FieldType)} {N : Nat} {x0 : Int64} {x2 : Int64} {rr : Int64} (hm : mX10_sharedDivisor N x0 x2 = some rr) : Con l D tys yX10_sharedDivisor (wS yX10_sharedDivisor cX10_sharedDivisor 7 (some .long)) rmX10_sharedDivisor [.long x0, .long x2] [] (some (.long rr)) [] := by
  refine Con.of (by decide +kernel) (Nat.le_of_ble_eq_true rfl) (fun G C hR => ?_)
  unfold mX10_sharedDivisor at hm
  show J l rmX10_sharedDivisor D G (0, 0) [] [(0, .long x0), (2, .long x2)] [] 0
  refine j_iconst (v := 0) C dX10_sharedDivisor_0 (by decide) ?_
  refine j_istore C dX10_sharedDivisor_1 (by decide) rfl ?_
  exact J.sub [1, 2, 0] rfl (kX10_sharedDivisor_h3 C hR N x0 x2 0 hm)
def rmX10_again : Room := { frames := 3, cells := 0, slots := 0, locals := 64 }
theorem wd_X10_again : yX10_again.cls ≠ "java/lang/invoke/MethodHandle" ∧ yX10_again.cls ≠ "java/lang/invoke/VarHandle" ∧ (parseMethodDescriptor yX10_again.desc).map (fun d => d.parameters.length) = some 0 := by decide +kernel
def mX10_again_59 (N : Nat) (u : USt) (b : BSt) (k4 : Int64 → Int32 → Option Int64) (x1 : Int64) (x3 : Int32) : Option Int64 := k4 x1 (x3 + 1)
set_option maxRecDepth 100000 in
set_option maxHeartbeats 4000000 in
theorem kX10_again_59 {l : Launch} {D : va_G} {cI cO cR : ClassId} {q : Nat → Nat} {t0 : Nat} {u : USt} {b : BSt} {G : Gx} {N : Nat} {rr : Int64} (C : jC l rmX10_again D (tX cI cO cR) G cX10_again 8 RX10) (hR : jR D (tX cI cO cR) G (0, 0) (some .long) (some (.long rr)) (wX cI cO cR q t0 u b)) (k4 : Int64 → Int32 → Option Int64) (K4 : ∀ (x1 : Int64) (x3 : Int32), k4 x1 x3 = some rr → J l rmX10_again D G (0, 0) (wX cI cO cR q t0 u b) [(0, .ref (q 0)), (1, .long x1), (3, .int x3)] [] 4) (x1 : Int64) (x3 : Int32) (hm : mX10_again_59 N u b k4 x1 x3 = some rr) : J l rmX10_again D G (0, 0) (wX cI cO cR q t0 u b) [(0, .ref (q 0)), (1, .long x1), (3, .int x3)] [] 59 := by
  unfold mX10_again_59 at hm
  refine j_iinc (v := (x3 + 1)) C dX10_again_59 2 rfl rfl (by decide) rfl ?_
  refine j_goto (tgt := 4) C dX10_again_62 (by decide) ?_
  exact J.sub [1, 2, 0] rfl (K4 x1 (x3 + 1) hm)
def mX10_again_4 (N : Nat) (u : USt) (b : BSt) (k4 : Int64 → Int32 → Option Int64) (x1 : Int64) (x3 : Int32) : Option Int64 := (mJx4a65c_size_8abf5 N u).bind (fun r1 => if r1 ≤ x3 then (some x1) else ((mJx4a65c_get_915e3 N u b x3).bind (fun r2 => bwt b r2 (fun _ => (vX0_roundMinutes N b r2 (u.1 19)).bind (fun r3 => nm (Int32.toInt64 r3) (fun v4 => (mX10_sharedDivisor N x1 v4).bind (fun r5 => if (lg_cmp r5 0) ≤ 0 then (mX10_again_59 N u b k4 x1 x3) else (gd (¬ r5 = 0) (nm ((x1 / r5) * v4) (fun v6 => mX10_again_59 N u b k4 v6 x3))))))))))
set_option maxRecDepth 100000 in
set_option maxHeartbeats 4000000 in
theorem kX10_again_4 {l : Launch} {D : va_G} {cI cO cR : ClassId} {q : Nat → Nat} {t0 : Nat} {u : USt} {b : BSt} {G : Gx} {N : Nat} {rr : Int64} (C : jC l rmX10_again D (tX cI cO cR) G cX10_again 8 RX10) (hR : jR D (tX cI cO cR) G (0, 0) (some .long) (some (.long rr)) (wX cI cO cR q t0 u b)) (k4 : Int64 → Int32 → Option Int64) (K4 : ∀ (x1 : Int64) (x3 : Int32), k4 x1 x3 = some rr → J l rmX10_again D G (0, 0) (wX cI cO cR q t0 u b) [(0, .ref (q 0)), (1, .long x1), (3, .int x3)] [] 4) (x1 : Int64) (x3 : Int32) (hm : mX10_again_4 N u b k4 x1 x3 = some rr) : J l rmX10_again D G (0, 0) (wX cI cO cR q t0 u b) [(0, .ref (q 0)), (1, .long x1), (3, .int x3)] [] 4 := by
  unfold mX10_again_4 at hm
  refine j_iload_n C dX10_again_4 rfl 2 rfl ?_
  refine j_aload_n C dX10_again_5 rfl 0 rfl ?_
  refine jX_g0_2_X10 C dX10_again_6 ?_
  refine j_bind hm (fun r1 hr1 hm => ?_)
  refine j_callV (cs' := (0, 0)) (As := []) (rest := [.int x3]) C (qJx4a65c_size_8abf5 hr1) w2_74 w2_71 w2_72 w2_73 w1_6 wd_Jx4a65c_size_8abf5 ⟨by decide, by decide⟩ 5 rfl rfl rfl (Nat.le_of_ble_eq_true rfl) dX10_again_9 ⟨by decide, by decide⟩ rfl rfl ?_
  refine j_icmp_geq (tgt := 65) C dX10_again_12 (by decide) hm (fun hm => ?_) (fun hm => ?_)
  · refine j_lload_n C dX10_again_65 rfl 1 rfl ?_
    cases hm
    exact j_lret C hR dX10_again_66
  · refine j_aload_n C dX10_again_15 rfl 0 rfl ?_
    refine jX_g0_2_X10 C dX10_again_16 ?_
    refine j_iload_n C dX10_again_19 rfl 2 rfl ?_
    refine j_bind hm (fun r2 hr2 hm => ?_)
    refine j_callV (cs' := (0, 0)) (As := [.int x3]) (rest := []) C (qJx4a65c_get_915e3 hr2) w2_234 w2_231 w2_232 w2_233 w1_6 wd_Jx4a65c_get_915e3 ⟨by decide, by decide⟩ 5 rfl rfl rfl (Nat.le_of_ble_eq_true rfl) dX10_again_20 ⟨by decide, by decide⟩ rfl rfl ?_
    refine jX_cast C w3_5 w6_67 w6_68 w6_69 dX10_again_23 hm (fun hm => ?_)
    refine j_aload_n C dX10_again_26 rfl 0 rfl ?_
    refine jX_g0_9_X10 C dX10_again_27 ?_
    refine j_bind hm (fun r3 hr3 hm => ?_)
    refine jX_v_X10_160 (rest := []) C hr3 ⟨by decide, by decide⟩ (Nat.le_of_ble_eq_true rfl) dX10_again_30 (by decide) ?_
    refine j_i2l C dX10_again_33 ?_
    refine j_nml hm (fun v4 hm => ?_)
    refine j_lstore C dX10_again_34 (by decide) rfl ?_
    refine j_lload_n C dX10_again_36 rfl 2 rfl ?_
    refine j_lload C dX10_again_37 0 rfl ?_
    refine j_bind hm (fun r5 hr5 hm => ?_)
    refine j_callS (cs' := (0, 0)) (As := [.long x1, .long v4]) (rest := []) C (qX10_sharedDivisor hr5) w3_208 w3_206 w3_207 w1_1 wd_X10_sharedDivisor ⟨by decide, by decide⟩ rfl (Nat.le_of_ble_eq_true rfl) dX10_again_39 ⟨by decide, by decide⟩ rfl rfl ?_
    refine j_lstore C dX10_again_42 (by decide) rfl ?_
    refine j_lload C dX10_again_44 0 rfl ?_
    refine j_lconst (v := 0) C dX10_again_46 (by decide) ?_
    refine j_lcmp C dX10_again_47 ?_
    refine j_if_leq (tgt := 59) C dX10_again_48 (by decide) hm (fun hm => ?_) (fun hm => ?_)
    · exact J.sub [2, 3, 4] rfl (kX10_again_59 C hR k4 K4 x1 x3 hm)
    · refine j_lload_n C dX10_again_51 rfl 3 rfl ?_
      refine j_lload C dX10_again_52 0 rfl ?_
      obtain ⟨g, hm⟩ := gd_some hm
      refine j_ldiv C dX10_again_54 g ?_
      refine j_lload C dX10_again_55 1 rfl ?_
      refine j_lmul C dX10_again_57 ?_
      refine j_nml hm (fun v6 hm => ?_)
      refine j_lstore_n C dX10_again_58 rfl (by decide) rfl ?_
      exact J.sub [3, 0, 4] rfl (kX10_again_59 C hR k4 K4 v6 x3 hm)
def mX10_again_h4 (N : Nat) (u : USt) (b : BSt) : Nat → Int64 → Int32 → Option Int64
  | 0, _, _ => none
  | n + 1, x1, x3 => mX10_again_4 N u b (mX10_again_h4 N u b n) x1 x3
theorem kX10_again_h4 {l : Launch} {D : va_G} {cI cO cR : ClassId} {q : Nat → Nat} {t0 : Nat} {u : USt} {b : BSt} {G : Gx} {N : Nat} {rr : Int64} (C : jC l rmX10_again D (tX cI cO cR) G cX10_again 8 RX10) (hR : jR D (tX cI cO cR) G (0, 0) (some .long) (some (.long rr)) (wX cI cO cR q t0 u b))  : ∀ (n : Nat) (x1 : Int64) (x3 : Int32), mX10_again_h4 N u b n x1 x3 = some rr → J l rmX10_again D G (0, 0) (wX cI cO cR q t0 u b) [(0, .ref (q 0)), (1, .long x1), (3, .int x3)] [] 4 := by
  intro n
  induction n with
  | zero =>
    intro x1 x3 hm
    have hm : (none : Option Int64) = some rr := hm
    cases hm
  | succ n ih =>
    intro x1 x3 hm
    exact kX10_again_4 C hR _ ih x1 x3 hm
def mX10_again (N : Nat) (u : USt) (b : BSt) : Option Int64 := mX10_again_h4 N u b N 1 0
set_option maxRecDepth 100000 in
set_option maxHeartbeats 4000000 in
theorem qX10_again {l : Launch} {D : va_G} {cI cO cR : ClassId} {q : Nat → Nat} {t0 : Nat} {u : USt} {b : BSt} {N : Nat}  {rr : Int64} (hm : mX10_again N u b = some rr) : Con l D (tX cI cO cR) yX10_again (wS yX10_again cX10_again 8 (some .long)) rmX10_again [.ref (q 0)] (wX cI cO cR q t0 u b) (some (.long rr)) (wX cI cO cR q t0 u b) := by
  refine Con.of (by decide +kernel) (Nat.le_of_ble_eq_true rfl) (fun G C hR => ?_)
  unfold mX10_again at hm
  show J l rmX10_again D G (0, 0) (wX cI cO cR q t0 u b) [(0, .ref (q 0))] [] 0
  refine j_lconst (v := 1) C dX10_again_0 (by decide) ?_
  refine j_lstore_n C dX10_again_1 rfl (by decide) rfl ?_
  refine j_iconst (v := 0) C dX10_again_2 (by decide) ?_
  refine j_istore_n C dX10_again_3 rfl (by decide) rfl ?_
  exact J.sub [2, 1, 0] rfl (kX10_again_h4 C hR N 1 0 hm)
def rmX10_isJoined : Room := { frames := 4, cells := 0, slots := 0, locals := 86 }
theorem wd_X10_isJoined : yX10_isJoined.cls ≠ "java/lang/invoke/MethodHandle" ∧ yX10_isJoined.cls ≠ "java/lang/invoke/VarHandle" ∧ (parseMethodDescriptor yX10_isJoined.desc).map (fun d => d.parameters.length) = some 2 := by decide +kernel
def mX10_isJoined_65 (N : Nat) (u : USt) (b : BSt) : Option Int32 := some 1
set_option maxRecDepth 100000 in
set_option maxHeartbeats 4000000 in
theorem kX10_isJoined_65 {l : Launch} {D : va_G} {cI cO cR : ClassId} {q : Nat → Nat} {t0 : Nat} {u : USt} {b : BSt} {G : Gx} {N : Nat} {rr : Int32} (C : jC l rmX10_isJoined D (tX cI cO cR) G cX10_isJoined 6 RX10) (hR : jR D (tX cI cO cR) G (0, 0) (some .boolean) (some (.int rr)) (wX cI cO cR q t0 u b))   (hm : mX10_isJoined_65 N u b = some rr) : J l rmX10_isJoined D G (0, 0) (wX cI cO cR q t0 u b) [] [] 65 := by
  unfold mX10_isJoined_65 at hm
  refine j_iconst (v := 1) C dX10_isJoined_65 (by decide) ?_
  cases hm
  exact j_zret C hR (by decide) dX10_isJoined_66
def mX10_isJoined_67 (N : Nat) (u : USt) (b : BSt) (k2 : Int32 → Int32 → Int32 → Option Int32) (x1 : Int32) (x2 : Int32) (x3 : Int32) : Option Int32 := k2 x1 x2 (x3 + 1)
set_option maxRecDepth 100000 in
set_option maxHeartbeats 4000000 in
theorem kX10_isJoined_67 {l : Launch} {D : va_G} {cI cO cR : ClassId} {q : Nat → Nat} {t0 : Nat} {u : USt} {b : BSt} {G : Gx} {N : Nat} {rr : Int32} (C : jC l rmX10_isJoined D (tX cI cO cR) G cX10_isJoined 6 RX10) (hR : jR D (tX cI cO cR) G (0, 0) (some .boolean) (some (.int rr)) (wX cI cO cR q t0 u b)) (k2 : Int32 → Int32 → Int32 → Option Int32) (K2 : ∀ (x1 : Int32) (x2 : Int32) (x3 : Int32), k2 x1 x2 x3 = some rr → J l rmX10_isJoined D G (0, 0) (wX cI cO cR q t0 u b) [(0, .ref (q 0)), (1, .int x1), (2, .int x2), (3, .int x3)] [] 2) (x1 : Int32) (x2 : Int32) (x3 : Int32) (hm : mX10_isJoined_67 N u b k2 x1 x2 x3 = some rr) : J l rmX10_isJoined D G (0, 0) (wX cI cO cR q t0 u b) [(0, .ref (q 0)), (1, .int x1), (2, .int x2), (3, .int x3)] [] 67 := by
  unfold mX10_isJoined_67 at hm
  refine j_iinc (v := (x3 + 1)) C dX10_isJoined_67 3 rfl rfl (by decide) rfl ?_
  refine j_goto (tgt := 2) C dX10_isJoined_70 (by decide) ?_
  exact J.sub [1, 2, 3, 0] rfl (K2 x1 x2 (x3 + 1) hm)
def mX10_isJoined_2 (N : Nat) (u : USt) (b : BSt) (k2 : Int32 → Int32 → Int32 → Option Int32) (x1 : Int32) (x2 : Int32) (x3 : Int32) : Option Int32 := (mJx4a65c_size_8abf5 N u).bind (fun r1 => if r1 ≤ x3 then (some 0) else ((mJx4a65c_get_915e3 N u b x3).bind (fun r2 => bwt b r2 (fun _ => bfi b r2 5 (fun f3 => (vX0_endAt N b r2 (x2 + f3) (u.1 19)).bind (fun r4 => if r4 = (-1) then (mX10_isJoined_67 N u b k2 x1 x2 x3) else (if r4 = x1 then (mX10_isJoined_65 N u b) else (bfi b r2 0 (fun f5 => if ¬ f5 = x1 then (mX10_isJoined_67 N u b k2 x1 x2 x3) else (mX10_isJoined_65 N u b))))))))))
set_option maxRecDepth 100000 in
set_option maxHeartbeats 4000000 in
theorem kX10_isJoined_2 {l : Launch} {D : va_G} {cI cO cR : ClassId} {q : Nat → Nat} {t0 : Nat} {u : USt} {b : BSt} {G : Gx} {N : Nat} {rr : Int32} (C : jC l rmX10_isJoined D (tX cI cO cR) G cX10_isJoined 6 RX10) (hR : jR D (tX cI cO cR) G (0, 0) (some .boolean) (some (.int rr)) (wX cI cO cR q t0 u b)) (k2 : Int32 → Int32 → Int32 → Option Int32) (K2 : ∀ (x1 : Int32) (x2 : Int32) (x3 : Int32), k2 x1 x2 x3 = some rr → J l rmX10_isJoined D G (0, 0) (wX cI cO cR q t0 u b) [(0, .ref (q 0)), (1, .int x1), (2, .int x2), (3, .int x3)] [] 2) (x1 : Int32) (x2 : Int32) (x3 : Int32) (hm : mX10_isJoined_2 N u b k2 x1 x2 x3 = some rr) : J l rmX10_isJoined D G (0, 0) (wX cI cO cR q t0 u b) [(0, .ref (q 0)), (1, .int x1), (2, .int x2), (3, .int x3)] [] 2 := by
  unfold mX10_isJoined_2 at hm
  refine j_iload_n C dX10_isJoined_2 rfl 3 rfl ?_
  refine j_aload_n C dX10_isJoined_3 rfl 0 rfl ?_
  refine jX_g0_2_X10 C dX10_isJoined_4 ?_
  refine j_bind hm (fun r1 hr1 hm => ?_)
  refine j_callV (cs' := (0, 0)) (As := []) (rest := [.int x3]) C (qJx4a65c_size_8abf5 hr1) w2_74 w2_71 w2_72 w2_73 w1_6 wd_Jx4a65c_size_8abf5 ⟨by decide, by decide⟩ 5 rfl rfl rfl (Nat.le_of_ble_eq_true rfl) dX10_isJoined_7 ⟨by decide, by decide⟩ rfl rfl ?_
  refine j_icmp_geq (tgt := 73) C dX10_isJoined_10 (by decide) hm (fun hm => ?_) (fun hm => ?_)
  · refine j_iconst (v := 0) C dX10_isJoined_73 (by decide) ?_
    cases hm
    exact j_zret C hR (by decide) dX10_isJoined_74
  · refine j_aload_n C dX10_isJoined_13 rfl 0 rfl ?_
    refine jX_g0_2_X10 C dX10_isJoined_14 ?_
    refine j_iload_n C dX10_isJoined_17 rfl 3 rfl ?_
    refine j_bind hm (fun r2 hr2 hm => ?_)
    refine j_callV (cs' := (0, 0)) (As := [.int x3]) (rest := []) C (qJx4a65c_get_915e3 hr2) w2_234 w2_231 w2_232 w2_233 w1_6 wd_Jx4a65c_get_915e3 ⟨by decide, by decide⟩ 5 rfl rfl rfl (Nat.le_of_ble_eq_true rfl) dX10_isJoined_18 ⟨by decide, by decide⟩ rfl rfl ?_
    refine jX_cast C w3_5 w6_67 w6_68 w6_69 dX10_isJoined_21 hm (fun hm => ?_)
    refine j_astore C dX10_isJoined_24 (by decide) rfl ?_
    refine j_aload C dX10_isJoined_26 0 rfl ?_
    refine j_iload_n C dX10_isJoined_28 rfl 3 rfl ?_
    refine j_aload C dX10_isJoined_29 0 rfl ?_
    refine jX_b5 C w2_121 dX10_isJoined_31 hm (fun f3 hm => ?_)
    refine j_iadd C dX10_isJoined_34 ?_
    refine j_aload_n C dX10_isJoined_35 rfl 1 rfl ?_
    refine jX_g0_9_X10 C dX10_isJoined_36 ?_
    refine j_bind hm (fun r4 hr4 hm => ?_)
    refine jX_v_X10_130 (rest := []) C hr4 ⟨by decide, by decide⟩ (Nat.le_of_ble_eq_true rfl) dX10_isJoined_39 (by decide) ?_
    refine j_istore C dX10_isJoined_42 (by decide) rfl ?_
    refine j_iload C dX10_isJoined_44 0 rfl ?_
    refine j_iconst (v := (-1)) C dX10_isJoined_46 (by decide) ?_
    refine j_icmp_eqq (tgt := 67) C dX10_isJoined_47 (by decide) hm (fun hm => ?_) (fun hm => ?_)
    · exact J.sub [2, 3, 4, 5] rfl (kX10_isJoined_67 C hR k2 K2 x1 x2 x3 hm)
    · refine j_iload C dX10_isJoined_50 0 rfl ?_
      refine j_iload_n C dX10_isJoined_52 rfl 3 rfl ?_
      refine j_icmp_eqq (tgt := 65) C dX10_isJoined_53 (by decide) hm (fun hm => ?_) (fun hm => ?_)
      · exact J.sub [] rfl (kX10_isJoined_65 C hR hm)
      · refine j_aload C dX10_isJoined_56 1 rfl ?_
        refine jX_b0 C w2_109 dX10_isJoined_58 hm (fun f5 hm => ?_)
        refine j_iload_n C dX10_isJoined_61 rfl 3 rfl ?_
        refine j_icmp_neq (tgt := 67) C dX10_isJoined_62 (by decide) hm (fun hm => ?_) (fun hm => ?_)
        · exact J.sub [2, 3, 4, 5] rfl (kX10_isJoined_67 C hR k2 K2 x1 x2 x3 hm)
        · exact J.sub [] rfl (kX10_isJoined_65 C hR hm)
def mX10_isJoined_h2 (N : Nat) (u : USt) (b : BSt) : Nat → Int32 → Int32 → Int32 → Option Int32
  | 0, _, _, _ => none
  | n + 1, x1, x2, x3 => mX10_isJoined_2 N u b (mX10_isJoined_h2 N u b n) x1 x2 x3
theorem kX10_isJoined_h2 {l : Launch} {D : va_G} {cI cO cR : ClassId} {q : Nat → Nat} {t0 : Nat} {u : USt} {b : BSt} {G : Gx} {N : Nat} {rr : Int32} (C : jC l rmX10_isJoined D (tX cI cO cR) G cX10_isJoined 6 RX10) (hR : jR D (tX cI cO cR) G (0, 0) (some .boolean) (some (.int rr)) (wX cI cO cR q t0 u b))  : ∀ (n : Nat) (x1 : Int32) (x2 : Int32) (x3 : Int32), mX10_isJoined_h2 N u b n x1 x2 x3 = some rr → J l rmX10_isJoined D G (0, 0) (wX cI cO cR q t0 u b) [(0, .ref (q 0)), (1, .int x1), (2, .int x2), (3, .int x3)] [] 2 := by
  intro n
  induction n with
  | zero =>
    intro x1 x2 x3 hm
    have hm : (none : Option Int32) = some rr := hm
    cases hm
  | succ n ih =>
    intro x1 x2 x3 hm
    exact kX10_isJoined_2 C hR _ ih x1 x2 x3 hm
def mX10_isJoined (N : Nat) (u : USt) (b : BSt) (x1 : Int32) (x2 : Int32) : Option Int32 := mX10_isJoined_h2 N u b N x1 x2 0
set_option maxRecDepth 100000 in
set_option maxHeartbeats 4000000 in
theorem qX10_isJoined {l : Launch} {D : va_G} {cI cO cR : ClassId} {q : Nat → Nat} {t0 : Nat} {u : USt} {b : BSt} {N : Nat} {x1 : Int32} {x2 : Int32} {rr : Int32} (hm : mX10_isJoined N u b x1 x2 = some rr) : Con l D (tX cI cO cR) yX10_isJoined (wS yX10_isJoined cX10_isJoined 6 (some .boolean)) rmX10_isJoined [.ref (q 0), .int x1, .int x2] (wX cI cO cR q t0 u b) (some (.int rr)) (wX cI cO cR q t0 u b) := by
  refine Con.of (by decide +kernel) (Nat.le_of_ble_eq_true rfl) (fun G C hR => ?_)
  unfold mX10_isJoined at hm
  show J l rmX10_isJoined D G (0, 0) (wX cI cO cR q t0 u b) [(0, .ref (q 0)), (1, .int x1), (2, .int x2)] [] 0
  refine j_iconst (v := 0) C dX10_isJoined_0 (by decide) ?_
  refine j_istore_n C dX10_isJoined_1 rfl (by decide) rfl ?_
  exact J.sub [1, 2, 3, 0] rfl (kX10_isJoined_h2 C hR N x1 x2 0 hm)
