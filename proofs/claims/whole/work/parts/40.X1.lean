def rmX0_kind : Room := { frames := 0, cells := 0, slots := 0, locals := 0 }
theorem wd_X0_kind : yX0_kind.cls ≠ "java/lang/invoke/MethodHandle" ∧ yX0_kind.cls ≠ "java/lang/invoke/VarHandle" ∧ (parseMethodDescriptor yX0_kind.desc).map (fun d => d.parameters.length) = some 0 := by decide +kernel
def mX0_kind (N : Nat) (b : BSt) (a0 : Nat) : Option Int32 := some 0
set_option maxRecDepth 100000 in
set_option maxHeartbeats 4000000 in
theorem qX0_kind {l : Launch} {D : va_G} {cI cO cR : ClassId} {q : Nat → Nat} {t0 : Nat} {u : USt} {b : BSt} {N : Nat} {a0 : Nat} {rr : Int32} (hm : mX0_kind N b a0 = some rr) : Con l D (tX cI cO cR) yX0_kind (wS yX0_kind cX0_kind 1 (some .int)) rmX0_kind [.ref (bA b a0)] (wX cI cO cR q t0 u b) (some (.int rr)) (wX cI cO cR q t0 u b) := by
  refine Con.of (by decide +kernel) (Nat.le_of_ble_eq_true rfl) (fun G C hR => ?_)
  unfold mX0_kind at hm
  show J l rmX0_kind D G (0, 0) (wX cI cO cR q t0 u b) [(0, .ref (bA b a0))] [] 0
  refine j_iconst (v := 0) C dX0_kind_0 (by decide) ?_
  cases hm
  exact j_iret C hR dX0_kind_1
def rmX0_endCount : Room := { frames := 0, cells := 0, slots := 0, locals := 0 }
theorem wd_X0_endCount : yX0_endCount.cls ≠ "java/lang/invoke/MethodHandle" ∧ yX0_endCount.cls ≠ "java/lang/invoke/VarHandle" ∧ (parseMethodDescriptor yX0_endCount.desc).map (fun d => d.parameters.length) = some 0 := by decide +kernel
def mX0_endCount (N : Nat) (b : BSt) (a0 : Nat) : Option Int32 := bwt b a0 (fun _ => bln b a0 (fun n1 => some n1))
set_option maxRecDepth 100000 in
set_option maxHeartbeats 4000000 in
theorem qX0_endCount {l : Launch} {D : va_G} {cI cO cR : ClassId} {q : Nat → Nat} {t0 : Nat} {u : USt} {b : BSt} {N : Nat} {a0 : Nat} {rr : Int32} (hm : mX0_endCount N b a0 = some rr) : Con l D (tX cI cO cR) yX0_endCount (wS yX0_endCount cX0_endCount 1 (some .int)) rmX0_endCount [.ref (bA b a0)] (wX cI cO cR q t0 u b) (some (.int rr)) (wX cI cO cR q t0 u b) := by
  refine Con.of (by decide +kernel) (Nat.le_of_ble_eq_true rfl) (fun G C hR => ?_)
  unfold mX0_endCount at hm
  show J l rmX0_endCount D G (0, 0) (wX cI cO cR q t0 u b) [(0, .ref (bA b a0))] [] 0
  refine j_aload_n C dX0_endCount_0 rfl 0 rfl ?_
  refine jX_b4 C w2_118 dX0_endCount_1 hm (fun hm => ?_)
  refine jX_bln C dX0_endCount_4 hm (fun n1 hm => ?_)
  cases hm
  exact j_iret C hR dX0_endCount_5
def rmX0_end : Room := { frames := 0, cells := 0, slots := 0, locals := 0 }
theorem wd_X0_end : yX0_end.cls ≠ "java/lang/invoke/MethodHandle" ∧ yX0_end.cls ≠ "java/lang/invoke/VarHandle" ∧ (parseMethodDescriptor yX0_end.desc).map (fun d => d.parameters.length) = some 1 := by decide +kernel
def mX0_end_23 (N : Nat) (b : BSt) (s0 : Int32) : Option Int32 := some s0
set_option maxRecDepth 100000 in
set_option maxHeartbeats 4000000 in
theorem kX0_end_23 {l : Launch} {D : va_G} {cI cO cR : ClassId} {q : Nat → Nat} {t0 : Nat} {u : USt} {b : BSt} {G : Gx} {N : Nat} {rr : Int32} (C : jC l rmX0_end D (tX cI cO cR) G cX0_end 2 RX0) (hR : jR D (tX cI cO cR) G (0, 0) (some .int) (some (.int rr)) (wX cI cO cR q t0 u b))  (s0 : Int32) (hm : mX0_end_23 N b s0 = some rr) : J l rmX0_end D G (0, 0) (wX cI cO cR q t0 u b) [] [.int s0] 23 := by
  unfold mX0_end_23 at hm
  cases hm
  exact j_iret C hR dX0_end_23
def mX0_end_22 (N : Nat) (b : BSt) : Option Int32 := mX0_end_23 N b (-1)
set_option maxRecDepth 100000 in
set_option maxHeartbeats 4000000 in
theorem kX0_end_22 {l : Launch} {D : va_G} {cI cO cR : ClassId} {q : Nat → Nat} {t0 : Nat} {u : USt} {b : BSt} {G : Gx} {N : Nat} {rr : Int32} (C : jC l rmX0_end D (tX cI cO cR) G cX0_end 2 RX0) (hR : jR D (tX cI cO cR) G (0, 0) (some .int) (some (.int rr)) (wX cI cO cR q t0 u b))   (hm : mX0_end_22 N b = some rr) : J l rmX0_end D G (0, 0) (wX cI cO cR q t0 u b) [] [] 22 := by
  unfold mX0_end_22 at hm
  refine j_iconst (v := (-1)) C dX0_end_22 (by decide) ?_
  exact kX0_end_23 C hR (-1) hm
def mX0_end (N : Nat) (b : BSt) (a0 : Nat) (x1 : Int32) : Option Int32 := if x1 < 0 then (mX0_end_22 N b) else (bwt b a0 (fun _ => bln b a0 (fun n1 => if n1 ≤ x1 then (mX0_end_22 N b) else (bwt b a0 (fun _ => ben b a0 x1 (fun ra2 => mX0_end_23 N b ra2))))))
set_option maxRecDepth 100000 in
set_option maxHeartbeats 4000000 in
theorem qX0_end {l : Launch} {D : va_G} {cI cO cR : ClassId} {q : Nat → Nat} {t0 : Nat} {u : USt} {b : BSt} {N : Nat} {a0 : Nat} {x1 : Int32} {rr : Int32} (hm : mX0_end N b a0 x1 = some rr) : Con l D (tX cI cO cR) yX0_end (wS yX0_end cX0_end 2 (some .int)) rmX0_end [.ref (bA b a0), .int x1] (wX cI cO cR q t0 u b) (some (.int rr)) (wX cI cO cR q t0 u b) := by
  refine Con.of (by decide +kernel) (Nat.le_of_ble_eq_true rfl) (fun G C hR => ?_)
  unfold mX0_end at hm
  show J l rmX0_end D G (0, 0) (wX cI cO cR q t0 u b) [(0, .ref (bA b a0)), (1, .int x1)] [] 0
  refine j_iload_n C dX0_end_0 rfl 1 rfl ?_
  refine j_if_ltq (tgt := 22) C dX0_end_1 (by decide) hm (fun hm => ?_) (fun hm => ?_)
  · exact J.sub [] rfl (kX0_end_22 C hR hm)
  · refine j_iload_n C dX0_end_4 rfl 1 rfl ?_
    refine j_aload_n C dX0_end_5 rfl 0 rfl ?_
    refine jX_b4 C w2_118 dX0_end_6 hm (fun hm => ?_)
    refine jX_bln C dX0_end_9 hm (fun n1 hm => ?_)
    refine j_icmp_geq (tgt := 22) C dX0_end_10 (by decide) hm (fun hm => ?_) (fun hm => ?_)
    · exact J.sub [] rfl (kX0_end_22 C hR hm)
    · refine j_aload_n C dX0_end_13 rfl 0 rfl ?_
      refine jX_b4 C w2_118 dX0_end_14 hm (fun hm => ?_)
      refine j_iload_n C dX0_end_17 rfl 1 rfl ?_
      refine jX_ben C dX0_end_18 hm (fun ra2 hm => ?_)
      refine j_goto (tgt := 23) C dX0_end_19 (by decide) ?_
      exact J.sub [] rfl (kX0_end_23 C hR ra2 hm)
def rmX0_turnMinutes : Room := { frames := 0, cells := 0, slots := 0, locals := 0 }
theorem wd_X0_turnMinutes : yX0_turnMinutes.cls ≠ "java/lang/invoke/MethodHandle" ∧ yX0_turnMinutes.cls ≠ "java/lang/invoke/VarHandle" ∧ (parseMethodDescriptor yX0_turnMinutes.desc).map (fun d => d.parameters.length) = some 1 := by decide +kernel
def mX0_turnMinutes (N : Nat) (b : BSt) (a0 : Nat) (x1 : Int32) : Option Int32 := bfi b a0 2 (fun f1 => some f1)
set_option maxRecDepth 100000 in
set_option maxHeartbeats 4000000 in
theorem qX0_turnMinutes {l : Launch} {D : va_G} {cI cO cR : ClassId} {q : Nat → Nat} {t0 : Nat} {u : USt} {b : BSt} {N : Nat} {a0 : Nat} {x1 : Int32} {rr : Int32} (hm : mX0_turnMinutes N b a0 x1 = some rr) : Con l D (tX cI cO cR) yX0_turnMinutes (wS yX0_turnMinutes cX0_turnMinutes 2 (some .int)) rmX0_turnMinutes [.ref (bA b a0), .int x1] (wX cI cO cR q t0 u b) (some (.int rr)) (wX cI cO cR q t0 u b) := by
  refine Con.of (by decide +kernel) (Nat.le_of_ble_eq_true rfl) (fun G C hR => ?_)
  unfold mX0_turnMinutes at hm
  show J l rmX0_turnMinutes D G (0, 0) (wX cI cO cR q t0 u b) [(0, .ref (bA b a0)), (1, .int x1)] [] 0
  refine j_aload_n C dX0_turnMinutes_0 rfl 0 rfl ?_
  refine jX_b2 C w2_112 dX0_turnMinutes_1 hm (fun f1 hm => ?_)
  cases hm
  exact j_iret C hR dX0_turnMinutes_4
def rmX0_placeCount : Room := { frames := 1, cells := 0, slots := 0, locals := 20 }
theorem wd_X0_placeCount : yX0_placeCount.cls ≠ "java/lang/invoke/MethodHandle" ∧ yX0_placeCount.cls ≠ "java/lang/invoke/VarHandle" ∧ (parseMethodDescriptor yX0_placeCount.desc).map (fun d => d.parameters.length) = some 0 := by decide +kernel
def mX0_placeCount (N : Nat) (b : BSt) (a0 : Nat) : Option Int32 := bwt b a0 (fun _ => bln b a0 (fun n1 => some n1))
set_option maxRecDepth 100000 in
set_option maxHeartbeats 4000000 in
theorem qX0_placeCount {l : Launch} {D : va_G} {cI cO cR : ClassId} {q : Nat → Nat} {t0 : Nat} {u : USt} {b : BSt} {N : Nat} {a0 : Nat} {rr : Int32} (hm : mX0_placeCount N b a0 = some rr) : Con l D (tX cI cO cR) yX0_placeCount (wS yX0_placeCount cX0_placeCount 1 (some .int)) rmX0_placeCount [.ref (bA b a0)] (wX cI cO cR q t0 u b) (some (.int rr)) (wX cI cO cR q t0 u b) := by
  refine Con.of (by decide +kernel) (Nat.le_of_ble_eq_true rfl) (fun G C hR => ?_)
  unfold mX0_placeCount at hm
  show J l rmX0_placeCount D G (0, 0) (wX cI cO cR q t0 u b) [(0, .ref (bA b a0))] [] 0
  refine j_aload_n C dX0_placeCount_0 rfl 0 rfl ?_
  refine jX_b4 C w2_118 dX0_placeCount_1 hm (fun hm => ?_)
  refine jX_bln C dX0_placeCount_4 hm (fun n1 hm => ?_)
  cases hm
  exact j_iret C hR dX0_placeCount_5
def vX0_end (N : Nat) (b : BSt) (k : Nat) (z0 : Int32) : Option Int32 := bwt b k (fun v => if v.2.2.1 = 1 then mX0_end N b k z0 else (if v.2.2.1 = 3 then mX0_end N b k z0 else (if v.2.2.1 = 4 then mX0_end N b k z0 else (if v.2.2.1 = 9 then mX0_end N b k z0 else (none)))))
theorem jX_v_X0_54 {l : Launch} {R : Room} {D : va_G} {cI cO cR : ClassId} {q : Nat → Nat} {t0 : Nat} {u : USt} {b : BSt} {G : Gx} {cc : ByteArray} {nL : Nat} {lv : List (Nat × Value)} {pc : Nat} {N k : Nat} {z0 r : Int32} {rest : List Value} (C : jC l R D (tX cI cO cR) G cc nL RX0) (hv : vX0_end N b k z0 = some r) (hR : 0 + 1 ≤ R.frames ∧ 8 + (2 + 11) + 0 ≤ R.locals) (hrest : (rest.map fun v => v.category).sum ≤ 8) (d : decode cc pc = .ok (.invokevirtual 54, 3)) (hz : R.cells = 0 ∧ R.slots = 0) (kk : J l R D G (0, 0) (wX cI cO cR q t0 u b) lv (.int r :: rest) (pc + 3)) : J l R D G (0, 0) (wX cI cO cR q t0 u b) lv (.int z0 :: .ref (bA b k) :: rest) pc := by
  unfold vX0_end at hv
  obtain ⟨x, rfl, hk, hc, hv⟩ := bwt_some hv
  have he := (wX_b (cI := cI) (cO := cO) (cR := cR) (q := q) (t0 := t0) (u := u) hk).1
  rcases okc_or hc with e | e | e | e
  · refine j_callU (cs' := (0, 0)) (As := [.int z0]) (rest := rest) C (qX0_end (ip e hv)) w3_83 w3_83 w3_125 w3_79 w3_77 w3_78 w3_77 w1_12 wd_X0_end ⟨Nat.le_trans (by decide) hR.1, Nat.le_trans (by decide) hR.2⟩ (45 + 2 * k) (bCell_at he e) rfl rfl hrest d ⟨by rw [hz.1]; decide, by rw [hz.2]; decide⟩ rfl rfl kk
  · refine j_callU (cs' := (0, 0)) (As := [.int z0]) (rest := rest) C (qX0_end (ip e (im (by rw [e]; decide) hv))) w3_83 w3_83 w3_125 w3_79 w3_77 w3_80 w3_77 w1_12 wd_X0_end ⟨Nat.le_trans (by decide) hR.1, Nat.le_trans (by decide) hR.2⟩ (45 + 2 * k) (bCell_at he e) rfl rfl hrest d ⟨by rw [hz.1]; decide, by rw [hz.2]; decide⟩ rfl rfl kk
  · refine j_callU (cs' := (0, 0)) (As := [.int z0]) (rest := rest) C (qX0_end (ip e (im (by rw [e]; decide) (im (by rw [e]; decide) hv)))) w3_83 w3_83 w3_125 w3_79 w3_77 w3_81 w3_77 w1_12 wd_X0_end ⟨Nat.le_trans (by decide) hR.1, Nat.le_trans (by decide) hR.2⟩ (45 + 2 * k) (bCell_at he e) rfl rfl hrest d ⟨by rw [hz.1]; decide, by rw [hz.2]; decide⟩ rfl rfl kk
  · refine j_callU (cs' := (0, 0)) (As := [.int z0]) (rest := rest) C (qX0_end (ip e (im (by rw [e]; decide) (im (by rw [e]; decide) (im (by rw [e]; decide) hv))))) w3_83 w3_83 w3_125 w3_79 w3_77 w3_82 w3_77 w1_12 wd_X0_end ⟨Nat.le_trans (by decide) hR.1, Nat.le_trans (by decide) hR.2⟩ (45 + 2 * k) (bCell_at he e) rfl rfl hrest d ⟨by rw [hz.1]; decide, by rw [hz.2]; decide⟩ rfl rfl kk
def rmX0_endOfPlace : Room := { frames := 2, cells := 0, slots := 0, locals := 40 }
theorem wd_X0_endOfPlace : yX0_endOfPlace.cls ≠ "java/lang/invoke/MethodHandle" ∧ yX0_endOfPlace.cls ≠ "java/lang/invoke/VarHandle" ∧ (parseMethodDescriptor yX0_endOfPlace.desc).map (fun d => d.parameters.length) = some 1 := by decide +kernel
def mX0_endOfPlace (N : Nat) (b : BSt) (a0 : Nat) (x1 : Int32) : Option Int32 := (vX0_end N b a0 x1).bind (fun r1 => some r1)
set_option maxRecDepth 100000 in
set_option maxHeartbeats 4000000 in
theorem qX0_endOfPlace {l : Launch} {D : va_G} {cI cO cR : ClassId} {q : Nat → Nat} {t0 : Nat} {u : USt} {b : BSt} {N : Nat} {a0 : Nat} {x1 : Int32} {rr : Int32} (hm : mX0_endOfPlace N b a0 x1 = some rr) : Con l D (tX cI cO cR) yX0_endOfPlace (wS yX0_endOfPlace cX0_endOfPlace 2 (some .int)) rmX0_endOfPlace [.ref (bA b a0), .int x1] (wX cI cO cR q t0 u b) (some (.int rr)) (wX cI cO cR q t0 u b) := by
  refine Con.of (by decide +kernel) (Nat.le_of_ble_eq_true rfl) (fun G C hR => ?_)
  unfold mX0_endOfPlace at hm
  show J l rmX0_endOfPlace D G (0, 0) (wX cI cO cR q t0 u b) [(0, .ref (bA b a0)), (1, .int x1)] [] 0
  refine j_aload_n C dX0_endOfPlace_0 rfl 0 rfl ?_
  refine j_iload_n C dX0_endOfPlace_1 rfl 1 rfl ?_
  refine j_bind hm (fun r1 hr1 hm => ?_)
  refine jX_v_X0_54 (rest := []) C hr1 ⟨by decide, by decide⟩ (Nat.le_of_ble_eq_true rfl) dX0_endOfPlace_2 (by decide) ?_
  cases hm
  exact j_iret C hR dX0_endOfPlace_5
def vX8_endCount (N : Nat) (b : BSt) (k : Nat) : Option Int32 := bwt b k (fun v => if v.2.2.1 = 9 then mX0_endCount N b k else (none))
theorem jX_v_X8_7 {l : Launch} {R : Room} {D : va_G} {cI cO cR : ClassId} {q : Nat → Nat} {t0 : Nat} {u : USt} {b : BSt} {G : Gx} {cc : ByteArray} {nL : Nat} {lv : List (Nat × Value)} {pc : Nat} {N k : Nat} {r : Int32} {rest : List Value} (C : jC l R D (tX cI cO cR) G cc nL RX8) (hv : vX8_endCount N b k  = some r) (hR : 0 + 1 ≤ R.frames ∧ 8 + (1 + 11) + 0 ≤ R.locals) (hrest : (rest.map fun v => v.category).sum ≤ 8) (d : decode cc pc = .ok (.invokevirtual 7, 3)) (hz : R.cells = 0 ∧ R.slots = 0) (kk : J l R D G (0, 0) (wX cI cO cR q t0 u b) lv (.int r :: rest) (pc + 3)) : J l R D G (0, 0) (wX cI cO cR q t0 u b) lv (.ref (bA b k) :: rest) pc := by
  unfold vX8_endCount at hv
  obtain ⟨x, rfl, hk, hc, hv⟩ := bwt_some hv
  have he := (wX_b (cI := cI) (cO := cO) (cR := cR) (q := q) (t0 := t0) (u := u) hk).1
  rcases okc_or hc with e | e | e | e
  · cases (im (by rw [e]; decide) hv)
  · cases (im (by rw [e]; decide) hv)
  · cases (im (by rw [e]; decide) hv)
  · refine j_callU (cs' := (0, 0)) (As := []) (rest := rest) C (qX0_endCount (ip e hv)) w3_41 w3_41 w3_61 w3_62 w3_35 w3_64 w3_35 w1_12 wd_X0_endCount ⟨Nat.le_trans (by decide) hR.1, Nat.le_trans (by decide) hR.2⟩ (45 + 2 * k) (bCell_at he e) rfl rfl hrest d ⟨by rw [hz.1]; decide, by rw [hz.2]; decide⟩ rfl rfl kk
def rmX8_placeCount : Room := { frames := 1, cells := 0, slots := 0, locals := 20 }
theorem wd_X8_placeCount : yX8_placeCount.cls ≠ "java/lang/invoke/MethodHandle" ∧ yX8_placeCount.cls ≠ "java/lang/invoke/VarHandle" ∧ (parseMethodDescriptor yX8_placeCount.desc).map (fun d => d.parameters.length) = some 0 := by decide +kernel
def mX8_placeCount_20 (N : Nat) (b : BSt) (s0 : Int32) : Option Int32 := some s0
set_option maxRecDepth 100000 in
set_option maxHeartbeats 4000000 in
theorem kX8_placeCount_20 {l : Launch} {D : va_G} {cI cO cR : ClassId} {q : Nat → Nat} {t0 : Nat} {u : USt} {b : BSt} {G : Gx} {N : Nat} {rr : Int32} (C : jC l rmX8_placeCount D (tX cI cO cR) G cX8_placeCount 1 RX8) (hR : jR D (tX cI cO cR) G (0, 0) (some .int) (some (.int rr)) (wX cI cO cR q t0 u b))  (s0 : Int32) (hm : mX8_placeCount_20 N b s0 = some rr) : J l rmX8_placeCount D G (0, 0) (wX cI cO cR q t0 u b) [] [.int s0] 20 := by
  unfold mX8_placeCount_20 at hm
  cases hm
  exact j_iret C hR dX8_placeCount_20
def mX8_placeCount (N : Nat) (b : BSt) (a0 : Nat) : Option Int32 := (vX8_endCount N b a0).bind (fun r1 => if r1 ≤ 1 then (mX8_placeCount_20 N b 1) else ((vX8_endCount N b a0).bind (fun r2 => mX8_placeCount_20 N b ((2 * r2) - 2))))
set_option maxRecDepth 100000 in
set_option maxHeartbeats 4000000 in
theorem qX8_placeCount {l : Launch} {D : va_G} {cI cO cR : ClassId} {q : Nat → Nat} {t0 : Nat} {u : USt} {b : BSt} {N : Nat} {a0 : Nat} {rr : Int32} (hm : mX8_placeCount N b a0 = some rr) : Con l D (tX cI cO cR) yX8_placeCount (wS yX8_placeCount cX8_placeCount 1 (some .int)) rmX8_placeCount [.ref (bA b a0)] (wX cI cO cR q t0 u b) (some (.int rr)) (wX cI cO cR q t0 u b) := by
  refine Con.of (by decide +kernel) (Nat.le_of_ble_eq_true rfl) (fun G C hR => ?_)
  unfold mX8_placeCount at hm
  show J l rmX8_placeCount D G (0, 0) (wX cI cO cR q t0 u b) [(0, .ref (bA b a0))] [] 0
  refine j_aload_n C dX8_placeCount_0 rfl 0 rfl ?_
  refine j_bind hm (fun r1 hr1 hm => ?_)
  refine jX_v_X8_7 (rest := []) C hr1 ⟨by decide, by decide⟩ (Nat.le_of_ble_eq_true rfl) dX8_placeCount_1 (by decide) ?_
  refine j_iconst (v := 1) C dX8_placeCount_4 (by decide) ?_
  refine j_icmp_leq (tgt := 19) C dX8_placeCount_5 (by decide) hm (fun hm => ?_) (fun hm => ?_)
  · refine j_iconst (v := 1) C dX8_placeCount_19 (by decide) ?_
    exact J.sub [] rfl (kX8_placeCount_20 C hR 1 hm)
  · refine j_iconst (v := 2) C dX8_placeCount_8 (by decide) ?_
    refine j_aload_n C dX8_placeCount_9 rfl 0 rfl ?_
    refine j_bind hm (fun r2 hr2 hm => ?_)
    refine jX_v_X8_7 (rest := [.int 2]) C hr2 ⟨by decide, by decide⟩ (Nat.le_of_ble_eq_true rfl) dX8_placeCount_10 (by decide) ?_
    refine j_imul C dX8_placeCount_13 ?_
    refine j_iconst (v := 2) C dX8_placeCount_14 (by decide) ?_
    refine j_isub C dX8_placeCount_15 ?_
    refine j_goto (tgt := 20) C dX8_placeCount_16 (by decide) ?_
    exact J.sub [] rfl (kX8_placeCount_20 C hR ((2 * r2) - 2) hm)
def rmX3_turnMinutes : Room := { frames := 0, cells := 0, slots := 0, locals := 0 }
theorem wd_X3_turnMinutes : yX3_turnMinutes.cls ≠ "java/lang/invoke/MethodHandle" ∧ yX3_turnMinutes.cls ≠ "java/lang/invoke/VarHandle" ∧ (parseMethodDescriptor yX3_turnMinutes.desc).map (fun d => d.parameters.length) = some 1 := by decide +kernel
def mX3_turnMinutes_17 (N : Nat) (b : BSt) (s0 : Int32) : Option Int32 := some s0
set_option maxRecDepth 100000 in
set_option maxHeartbeats 4000000 in
theorem kX3_turnMinutes_17 {l : Launch} {D : va_G} {cI cO cR : ClassId} {q : Nat → Nat} {t0 : Nat} {u : USt} {b : BSt} {G : Gx} {N : Nat} {rr : Int32} (C : jC l rmX3_turnMinutes D (tX cI cO cR) G cX3_turnMinutes 2 RX3) (hR : jR D (tX cI cO cR) G (0, 0) (some .int) (some (.int rr)) (wX cI cO cR q t0 u b))  (s0 : Int32) (hm : mX3_turnMinutes_17 N b s0 = some rr) : J l rmX3_turnMinutes D G (0, 0) (wX cI cO cR q t0 u b) [] [.int s0] 17 := by
  unfold mX3_turnMinutes_17 at hm
  cases hm
  exact j_iret C hR dX3_turnMinutes_17
def mX3_turnMinutes (N : Nat) (b : BSt) (a0 : Nat) (x1 : Int32) : Option Int32 := if x1 = 0 then (bfi b a0 2 (fun f1 => mX3_turnMinutes_17 N b f1)) else (bfi b a0 2 (fun f2 => mX3_turnMinutes_17 N b (2 * f2)))
set_option maxRecDepth 100000 in
set_option maxHeartbeats 4000000 in
theorem qX3_turnMinutes {l : Launch} {D : va_G} {cI cO cR : ClassId} {q : Nat → Nat} {t0 : Nat} {u : USt} {b : BSt} {N : Nat} {a0 : Nat} {x1 : Int32} {rr : Int32} (hm : mX3_turnMinutes N b a0 x1 = some rr) : Con l D (tX cI cO cR) yX3_turnMinutes (wS yX3_turnMinutes cX3_turnMinutes 2 (some .int)) rmX3_turnMinutes [.ref (bA b a0), .int x1] (wX cI cO cR q t0 u b) (some (.int rr)) (wX cI cO cR q t0 u b) := by
  refine Con.of (by decide +kernel) (Nat.le_of_ble_eq_true rfl) (fun G C hR => ?_)
  unfold mX3_turnMinutes at hm
  show J l rmX3_turnMinutes D G (0, 0) (wX cI cO cR q t0 u b) [(0, .ref (bA b a0)), (1, .int x1)] [] 0
  refine j_iload_n C dX3_turnMinutes_0 rfl 1 rfl ?_
  refine j_if_eqq (tgt := 13) C dX3_turnMinutes_1 (by decide) hm (fun hm => ?_) (fun hm => ?_)
  · refine j_aload_n C dX3_turnMinutes_13 rfl 0 rfl ?_
    refine jX_bF2 C w2_113 w2_114 dX3_turnMinutes_14 hm (fun f1 hm => ?_)
    exact J.sub [] rfl (kX3_turnMinutes_17 C hR f1 hm)
  · refine j_iconst (v := 2) C dX3_turnMinutes_4 (by decide) ?_
    refine j_aload_n C dX3_turnMinutes_5 rfl 0 rfl ?_
    refine jX_bF2 C w2_113 w2_114 dX3_turnMinutes_6 hm (fun f2 hm => ?_)
    refine j_imul C dX3_turnMinutes_9 ?_
    refine j_goto (tgt := 17) C dX3_turnMinutes_10 (by decide) ?_
    exact J.sub [] rfl (kX3_turnMinutes_17 C hR (2 * f2) hm)
def vX0_placeCount (N : Nat) (b : BSt) (k : Nat) : Option Int32 := bwt b k (fun v => if v.2.2.1 = 1 then mX0_placeCount N b k else (if v.2.2.1 = 3 then mX0_placeCount N b k else (if v.2.2.1 = 4 then mX0_placeCount N b k else (if v.2.2.1 = 9 then mX8_placeCount N b k else (none)))))
theorem jX_v_X0_58 {l : Launch} {R : Room} {D : va_G} {cI cO cR : ClassId} {q : Nat → Nat} {t0 : Nat} {u : USt} {b : BSt} {G : Gx} {cc : ByteArray} {nL : Nat} {lv : List (Nat × Value)} {pc : Nat} {N k : Nat} {r : Int32} {rest : List Value} (C : jC l R D (tX cI cO cR) G cc nL RX0) (hv : vX0_placeCount N b k  = some r) (hR : 1 + 1 ≤ R.frames ∧ 8 + (1 + 11) + 20 ≤ R.locals) (hrest : (rest.map fun v => v.category).sum ≤ 8) (d : decode cc pc = .ok (.invokevirtual 58, 3)) (hz : R.cells = 0 ∧ R.slots = 0) (kk : J l R D G (0, 0) (wX cI cO cR q t0 u b) lv (.int r :: rest) (pc + 3)) : J l R D G (0, 0) (wX cI cO cR q t0 u b) lv (.ref (bA b k) :: rest) pc := by
  unfold vX0_placeCount at hv
  obtain ⟨x, rfl, hk, hc, hv⟩ := bwt_some hv
  have he := (wX_b (cI := cI) (cO := cO) (cR := cR) (q := q) (t0 := t0) (u := u) hk).1
  rcases okc_or hc with e | e | e | e
  · refine j_callU (cs' := (0, 0)) (As := []) (rest := rest) C (qX0_placeCount (ip e hv)) w3_65 w3_65 w3_52 w3_55 w3_53 w3_54 w3_53 w1_12 wd_X0_placeCount ⟨Nat.le_trans (by decide) hR.1, Nat.le_trans (by decide) hR.2⟩ (45 + 2 * k) (bCell_at he e) rfl rfl hrest d ⟨by rw [hz.1]; decide, by rw [hz.2]; decide⟩ rfl rfl kk
  · refine j_callU (cs' := (0, 0)) (As := []) (rest := rest) C (qX0_placeCount (ip e (im (by rw [e]; decide) hv))) w3_65 w3_65 w3_52 w3_55 w3_53 w3_56 w3_53 w1_12 wd_X0_placeCount ⟨Nat.le_trans (by decide) hR.1, Nat.le_trans (by decide) hR.2⟩ (45 + 2 * k) (bCell_at he e) rfl rfl hrest d ⟨by rw [hz.1]; decide, by rw [hz.2]; decide⟩ rfl rfl kk
  · refine j_callU (cs' := (0, 0)) (As := []) (rest := rest) C (qX0_placeCount (ip e (im (by rw [e]; decide) (im (by rw [e]; decide) hv)))) w3_65 w3_65 w3_52 w3_55 w3_53 w3_57 w3_53 w1_12 wd_X0_placeCount ⟨Nat.le_trans (by decide) hR.1, Nat.le_trans (by decide) hR.2⟩ (45 + 2 * k) (bCell_at he e) rfl rfl hrest d ⟨by rw [hz.1]; decide, by rw [hz.2]; decide⟩ rfl rfl kk
  · refine j_callU (cs' := (0, 0)) (As := []) (rest := rest) C (qX8_placeCount (ip e (im (by rw [e]; decide) (im (by rw [e]; decide) (im (by rw [e]; decide) hv))))) w3_60 w3_65 w3_52 w3_55 w3_53 w3_58 w3_59 w1_17 wd_X0_placeCount ⟨Nat.le_trans (by decide) hR.1, Nat.le_trans (by decide) hR.2⟩ (45 + 2 * k) (bCell_at he e) rfl rfl hrest d ⟨by rw [hz.1]; decide, by rw [hz.2]; decide⟩ rfl rfl kk
def vX0_turnMinutes (N : Nat) (b : BSt) (k : Nat) (z0 : Int32) : Option Int32 := bwt b k (fun v => if v.2.2.1 = 1 then mX0_turnMinutes N b k z0 else (if v.2.2.1 = 3 then mX0_turnMinutes N b k z0 else (if v.2.2.1 = 4 then mX3_turnMinutes N b k z0 else (if v.2.2.1 = 9 then mX3_turnMinutes N b k z0 else (none)))))
theorem jX_v_X0_62 {l : Launch} {R : Room} {D : va_G} {cI cO cR : ClassId} {q : Nat → Nat} {t0 : Nat} {u : USt} {b : BSt} {G : Gx} {cc : ByteArray} {nL : Nat} {lv : List (Nat × Value)} {pc : Nat} {N k : Nat} {z0 r : Int32} {rest : List Value} (C : jC l R D (tX cI cO cR) G cc nL RX0) (hv : vX0_turnMinutes N b k z0 = some r) (hR : 0 + 1 ≤ R.frames ∧ 8 + (2 + 11) + 0 ≤ R.locals) (hrest : (rest.map fun v => v.category).sum ≤ 8) (d : decode cc pc = .ok (.invokevirtual 62, 3)) (hz : R.cells = 0 ∧ R.slots = 0) (kk : J l R D G (0, 0) (wX cI cO cR q t0 u b) lv (.int r :: rest) (pc + 3)) : J l R D G (0, 0) (wX cI cO cR q t0 u b) lv (.int z0 :: .ref (bA b k) :: rest) pc := by
  unfold vX0_turnMinutes at hv
  obtain ⟨x, rfl, hk, hc, hv⟩ := bwt_some hv
  have he := (wX_b (cI := cI) (cO := cO) (cR := cR) (q := q) (t0 := t0) (u := u) hk).1
  rcases okc_or hc with e | e | e | e
  · refine j_callU (cs' := (0, 0)) (As := [.int z0]) (rest := rest) C (qX0_turnMinutes (ip e hv)) w3_75 w3_75 w3_66 w3_69 w3_67 w3_68 w3_67 w1_12 wd_X0_turnMinutes ⟨Nat.le_trans (by decide) hR.1, Nat.le_trans (by decide) hR.2⟩ (45 + 2 * k) (bCell_at he e) rfl rfl hrest d ⟨by rw [hz.1]; decide, by rw [hz.2]; decide⟩ rfl rfl kk
  · refine j_callU (cs' := (0, 0)) (As := [.int z0]) (rest := rest) C (qX0_turnMinutes (ip e (im (by rw [e]; decide) hv))) w3_75 w3_75 w3_66 w3_69 w3_67 w3_70 w3_67 w1_12 wd_X0_turnMinutes ⟨Nat.le_trans (by decide) hR.1, Nat.le_trans (by decide) hR.2⟩ (45 + 2 * k) (bCell_at he e) rfl rfl hrest d ⟨by rw [hz.1]; decide, by rw [hz.2]; decide⟩ rfl rfl kk
  · refine j_callU (cs' := (0, 0)) (As := [.int z0]) (rest := rest) C (qX3_turnMinutes (ip e (im (by rw [e]; decide) (im (by rw [e]; decide) hv)))) w3_73 w3_75 w3_66 w3_69 w3_67 w3_71 w3_72 w1_13 wd_X0_turnMinutes ⟨Nat.le_trans (by decide) hR.1, Nat.le_trans (by decide) hR.2⟩ (45 + 2 * k) (bCell_at he e) rfl rfl hrest d ⟨by rw [hz.1]; decide, by rw [hz.2]; decide⟩ rfl rfl kk
  · refine j_callU (cs' := (0, 0)) (As := [.int z0]) (rest := rest) C (qX3_turnMinutes (ip e (im (by rw [e]; decide) (im (by rw [e]; decide) (im (by rw [e]; decide) hv))))) w3_73 w3_75 w3_66 w3_69 w3_67 w3_74 w3_72 w1_13 wd_X0_turnMinutes ⟨Nat.le_trans (by decide) hR.1, Nat.le_trans (by decide) hR.2⟩ (45 + 2 * k) (bCell_at he e) rfl rfl hrest d ⟨by rw [hz.1]; decide, by rw [hz.2]; decide⟩ rfl rfl kk
def rmX0_roundMinutes : Room := { frames := 2, cells := 0, slots := 0, locals := 40 }
theorem wd_X0_roundMinutes : yX0_roundMinutes.cls ≠ "java/lang/invoke/MethodHandle" ∧ yX0_roundMinutes.cls ≠ "java/lang/invoke/VarHandle" ∧ (parseMethodDescriptor yX0_roundMinutes.desc).map (fun d => d.parameters.length) = some 1 := by decide +kernel
def mX0_roundMinutes (N : Nat) (b : BSt) (a0 : Nat) (x1 : Int32) : Option Int32 := (vX0_placeCount N b a0).bind (fun r1 => bfi b a0 1 (fun f2 => (vX0_turnMinutes N b a0 x1).bind (fun r3 => some (r1 * (f2 + r3)))))
set_option maxRecDepth 100000 in
set_option maxHeartbeats 4000000 in
theorem qX0_roundMinutes {l : Launch} {D : va_G} {cI cO cR : ClassId} {q : Nat → Nat} {t0 : Nat} {u : USt} {b : BSt} {N : Nat} {a0 : Nat} {x1 : Int32} {rr : Int32} (hm : mX0_roundMinutes N b a0 x1 = some rr) : Con l D (tX cI cO cR) yX0_roundMinutes (wS yX0_roundMinutes cX0_roundMinutes 2 (some .int)) rmX0_roundMinutes [.ref (bA b a0), .int x1] (wX cI cO cR q t0 u b) (some (.int rr)) (wX cI cO cR q t0 u b) := by
  refine Con.of (by decide +kernel) (Nat.le_of_ble_eq_true rfl) (fun G C hR => ?_)
  unfold mX0_roundMinutes at hm
  show J l rmX0_roundMinutes D G (0, 0) (wX cI cO cR q t0 u b) [(0, .ref (bA b a0)), (1, .int x1)] [] 0
  refine j_aload_n C dX0_roundMinutes_0 rfl 0 rfl ?_
  refine j_bind hm (fun r1 hr1 hm => ?_)
  refine jX_v_X0_58 (rest := []) C hr1 ⟨by decide, by decide⟩ (Nat.le_of_ble_eq_true rfl) dX0_roundMinutes_1 (by decide) ?_
  refine j_aload_n C dX0_roundMinutes_4 rfl 0 rfl ?_
  refine jX_b1 C w2_110 dX0_roundMinutes_5 hm (fun f2 hm => ?_)
  refine j_aload_n C dX0_roundMinutes_8 rfl 0 rfl ?_
  refine j_iload_n C dX0_roundMinutes_9 rfl 1 rfl ?_
  refine j_bind hm (fun r3 hr3 hm => ?_)
  refine jX_v_X0_62 (rest := [.int f2, .int r1]) C hr3 ⟨by decide, by decide⟩ (Nat.le_of_ble_eq_true rfl) dX0_roundMinutes_10 (by decide) ?_
  refine j_iadd C dX0_roundMinutes_13 ?_
  refine j_imul C dX0_roundMinutes_14 ?_
  cases hm
  exact j_iret C hR dX0_roundMinutes_15
def rmX2_roundMinutes : Room := { frames := 2, cells := 0, slots := 0, locals := 40 }
theorem wd_X2_roundMinutes : yX2_roundMinutes.cls ≠ "java/lang/invoke/MethodHandle" ∧ yX2_roundMinutes.cls ≠ "java/lang/invoke/VarHandle" ∧ (parseMethodDescriptor yX2_roundMinutes.desc).map (fun d => d.parameters.length) = some 1 := by decide +kernel
def mX2_roundMinutes (N : Nat) (b : BSt) (a0 : Nat) (x1 : Int32) : Option Int32 := some 1
set_option maxRecDepth 100000 in
set_option maxHeartbeats 4000000 in
theorem qX2_roundMinutes {l : Launch} {D : va_G} {cI cO cR : ClassId} {q : Nat → Nat} {t0 : Nat} {u : USt} {b : BSt} {N : Nat} {a0 : Nat} {x1 : Int32} {rr : Int32} (hm : mX2_roundMinutes N b a0 x1 = some rr) : Con l D (tX cI cO cR) yX2_roundMinutes (wS yX2_roundMinutes cX2_roundMinutes 2 (some .int)) rmX2_roundMinutes [.ref (bA b a0), .int x1] (wX cI cO cR q t0 u b) (some (.int rr)) (wX cI cO cR q t0 u b) := by
  refine Con.of (by decide +kernel) (Nat.le_of_ble_eq_true rfl) (fun G C hR => ?_)
  unfold mX2_roundMinutes at hm
  show J l rmX2_roundMinutes D G (0, 0) (wX cI cO cR q t0 u b) [(0, .ref (bA b a0)), (1, .int x1)] [] 0
  refine j_iconst (v := 1) C dX2_roundMinutes_0 (by decide) ?_
  cases hm
  exact j_iret C hR dX2_roundMinutes_1
def vX8_placeCount (N : Nat) (b : BSt) (k : Nat) : Option Int32 := bwt b k (fun v => if v.2.2.1 = 9 then mX8_placeCount N b k else (none))
theorem jX_v_X8_17 {l : Launch} {R : Room} {D : va_G} {cI cO cR : ClassId} {q : Nat → Nat} {t0 : Nat} {u : USt} {b : BSt} {G : Gx} {cc : ByteArray} {nL : Nat} {lv : List (Nat × Value)} {pc : Nat} {N k : Nat} {r : Int32} {rest : List Value} (C : jC l R D (tX cI cO cR) G cc nL RX8) (hv : vX8_placeCount N b k  = some r) (hR : 1 + 1 ≤ R.frames ∧ 8 + (1 + 11) + 20 ≤ R.locals) (hrest : (rest.map fun v => v.category).sum ≤ 8) (d : decode cc pc = .ok (.invokevirtual 17, 3)) (hz : R.cells = 0 ∧ R.slots = 0) (kk : J l R D G (0, 0) (wX cI cO cR q t0 u b) lv (.int r :: rest) (pc + 3)) : J l R D G (0, 0) (wX cI cO cR q t0 u b) lv (.ref (bA b k) :: rest) pc := by
  unfold vX8_placeCount at hv
  obtain ⟨x, rfl, hk, hc, hv⟩ := bwt_some hv
  have he := (wX_b (cI := cI) (cO := cO) (cR := cR) (q := q) (t0 := t0) (u := u) hk).1
  rcases okc_or hc with e | e | e | e
  · cases (im (by rw [e]; decide) hv)
  · cases (im (by rw [e]; decide) hv)
  · cases (im (by rw [e]; decide) hv)
  · refine j_callV (cs' := (0, 0)) (As := []) (rest := rest) C (qX8_placeCount (ip e hv)) w3_60 w3_123 w3_59 w6_66 w1_17 wd_X8_placeCount ⟨Nat.le_trans (by decide) hR.1, Nat.le_trans (by decide) hR.2⟩ (45 + 2 * k) (bCell_at he e) rfl rfl hrest d ⟨by rw [hz.1]; decide, by rw [hz.2]; decide⟩ rfl rfl kk
def vX8_end (N : Nat) (b : BSt) (k : Nat) (z0 : Int32) : Option Int32 := bwt b k (fun v => if v.2.2.1 = 9 then mX0_end N b k z0 else (none))
theorem jX_v_X8_13 {l : Launch} {R : Room} {D : va_G} {cI cO cR : ClassId} {q : Nat → Nat} {t0 : Nat} {u : USt} {b : BSt} {G : Gx} {cc : ByteArray} {nL : Nat} {lv : List (Nat × Value)} {pc : Nat} {N k : Nat} {z0 r : Int32} {rest : List Value} (C : jC l R D (tX cI cO cR) G cc nL RX8) (hv : vX8_end N b k z0 = some r) (hR : 0 + 1 ≤ R.frames ∧ 8 + (2 + 11) + 0 ≤ R.locals) (hrest : (rest.map fun v => v.category).sum ≤ 8) (d : decode cc pc = .ok (.invokevirtual 13, 3)) (hz : R.cells = 0 ∧ R.slots = 0) (kk : J l R D G (0, 0) (wX cI cO cR q t0 u b) lv (.int r :: rest) (pc + 3)) : J l R D G (0, 0) (wX cI cO cR q t0 u b) lv (.int z0 :: .ref (bA b k) :: rest) pc := by
  unfold vX8_end at hv
  obtain ⟨x, rfl, hk, hc, hv⟩ := bwt_some hv
  have he := (wX_b (cI := cI) (cO := cO) (cR := cR) (q := q) (t0 := t0) (u := u) hk).1
  rcases okc_or hc with e | e | e | e
  · cases (im (by rw [e]; decide) hv)
  · cases (im (by rw [e]; decide) hv)
  · cases (im (by rw [e]; decide) hv)
  · refine j_callU (cs' := (0, 0)) (As := [.int z0]) (rest := rest) C (qX0_end (ip e hv)) w3_83 w3_83 w3_120 w3_121 w3_77 w3_122 w3_77 w1_12 wd_X0_end ⟨Nat.le_trans (by decide) hR.1, Nat.le_trans (by decide) hR.2⟩ (45 + 2 * k) (bCell_at he e) rfl rfl hrest d ⟨by rw [hz.1]; decide, by rw [hz.2]; decide⟩ rfl rfl kk
def rmX8_endOfPlace : Room := { frames := 2, cells := 0, slots := 0, locals := 40 }
theorem wd_X8_endOfPlace : yX8_endOfPlace.cls ≠ "java/lang/invoke/MethodHandle" ∧ yX8_endOfPlace.cls ≠ "java/lang/invoke/VarHandle" ∧ (parseMethodDescriptor yX8_endOfPlace.desc).map (fun d => d.parameters.length) = some 1 := by decide +kernel
def mX8_endOfPlace_26 (N : Nat) (b : BSt) (s0 : Int32) : Option Int32 := some s0
set_option maxRecDepth 100000 in
set_option maxHeartbeats 4000000 in
theorem kX8_endOfPlace_26 {l : Launch} {D : va_G} {cI cO cR : ClassId} {q : Nat → Nat} {t0 : Nat} {u : USt} {b : BSt} {G : Gx} {N : Nat} {rr : Int32} (C : jC l rmX8_endOfPlace D (tX cI cO cR) G cX8_endOfPlace 2 RX8) (hR : jR D (tX cI cO cR) G (0, 0) (some .int) (some (.int rr)) (wX cI cO cR q t0 u b))  (s0 : Int32) (hm : mX8_endOfPlace_26 N b s0 = some rr) : J l rmX8_endOfPlace D G (0, 0) (wX cI cO cR q t0 u b) [] [.int s0] 26 := by
  unfold mX8_endOfPlace_26 at hm
  cases hm
  exact j_iret C hR dX8_endOfPlace_26
def mX8_endOfPlace (N : Nat) (b : BSt) (a0 : Nat) (x1 : Int32) : Option Int32 := (vX8_endCount N b a0).bind (fun r1 => if r1 ≤ x1 then ((vX8_placeCount N b a0).bind (fun r2 => (vX8_end N b a0 (r2 - x1)).bind (fun r3 => mX8_endOfPlace_26 N b r3))) else ((vX8_end N b a0 x1).bind (fun r4 => mX8_endOfPlace_26 N b r4)))
set_option maxRecDepth 100000 in
set_option maxHeartbeats 4000000 in
theorem qX8_endOfPlace {l : Launch} {D : va_G} {cI cO cR : ClassId} {q : Nat → Nat} {t0 : Nat} {u : USt} {b : BSt} {N : Nat} {a0 : Nat} {x1 : Int32} {rr : Int32} (hm : mX8_endOfPlace N b a0 x1 = some rr) : Con l D (tX cI cO cR) yX8_endOfPlace (wS yX8_endOfPlace cX8_endOfPlace 2 (some .int)) rmX8_endOfPlace [.ref (bA b a0), .int x1] (wX cI cO cR q t0 u b) (some (.int rr)) (wX cI cO cR q t0 u b) := by
  refine Con.of (by decide +kernel) (Nat.le_of_ble_eq_true rfl) (fun G C hR => ?_)
  unfold mX8_endOfPlace at hm
  show J l rmX8_endOfPlace D G (0, 0) (wX cI cO cR q t0 u b) [(0, .ref (bA b a0)), (1, .int x1)] [] 0
  refine j_iload_n C dX8_endOfPlace_0 rfl 1 rfl ?_
  refine j_aload_n C dX8_endOfPlace_1 rfl 0 rfl ?_
  refine j_bind hm (fun r1 hr1 hm => ?_)
  refine jX_v_X8_7 (rest := [.int x1]) C hr1 ⟨by decide, by decide⟩ (Nat.le_of_ble_eq_true rfl) dX8_endOfPlace_2 (by decide) ?_
  refine j_icmp_geq (tgt := 16) C dX8_endOfPlace_5 (by decide) hm (fun hm => ?_) (fun hm => ?_)
  · refine j_aload_n C dX8_endOfPlace_16 rfl 0 rfl ?_
    refine j_aload_n C dX8_endOfPlace_17 rfl 0 rfl ?_
    refine j_bind hm (fun r2 hr2 hm => ?_)
    refine jX_v_X8_17 (rest := [.ref (bA b a0)]) C hr2 ⟨by decide, by decide⟩ (Nat.le_of_ble_eq_true rfl) dX8_endOfPlace_18 (by decide) ?_
    refine j_iload_n C dX8_endOfPlace_21 rfl 1 rfl ?_
    refine j_isub C dX8_endOfPlace_22 ?_
    refine j_bind hm (fun r3 hr3 hm => ?_)
    refine jX_v_X8_13 (rest := []) C hr3 ⟨by decide, by decide⟩ (Nat.le_of_ble_eq_true rfl) dX8_endOfPlace_23 (by decide) ?_
    exact J.sub [] rfl (kX8_endOfPlace_26 C hR r3 hm)
  · refine j_aload_n C dX8_endOfPlace_8 rfl 0 rfl ?_
    refine j_iload_n C dX8_endOfPlace_9 rfl 1 rfl ?_
    refine j_bind hm (fun r4 hr4 hm => ?_)
    refine jX_v_X8_13 (rest := []) C hr4 ⟨by decide, by decide⟩ (Nat.le_of_ble_eq_true rfl) dX8_endOfPlace_10 (by decide) ?_
    refine j_goto (tgt := 26) C dX8_endOfPlace_13 (by decide) ?_
    exact J.sub [] rfl (kX8_endOfPlace_26 C hR r4 hm)
def vX0_roundMinutes (N : Nat) (b : BSt) (k : Nat) (z0 : Int32) : Option Int32 := bwt b k (fun v => if v.2.2.1 = 1 then mX0_roundMinutes N b k z0 else (if v.2.2.1 = 3 then mX2_roundMinutes N b k z0 else (if v.2.2.1 = 4 then mX0_roundMinutes N b k z0 else (if v.2.2.1 = 9 then mX0_roundMinutes N b k z0 else (none)))))
theorem jX_v_X0_66 {l : Launch} {R : Room} {D : va_G} {cI cO cR : ClassId} {q : Nat → Nat} {t0 : Nat} {u : USt} {b : BSt} {G : Gx} {cc : ByteArray} {nL : Nat} {lv : List (Nat × Value)} {pc : Nat} {N k : Nat} {z0 r : Int32} {rest : List Value} (C : jC l R D (tX cI cO cR) G cc nL RX0) (hv : vX0_roundMinutes N b k z0 = some r) (hR : 2 + 1 ≤ R.frames ∧ 8 + (2 + 11) + 40 ≤ R.locals) (hrest : (rest.map fun v => v.category).sum ≤ 8) (d : decode cc pc = .ok (.invokevirtual 66, 3)) (hz : R.cells = 0 ∧ R.slots = 0) (kk : J l R D G (0, 0) (wX cI cO cR q t0 u b) lv (.int r :: rest) (pc + 3)) : J l R D G (0, 0) (wX cI cO cR q t0 u b) lv (.int z0 :: .ref (bA b k) :: rest) pc := by
  unfold vX0_roundMinutes at hv
  obtain ⟨x, rfl, hk, hc, hv⟩ := bwt_some hv
  have he := (wX_b (cI := cI) (cO := cO) (cR := cR) (q := q) (t0 := t0) (u := u) hk).1
  rcases okc_or hc with e | e | e | e
  · refine j_callU (cs' := (0, 0)) (As := [.int z0]) (rest := rest) C (qX0_roundMinutes (ip e hv)) w3_51 w3_51 w3_110 w3_45 w3_43 w3_44 w3_43 w1_12 wd_X0_roundMinutes ⟨Nat.le_trans (by decide) hR.1, Nat.le_trans (by decide) hR.2⟩ (45 + 2 * k) (bCell_at he e) rfl rfl hrest d ⟨by rw [hz.1]; decide, by rw [hz.2]; decide⟩ rfl rfl kk
  · refine j_callU (cs' := (0, 0)) (As := [.int z0]) (rest := rest) C (qX2_roundMinutes (ip e (im (by rw [e]; decide) hv))) w3_48 w3_51 w3_110 w3_45 w3_43 w3_46 w3_47 w1_18 wd_X0_roundMinutes ⟨Nat.le_trans (by decide) hR.1, Nat.le_trans (by decide) hR.2⟩ (45 + 2 * k) (bCell_at he e) rfl rfl hrest d ⟨by rw [hz.1]; decide, by rw [hz.2]; decide⟩ rfl rfl kk
  · refine j_callU (cs' := (0, 0)) (As := [.int z0]) (rest := rest) C (qX0_roundMinutes (ip e (im (by rw [e]; decide) (im (by rw [e]; decide) hv)))) w3_51 w3_51 w3_110 w3_45 w3_43 w3_49 w3_43 w1_12 wd_X0_roundMinutes ⟨Nat.le_trans (by decide) hR.1, Nat.le_trans (by decide) hR.2⟩ (45 + 2 * k) (bCell_at he e) rfl rfl hrest d ⟨by rw [hz.1]; decide, by rw [hz.2]; decide⟩ rfl rfl kk
  · refine j_callU (cs' := (0, 0)) (As := [.int z0]) (rest := rest) C (qX0_roundMinutes (ip e (im (by rw [e]; decide) (im (by rw [e]; decide) (im (by rw [e]; decide) hv))))) w3_51 w3_51 w3_110 w3_45 w3_43 w3_50 w3_43 w1_12 wd_X0_roundMinutes ⟨Nat.le_trans (by decide) hR.1, Nat.le_trans (by decide) hR.2⟩ (45 + 2 * k) (bCell_at he e) rfl rfl hrest d ⟨by rw [hz.1]; decide, by rw [hz.2]; decide⟩ rfl rfl kk
def vX0_endOfPlace (N : Nat) (b : BSt) (k : Nat) (z0 : Int32) : Option Int32 := bwt b k (fun v => if v.2.2.1 = 1 then mX0_endOfPlace N b k z0 else (if v.2.2.1 = 3 then mX0_endOfPlace N b k z0 else (if v.2.2.1 = 4 then mX0_endOfPlace N b k z0 else (if v.2.2.1 = 9 then mX8_endOfPlace N b k z0 else (none)))))
theorem jX_v_X0_69 {l : Launch} {R : Room} {D : va_G} {cI cO cR : ClassId} {q : Nat → Nat} {t0 : Nat} {u : USt} {b : BSt} {G : Gx} {cc : ByteArray} {nL : Nat} {lv : List (Nat × Value)} {pc : Nat} {N k : Nat} {z0 r : Int32} {rest : List Value} (C : jC l R D (tX cI cO cR) G cc nL RX0) (hv : vX0_endOfPlace N b k z0 = some r) (hR : 2 + 1 ≤ R.frames ∧ 8 + (2 + 11) + 40 ≤ R.locals) (hrest : (rest.map fun v => v.category).sum ≤ 8) (d : decode cc pc = .ok (.invokevirtual 69, 3)) (hz : R.cells = 0 ∧ R.slots = 0) (kk : J l R D G (0, 0) (wX cI cO cR q t0 u b) lv (.int r :: rest) (pc + 3)) : J l R D G (0, 0) (wX cI cO cR q t0 u b) lv (.int z0 :: .ref (bA b k) :: rest) pc := by
  unfold vX0_endOfPlace at hv
  obtain ⟨x, rfl, hk, hc, hv⟩ := bwt_some hv
  have he := (wX_b (cI := cI) (cO := cO) (cR := cR) (q := q) (t0 := t0) (u := u) hk).1
  rcases okc_or hc with e | e | e | e
  · refine j_callU (cs' := (0, 0)) (As := [.int z0]) (rest := rest) C (qX0_endOfPlace (ip e hv)) w3_124 w3_124 w3_111 w3_114 w3_112 w3_113 w3_112 w1_12 wd_X0_endOfPlace ⟨Nat.le_trans (by decide) hR.1, Nat.le_trans (by decide) hR.2⟩ (45 + 2 * k) (bCell_at he e) rfl rfl hrest d ⟨by rw [hz.1]; decide, by rw [hz.2]; decide⟩ rfl rfl kk
  · refine j_callU (cs' := (0, 0)) (As := [.int z0]) (rest := rest) C (qX0_endOfPlace (ip e (im (by rw [e]; decide) hv))) w3_124 w3_124 w3_111 w3_114 w3_112 w3_115 w3_112 w1_12 wd_X0_endOfPlace ⟨Nat.le_trans (by decide) hR.1, Nat.le_trans (by decide) hR.2⟩ (45 + 2 * k) (bCell_at he e) rfl rfl hrest d ⟨by rw [hz.1]; decide, by rw [hz.2]; decide⟩ rfl rfl kk
  · refine j_callU (cs' := (0, 0)) (As := [.int z0]) (rest := rest) C (qX0_endOfPlace (ip e (im (by rw [e]; decide) (im (by rw [e]; decide) hv)))) w3_124 w3_124 w3_111 w3_114 w3_112 w3_116 w3_112 w1_12 wd_X0_endOfPlace ⟨Nat.le_trans (by decide) hR.1, Nat.le_trans (by decide) hR.2⟩ (45 + 2 * k) (bCell_at he e) rfl rfl hrest d ⟨by rw [hz.1]; decide, by rw [hz.2]; decide⟩ rfl rfl kk
  · refine j_callU (cs' := (0, 0)) (As := [.int z0]) (rest := rest) C (qX8_endOfPlace (ip e (im (by rw [e]; decide) (im (by rw [e]; decide) (im (by rw [e]; decide) hv))))) w3_119 w3_124 w3_111 w3_114 w3_112 w3_117 w3_118 w1_17 wd_X0_endOfPlace ⟨Nat.le_trans (by decide) hR.1, Nat.le_trans (by decide) hR.2⟩ (45 + 2 * k) (bCell_at he e) rfl rfl hrest d ⟨by rw [hz.1]; decide, by rw [hz.2]; decide⟩ rfl rfl kk
def rmX0_endAt : Room := { frames := 3, cells := 0, slots := 0, locals := 61 }
theorem wd_X0_endAt : yX0_endAt.cls ≠ "java/lang/invoke/MethodHandle" ∧ yX0_endAt.cls ≠ "java/lang/invoke/VarHandle" ∧ (parseMethodDescriptor yX0_endAt.desc).map (fun d => d.parameters.length) = some 2 := by decide +kernel
def mX0_endAt_33 (N : Nat) (b : BSt) : Option Int32 := some (-1)
set_option maxRecDepth 100000 in
set_option maxHeartbeats 4000000 in
theorem kX0_endAt_33 {l : Launch} {D : va_G} {cI cO cR : ClassId} {q : Nat → Nat} {t0 : Nat} {u : USt} {b : BSt} {G : Gx} {N : Nat} {rr : Int32} (C : jC l rmX0_endAt D (tX cI cO cR) G cX0_endAt 6 RX0) (hR : jR D (tX cI cO cR) G (0, 0) (some .int) (some (.int rr)) (wX cI cO cR q t0 u b))   (hm : mX0_endAt_33 N b = some rr) : J l rmX0_endAt D G (0, 0) (wX cI cO cR q t0 u b) [] [] 33 := by
  unfold mX0_endAt_33 at hm
  refine j_iconst (v := (-1)) C dX0_endAt_33 (by decide) ?_
  cases hm
  exact j_iret C hR dX0_endAt_34
def mX0_endAt_64 (N : Nat) (b : BSt) (s0 : Int32) : Option Int32 := some s0
set_option maxRecDepth 100000 in
set_option maxHeartbeats 4000000 in
theorem kX0_endAt_64 {l : Launch} {D : va_G} {cI cO cR : ClassId} {q : Nat → Nat} {t0 : Nat} {u : USt} {b : BSt} {G : Gx} {N : Nat} {rr : Int32} (C : jC l rmX0_endAt D (tX cI cO cR) G cX0_endAt 6 RX0) (hR : jR D (tX cI cO cR) G (0, 0) (some .int) (some (.int rr)) (wX cI cO cR q t0 u b))  (s0 : Int32) (hm : mX0_endAt_64 N b s0 = some rr) : J l rmX0_endAt D G (0, 0) (wX cI cO cR q t0 u b) [] [.int s0] 64 := by
  unfold mX0_endAt_64 at hm
  cases hm
  exact j_iret C hR dX0_endAt_64
def mX0_endAt (N : Nat) (b : BSt) (a0 : Nat) (x1 : Int32) (x2 : Int32) : Option Int32 := bfi b a0 1 (fun f1 => (vX0_turnMinutes N b a0 x2).bind (fun r2 => nm (f1 + r2) (fun v3 => (vX0_roundMinutes N b a0 x2).bind (fun r4 => if v3 < 1 then (mX0_endAt_33 N b) else (if r4 < 1 then (mX0_endAt_33 N b) else (if 0 ≤ x1 then (gd (¬ r4 = 0) (nm (x1 - x1 / r4 * r4) (fun v5 => gd (¬ v3 = 0) (bfi b a0 1 (fun f6 => if f6 ≤ (v5 - v5 / v3 * v3) then (mX0_endAt_64 N b (-1)) else (gd (¬ v3 = 0) ((vX0_endOfPlace N b a0 (v5 / v3)).bind (fun r7 => mX0_endAt_64 N b r7)))))))) else (mX0_endAt_33 N b)))))))
set_option maxRecDepth 100000 in
set_option maxHeartbeats 4000000 in
theorem qX0_endAt {l : Launch} {D : va_G} {cI cO cR : ClassId} {q : Nat → Nat} {t0 : Nat} {u : USt} {b : BSt} {N : Nat} {a0 : Nat} {x1 : Int32} {x2 : Int32} {rr : Int32} (hm : mX0_endAt N b a0 x1 x2 = some rr) : Con l D (tX cI cO cR) yX0_endAt (wS yX0_endAt cX0_endAt 6 (some .int)) rmX0_endAt [.ref (bA b a0), .int x1, .int x2] (wX cI cO cR q t0 u b) (some (.int rr)) (wX cI cO cR q t0 u b) := by
  refine Con.of (by decide +kernel) (Nat.le_of_ble_eq_true rfl) (fun G C hR => ?_)
  unfold mX0_endAt at hm
  show J l rmX0_endAt D G (0, 0) (wX cI cO cR q t0 u b) [(0, .ref (bA b a0)), (1, .int x1), (2, .int x2)] [] 0
  refine j_aload_n C dX0_endAt_0 rfl 0 rfl ?_
  refine jX_b1 C w2_110 dX0_endAt_1 hm (fun f1 hm => ?_)
  refine j_aload_n C dX0_endAt_4 rfl 0 rfl ?_
  refine j_iload_n C dX0_endAt_5 rfl 2 rfl ?_
  refine j_bind hm (fun r2 hr2 hm => ?_)
  refine jX_v_X0_62 (rest := [.int f1]) C hr2 ⟨by decide, by decide⟩ (Nat.le_of_ble_eq_true rfl) dX0_endAt_6 (by decide) ?_
  refine j_iadd C dX0_endAt_9 ?_
  refine j_nmi hm (fun v3 hm => ?_)
  refine j_istore_n C dX0_endAt_10 rfl (by decide) rfl ?_
  refine j_aload_n C dX0_endAt_11 rfl 1 rfl ?_
  refine j_iload_n C dX0_endAt_12 rfl 3 rfl ?_
  refine j_bind hm (fun r4 hr4 hm => ?_)
  refine jX_v_X0_66 (rest := []) C hr4 ⟨by decide, by decide⟩ (Nat.le_of_ble_eq_true rfl) dX0_endAt_13 (by decide) ?_
  refine j_istore C dX0_endAt_16 (by decide) rfl ?_
  refine j_iload_n C dX0_endAt_18 rfl 1 rfl ?_
  refine j_iconst (v := 1) C dX0_endAt_19 (by decide) ?_
  refine j_icmp_ltq (tgt := 33) C dX0_endAt_20 (by decide) hm (fun hm => ?_) (fun hm => ?_)
  · exact J.sub [] rfl (kX0_endAt_33 C hR hm)
  · refine j_iload C dX0_endAt_23 0 rfl ?_
    refine j_iconst (v := 1) C dX0_endAt_25 (by decide) ?_
    refine j_icmp_ltq (tgt := 33) C dX0_endAt_26 (by decide) hm (fun hm => ?_) (fun hm => ?_)
    · exact J.sub [] rfl (kX0_endAt_33 C hR hm)
    · refine j_iload_n C dX0_endAt_29 rfl 3 rfl ?_
      refine j_if_geq (tgt := 35) C dX0_endAt_30 (by decide) hm (fun hm => ?_) (fun hm => ?_)
      · refine j_iload_n C dX0_endAt_35 rfl 3 rfl ?_
        refine j_iload C dX0_endAt_36 0 rfl ?_
        obtain ⟨g, hm⟩ := gd_some hm
        refine j_irem C dX0_endAt_38 g ?_
        refine j_nmi hm (fun v5 hm => ?_)
        refine j_istore C dX0_endAt_39 (by decide) rfl ?_
        refine j_iload C dX0_endAt_41 0 rfl ?_
        refine j_iload_n C dX0_endAt_43 rfl 2 rfl ?_
        obtain ⟨g, hm⟩ := gd_some hm
        refine j_irem C dX0_endAt_44 g ?_
        refine j_aload_n C dX0_endAt_45 rfl 3 rfl ?_
        refine jX_b1 C w2_110 dX0_endAt_46 hm (fun f6 hm => ?_)
        refine j_icmp_geq (tgt := 63) C dX0_endAt_49 (by decide) hm (fun hm => ?_) (fun hm => ?_)
        · refine j_iconst (v := (-1)) C dX0_endAt_63 (by decide) ?_
          exact J.sub [] rfl (kX0_endAt_64 C hR (-1) hm)
        · refine j_aload_n C dX0_endAt_52 rfl 3 rfl ?_
          refine j_iload C dX0_endAt_53 0 rfl ?_
          refine j_iload_n C dX0_endAt_55 rfl 2 rfl ?_
          obtain ⟨g, hm⟩ := gd_some hm
          refine j_idiv C dX0_endAt_56 g ?_
          refine j_bind hm (fun r7 hr7 hm => ?_)
          refine jX_v_X0_69 (rest := []) C hr7 ⟨by decide, by decide⟩ (Nat.le_of_ble_eq_true rfl) dX0_endAt_57 (by decide) ?_
          refine j_goto (tgt := 64) C dX0_endAt_60 (by decide) ?_
          exact J.sub [] rfl (kX0_endAt_64 C hR r7 hm)
      · exact J.sub [] rfl (kX0_endAt_33 C hR hm)
def rmJ9_max_7cf53 : Room := { frames := 0, cells := 0, slots := 0, locals := 0 }
theorem wd_J9_max_7cf53 : yJ9_max_7cf53.cls ≠ "java/lang/invoke/MethodHandle" ∧ yJ9_max_7cf53.cls ≠ "java/lang/invoke/VarHandle" ∧ (parseMethodDescriptor yJ9_max_7cf53.desc).map (fun d => d.parameters.length) = some 2 := by decide +kernel
def mJ9_max_7cf53_10 (N : Nat) (s0 : Int32) : Option Int32 := some s0
set_option maxRecDepth 100000 in
set_option maxHeartbeats 4000000 in
theorem kJ9_max_7cf53_10 {l : Launch} {D : va_G} {tys : List (ClassId × FieldType)} {G : Gx} {N : Nat} {rr : Int32} (C : jC l rmJ9_max_7cf53 D tys G cJ9_max_7cf53 2 RJ9) (hR : jR D tys G (0, 0) (some .int) (some (.int rr)) [])  (s0 : Int32) (hm : mJ9_max_7cf53_10 N s0 = some rr) : J l rmJ9_max_7cf53 D G (0, 0) [] [] [.int s0] 10 := by
  unfold mJ9_max_7cf53_10 at hm
  cases hm
  exact j_iret C hR dJ9_max_7cf53_10
def mJ9_max_7cf53 (N : Nat) (x0 : Int32) (x1 : Int32) : Option Int32 := if x0 < x1 then (mJ9_max_7cf53_10 N x1) else (mJ9_max_7cf53_10 N x0)
set_option maxRecDepth 100000 in
set_option maxHeartbeats 4000000 in
theorem qJ9_max_7cf53 {l : Launch} {D : va_G} {tys : List (ClassId × FieldType)} {N : Nat} {x0 : Int32} {x1 : Int32} {rr : Int32} (hm : mJ9_max_7cf53 N x0 x1 = some rr) : Con l D tys yJ9_max_7cf53 (wS yJ9_max_7cf53 cJ9_max_7cf53 2 (some .int)) rmJ9_max_7cf53 [.int x0, .int x1] [] (some (.int rr)) [] := by
  refine Con.of (by decide +kernel) (Nat.le_of_ble_eq_true rfl) (fun G C hR => ?_)
  unfold mJ9_max_7cf53 at hm
  show J l rmJ9_max_7cf53 D G (0, 0) [] [(0, .int x0), (1, .int x1)] [] 0
  refine j_iload_n C dJ9_max_7cf53_0 rfl 0 rfl ?_
  refine j_iload_n C dJ9_max_7cf53_1 rfl 1 rfl ?_
  refine j_icmp_ltq (tgt := 9) C dJ9_max_7cf53_2 (by decide) hm (fun hm => ?_) (fun hm => ?_)
  · refine j_iload_n C dJ9_max_7cf53_9 rfl 1 rfl ?_
    exact J.sub [] rfl (kJ9_max_7cf53_10 C hR x1 hm)
  · refine j_iload_n C dJ9_max_7cf53_5 rfl 0 rfl ?_
    refine j_goto (tgt := 10) C dJ9_max_7cf53_6 (by decide) ?_
    exact J.sub [] rfl (kJ9_max_7cf53_10 C hR x0 hm)
def rmX0_standsStill : Room := { frames := 1, cells := 0, slots := 0, locals := 21 }
theorem wd_X0_standsStill : yX0_standsStill.cls ≠ "java/lang/invoke/MethodHandle" ∧ yX0_standsStill.cls ≠ "java/lang/invoke/VarHandle" ∧ (parseMethodDescriptor yX0_standsStill.desc).map (fun d => d.parameters.length) = some 2 := by decide +kernel
def mX0_standsStill_20 (N : Nat) (b : BSt) : Option Int32 := some 0
set_option maxRecDepth 100000 in
set_option maxHeartbeats 4000000 in
theorem kX0_standsStill_20 {l : Launch} {D : va_G} {cI cO cR : ClassId} {q : Nat → Nat} {t0 : Nat} {u : USt} {b : BSt} {G : Gx} {N : Nat} {rr : Int32} (C : jC l rmX0_standsStill D (tX cI cO cR) G cX0_standsStill 4 RX0) (hR : jR D (tX cI cO cR) G (0, 0) (some .int) (some (.int rr)) (wX cI cO cR q t0 u b))   (hm : mX0_standsStill_20 N b = some rr) : J l rmX0_standsStill D G (0, 0) (wX cI cO cR q t0 u b) [] [] 20 := by
  unfold mX0_standsStill_20 at hm
  refine j_iconst (v := 0) C dX0_standsStill_20 (by decide) ?_
  cases hm
  exact j_iret C hR dX0_standsStill_21
def mX0_standsStill (N : Nat) (b : BSt) (a0 : Nat) (x1 : Int32) (x2 : Int32) : Option Int32 := bfi b a0 1 (fun f1 => (vX0_turnMinutes N b a0 x2).bind (fun r2 => nm (f1 + r2) (fun v3 => if v3 < 1 then (mX0_standsStill_20 N b) else (if 0 ≤ x1 then (bfi b a0 1 (fun f4 => gd (¬ v3 = 0) ((mJ9_max_7cf53 N 0 (f4 - (x1 - x1 / v3 * v3))).bind (fun r5 => some r5)))) else (mX0_standsStill_20 N b)))))
set_option maxRecDepth 100000 in
set_option maxHeartbeats 4000000 in
theorem qX0_standsStill {l : Launch} {D : va_G} {cI cO cR : ClassId} {q : Nat → Nat} {t0 : Nat} {u : USt} {b : BSt} {N : Nat} {a0 : Nat} {x1 : Int32} {x2 : Int32} {rr : Int32} (hm : mX0_standsStill N b a0 x1 x2 = some rr) : Con l D (tX cI cO cR) yX0_standsStill (wS yX0_standsStill cX0_standsStill 4 (some .int)) rmX0_standsStill [.ref (bA b a0), .int x1, .int x2] (wX cI cO cR q t0 u b) (some (.int rr)) (wX cI cO cR q t0 u b) := by
  refine Con.of (by decide +kernel) (Nat.le_of_ble_eq_true rfl) (fun G C hR => ?_)
  unfold mX0_standsStill at hm
  show J l rmX0_standsStill D G (0, 0) (wX cI cO cR q t0 u b) [(0, .ref (bA b a0)), (1, .int x1), (2, .int x2)] [] 0
  refine j_aload_n C dX0_standsStill_0 rfl 0 rfl ?_
  refine jX_b1 C w2_110 dX0_standsStill_1 hm (fun f1 hm => ?_)
  refine j_aload_n C dX0_standsStill_4 rfl 0 rfl ?_
  refine j_iload_n C dX0_standsStill_5 rfl 2 rfl ?_
  refine j_bind hm (fun r2 hr2 hm => ?_)
  refine jX_v_X0_62 (rest := [.int f1]) C hr2 ⟨by decide, by decide⟩ (Nat.le_of_ble_eq_true rfl) dX0_standsStill_6 (by decide) ?_
  refine j_iadd C dX0_standsStill_9 ?_
  refine j_nmi hm (fun v3 hm => ?_)
  refine j_istore_n C dX0_standsStill_10 rfl (by decide) rfl ?_
  refine j_iload_n C dX0_standsStill_11 rfl 0 rfl ?_
  refine j_iconst (v := 1) C dX0_standsStill_12 (by decide) ?_
  refine j_icmp_ltq (tgt := 20) C dX0_standsStill_13 (by decide) hm (fun hm => ?_) (fun hm => ?_)
  · exact J.sub [] rfl (kX0_standsStill_20 C hR hm)
  · refine j_iload_n C dX0_standsStill_16 rfl 2 rfl ?_
    refine j_if_geq (tgt := 22) C dX0_standsStill_17 (by decide) hm (fun hm => ?_) (fun hm => ?_)
    · refine j_iconst (v := 0) C dX0_standsStill_22 (by decide) ?_
      refine j_aload_n C dX0_standsStill_23 rfl 1 rfl ?_
      refine jX_b1 C w2_110 dX0_standsStill_24 hm (fun f4 hm => ?_)
      refine j_iload_n C dX0_standsStill_27 rfl 2 rfl ?_
      refine j_iload_n C dX0_standsStill_28 rfl 0 rfl ?_
      obtain ⟨g, hm⟩ := gd_some hm
      refine j_irem C dX0_standsStill_29 g ?_
      refine j_isub C dX0_standsStill_30 ?_
      refine j_bind hm (fun r5 hr5 hm => ?_)
      refine j_callS (cs' := (0, 0)) (As := [.int 0, .int (f4 - (x1 - x1 / v3 * v3))]) (rest := []) C (qJ9_max_7cf53 hr5) w2_90 w2_88 w2_89 w1_14 wd_J9_max_7cf53 ⟨by decide, by decide⟩ rfl (Nat.le_of_ble_eq_true rfl) dX0_standsStill_31 ⟨by decide, by decide⟩ rfl rfl ?_
      cases hm
      exact j_iret C hR dX0_standsStill_34
    · exact J.sub [] rfl (kX0_standsStill_20 C hR hm)
def rmX10_isIslet : Room := { frames := 0, cells := 0, slots := 0, locals := 0 }
theorem wd_X10_isIslet : yX10_isIslet.cls ≠ "java/lang/invoke/MethodHandle" ∧ yX10_isIslet.cls ≠ "java/lang/invoke/VarHandle" ∧ (parseMethodDescriptor yX10_isIslet.desc).map (fun d => d.parameters.length) = some 1 := by decide +kernel
def mX10_isIslet_15 (N : Nat) (s0 : Int32) : Option Int32 := gd (s0 = 0 ∨ s0 = 1) (some s0)
set_option maxRecDepth 100000 in
set_option maxHeartbeats 4000000 in
theorem kX10_isIslet_15 {l : Launch} {D : va_G} {tys : List (ClassId × FieldType)} {G : Gx} {N : Nat} {rr : Int32} (C : jC l rmX10_isIslet D tys G cX10_isIslet 1 RX10) (hR : jR D tys G (0, 0) (some .boolean) (some (.int rr)) [])  (s0 : Int32) (hm : mX10_isIslet_15 N s0 = some rr) : J l rmX10_isIslet D G (0, 0) [] [] [.int s0] 15 := by
  unfold mX10_isIslet_15 at hm
  obtain ⟨g, hm⟩ := gd_some hm
  cases hm
  exact j_zret C hR (jz01 g) dX10_isIslet_15
def mX10_isIslet_14 (N : Nat) : Option Int32 := mX10_isIslet_15 N 0
set_option maxRecDepth 100000 in
set_option maxHeartbeats 4000000 in
theorem kX10_isIslet_14 {l : Launch} {D : va_G} {tys : List (ClassId × FieldType)} {G : Gx} {N : Nat} {rr : Int32} (C : jC l rmX10_isIslet D tys G cX10_isIslet 1 RX10) (hR : jR D tys G (0, 0) (some .boolean) (some (.int rr)) [])   (hm : mX10_isIslet_14 N = some rr) : J l rmX10_isIslet D G (0, 0) [] [] [] 14 := by
  unfold mX10_isIslet_14 at hm
  refine j_iconst (v := 0) C dX10_isIslet_14 (by decide) ?_
  exact kX10_isIslet_15 C hR 0 hm
def mX10_isIslet (N : Nat) (x0 : Int32) : Option Int32 := if x0 < 0 then (mX10_isIslet_14 N) else (if 8 ≤ x0 then (mX10_isIslet_14 N) else (mX10_isIslet_15 N 1))
set_option maxRecDepth 100000 in
set_option maxHeartbeats 4000000 in
theorem qX10_isIslet {l : Launch} {D : va_G} {tys : List (ClassId × FieldType)} {N : Nat} {x0 : Int32} {rr : Int32} (hm : mX10_isIslet N x0 = some rr) : Con l D tys yX10_isIslet (wS yX10_isIslet cX10_isIslet 1 (some .boolean)) rmX10_isIslet [.int x0] [] (some (.int rr)) [] := by
  refine Con.of (by decide +kernel) (Nat.le_of_ble_eq_true rfl) (fun G C hR => ?_)
  unfold mX10_isIslet at hm
  show J l rmX10_isIslet D G (0, 0) [] [(0, .int x0)] [] 0
  refine j_iload_n C dX10_isIslet_0 rfl 0 rfl ?_
  refine j_if_ltq (tgt := 14) C dX10_isIslet_1 (by decide) hm (fun hm => ?_) (fun hm => ?_)
  · exact J.sub [] rfl (kX10_isIslet_14 C hR hm)
  · refine j_iload_n C dX10_isIslet_4 rfl 0 rfl ?_
    refine j_bipush (v := 8) C dX10_isIslet_5 (by decide) ?_
    refine j_icmp_geq (tgt := 14) C dX10_isIslet_7 (by decide) hm (fun hm => ?_) (fun hm => ?_)
    · exact J.sub [] rfl (kX10_isIslet_14 C hR hm)
    · refine j_iconst (v := 1) C dX10_isIslet_10 (by decide) ?_
      refine j_goto (tgt := 15) C dX10_isIslet_11 (by decide) ?_
      exact J.sub [] rfl (kX10_isIslet_15 C hR 1 hm)
def rmX9_span : Room := { frames := 0, cells := 0, slots := 0, locals := 0 }
theorem wd_X9_span : yX9_span.cls ≠ "java/lang/invoke/MethodHandle" ∧ yX9_span.cls ≠ "java/lang/invoke/VarHandle" ∧ (parseMethodDescriptor yX9_span.desc).map (fun d => d.parameters.length) = some 0 := by decide +kernel
def mX9_span (N : Nat) (u : USt) : Option Int32 := some (u.1 16)
set_option maxRecDepth 100000 in
set_option maxHeartbeats 4000000 in
theorem qX9_span {l : Launch} {D : va_G} {cI cO cR : ClassId} {q : Nat → Nat} {t0 : Nat} {u : USt} {b : BSt} {N : Nat}  {rr : Int32} (hm : mX9_span N u = some rr) : Con l D (tX cI cO cR) yX9_span (wS yX9_span cX9_span 1 (some .int)) rmX9_span [.ref (q 12)] (wX cI cO cR q t0 u b) (some (.int rr)) (wX cI cO cR q t0 u b) := by
  refine Con.of (by decide +kernel) (Nat.le_of_ble_eq_true rfl) (fun G C hR => ?_)
  unfold mX9_span at hm
  show J l rmX9_span D G (0, 0) (wX cI cO cR q t0 u b) [(0, .ref (q 12))] [] 0
  refine j_aload_n C dX9_span_0 rfl 0 rfl ?_
  refine jX_g12_6_X9 C dX9_span_1 ?_
  cases hm
  exact j_iret C hR dX9_span_4
def rmJ7_fill_53178 : Room := { frames := 0, cells := 0, slots := 0, locals := 0 }
theorem wd_J7_fill_53178 : yJ7_fill_53178.cls ≠ "java/lang/invoke/MethodHandle" ∧ yJ7_fill_53178.cls ≠ "java/lang/invoke/VarHandle" ∧ (parseMethodDescriptor yJ7_fill_53178.desc).map (fun d => d.parameters.length) = some 2 := by decide +kernel
def mJ7_fill_53178_5 (N : Nat) (k5 : USt → Nat → Int32 → Int32 → Int32 → Option USt) (u : USt) (a0 : Nat) (x1 : Int32) (x2 : Int32) (x3 : Int32) : Option USt := if x3 ≤ x2 then (some u) else (wrX a0 x2 (fun i1 => nm (saX u a0 i1 x1) (fun u2 => k5 u2 a0 x1 (x2 + 1) x3)))
set_option maxRecDepth 100000 in
set_option maxHeartbeats 4000000 in
theorem kJ7_fill_53178_5 {l : Launch} {D : va_G} {cI cO cR : ClassId} {q : Nat → Nat} {t0 : Nat} {b : BSt} {G : Gx} {N : Nat} {rr : USt} (C : jC l rmJ7_fill_53178 D (tX cI cO cR) G cJ7_fill_53178 4 RJ7) (hR : jR D (tX cI cO cR) G (0, 0) none none (wX cI cO cR q t0 rr b)) (k5 : USt → Nat → Int32 → Int32 → Int32 → Option USt) (K5 : ∀ (u : USt) (a0 : Nat) (x1 : Int32) (x2 : Int32) (x3 : Int32), k5 u a0 x1 x2 x3 = some rr → J l rmJ7_fill_53178 D G (0, 0) (wX cI cO cR q t0 u b) [(0, .ref (q a0)), (1, .int x1), (2, .int x2), (3, .int x3)] [] 5) (u : USt) (a0 : Nat) (x1 : Int32) (x2 : Int32) (x3 : Int32) (hm : mJ7_fill_53178_5 N k5 u a0 x1 x2 x3 = some rr) : J l rmJ7_fill_53178 D G (0, 0) (wX cI cO cR q t0 u b) [(0, .ref (q a0)), (1, .int x1), (2, .int x2), (3, .int x3)] [] 5 := by
  unfold mJ7_fill_53178_5 at hm
  refine j_iload_n C dJ7_fill_53178_5 rfl 2 rfl ?_
  refine j_iload_n C dJ7_fill_53178_6 rfl 3 rfl ?_
  refine j_icmp_geq (tgt := 20) C dJ7_fill_53178_7 (by decide) hm (fun hm => ?_) (fun hm => ?_)
  · cases hm
    exact j_vret C hR dJ7_fill_53178_20
  · refine j_aload_n C dJ7_fill_53178_10 rfl 0 rfl ?_
    refine j_iload_n C dJ7_fill_53178_11 rfl 2 rfl ?_
    refine j_iload_n C dJ7_fill_53178_12 rfl 1 rfl ?_
    refine jX_S C dJ7_fill_53178_13 hm (fun u2 hm => ?_)
    refine j_iinc (v := (x2 + 1)) C dJ7_fill_53178_14 2 rfl rfl (by decide) rfl ?_
    refine j_goto (tgt := 5) C dJ7_fill_53178_17 (by decide) ?_
    exact J.sub [1, 2, 0, 3] rfl (K5 u2 a0 x1 (x2 + 1) x3 hm)
def mJ7_fill_53178_h5 (N : Nat) : Nat → USt → Nat → Int32 → Int32 → Int32 → Option USt
  | 0, _, _, _, _, _ => none
  | n + 1, u, a0, x1, x2, x3 => mJ7_fill_53178_5 N (mJ7_fill_53178_h5 N n) u a0 x1 x2 x3
theorem kJ7_fill_53178_h5 {l : Launch} {D : va_G} {cI cO cR : ClassId} {q : Nat → Nat} {t0 : Nat} {b : BSt} {G : Gx} {N : Nat} {rr : USt} (C : jC l rmJ7_fill_53178 D (tX cI cO cR) G cJ7_fill_53178 4 RJ7) (hR : jR D (tX cI cO cR) G (0, 0) none none (wX cI cO cR q t0 rr b))  : ∀ (n : Nat) (u : USt) (a0 : Nat) (x1 : Int32) (x2 : Int32) (x3 : Int32), mJ7_fill_53178_h5 N n u a0 x1 x2 x3 = some rr → J l rmJ7_fill_53178 D G (0, 0) (wX cI cO cR q t0 u b) [(0, .ref (q a0)), (1, .int x1), (2, .int x2), (3, .int x3)] [] 5 := by
  intro n
  induction n with
  | zero =>
    intro u a0 x1 x2 x3 hm
    have hm : (none : Option USt) = some rr := hm
    cases hm
  | succ n ih =>
    intro u a0 x1 x2 x3 hm
    exact kJ7_fill_53178_5 C hR _ ih u a0 x1 x2 x3 hm
def mJ7_fill_53178 (N : Nat) (u : USt) (a0 : Nat) (x1 : Int32) : Option USt := alX a0 (fun n1 => mJ7_fill_53178_h5 N N u a0 x1 0 n1)
set_option maxRecDepth 100000 in
set_option maxHeartbeats 4000000 in
theorem qJ7_fill_53178 {l : Launch} {D : va_G} {cI cO cR : ClassId} {q : Nat → Nat} {t0 : Nat} {u : USt} {b : BSt} {N : Nat} {a0 : Nat} {x1 : Int32} {rr : USt} (hm : mJ7_fill_53178 N u a0 x1 = some rr) : Con l D (tX cI cO cR) yJ7_fill_53178 (wS yJ7_fill_53178 cJ7_fill_53178 4 none) rmJ7_fill_53178 [.ref (q a0), .int x1] (wX cI cO cR q t0 u b) none (wX cI cO cR q t0 rr b) := by
  refine Con.of (by decide +kernel) (Nat.le_of_ble_eq_true rfl) (fun G C hR => ?_)
  unfold mJ7_fill_53178 at hm
  show J l rmJ7_fill_53178 D G (0, 0) (wX cI cO cR q t0 u b) [(0, .ref (q a0)), (1, .int x1)] [] 0
  refine j_iconst (v := 0) C dJ7_fill_53178_0 (by decide) ?_
  refine j_istore_n C dJ7_fill_53178_1 rfl (by decide) rfl ?_
  refine j_aload_n C dJ7_fill_53178_2 rfl 1 rfl ?_
  refine jX_len C dJ7_fill_53178_3 hm (fun n1 hm => ?_)
  refine j_istore_n C dJ7_fill_53178_4 rfl (by decide) rfl ?_
  exact J.sub [2, 3, 1, 0] rfl (kJ7_fill_53178_h5 C hR N u a0 x1 0 n1 hm)
def rmX1_knot : Room := { frames := 0, cells := 0, slots := 0, locals := 0 }
theorem wd_X1_knot : yX1_knot.cls ≠ "java/lang/invoke/MethodHandle" ∧ yX1_knot.cls ≠ "java/lang/invoke/VarHandle" ∧ (parseMethodDescriptor yX1_knot.desc).map (fun d => d.parameters.length) = some 2 := by decide +kernel
def mX1_knot_40 (N : Nat) (s0 : Int32) : Option Int32 := some s0
set_option maxRecDepth 100000 in
set_option maxHeartbeats 4000000 in
theorem kX1_knot_40 {l : Launch} {D : va_G} {tys : List (ClassId × FieldType)} {G : Gx} {N : Nat} {rr : Int32} (C : jC l rmX1_knot D tys G cX1_knot 3 RX1) (hR : jR D tys G (0, 0) (some .int) (some (.int rr)) [])  (s0 : Int32) (hm : mX1_knot_40 N s0 = some rr) : J l rmX1_knot D G (0, 0) [] [] [.int s0] 40 := by
  unfold mX1_knot_40 at hm
  cases hm
  exact j_iret C hR dX1_knot_40
def mX1_knot_25 (N : Nat) (x0 : Int32) (x1 : Int32) (s0 : Int32) : Option Int32 := if s0 = 0 then (mX1_knot_40 N (-1)) else (mX1_knot_40 N ((x0 * 61) + x1))
set_option maxRecDepth 100000 in
set_option maxHeartbeats 4000000 in
theorem kX1_knot_25 {l : Launch} {D : va_G} {tys : List (ClassId × FieldType)} {G : Gx} {N : Nat} {rr : Int32} (C : jC l rmX1_knot D tys G cX1_knot 3 RX1) (hR : jR D tys G (0, 0) (some .int) (some (.int rr)) [])  (x0 : Int32) (x1 : Int32) (s0 : Int32) (hm : mX1_knot_25 N x0 x1 s0 = some rr) : J l rmX1_knot D G (0, 0) [] [(0, .int x0), (1, .int x1)] [.int s0] 25 := by
  unfold mX1_knot_25 at hm
  refine j_istore_n C dX1_knot_25 rfl (by decide) rfl ?_
  refine j_iload_n C dX1_knot_26 rfl 0 rfl ?_
  refine j_if_eqq (tgt := 39) C dX1_knot_27 (by decide) hm (fun hm => ?_) (fun hm => ?_)
  · refine j_iconst (v := (-1)) C dX1_knot_39 (by decide) ?_
    exact J.sub [] rfl (kX1_knot_40 C hR (-1) hm)
  · refine j_iload_n C dX1_knot_30 rfl 1 rfl ?_
    refine j_bipush (v := 61) C dX1_knot_31 (by decide) ?_
    refine j_imul C dX1_knot_33 ?_
    refine j_iload_n C dX1_knot_34 rfl 2 rfl ?_
    refine j_iadd C dX1_knot_35 ?_
    refine j_goto (tgt := 40) C dX1_knot_36 (by decide) ?_
    exact J.sub [] rfl (kX1_knot_40 C hR ((x0 * 61) + x1) hm)
def mX1_knot_24 (N : Nat) (x0 : Int32) (x1 : Int32) : Option Int32 := mX1_knot_25 N x0 x1 0
set_option maxRecDepth 100000 in
set_option maxHeartbeats 4000000 in
theorem kX1_knot_24 {l : Launch} {D : va_G} {tys : List (ClassId × FieldType)} {G : Gx} {N : Nat} {rr : Int32} (C : jC l rmX1_knot D tys G cX1_knot 3 RX1) (hR : jR D tys G (0, 0) (some .int) (some (.int rr)) [])  (x0 : Int32) (x1 : Int32) (hm : mX1_knot_24 N x0 x1 = some rr) : J l rmX1_knot D G (0, 0) [] [(0, .int x0), (1, .int x1)] [] 24 := by
  unfold mX1_knot_24 at hm
  refine j_iconst (v := 0) C dX1_knot_24 (by decide) ?_
  exact kX1_knot_25 C hR x0 x1 0 hm
def mX1_knot (N : Nat) (x0 : Int32) (x1 : Int32) : Option Int32 := if x0 < 0 then (mX1_knot_24 N x0 x1) else (if 8 ≤ x0 then (mX1_knot_24 N x0 x1) else (if x1 < 0 then (mX1_knot_24 N x0 x1) else (if 61 ≤ x1 then (mX1_knot_24 N x0 x1) else (mX1_knot_25 N x0 x1 1))))
set_option maxRecDepth 100000 in
set_option maxHeartbeats 4000000 in
theorem qX1_knot {l : Launch} {D : va_G} {tys : List (ClassId × FieldType)} {N : Nat} {x0 : Int32} {x1 : Int32} {rr : Int32} (hm : mX1_knot N x0 x1 = some rr) : Con l D tys yX1_knot (wS yX1_knot cX1_knot 3 (some .int)) rmX1_knot [.int x0, .int x1] [] (some (.int rr)) [] := by
  refine Con.of (by decide +kernel) (Nat.le_of_ble_eq_true rfl) (fun G C hR => ?_)
  unfold mX1_knot at hm
  show J l rmX1_knot D G (0, 0) [] [(0, .int x0), (1, .int x1)] [] 0
  refine j_iload_n C dX1_knot_0 rfl 0 rfl ?_
  refine j_if_ltq (tgt := 24) C dX1_knot_1 (by decide) hm (fun hm => ?_) (fun hm => ?_)
  · exact kX1_knot_24 C hR x0 x1 hm
  · refine j_iload_n C dX1_knot_4 rfl 0 rfl ?_
    refine j_bipush (v := 8) C dX1_knot_5 (by decide) ?_
    refine j_icmp_geq (tgt := 24) C dX1_knot_7 (by decide) hm (fun hm => ?_) (fun hm => ?_)
    · exact kX1_knot_24 C hR x0 x1 hm
    · refine j_iload_n C dX1_knot_10 rfl 1 rfl ?_
      refine j_if_ltq (tgt := 24) C dX1_knot_11 (by decide) hm (fun hm => ?_) (fun hm => ?_)
      · exact kX1_knot_24 C hR x0 x1 hm
      · refine j_iload_n C dX1_knot_14 rfl 1 rfl ?_
        refine j_bipush (v := 61) C dX1_knot_15 (by decide) ?_
        refine j_icmp_geq (tgt := 24) C dX1_knot_17 (by decide) hm (fun hm => ?_) (fun hm => ?_)
        · exact kX1_knot_24 C hR x0 x1 hm
        · refine j_iconst (v := 1) C dX1_knot_20 (by decide) ?_
          refine j_goto (tgt := 25) C dX1_knot_21 (by decide) ?_
          exact kX1_knot_25 C hR x0 x1 1 hm
def rmX9_landing : Room := { frames := 0, cells := 0, slots := 0, locals := 0 }
theorem wd_X9_landing : yX9_landing.cls ≠ "java/lang/invoke/MethodHandle" ∧ yX9_landing.cls ≠ "java/lang/invoke/VarHandle" ∧ (parseMethodDescriptor yX9_landing.desc).map (fun d => d.parameters.length) = some 2 := by decide +kernel
def mX9_landing_51 (N : Nat) (u : USt) (s0 : Int32) : Option Int32 := some s0
set_option maxRecDepth 100000 in
set_option maxHeartbeats 4000000 in
theorem kX9_landing_51 {l : Launch} {D : va_G} {cI cO cR : ClassId} {q : Nat → Nat} {t0 : Nat} {u : USt} {b : BSt} {G : Gx} {N : Nat} {rr : Int32} (C : jC l rmX9_landing D (tX cI cO cR) G cX9_landing 4 RX9) (hR : jR D (tX cI cO cR) G (0, 0) (some .int) (some (.int rr)) (wX cI cO cR q t0 u b))  (s0 : Int32) (hm : mX9_landing_51 N u s0 = some rr) : J l rmX9_landing D G (0, 0) (wX cI cO cR q t0 u b) [] [.int s0] 51 := by
  unfold mX9_landing_51 at hm
  cases hm
  exact j_iret C hR dX9_landing_51
def mX9_landing_34 (N : Nat) (u : USt) (x1 : Int32) (x2 : Int32) (s0 : Int32) : Option Int32 := if s0 = 0 then (mX9_landing_51 N u (-1)) else (wr 10 x1 (fun j1 => rdX u (26 + j1) x2 (fun ra2 => mX9_landing_51 N u ra2)))
set_option maxRecDepth 100000 in
set_option maxHeartbeats 4000000 in
theorem kX9_landing_34 {l : Launch} {D : va_G} {cI cO cR : ClassId} {q : Nat → Nat} {t0 : Nat} {u : USt} {b : BSt} {G : Gx} {N : Nat} {rr : Int32} (C : jC l rmX9_landing D (tX cI cO cR) G cX9_landing 4 RX9) (hR : jR D (tX cI cO cR) G (0, 0) (some .int) (some (.int rr)) (wX cI cO cR q t0 u b))  (x1 : Int32) (x2 : Int32) (s0 : Int32) (hm : mX9_landing_34 N u x1 x2 s0 = some rr) : J l rmX9_landing D G (0, 0) (wX cI cO cR q t0 u b) [(0, .ref (q 12)), (1, .int x1), (2, .int x2)] [.int s0] 34 := by
  unfold mX9_landing_34 at hm
  refine j_istore_n C dX9_landing_34 rfl (by decide) rfl ?_
  refine j_iload_n C dX9_landing_35 rfl 0 rfl ?_
  refine j_if_eqq (tgt := 50) C dX9_landing_36 (by decide) hm (fun hm => ?_) (fun hm => ?_)
  · refine j_iconst (v := (-1)) C dX9_landing_50 (by decide) ?_
    exact J.sub [] rfl (kX9_landing_51 C hR (-1) hm)
  · refine j_aload_n C dX9_landing_39 rfl 1 rfl ?_
    refine jX_g12_0_X9 C dX9_landing_40 ?_
    refine j_iload_n C dX9_landing_43 rfl 2 rfl ?_
    refine jX_o13 C dX9_landing_44 hm (fun j1 hm => ?_)
    refine j_iload_n C dX9_landing_45 rfl 3 rfl ?_
    refine jX_L C dX9_landing_46 hm (fun ra2 hm => ?_)
    refine j_goto (tgt := 51) C dX9_landing_47 (by decide) ?_
    exact J.sub [] rfl (kX9_landing_51 C hR ra2 hm)
def mX9_landing_33 (N : Nat) (u : USt) (x1 : Int32) (x2 : Int32) : Option Int32 := mX9_landing_34 N u x1 x2 0
set_option maxRecDepth 100000 in
set_option maxHeartbeats 4000000 in
theorem kX9_landing_33 {l : Launch} {D : va_G} {cI cO cR : ClassId} {q : Nat → Nat} {t0 : Nat} {u : USt} {b : BSt} {G : Gx} {N : Nat} {rr : Int32} (C : jC l rmX9_landing D (tX cI cO cR) G cX9_landing 4 RX9) (hR : jR D (tX cI cO cR) G (0, 0) (some .int) (some (.int rr)) (wX cI cO cR q t0 u b))  (x1 : Int32) (x2 : Int32) (hm : mX9_landing_33 N u x1 x2 = some rr) : J l rmX9_landing D G (0, 0) (wX cI cO cR q t0 u b) [(0, .ref (q 12)), (1, .int x1), (2, .int x2)] [] 33 := by
  unfold mX9_landing_33 at hm
  refine j_iconst (v := 0) C dX9_landing_33 (by decide) ?_
  exact kX9_landing_34 C hR x1 x2 0 hm
def mX9_landing (N : Nat) (u : USt) (x1 : Int32) (x2 : Int32) : Option Int32 := if x1 < 0 then (mX9_landing_33 N u x1 x2) else (if (u.1 18) ≤ x1 then (mX9_landing_33 N u x1 x2) else (if x2 < 0 then (mX9_landing_33 N u x1 x2) else (if (u.1 16) < (x2 + (u.1 17)) then (mX9_landing_33 N u x1 x2) else (mX9_landing_34 N u x1 x2 1))))
set_option maxRecDepth 100000 in
set_option maxHeartbeats 4000000 in
theorem qX9_landing {l : Launch} {D : va_G} {cI cO cR : ClassId} {q : Nat → Nat} {t0 : Nat} {u : USt} {b : BSt} {N : Nat} {x1 : Int32} {x2 : Int32} {rr : Int32} (hm : mX9_landing N u x1 x2 = some rr) : Con l D (tX cI cO cR) yX9_landing (wS yX9_landing cX9_landing 4 (some .int)) rmX9_landing [.ref (q 12), .int x1, .int x2] (wX cI cO cR q t0 u b) (some (.int rr)) (wX cI cO cR q t0 u b) := by
  refine Con.of (by decide +kernel) (Nat.le_of_ble_eq_true rfl) (fun G C hR => ?_)
  unfold mX9_landing at hm
  show J l rmX9_landing D G (0, 0) (wX cI cO cR q t0 u b) [(0, .ref (q 12)), (1, .int x1), (2, .int x2)] [] 0
  refine j_iload_n C dX9_landing_0 rfl 1 rfl ?_
  refine j_if_ltq (tgt := 33) C dX9_landing_1 (by decide) hm (fun hm => ?_) (fun hm => ?_)
  · exact kX9_landing_33 C hR x1 x2 hm
  · refine j_iload_n C dX9_landing_4 rfl 1 rfl ?_
    refine j_aload_n C dX9_landing_5 rfl 0 rfl ?_
    refine jX_g12_8_X9 C dX9_landing_6 ?_
    refine j_icmp_geq (tgt := 33) C dX9_landing_9 (by decide) hm (fun hm => ?_) (fun hm => ?_)
    · exact kX9_landing_33 C hR x1 x2 hm
    · refine j_iload_n C dX9_landing_12 rfl 2 rfl ?_
      refine j_if_ltq (tgt := 33) C dX9_landing_13 (by decide) hm (fun hm => ?_) (fun hm => ?_)
      · exact kX9_landing_33 C hR x1 x2 hm
      · refine j_iload_n C dX9_landing_16 rfl 2 rfl ?_
        refine j_aload_n C dX9_landing_17 rfl 0 rfl ?_
        refine jX_g12_7_X9 C dX9_landing_18 ?_
        refine j_iadd C dX9_landing_21 ?_
        refine j_aload_n C dX9_landing_22 rfl 0 rfl ?_
        refine jX_g12_6_X9 C dX9_landing_23 ?_
        refine j_icmp_gtq (tgt := 33) C dX9_landing_26 (by decide) hm (fun hm => ?_) (fun hm => ?_)
        · exact kX9_landing_33 C hR x1 x2 hm
        · refine j_iconst (v := 1) C dX9_landing_29 (by decide) ?_
          refine j_goto (tgt := 34) C dX9_landing_30 (by decide) ?_
          exact kX9_landing_34 C hR x1 x2 1 hm
def rmX9_pivot : Room := { frames := 0, cells := 0, slots := 0, locals := 0 }
theorem wd_X9_pivot : yX9_pivot.cls ≠ "java/lang/invoke/MethodHandle" ∧ yX9_pivot.cls ≠ "java/lang/invoke/VarHandle" ∧ (parseMethodDescriptor yX9_pivot.desc).map (fun d => d.parameters.length) = some 1 := by decide +kernel
def mX9_pivot_22 (N : Nat) (u : USt) (s0 : Int32) : Option Int32 := some s0
set_option maxRecDepth 100000 in
set_option maxHeartbeats 4000000 in
theorem kX9_pivot_22 {l : Launch} {D : va_G} {cI cO cR : ClassId} {q : Nat → Nat} {t0 : Nat} {u : USt} {b : BSt} {G : Gx} {N : Nat} {rr : Int32} (C : jC l rmX9_pivot D (tX cI cO cR) G cX9_pivot 2 RX9) (hR : jR D (tX cI cO cR) G (0, 0) (some .int) (some (.int rr)) (wX cI cO cR q t0 u b))  (s0 : Int32) (hm : mX9_pivot_22 N u s0 = some rr) : J l rmX9_pivot D G (0, 0) (wX cI cO cR q t0 u b) [] [.int s0] 22 := by
  unfold mX9_pivot_22 at hm
  cases hm
  exact j_iret C hR dX9_pivot_22
def mX9_pivot_21 (N : Nat) (u : USt) : Option Int32 := mX9_pivot_22 N u (-1)
set_option maxRecDepth 100000 in
set_option maxHeartbeats 4000000 in
theorem kX9_pivot_21 {l : Launch} {D : va_G} {cI cO cR : ClassId} {q : Nat → Nat} {t0 : Nat} {u : USt} {b : BSt} {G : Gx} {N : Nat} {rr : Int32} (C : jC l rmX9_pivot D (tX cI cO cR) G cX9_pivot 2 RX9) (hR : jR D (tX cI cO cR) G (0, 0) (some .int) (some (.int rr)) (wX cI cO cR q t0 u b))   (hm : mX9_pivot_21 N u = some rr) : J l rmX9_pivot D G (0, 0) (wX cI cO cR q t0 u b) [] [] 21 := by
  unfold mX9_pivot_21 at hm
  refine j_iconst (v := (-1)) C dX9_pivot_21 (by decide) ?_
  exact kX9_pivot_22 C hR (-1) hm
def mX9_pivot (N : Nat) (u : USt) (x1 : Int32) : Option Int32 := if x1 < 0 then (mX9_pivot_21 N u) else (if (u.1 18) ≤ x1 then (mX9_pivot_21 N u) else (rdX u 14 x1 (fun ra1 => mX9_pivot_22 N u ra1)))
set_option maxRecDepth 100000 in
set_option maxHeartbeats 4000000 in
theorem qX9_pivot {l : Launch} {D : va_G} {cI cO cR : ClassId} {q : Nat → Nat} {t0 : Nat} {u : USt} {b : BSt} {N : Nat} {x1 : Int32} {rr : Int32} (hm : mX9_pivot N u x1 = some rr) : Con l D (tX cI cO cR) yX9_pivot (wS yX9_pivot cX9_pivot 2 (some .int)) rmX9_pivot [.ref (q 12), .int x1] (wX cI cO cR q t0 u b) (some (.int rr)) (wX cI cO cR q t0 u b) := by
  refine Con.of (by decide +kernel) (Nat.le_of_ble_eq_true rfl) (fun G C hR => ?_)
  unfold mX9_pivot at hm
  show J l rmX9_pivot D G (0, 0) (wX cI cO cR q t0 u b) [(0, .ref (q 12)), (1, .int x1)] [] 0
  refine j_iload_n C dX9_pivot_0 rfl 1 rfl ?_
  refine j_if_ltq (tgt := 21) C dX9_pivot_1 (by decide) hm (fun hm => ?_) (fun hm => ?_)
  · exact J.sub [] rfl (kX9_pivot_21 C hR hm)
  · refine j_iload_n C dX9_pivot_4 rfl 1 rfl ?_
    refine j_aload_n C dX9_pivot_5 rfl 0 rfl ?_
    refine jX_g12_8_X9 C dX9_pivot_6 ?_
    refine j_icmp_geq (tgt := 21) C dX9_pivot_9 (by decide) hm (fun hm => ?_) (fun hm => ?_)
    · exact J.sub [] rfl (kX9_pivot_21 C hR hm)
    · refine j_aload_n C dX9_pivot_12 rfl 0 rfl ?_
      refine jX_g12_1_X9 C dX9_pivot_13 ?_
      refine j_iload_n C dX9_pivot_16 rfl 1 rfl ?_
      refine jX_L C dX9_pivot_17 hm (fun ra1 hm => ?_)
      refine j_goto (tgt := 22) C dX9_pivot_18 (by decide) ?_
      exact J.sub [] rfl (kX9_pivot_22 C hR ra1 hm)
def rmX9_pace : Room := { frames := 0, cells := 0, slots := 0, locals := 0 }
theorem wd_X9_pace : yX9_pace.cls ≠ "java/lang/invoke/MethodHandle" ∧ yX9_pace.cls ≠ "java/lang/invoke/VarHandle" ∧ (parseMethodDescriptor yX9_pace.desc).map (fun d => d.parameters.length) = some 0 := by decide +kernel
def mX9_pace (N : Nat) (u : USt) : Option Int32 := some (u.1 17)
set_option maxRecDepth 100000 in
set_option maxHeartbeats 4000000 in
theorem qX9_pace {l : Launch} {D : va_G} {cI cO cR : ClassId} {q : Nat → Nat} {t0 : Nat} {u : USt} {b : BSt} {N : Nat}  {rr : Int32} (hm : mX9_pace N u = some rr) : Con l D (tX cI cO cR) yX9_pace (wS yX9_pace cX9_pace 1 (some .int)) rmX9_pace [.ref (q 12)] (wX cI cO cR q t0 u b) (some (.int rr)) (wX cI cO cR q t0 u b) := by
  refine Con.of (by decide +kernel) (Nat.le_of_ble_eq_true rfl) (fun G C hR => ?_)
  unfold mX9_pace at hm
  show J l rmX9_pace D G (0, 0) (wX cI cO cR q t0 u b) [(0, .ref (q 12))] [] 0
  refine j_aload_n C dX9_pace_0 rfl 0 rfl ?_
  refine jX_g12_7_X9 C dX9_pace_1 ?_
  cases hm
  exact j_iret C hR dX9_pace_4
def rmX1_acrossFrom : Room := { frames := 1, cells := 0, slots := 0, locals := 23 }
theorem wd_X1_acrossFrom : yX1_acrossFrom.cls ≠ "java/lang/invoke/MethodHandle" ∧ yX1_acrossFrom.cls ≠ "java/lang/invoke/VarHandle" ∧ (parseMethodDescriptor yX1_acrossFrom.desc).map (fun d => d.parameters.length) = some 4 := by decide +kernel
def mX1_acrossFrom_90 (N : Nat) (u : USt) : Option Int32 := some (-1)
set_option maxRecDepth 100000 in
set_option maxHeartbeats 4000000 in
theorem kX1_acrossFrom_90 {l : Launch} {D : va_G} {cI cO cR : ClassId} {q : Nat → Nat} {t0 : Nat} {u : USt} {b : BSt} {G : Gx} {N : Nat} {rr : Int32} (C : jC l rmX1_acrossFrom D (tX cI cO cR) G cX1_acrossFrom 8 RX1) (hR : jR D (tX cI cO cR) G (0, 0) (some .int) (some (.int rr)) (wX cI cO cR q t0 u b))   (hm : mX1_acrossFrom_90 N u = some rr) : J l rmX1_acrossFrom D G (0, 0) (wX cI cO cR q t0 u b) [] [] 90 := by
  unfold mX1_acrossFrom_90 at hm
  refine j_iconst (v := (-1)) C dX1_acrossFrom_90 (by decide) ?_
  cases hm
  exact j_iret C hR dX1_acrossFrom_91
def mX1_acrossFrom_64 (N : Nat) (u : USt) (x3 : Int32) (x4 : Int32) (x5 : Int32) (x6 : Int32) (x7 : Int32) : Option Int32 := if ¬ x3 = x5 then (mX1_acrossFrom_90 N u) else (if ¬ (x7 &&& 2) = 0 then (mX1_acrossFrom_90 N u) else ((mX9_pace N u).bind (fun r1 => (mX1_knot N x6 (x4 + r1)).bind (fun r2 => some r2))))
set_option maxRecDepth 100000 in
set_option maxHeartbeats 4000000 in
theorem kX1_acrossFrom_64 {l : Launch} {D : va_G} {cI cO cR : ClassId} {q : Nat → Nat} {t0 : Nat} {u : USt} {b : BSt} {G : Gx} {N : Nat} {rr : Int32} (C : jC l rmX1_acrossFrom D (tX cI cO cR) G cX1_acrossFrom 8 RX1) (hR : jR D (tX cI cO cR) G (0, 0) (some .int) (some (.int rr)) (wX cI cO cR q t0 u b))  (x3 : Int32) (x4 : Int32) (x5 : Int32) (x6 : Int32) (x7 : Int32) (hm : mX1_acrossFrom_64 N u x3 x4 x5 x6 x7 = some rr) : J l rmX1_acrossFrom D G (0, 0) (wX cI cO cR q t0 u b) [(1, .ref (q 12)), (3, .int x3), (4, .int x4), (5, .int x5), (6, .int x6), (7, .int x7)] [] 64 := by
  unfold mX1_acrossFrom_64 at hm
  refine j_iload_n C dX1_acrossFrom_64 rfl 1 rfl ?_
  refine j_iload C dX1_acrossFrom_65 3 rfl ?_
  refine j_icmp_neq (tgt := 90) C dX1_acrossFrom_67 (by decide) hm (fun hm => ?_) (fun hm => ?_)
  · exact J.sub [] rfl (kX1_acrossFrom_90 C hR hm)
  · refine j_iload C dX1_acrossFrom_70 5 rfl ?_
    refine j_iconst (v := 2) C dX1_acrossFrom_72 (by decide) ?_
    refine j_iand C dX1_acrossFrom_73 ?_
    refine j_if_neq (tgt := 90) C dX1_acrossFrom_74 (by decide) hm (fun hm => ?_) (fun hm => ?_)
    · exact J.sub [] rfl (kX1_acrossFrom_90 C hR hm)
    · refine j_iload C dX1_acrossFrom_77 4 rfl ?_
      refine j_iload C dX1_acrossFrom_79 2 rfl ?_
      refine j_aload_n C dX1_acrossFrom_81 rfl 0 rfl ?_
      refine j_bind hm (fun r1 hr1 hm => ?_)
      refine j_callV (cs' := (0, 0)) (As := []) (rest := [.int x4, .int x6]) C (qX9_pace hr1) w4_54 w4_51 w4_52 w4_53 w1_9 wd_X9_pace ⟨by decide, by decide⟩ 12 rfl rfl rfl (Nat.le_of_ble_eq_true rfl) dX1_acrossFrom_82 ⟨by decide, by decide⟩ rfl rfl ?_
      refine j_iadd C dX1_acrossFrom_85 ?_
      refine j_bind hm (fun r2 hr2 hm => ?_)
      refine j_callS (cs' := (0, 0)) (As := [.int x6, .int (x4 + r1)]) (rest := []) C (qX1_knot hr2) w4_36 w4_34 w4_35 w1_10 wd_X1_knot ⟨by decide, by decide⟩ rfl (Nat.le_of_ble_eq_true rfl) dX1_acrossFrom_86 ⟨by decide, by decide⟩ rfl rfl ?_
      cases hm
      exact j_iret C hR dX1_acrossFrom_89
def mX1_acrossFrom (N : Nat) (u : USt) (x2 : Int32) (x3 : Int32) (x4 : Int32) : Option Int32 := (mX9_landing N u x2 x4).bind (fun r1 => if ¬ r1 = (-1) then ((mX9_pivot N u x2).bind (fun r2 => rdX u 19 ((x2 * 61) + x4) (fun ra3 => if ¬ x3 = r2 then (mX1_acrossFrom_64 N u x3 x4 r1 r2 ra3) else (if ¬ (ra3 &&& 1) = 0 then (mX1_acrossFrom_64 N u x3 x4 r1 r2 ra3) else ((mX9_pace N u).bind (fun r4 => (mX1_knot N r1 (x4 + r4)).bind (fun r5 => some r5))))))) else (some (-1)))
set_option maxRecDepth 100000 in
set_option maxHeartbeats 4000000 in
theorem qX1_acrossFrom {l : Launch} {D : va_G} {cI cO cR : ClassId} {q : Nat → Nat} {t0 : Nat} {u : USt} {b : BSt} {N : Nat} {x2 : Int32} {x3 : Int32} {x4 : Int32} {rr : Int32} (hm : mX1_acrossFrom N u x2 x3 x4 = some rr) : Con l D (tX cI cO cR) yX1_acrossFrom (wS yX1_acrossFrom cX1_acrossFrom 8 (some .int)) rmX1_acrossFrom [.ref (q 18), .ref (q 12), .int x2, .int x3, .int x4] (wX cI cO cR q t0 u b) (some (.int rr)) (wX cI cO cR q t0 u b) := by
  refine Con.of (by decide +kernel) (Nat.le_of_ble_eq_true rfl) (fun G C hR => ?_)
  unfold mX1_acrossFrom at hm
  show J l rmX1_acrossFrom D G (0, 0) (wX cI cO cR q t0 u b) [(0, .ref (q 18)), (1, .ref (q 12)), (2, .int x2), (3, .int x3), (4, .int x4)] [] 0
  refine j_aload_n C dX1_acrossFrom_0 rfl 1 rfl ?_
  refine j_iload_n C dX1_acrossFrom_1 rfl 2 rfl ?_
  refine j_iload C dX1_acrossFrom_2 4 rfl ?_
  refine j_bind hm (fun r1 hr1 hm => ?_)
  refine j_callV (cs' := (0, 0)) (As := [.int x2, .int x4]) (rest := []) C (qX9_landing hr1) w3_191 w4_46 w3_189 w3_190 w1_9 wd_X9_landing ⟨by decide, by decide⟩ 12 rfl rfl rfl (Nat.le_of_ble_eq_true rfl) dX1_acrossFrom_4 ⟨by decide, by decide⟩ rfl rfl ?_
  refine j_istore C dX1_acrossFrom_7 (by decide) rfl ?_
  refine j_iload C dX1_acrossFrom_9 0 rfl ?_
  refine j_iconst (v := (-1)) C dX1_acrossFrom_11 (by decide) ?_
  refine j_icmp_neq (tgt := 17) C dX1_acrossFrom_12 (by decide) hm (fun hm => ?_) (fun hm => ?_)
  · refine j_aload_n C dX1_acrossFrom_17 rfl 2 rfl ?_
    refine j_iload_n C dX1_acrossFrom_18 rfl 3 rfl ?_
    refine j_bind hm (fun r2 hr2 hm => ?_)
    refine j_callV (cs' := (0, 0)) (As := [.int x2]) (rest := []) C (qX9_pivot hr2) w4_50 w4_47 w4_48 w4_49 w1_9 wd_X9_pivot ⟨by decide, by decide⟩ 12 rfl rfl rfl (Nat.le_of_ble_eq_true rfl) dX1_acrossFrom_19 ⟨by decide, by decide⟩ rfl rfl ?_
    refine j_istore C dX1_acrossFrom_22 (by decide) rfl ?_
    refine j_aload_n C dX1_acrossFrom_24 rfl 2 rfl ?_
    refine jX_g18_0_X1 C dX1_acrossFrom_25 ?_
    refine j_iload_n C dX1_acrossFrom_28 rfl 4 rfl ?_
    refine j_bipush (v := 61) C dX1_acrossFrom_29 (by decide) ?_
    refine j_imul C dX1_acrossFrom_31 ?_
    refine j_iload C dX1_acrossFrom_32 6 rfl ?_
    refine j_iadd C dX1_acrossFrom_34 ?_
    refine jX_L C dX1_acrossFrom_35 hm (fun ra3 hm => ?_)
    refine j_istore C dX1_acrossFrom_36 (by decide) rfl ?_
    refine j_iload_n C dX1_acrossFrom_38 rfl 6 rfl ?_
    refine j_iload C dX1_acrossFrom_39 1 rfl ?_
    refine j_icmp_neq (tgt := 64) C dX1_acrossFrom_41 (by decide) hm (fun hm => ?_) (fun hm => ?_)
    · exact J.sub [4, 6, 7, 2, 1, 0] rfl (kX1_acrossFrom_64 C hR x3 x4 r1 r2 ra3 hm)
    · refine j_iload C dX1_acrossFrom_44 0 rfl ?_
      refine j_iconst (v := 1) C dX1_acrossFrom_46 (by decide) ?_
      refine j_iand C dX1_acrossFrom_47 ?_
      refine j_if_neq (tgt := 64) C dX1_acrossFrom_48 (by decide) hm (fun hm => ?_) (fun hm => ?_)
      · exact J.sub [4, 6, 7, 2, 1, 0] rfl (kX1_acrossFrom_64 C hR x3 x4 r1 r2 ra3 hm)
      · refine j_iload C dX1_acrossFrom_51 2 rfl ?_
        refine j_iload C dX1_acrossFrom_53 7 rfl ?_
        refine j_aload_n C dX1_acrossFrom_55 rfl 4 rfl ?_
        refine j_bind hm (fun r4 hr4 hm => ?_)
        refine j_callV (cs' := (0, 0)) (As := []) (rest := [.int x4, .int r1]) C (qX9_pace hr4) w4_54 w4_51 w4_52 w4_53 w1_9 wd_X9_pace ⟨by decide, by decide⟩ 12 rfl rfl rfl (Nat.le_of_ble_eq_true rfl) dX1_acrossFrom_56 ⟨by decide, by decide⟩ rfl rfl ?_
        refine j_iadd C dX1_acrossFrom_59 ?_
        refine j_bind hm (fun r5 hr5 hm => ?_)
        refine j_callS (cs' := (0, 0)) (As := [.int r1, .int (x4 + r4)]) (rest := []) C (qX1_knot hr5) w4_36 w4_34 w4_35 w1_10 wd_X1_knot ⟨by decide, by decide⟩ rfl (Nat.le_of_ble_eq_true rfl) dX1_acrossFrom_60 ⟨by decide, by decide⟩ rfl rfl ?_
        cases hm
        exact j_iret C hR dX1_acrossFrom_63
  · refine j_iconst (v := (-1)) C dX1_acrossFrom_15 (by decide) ?_
    cases hm
    exact j_iret C hR dX1_acrossFrom_16
def rmX1_takenBackFrom : Room := { frames := 1, cells := 0, slots := 0, locals := 23 }
theorem wd_X1_takenBackFrom : yX1_takenBackFrom.cls ≠ "java/lang/invoke/MethodHandle" ∧ yX1_takenBackFrom.cls ≠ "java/lang/invoke/VarHandle" ∧ (parseMethodDescriptor yX1_takenBackFrom.desc).map (fun d => d.parameters.length) = some 4 := by decide +kernel
def mX1_takenBackFrom_89 (N : Nat) (u : USt) : Option Int32 := some (-1)
set_option maxRecDepth 100000 in
set_option maxHeartbeats 4000000 in
theorem kX1_takenBackFrom_89 {l : Launch} {D : va_G} {cI cO cR : ClassId} {q : Nat → Nat} {t0 : Nat} {u : USt} {b : BSt} {G : Gx} {N : Nat} {rr : Int32} (C : jC l rmX1_takenBackFrom D (tX cI cO cR) G cX1_takenBackFrom 9 RX1) (hR : jR D (tX cI cO cR) G (0, 0) (some .int) (some (.int rr)) (wX cI cO cR q t0 u b))   (hm : mX1_takenBackFrom_89 N u = some rr) : J l rmX1_takenBackFrom D G (0, 0) (wX cI cO cR q t0 u b) [] [] 89 := by
  unfold mX1_takenBackFrom_89 at hm
  refine j_iconst (v := (-1)) C dX1_takenBackFrom_89 (by decide) ?_
  cases hm
  exact j_iret C hR dX1_takenBackFrom_90
def mX1_takenBackFrom_68 (N : Nat) (u : USt) (x3 : Int32) (x5 : Int32) (x6 : Int32) (x7 : Int32) (x8 : Int32) : Option Int32 := if ¬ x3 = x7 then (mX1_takenBackFrom_89 N u) else (if (x8 &&& 2) = 0 then (mX1_takenBackFrom_89 N u) else ((mX1_knot N x6 x5).bind (fun r1 => some r1)))
set_option maxRecDepth 100000 in
set_option maxHeartbeats 4000000 in
theorem kX1_takenBackFrom_68 {l : Launch} {D : va_G} {cI cO cR : ClassId} {q : Nat → Nat} {t0 : Nat} {u : USt} {b : BSt} {G : Gx} {N : Nat} {rr : Int32} (C : jC l rmX1_takenBackFrom D (tX cI cO cR) G cX1_takenBackFrom 9 RX1) (hR : jR D (tX cI cO cR) G (0, 0) (some .int) (some (.int rr)) (wX cI cO cR q t0 u b))  (x3 : Int32) (x5 : Int32) (x6 : Int32) (x7 : Int32) (x8 : Int32) (hm : mX1_takenBackFrom_68 N u x3 x5 x6 x7 x8 = some rr) : J l rmX1_takenBackFrom D G (0, 0) (wX cI cO cR q t0 u b) [(3, .int x3), (5, .int x5), (6, .int x6), (7, .int x7), (8, .int x8)] [] 68 := by
  unfold mX1_takenBackFrom_68 at hm
  refine j_iload_n C dX1_takenBackFrom_68 rfl 0 rfl ?_
  refine j_iload C dX1_takenBackFrom_69 3 rfl ?_
  refine j_icmp_neq (tgt := 89) C dX1_takenBackFrom_71 (by decide) hm (fun hm => ?_) (fun hm => ?_)
  · exact J.sub [] rfl (kX1_takenBackFrom_89 C hR hm)
  · refine j_iload C dX1_takenBackFrom_74 4 rfl ?_
    refine j_iconst (v := 2) C dX1_takenBackFrom_76 (by decide) ?_
    refine j_iand C dX1_takenBackFrom_77 ?_
    refine j_if_eqq (tgt := 89) C dX1_takenBackFrom_78 (by decide) hm (fun hm => ?_) (fun hm => ?_)
    · exact J.sub [] rfl (kX1_takenBackFrom_89 C hR hm)
    · refine j_iload C dX1_takenBackFrom_81 2 rfl ?_
      refine j_iload C dX1_takenBackFrom_83 1 rfl ?_
      refine j_bind hm (fun r1 hr1 hm => ?_)
      refine j_callS (cs' := (0, 0)) (As := [.int x6, .int x5]) (rest := []) C (qX1_knot hr1) w4_36 w4_34 w4_35 w1_10 wd_X1_knot ⟨by decide, by decide⟩ rfl (Nat.le_of_ble_eq_true rfl) dX1_takenBackFrom_85 ⟨by decide, by decide⟩ rfl rfl ?_
      cases hm
      exact j_iret C hR dX1_takenBackFrom_88
def mX1_takenBackFrom (N : Nat) (u : USt) (x2 : Int32) (x3 : Int32) (x4 : Int32) : Option Int32 := (mX9_pace N u).bind (fun r1 => nm (x4 - r1) (fun v2 => (mX9_landing N u x2 v2).bind (fun r3 => if ¬ r3 = (-1) then ((mX9_pivot N u x2).bind (fun r4 => rdX u 19 ((x2 * 61) + v2) (fun ra5 => if ¬ x3 = r3 then (mX1_takenBackFrom_68 N u x3 v2 r3 r4 ra5) else (if (ra5 &&& 1) = 0 then (mX1_takenBackFrom_68 N u x3 v2 r3 r4 ra5) else ((mX1_knot N r4 v2).bind (fun r6 => some r6)))))) else (some (-1)))))
set_option maxRecDepth 100000 in
set_option maxHeartbeats 4000000 in
theorem qX1_takenBackFrom {l : Launch} {D : va_G} {cI cO cR : ClassId} {q : Nat → Nat} {t0 : Nat} {u : USt} {b : BSt} {N : Nat} {x2 : Int32} {x3 : Int32} {x4 : Int32} {rr : Int32} (hm : mX1_takenBackFrom N u x2 x3 x4 = some rr) : Con l D (tX cI cO cR) yX1_takenBackFrom (wS yX1_takenBackFrom cX1_takenBackFrom 9 (some .int)) rmX1_takenBackFrom [.ref (q 18), .ref (q 12), .int x2, .int x3, .int x4] (wX cI cO cR q t0 u b) (some (.int rr)) (wX cI cO cR q t0 u b) := by
  refine Con.of (by decide +kernel) (Nat.le_of_ble_eq_true rfl) (fun G C hR => ?_)
  unfold mX1_takenBackFrom at hm
  show J l rmX1_takenBackFrom D G (0, 0) (wX cI cO cR q t0 u b) [(0, .ref (q 18)), (1, .ref (q 12)), (2, .int x2), (3, .int x3), (4, .int x4)] [] 0
  refine j_iload C dX1_takenBackFrom_0 4 rfl ?_
  refine j_aload_n C dX1_takenBackFrom_2 rfl 1 rfl ?_
  refine j_bind hm (fun r1 hr1 hm => ?_)
  refine j_callV (cs' := (0, 0)) (As := []) (rest := [.int x4]) C (qX9_pace hr1) w4_54 w4_51 w4_52 w4_53 w1_9 wd_X9_pace ⟨by decide, by decide⟩ 12 rfl rfl rfl (Nat.le_of_ble_eq_true rfl) dX1_takenBackFrom_3 ⟨by decide, by decide⟩ rfl rfl ?_
  refine j_isub C dX1_takenBackFrom_6 ?_
  refine j_nmi hm (fun v2 hm => ?_)
  refine j_istore C dX1_takenBackFrom_7 (by decide) rfl ?_
  refine j_aload_n C dX1_takenBackFrom_9 rfl 2 rfl ?_
  refine j_iload_n C dX1_takenBackFrom_10 rfl 3 rfl ?_
  refine j_iload C dX1_takenBackFrom_11 0 rfl ?_
  refine j_bind hm (fun r3 hr3 hm => ?_)
  refine j_callV (cs' := (0, 0)) (As := [.int x2, .int v2]) (rest := []) C (qX9_landing hr3) w3_191 w4_46 w3_189 w3_190 w1_9 wd_X9_landing ⟨by decide, by decide⟩ 12 rfl rfl rfl (Nat.le_of_ble_eq_true rfl) dX1_takenBackFrom_13 ⟨by decide, by decide⟩ rfl rfl ?_
  refine j_istore C dX1_takenBackFrom_16 (by decide) rfl ?_
  refine j_iload C dX1_takenBackFrom_18 0 rfl ?_
  refine j_iconst (v := (-1)) C dX1_takenBackFrom_20 (by decide) ?_
  refine j_icmp_neq (tgt := 26) C dX1_takenBackFrom_21 (by decide) hm (fun hm => ?_) (fun hm => ?_)
  · refine j_aload_n C dX1_takenBackFrom_26 rfl 3 rfl ?_
    refine j_iload_n C dX1_takenBackFrom_27 rfl 4 rfl ?_
    refine j_bind hm (fun r4 hr4 hm => ?_)
    refine j_callV (cs' := (0, 0)) (As := [.int x2]) (rest := []) C (qX9_pivot hr4) w4_50 w4_47 w4_48 w4_49 w1_9 wd_X9_pivot ⟨by decide, by decide⟩ 12 rfl rfl rfl (Nat.le_of_ble_eq_true rfl) dX1_takenBackFrom_28 ⟨by decide, by decide⟩ rfl rfl ?_
    refine j_istore C dX1_takenBackFrom_31 (by decide) rfl ?_
    refine j_aload_n C dX1_takenBackFrom_33 rfl 3 rfl ?_
    refine jX_g18_0_X1 C dX1_takenBackFrom_34 ?_
    refine j_iload_n C dX1_takenBackFrom_37 rfl 5 rfl ?_
    refine j_bipush (v := 61) C dX1_takenBackFrom_38 (by decide) ?_
    refine j_imul C dX1_takenBackFrom_40 ?_
    refine j_iload C dX1_takenBackFrom_41 2 rfl ?_
    refine j_iadd C dX1_takenBackFrom_43 ?_
    refine jX_L C dX1_takenBackFrom_44 hm (fun ra5 hm => ?_)
    refine j_istore C dX1_takenBackFrom_45 (by decide) rfl ?_
    refine j_iload_n C dX1_takenBackFrom_47 rfl 7 rfl ?_
    refine j_iload C dX1_takenBackFrom_48 2 rfl ?_
    refine j_icmp_neq (tgt := 68) C dX1_takenBackFrom_50 (by decide) hm (fun hm => ?_) (fun hm => ?_)
    · exact J.sub [7, 3, 2, 1, 0] rfl (kX1_takenBackFrom_68 C hR x3 v2 r3 r4 ra5 hm)
    · refine j_iload C dX1_takenBackFrom_53 0 rfl ?_
      refine j_iconst (v := 1) C dX1_takenBackFrom_55 (by decide) ?_
      refine j_iand C dX1_takenBackFrom_56 ?_
      refine j_if_eqq (tgt := 68) C dX1_takenBackFrom_57 (by decide) hm (fun hm => ?_) (fun hm => ?_)
      · exact J.sub [7, 3, 2, 1, 0] rfl (kX1_takenBackFrom_68 C hR x3 v2 r3 r4 ra5 hm)
      · refine j_iload C dX1_takenBackFrom_60 1 rfl ?_
        refine j_iload C dX1_takenBackFrom_62 3 rfl ?_
        refine j_bind hm (fun r6 hr6 hm => ?_)
        refine j_callS (cs' := (0, 0)) (As := [.int r4, .int v2]) (rest := []) C (qX1_knot hr6) w4_36 w4_34 w4_35 w1_10 wd_X1_knot ⟨by decide, by decide⟩ rfl (Nat.le_of_ble_eq_true rfl) dX1_takenBackFrom_64 ⟨by decide, by decide⟩ rfl rfl ?_
        cases hm
        exact j_iret C hR dX1_takenBackFrom_67
  · refine j_iconst (v := (-1)) C dX1_takenBackFrom_24 (by decide) ?_
    cases hm
    exact j_iret C hR dX1_takenBackFrom_25
def rmX1_nextKnot : Room := { frames := 2, cells := 0, slots := 0, locals := 51 }
theorem wd_X1_nextKnot : yX1_nextKnot.cls ≠ "java/lang/invoke/MethodHandle" ∧ yX1_nextKnot.cls ≠ "java/lang/invoke/VarHandle" ∧ (parseMethodDescriptor yX1_nextKnot.desc).map (fun d => d.parameters.length) = some 3 := by decide +kernel
def mX1_nextKnot_107 (N : Nat) (u : USt) (s0 : Int32) : Option Int32 := some s0
set_option maxRecDepth 100000 in
set_option maxHeartbeats 4000000 in
theorem kX1_nextKnot_107 {l : Launch} {D : va_G} {cI cO cR : ClassId} {q : Nat → Nat} {t0 : Nat} {u : USt} {b : BSt} {G : Gx} {N : Nat} {rr : Int32} (C : jC l rmX1_nextKnot D (tX cI cO cR) G cX1_nextKnot 6 RX1) (hR : jR D (tX cI cO cR) G (0, 0) (some .int) (some (.int rr)) (wX cI cO cR q t0 u b))  (s0 : Int32) (hm : mX1_nextKnot_107 N u s0 = some rr) : J l rmX1_nextKnot D G (0, 0) (wX cI cO cR q t0 u b) [] [.int s0] 107 := by
  unfold mX1_nextKnot_107 at hm
  cases hm
  exact j_iret C hR dX1_nextKnot_107
def mX1_nextKnot_106 (N : Nat) (u : USt) : Option Int32 := mX1_nextKnot_107 N u (-1)
set_option maxRecDepth 100000 in
set_option maxHeartbeats 4000000 in
theorem kX1_nextKnot_106 {l : Launch} {D : va_G} {cI cO cR : ClassId} {q : Nat → Nat} {t0 : Nat} {u : USt} {b : BSt} {G : Gx} {N : Nat} {rr : Int32} (C : jC l rmX1_nextKnot D (tX cI cO cR) G cX1_nextKnot 6 RX1) (hR : jR D (tX cI cO cR) G (0, 0) (some .int) (some (.int rr)) (wX cI cO cR q t0 u b))   (hm : mX1_nextKnot_106 N u = some rr) : J l rmX1_nextKnot D G (0, 0) (wX cI cO cR q t0 u b) [] [] 106 := by
  unfold mX1_nextKnot_106 at hm
  refine j_iconst (v := (-1)) C dX1_nextKnot_106 (by decide) ?_
  exact kX1_nextKnot_107 C hR (-1) hm
def mX1_nextKnot_57 (N : Nat) (u : USt) (s0 : Int32) : Option Int32 := some s0
set_option maxRecDepth 100000 in
set_option maxHeartbeats 4000000 in
theorem kX1_nextKnot_57 {l : Launch} {D : va_G} {cI cO cR : ClassId} {q : Nat → Nat} {t0 : Nat} {u : USt} {b : BSt} {G : Gx} {N : Nat} {rr : Int32} (C : jC l rmX1_nextKnot D (tX cI cO cR) G cX1_nextKnot 6 RX1) (hR : jR D (tX cI cO cR) G (0, 0) (some .int) (some (.int rr)) (wX cI cO cR q t0 u b))  (s0 : Int32) (hm : mX1_nextKnot_57 N u s0 = some rr) : J l rmX1_nextKnot D G (0, 0) (wX cI cO cR q t0 u b) [] [.int s0] 57 := by
  unfold mX1_nextKnot_57 at hm
  cases hm
  exact j_iret C hR dX1_nextKnot_57
def mX1_nextKnot (N : Nat) (u : USt) (x2 : Int32) (x3 : Int32) : Option Int32 := nm (x2 / 61) (fun v1 => nm (x2 - x2 / 61 * 61) (fun v2 => if 10 ≤ x3 then (if ¬ x3 = 10 then (if 21 ≤ x3 then (if v2 ≤ 0 then (mX1_nextKnot_106 N u) else (rdX u 20 (x2 - 1) (fun ra3 => if ra3 ≤ 0 then (mX1_nextKnot_106 N u) else ((mX1_knot N v1 (v2 - 1)).bind (fun r4 => mX1_nextKnot_107 N u r4))))) else ((mX1_takenBackFrom N u (x3 - 11) v1 v2).bind (fun r5 => some r5))) else ((mX9_span N u).bind (fun r6 => if r6 ≤ v2 then (mX1_nextKnot_57 N u (-1)) else ((mX1_knot N v1 (v2 + 1)).bind (fun r7 => mX1_nextKnot_57 N u r7))))) else ((mX1_acrossFrom N u x3 v1 v2).bind (fun r8 => some r8))))
set_option maxRecDepth 100000 in
set_option maxHeartbeats 4000000 in
theorem qX1_nextKnot {l : Launch} {D : va_G} {cI cO cR : ClassId} {q : Nat → Nat} {t0 : Nat} {u : USt} {b : BSt} {N : Nat} {x2 : Int32} {x3 : Int32} {rr : Int32} (hm : mX1_nextKnot N u x2 x3 = some rr) : Con l D (tX cI cO cR) yX1_nextKnot (wS yX1_nextKnot cX1_nextKnot 6 (some .int)) rmX1_nextKnot [.ref (q 18), .ref (q 12), .int x2, .int x3] (wX cI cO cR q t0 u b) (some (.int rr)) (wX cI cO cR q t0 u b) := by
  refine Con.of (by decide +kernel) (Nat.le_of_ble_eq_true rfl) (fun G C hR => ?_)
  unfold mX1_nextKnot at hm
  show J l rmX1_nextKnot D G (0, 0) (wX cI cO cR q t0 u b) [(0, .ref (q 18)), (1, .ref (q 12)), (2, .int x2), (3, .int x3)] [] 0
  refine j_iload_n C dX1_nextKnot_0 rfl 2 rfl ?_
  refine j_bipush (v := 61) C dX1_nextKnot_1 (by decide) ?_
  refine j_idiv C dX1_nextKnot_3 (by decide) ?_
  refine j_nmi hm (fun v1 hm => ?_)
  refine j_istore C dX1_nextKnot_4 (by decide) rfl ?_
  refine j_iload_n C dX1_nextKnot_6 rfl 3 rfl ?_
  refine j_bipush (v := 61) C dX1_nextKnot_7 (by decide) ?_
  refine j_irem C dX1_nextKnot_9 (by decide) ?_
  refine j_nmi hm (fun v2 hm => ?_)
  refine j_istore C dX1_nextKnot_10 (by decide) rfl ?_
  refine j_iload_n C dX1_nextKnot_12 rfl 5 rfl ?_
  refine j_bipush (v := 10) C dX1_nextKnot_13 (by decide) ?_
  refine j_icmp_geq (tgt := 29) C dX1_nextKnot_15 (by decide) hm (fun hm => ?_) (fun hm => ?_)
  · refine j_iload_n C dX1_nextKnot_29 rfl 5 rfl ?_
    refine j_bipush (v := 10) C dX1_nextKnot_30 (by decide) ?_
    refine j_icmp_neq (tgt := 58) C dX1_nextKnot_32 (by decide) hm (fun hm => ?_) (fun hm => ?_)
    · refine j_iload_n C dX1_nextKnot_58 rfl 5 rfl ?_
      refine j_bipush (v := 21) C dX1_nextKnot_59 (by decide) ?_
      refine j_icmp_geq (tgt := 78) C dX1_nextKnot_61 (by decide) hm (fun hm => ?_) (fun hm => ?_)
      · refine j_iload C dX1_nextKnot_78 0 rfl ?_
        refine j_if_leq (tgt := 106) C dX1_nextKnot_80 (by decide) hm (fun hm => ?_) (fun hm => ?_)
        · exact J.sub [] rfl (kX1_nextKnot_106 C hR hm)
        · refine j_aload_n C dX1_nextKnot_83 rfl 2 rfl ?_
          refine jX_g18_1_X1 C dX1_nextKnot_84 ?_
          refine j_iload_n C dX1_nextKnot_87 rfl 4 rfl ?_
          refine j_iconst (v := 1) C dX1_nextKnot_88 (by decide) ?_
          refine j_isub C dX1_nextKnot_89 ?_
          refine jX_L C dX1_nextKnot_90 hm (fun ra3 hm => ?_)
          refine j_if_leq (tgt := 106) C dX1_nextKnot_91 (by decide) hm (fun hm => ?_) (fun hm => ?_)
          · exact J.sub [] rfl (kX1_nextKnot_106 C hR hm)
          · refine j_iload C dX1_nextKnot_94 1 rfl ?_
            refine j_iload C dX1_nextKnot_96 0 rfl ?_
            refine j_iconst (v := 1) C dX1_nextKnot_98 (by decide) ?_
            refine j_isub C dX1_nextKnot_99 ?_
            refine j_bind hm (fun r4 hr4 hm => ?_)
            refine j_callS (cs' := (0, 0)) (As := [.int v1, .int (v2 - 1)]) (rest := []) C (qX1_knot hr4) w4_36 w4_34 w4_35 w1_10 wd_X1_knot ⟨by decide, by decide⟩ rfl (Nat.le_of_ble_eq_true rfl) dX1_nextKnot_100 ⟨by decide, by decide⟩ rfl rfl ?_
            refine j_goto (tgt := 107) C dX1_nextKnot_103 (by decide) ?_
            exact J.sub [] rfl (kX1_nextKnot_107 C hR r4 hm)
      · refine j_aload_n C dX1_nextKnot_64 rfl 2 rfl ?_
        refine j_aload_n C dX1_nextKnot_65 rfl 3 rfl ?_
        refine j_iload_n C dX1_nextKnot_66 rfl 5 rfl ?_
        refine j_bipush (v := 11) C dX1_nextKnot_67 (by decide) ?_
        refine j_isub C dX1_nextKnot_69 ?_
        refine j_iload C dX1_nextKnot_70 1 rfl ?_
        refine j_iload C dX1_nextKnot_72 0 rfl ?_
        refine j_bind hm (fun r5 hr5 hm => ?_)
        refine j_callV (cs' := (0, 0)) (As := [.ref (q 12), .int (x3 - 11), .int v1, .int v2]) (rest := []) C (qX1_takenBackFrom hr5) w4_58 w4_55 w4_57 w0_19 w1_10 wd_X1_takenBackFrom ⟨by decide, by decide⟩ 18 rfl rfl rfl (Nat.le_of_ble_eq_true rfl) dX1_nextKnot_74 ⟨by decide, by decide⟩ rfl rfl ?_
        cases hm
        exact j_iret C hR dX1_nextKnot_77
    · refine j_iload C dX1_nextKnot_35 0 rfl ?_
      refine j_aload_n C dX1_nextKnot_37 rfl 3 rfl ?_
      refine j_bind hm (fun r6 hr6 hm => ?_)
      refine j_callV (cs' := (0, 0)) (As := []) (rest := [.int v2]) C (qX9_span hr6) w4_24 w4_21 w4_22 w4_23 w1_9 wd_X9_span ⟨by decide, by decide⟩ 12 rfl rfl rfl (Nat.le_of_ble_eq_true rfl) dX1_nextKnot_38 ⟨by decide, by decide⟩ rfl rfl ?_
      refine j_icmp_geq (tgt := 56) C dX1_nextKnot_41 (by decide) hm (fun hm => ?_) (fun hm => ?_)
      · refine j_iconst (v := (-1)) C dX1_nextKnot_56 (by decide) ?_
        exact J.sub [] rfl (kX1_nextKnot_57 C hR (-1) hm)
      · refine j_iload C dX1_nextKnot_44 1 rfl ?_
        refine j_iload C dX1_nextKnot_46 0 rfl ?_
        refine j_iconst (v := 1) C dX1_nextKnot_48 (by decide) ?_
        refine j_iadd C dX1_nextKnot_49 ?_
        refine j_bind hm (fun r7 hr7 hm => ?_)
        refine j_callS (cs' := (0, 0)) (As := [.int v1, .int (v2 + 1)]) (rest := []) C (qX1_knot hr7) w4_36 w4_34 w4_35 w1_10 wd_X1_knot ⟨by decide, by decide⟩ rfl (Nat.le_of_ble_eq_true rfl) dX1_nextKnot_50 ⟨by decide, by decide⟩ rfl rfl ?_
        refine j_goto (tgt := 57) C dX1_nextKnot_53 (by decide) ?_
        exact J.sub [] rfl (kX1_nextKnot_57 C hR r7 hm)
  · refine j_aload_n C dX1_nextKnot_18 rfl 2 rfl ?_
    refine j_aload_n C dX1_nextKnot_19 rfl 3 rfl ?_
    refine j_iload_n C dX1_nextKnot_20 rfl 5 rfl ?_
    refine j_iload C dX1_nextKnot_21 1 rfl ?_
    refine j_iload C dX1_nextKnot_23 0 rfl ?_
    refine j_bind hm (fun r8 hr8 hm => ?_)
    refine j_callV (cs' := (0, 0)) (As := [.ref (q 12), .int x3, .int v1, .int v2]) (rest := []) C (qX1_acrossFrom hr8) w4_45 w4_42 w4_44 w0_18 w1_10 wd_X1_acrossFrom ⟨by decide, by decide⟩ 18 rfl rfl rfl (Nat.le_of_ble_eq_true rfl) dX1_nextKnot_25 ⟨by decide, by decide⟩ rfl rfl ?_
    cases hm
    exact j_iret C hR dX1_nextKnot_28
def rmX1_findPath : Room := { frames := 3, cells := 0, slots := 0, locals := 76 }
theorem wd_X1_findPath : yX1_findPath.cls ≠ "java/lang/invoke/MethodHandle" ∧ yX1_findPath.cls ≠ "java/lang/invoke/VarHandle" ∧ (parseMethodDescriptor yX1_findPath.desc).map (fun d => d.parameters.length) = some 3 := by decide +kernel
def mX1_findPath_195 (N : Nat) (k37 : USt → Int32 → Int32 → Int32 → Option (Int32 × USt)) (u : USt) (x3 : Int32) (x4 : Int32) (x5 : Int32) : Option (Int32 × USt) := k37 u x3 x4 (x5 + 1)
set_option maxRecDepth 100000 in
set_option maxHeartbeats 4000000 in
theorem kX1_findPath_195 {l : Launch} {D : va_G} {cI cO cR : ClassId} {q : Nat → Nat} {t0 : Nat} {b : BSt} {G : Gx} {N : Nat} {rr : (Int32 × USt)} (C : jC l rmX1_findPath D (tX cI cO cR) G cX1_findPath 8 RX1) (hR : jR D (tX cI cO cR) G (0, 0) (some .int) (some (.int rr.1)) (wX cI cO cR q t0 rr.2 b)) (k37 : USt → Int32 → Int32 → Int32 → Option (Int32 × USt)) (K37 : ∀ (u : USt) (x3 : Int32) (x4 : Int32) (x5 : Int32), k37 u x3 x4 x5 = some rr → J l rmX1_findPath D G (0, 0) (wX cI cO cR q t0 u b) [(0, .ref (q 18)), (1, .ref (q 12)), (3, .int x3), (4, .int x4), (5, .int x5)] [] 37) (u : USt) (x3 : Int32) (x4 : Int32) (x5 : Int32) (hm : mX1_findPath_195 N k37 u x3 x4 x5 = some rr) : J l rmX1_findPath D G (0, 0) (wX cI cO cR q t0 u b) [(0, .ref (q 18)), (1, .ref (q 12)), (3, .int x3), (4, .int x4), (5, .int x5)] [] 195 := by
  unfold mX1_findPath_195 at hm
  refine j_iinc (v := (x5 + 1)) C dX1_findPath_195 4 rfl rfl (by decide) rfl ?_
  refine j_goto (tgt := 37) C dX1_findPath_198 (by decide) ?_
  exact J.sub [1, 2, 3, 4, 0] rfl (K37 u x3 x4 (x5 + 1) hm)
def mX1_findPath_161 (N : Nat) (k37 : USt → Int32 → Int32 → Int32 → Option (Int32 × USt)) (u : USt) (x3 : Int32) (x4 : Int32) (x5 : Int32) (x6 : Int32) : Option (Int32 × USt) := rdX u 21 x6 (fun ra1 => wrX 21 x6 (fun i2 => nm (saX u 21 i2 (ra1 + 1)) (fun u3 => mX1_findPath_195 N k37 u3 x3 x4 x5)))
set_option maxRecDepth 100000 in
set_option maxHeartbeats 4000000 in
theorem kX1_findPath_161 {l : Launch} {D : va_G} {cI cO cR : ClassId} {q : Nat → Nat} {t0 : Nat} {b : BSt} {G : Gx} {N : Nat} {rr : (Int32 × USt)} (C : jC l rmX1_findPath D (tX cI cO cR) G cX1_findPath 8 RX1) (hR : jR D (tX cI cO cR) G (0, 0) (some .int) (some (.int rr.1)) (wX cI cO cR q t0 rr.2 b)) (k37 : USt → Int32 → Int32 → Int32 → Option (Int32 × USt)) (K37 : ∀ (u : USt) (x3 : Int32) (x4 : Int32) (x5 : Int32), k37 u x3 x4 x5 = some rr → J l rmX1_findPath D G (0, 0) (wX cI cO cR q t0 u b) [(0, .ref (q 18)), (1, .ref (q 12)), (3, .int x3), (4, .int x4), (5, .int x5)] [] 37) (u : USt) (x3 : Int32) (x4 : Int32) (x5 : Int32) (x6 : Int32) (hm : mX1_findPath_161 N k37 u x3 x4 x5 x6 = some rr) : J l rmX1_findPath D G (0, 0) (wX cI cO cR q t0 u b) [(0, .ref (q 18)), (1, .ref (q 12)), (3, .int x3), (4, .int x4), (5, .int x5), (6, .int x6)] [] 161 := by
  unfold mX1_findPath_161 at hm
  refine j_aload_n C dX1_findPath_161 rfl 0 rfl ?_
  refine jX_g18_2_X1 C dX1_findPath_162 ?_
  refine j_iload C dX1_findPath_165 5 rfl ?_
  refine j_dup2_11 C dX1_findPath_167 rfl rfl ?_
  refine jX_L C dX1_findPath_168 hm (fun ra1 hm => ?_)
  refine j_iconst (v := 1) C dX1_findPath_169 (by decide) ?_
  refine j_iadd C dX1_findPath_170 ?_
  refine jX_S C dX1_findPath_171 hm (fun u3 hm => ?_)
  refine j_goto (tgt := 195) C dX1_findPath_172 (by decide) ?_
  exact J.sub [0, 1, 2, 3, 4] rfl (kX1_findPath_195 C hR k37 K37 u3 x3 x4 x5 hm)
def mX1_findPath_201 (N : Nat) (u : USt) : Option (Int32 × USt) := some (0, u)
set_option maxRecDepth 100000 in
set_option maxHeartbeats 4000000 in
theorem kX1_findPath_201 {l : Launch} {D : va_G} {cI cO cR : ClassId} {q : Nat → Nat} {t0 : Nat} {b : BSt} {G : Gx} {N : Nat} {rr : (Int32 × USt)} (C : jC l rmX1_findPath D (tX cI cO cR) G cX1_findPath 8 RX1) (hR : jR D (tX cI cO cR) G (0, 0) (some .int) (some (.int rr.1)) (wX cI cO cR q t0 rr.2 b))  (u : USt) (hm : mX1_findPath_201 N u = some rr) : J l rmX1_findPath D G (0, 0) (wX cI cO cR q t0 u b) [] [] 201 := by
  unfold mX1_findPath_201 at hm
  refine j_iconst (v := 0) C dX1_findPath_201 (by decide) ?_
  cases hm
  exact j_iret C hR dX1_findPath_202
def mX1_findPath_37 (N : Nat) (k37 : USt → Int32 → Int32 → Int32 → Option (Int32 × USt)) (u : USt) (x3 : Int32) (x4 : Int32) (x5 : Int32) : Option (Int32 × USt) := if 1000000 ≤ x5 then (mX1_findPath_201 N u) else (if x4 ≤ 0 then (mX1_findPath_201 N u) else (rdX u 23 (x4 - 1) (fun ra1 => if ¬ (ra1 / 61) = x3 then (rdX u 21 ra1 (fun ra2 => if ra2 < 22 then (rdX u 21 ra1 (fun ra3 => (mX1_nextKnot N u ra1 ra3).bind (fun r4 => if r4 = (-1) then (mX1_findPath_161 N k37 u x3 x4 x5 ra1) else (rdX u 22 r4 (fun ra5 => if ¬ ra5 = 0 then (mX1_findPath_161 N k37 u x3 x4 x5 ra1) else (if x4 < 488 then (wrX 23 x4 (fun i6 => nm (saX u 23 i6 r4) (fun u7 => wrX 22 r4 (fun i8 => nm (saX u7 22 i8 1) (fun u9 => mX1_findPath_195 N k37 u9 x3 (x4 + 1) x5))))) else (mX1_findPath_161 N k37 u x3 x4 x5 ra1))))))) else (wrX 22 ra1 (fun i10 => nm (saX u 22 i10 0) (fun u11 => if (x4 + (-1)) ≤ 0 then (mX1_findPath_195 N k37 u11 x3 (x4 + (-1)) x5) else (rdX u11 23 ((x4 + (-1)) - 1) (fun ra12 => rdX u11 21 ra12 (fun ra13 => wrX 21 ra12 (fun i14 => nm (saX u11 21 i14 (ra13 + 1)) (fun u15 => mX1_findPath_195 N k37 u15 x3 (x4 + (-1)) x5)))))))))) else (some (x4, u)))))
set_option maxRecDepth 100000 in
set_option maxHeartbeats 4000000 in
theorem kX1_findPath_37 {l : Launch} {D : va_G} {cI cO cR : ClassId} {q : Nat → Nat} {t0 : Nat} {b : BSt} {G : Gx} {N : Nat} {rr : (Int32 × USt)} (C : jC l rmX1_findPath D (tX cI cO cR) G cX1_findPath 8 RX1) (hR : jR D (tX cI cO cR) G (0, 0) (some .int) (some (.int rr.1)) (wX cI cO cR q t0 rr.2 b)) (k37 : USt → Int32 → Int32 → Int32 → Option (Int32 × USt)) (K37 : ∀ (u : USt) (x3 : Int32) (x4 : Int32) (x5 : Int32), k37 u x3 x4 x5 = some rr → J l rmX1_findPath D G (0, 0) (wX cI cO cR q t0 u b) [(0, .ref (q 18)), (1, .ref (q 12)), (3, .int x3), (4, .int x4), (5, .int x5)] [] 37) (u : USt) (x3 : Int32) (x4 : Int32) (x5 : Int32) (hm : mX1_findPath_37 N k37 u x3 x4 x5 = some rr) : J l rmX1_findPath D G (0, 0) (wX cI cO cR q t0 u b) [(0, .ref (q 18)), (1, .ref (q 12)), (3, .int x3), (4, .int x4), (5, .int x5)] [] 37 := by
  unfold mX1_findPath_37 at hm
  refine j_iload C dX1_findPath_37 4 rfl ?_
  refine j_ldc C dX1_findPath_39 w4_37 ?_
  refine j_icmp_geq (tgt := 201) C dX1_findPath_41 (by decide) hm (fun hm => ?_) (fun hm => ?_)
  · exact J.sub [] rfl (kX1_findPath_201 C hR u hm)
  · refine j_iload C dX1_findPath_44 3 rfl ?_
    refine j_if_leq (tgt := 201) C dX1_findPath_46 (by decide) hm (fun hm => ?_) (fun hm => ?_)
    · exact J.sub [] rfl (kX1_findPath_201 C hR u hm)
    · refine j_aload_n C dX1_findPath_49 rfl 0 rfl ?_
      refine jX_g18_4_X1 C dX1_findPath_50 ?_
      refine j_iload C dX1_findPath_53 3 rfl ?_
      refine j_iconst (v := 1) C dX1_findPath_55 (by decide) ?_
      refine j_isub C dX1_findPath_56 ?_
      refine jX_L C dX1_findPath_57 hm (fun ra1 hm => ?_)
      refine j_istore C dX1_findPath_58 (by decide) rfl ?_
      refine j_iload C dX1_findPath_60 0 rfl ?_
      refine j_bipush (v := 61) C dX1_findPath_62 (by decide) ?_
      refine j_idiv C dX1_findPath_64 (by decide) ?_
      refine j_iload_n C dX1_findPath_65 rfl 3 rfl ?_
      refine j_icmp_neq (tgt := 72) C dX1_findPath_66 (by decide) hm (fun hm => ?_) (fun hm => ?_)
      · refine j_aload_n C dX1_findPath_72 rfl 1 rfl ?_
        refine jX_g18_2_X1 C dX1_findPath_73 ?_
        refine j_iload C dX1_findPath_76 0 rfl ?_
        refine jX_L C dX1_findPath_78 hm (fun ra2 hm => ?_)
        refine j_bipush (v := 22) C dX1_findPath_79 (by decide) ?_
        refine j_icmp_ltq (tgt := 121) C dX1_findPath_81 (by decide) hm (fun hm => ?_) (fun hm => ?_)
        · refine j_aload_n C dX1_findPath_121 rfl 1 rfl ?_
          refine j_aload_n C dX1_findPath_122 rfl 2 rfl ?_
          refine j_iload C dX1_findPath_123 0 rfl ?_
          refine j_aload_n C dX1_findPath_125 rfl 1 rfl ?_
          refine jX_g18_2_X1 C dX1_findPath_126 ?_
          refine j_iload C dX1_findPath_129 0 rfl ?_
          refine jX_L C dX1_findPath_131 hm (fun ra3 hm => ?_)
          refine j_bind hm (fun r4 hr4 hm => ?_)
          refine j_callV (cs' := (0, 0)) (As := [.ref (q 12), .int ra1, .int ra3]) (rest := []) C (qX1_nextKnot hr4) w4_41 w4_38 w4_40 w0_17 w1_10 wd_X1_nextKnot ⟨by decide, by decide⟩ 18 rfl rfl rfl (Nat.le_of_ble_eq_true rfl) dX1_findPath_132 ⟨by decide, by decide⟩ rfl rfl ?_
          refine j_istore C dX1_findPath_135 (by decide) rfl ?_
          refine j_iload C dX1_findPath_137 0 rfl ?_
          refine j_iconst (v := (-1)) C dX1_findPath_139 (by decide) ?_
          refine j_icmp_eqq (tgt := 161) C dX1_findPath_140 (by decide) hm (fun hm => ?_) (fun hm => ?_)
          · exact J.sub [2, 3, 4, 5, 6, 1] rfl (kX1_findPath_161 C hR k37 K37 u x3 x4 x5 ra1 hm)
          · refine j_aload_n C dX1_findPath_143 rfl 2 rfl ?_
            refine jX_g18_3_X1 C dX1_findPath_144 ?_
            refine j_iload C dX1_findPath_147 0 rfl ?_
            refine jX_L C dX1_findPath_149 hm (fun ra5 hm => ?_)
            refine j_if_neq (tgt := 161) C dX1_findPath_150 (by decide) hm (fun hm => ?_) (fun hm => ?_)
            · exact J.sub [2, 3, 4, 5, 6, 1] rfl (kX1_findPath_161 C hR k37 K37 u x3 x4 x5 ra1 hm)
            · refine j_iload C dX1_findPath_153 5 rfl ?_
              refine j_sipush (v := 488) C dX1_findPath_155 (by decide) ?_
              refine j_icmp_ltq (tgt := 175) C dX1_findPath_158 (by decide) hm (fun hm => ?_) (fun hm => ?_)
              · refine j_aload_n C dX1_findPath_175 rfl 2 rfl ?_
                refine jX_g18_4_X1 C dX1_findPath_176 ?_
                refine j_iload C dX1_findPath_179 5 rfl ?_
                refine j_iinc (v := (x4 + 1)) C dX1_findPath_181 5 rfl rfl (by decide) rfl ?_
                refine j_iload C dX1_findPath_184 1 rfl ?_
                refine jX_S C dX1_findPath_186 hm (fun u7 hm => ?_)
                refine j_aload_n C dX1_findPath_187 rfl 3 rfl ?_
                refine jX_g18_3_X1 C dX1_findPath_188 ?_
                refine j_iload C dX1_findPath_191 1 rfl ?_
                refine j_iconst (v := 1) C dX1_findPath_193 (by decide) ?_
                refine jX_S C dX1_findPath_194 hm (fun u9 hm => ?_)
                exact J.sub [3, 4, 5, 0, 6] rfl (kX1_findPath_195 C hR k37 K37 u9 x3 (x4 + 1) x5 hm)
              · exact J.sub [2, 3, 4, 5, 6, 1] rfl (kX1_findPath_161 C hR k37 K37 u x3 x4 x5 ra1 hm)
        · refine j_aload_n C dX1_findPath_84 rfl 1 rfl ?_
          refine jX_g18_3_X1 C dX1_findPath_85 ?_
          refine j_iload C dX1_findPath_88 0 rfl ?_
          refine j_iconst (v := 0) C dX1_findPath_90 (by decide) ?_
          refine jX_S C dX1_findPath_91 hm (fun u11 hm => ?_)
          refine j_iinc (v := (x4 + (-1))) C dX1_findPath_92 4 rfl rfl (by decide) rfl ?_
          refine j_iload C dX1_findPath_95 0 rfl ?_
          refine j_if_leq (tgt := 195) C dX1_findPath_97 (by decide) hm (fun hm => ?_) (fun hm => ?_)
          · exact J.sub [2, 3, 4, 0, 5] rfl (kX1_findPath_195 C hR k37 K37 u11 x3 (x4 + (-1)) x5 hm)
          · refine j_aload_n C dX1_findPath_100 rfl 2 rfl ?_
            refine jX_g18_2_X1 C dX1_findPath_101 ?_
            refine j_aload_n C dX1_findPath_104 rfl 2 rfl ?_
            refine jX_g18_4_X1 C dX1_findPath_105 ?_
            refine j_iload C dX1_findPath_108 0 rfl ?_
            refine j_iconst (v := 1) C dX1_findPath_110 (by decide) ?_
            refine j_isub C dX1_findPath_111 ?_
            refine jX_L C dX1_findPath_112 hm (fun ra12 hm => ?_)
            refine j_dup2_11 C dX1_findPath_113 rfl rfl ?_
            refine jX_L C dX1_findPath_114 hm (fun ra13 hm => ?_)
            refine j_iconst (v := 1) C dX1_findPath_115 (by decide) ?_
            refine j_iadd C dX1_findPath_116 ?_
            refine jX_S C dX1_findPath_117 hm (fun u15 hm => ?_)
            refine j_goto (tgt := 195) C dX1_findPath_118 (by decide) ?_
            exact J.sub [2, 3, 4, 0, 5] rfl (kX1_findPath_195 C hR k37 K37 u15 x3 (x4 + (-1)) x5 hm)
      · refine j_iload C dX1_findPath_69 4 rfl ?_
        cases hm
        exact j_iret C hR dX1_findPath_71
def mX1_findPath_h37 (N : Nat) : Nat → USt → Int32 → Int32 → Int32 → Option (Int32 × USt)
  | 0, _, _, _, _ => none
  | n + 1, u, x3, x4, x5 => mX1_findPath_37 N (mX1_findPath_h37 N n) u x3 x4 x5
theorem kX1_findPath_h37 {l : Launch} {D : va_G} {cI cO cR : ClassId} {q : Nat → Nat} {t0 : Nat} {b : BSt} {G : Gx} {N : Nat} {rr : (Int32 × USt)} (C : jC l rmX1_findPath D (tX cI cO cR) G cX1_findPath 8 RX1) (hR : jR D (tX cI cO cR) G (0, 0) (some .int) (some (.int rr.1)) (wX cI cO cR q t0 rr.2 b))  : ∀ (n : Nat) (u : USt) (x3 : Int32) (x4 : Int32) (x5 : Int32), mX1_findPath_h37 N n u x3 x4 x5 = some rr → J l rmX1_findPath D G (0, 0) (wX cI cO cR q t0 u b) [(0, .ref (q 18)), (1, .ref (q 12)), (3, .int x3), (4, .int x4), (5, .int x5)] [] 37 := by
  intro n
  induction n with
  | zero =>
    intro u x3 x4 x5 hm
    have hm : (none : Option (Int32 × USt)) = some rr := hm
    cases hm
  | succ n ih =>
    intro u x3 x4 x5 hm
    exact kX1_findPath_37 C hR _ ih u x3 x4 x5 hm
def mX1_findPath (N : Nat) (u : USt) (x2 : Int32) (x3 : Int32) : Option (Int32 × USt) := (mJ7_fill_53178 N u 22 0).bind (fun u2 => (mX1_knot N x2 0).bind (fun r3 => wrX 23 0 (fun i4 => nm (saX u2 23 i4 r3) (fun u5 => rdX u5 23 0 (fun ra6 => wrX 22 ra6 (fun i7 => nm (saX u5 22 i7 1) (fun u8 => mX1_findPath_h37 N N u8 x3 1 0)))))))
set_option maxRecDepth 100000 in
set_option maxHeartbeats 4000000 in
theorem qX1_findPath {l : Launch} {D : va_G} {cI cO cR : ClassId} {q : Nat → Nat} {t0 : Nat} {u : USt} {b : BSt} {N : Nat} {x2 : Int32} {x3 : Int32} {rr : (Int32 × USt)} (hm : mX1_findPath N u x2 x3 = some rr) : Con l D (tX cI cO cR) yX1_findPath (wS yX1_findPath cX1_findPath 8 (some .int)) rmX1_findPath [.ref (q 18), .ref (q 12), .int x2, .int x3] (wX cI cO cR q t0 u b) (some (.int rr.1)) (wX cI cO cR q t0 rr.2 b) := by
  refine Con.of (by decide +kernel) (Nat.le_of_ble_eq_true rfl) (fun G C hR => ?_)
  unfold mX1_findPath at hm
  show J l rmX1_findPath D G (0, 0) (wX cI cO cR q t0 u b) [(0, .ref (q 18)), (1, .ref (q 12)), (2, .int x2), (3, .int x3)] [] 0
  refine j_aload_n C dX1_findPath_0 rfl 0 rfl ?_
  refine jX_g18_3_X1 C dX1_findPath_1 ?_
  refine j_iconst (v := 0) C dX1_findPath_4 (by decide) ?_
  refine j_bind hm (fun u2 hr1 hm => ?_)
  refine j_callSW (cs' := (0, 0)) (As := [.ref (q 22), .int 0]) (rest := []) C (qJ7_fill_53178 hr1) w3_178 w4_25 w3_177 w1_15 wd_J7_fill_53178 ⟨by decide, by decide⟩ rfl (Nat.le_of_ble_eq_true rfl) dX1_findPath_5 ⟨by decide, by decide⟩ rfl rfl ?_
  refine j_iconst (v := 1) C dX1_findPath_8 (by decide) ?_
  refine j_istore C dX1_findPath_9 (by decide) rfl ?_
  refine j_aload_n C dX1_findPath_11 rfl 1 rfl ?_
  refine jX_g18_4_X1 C dX1_findPath_12 ?_
  refine j_iconst (v := 0) C dX1_findPath_15 (by decide) ?_
  refine j_iload_n C dX1_findPath_16 rfl 3 rfl ?_
  refine j_iconst (v := 0) C dX1_findPath_17 (by decide) ?_
  refine j_bind hm (fun r3 hr3 hm => ?_)
  refine j_callS (cs' := (0, 0)) (As := [.int x2, .int 0]) (rest := [.int 0, .ref (q 23)]) C (qX1_knot hr3) w4_36 w4_34 w4_35 w1_10 wd_X1_knot ⟨by decide, by decide⟩ rfl (Nat.le_of_ble_eq_true rfl) dX1_findPath_18 ⟨by decide, by decide⟩ rfl rfl ?_
  refine jX_S C dX1_findPath_21 hm (fun u5 hm => ?_)
  refine j_aload_n C dX1_findPath_22 rfl 1 rfl ?_
  refine jX_g18_3_X1 C dX1_findPath_23 ?_
  refine j_aload_n C dX1_findPath_26 rfl 1 rfl ?_
  refine jX_g18_4_X1 C dX1_findPath_27 ?_
  refine j_iconst (v := 0) C dX1_findPath_30 (by decide) ?_
  refine jX_L C dX1_findPath_31 hm (fun ra6 hm => ?_)
  refine j_iconst (v := 1) C dX1_findPath_32 (by decide) ?_
  refine jX_S C dX1_findPath_33 hm (fun u8 hm => ?_)
  refine j_iconst (v := 0) C dX1_findPath_34 (by decide) ?_
  refine j_istore C dX1_findPath_35 (by decide) rfl ?_
  exact J.sub [2, 3, 5, 1, 0] rfl (kX1_findPath_h37 C hR N u8 x3 1 0 hm)
def rmX1_send : Room := { frames := 1, cells := 0, slots := 0, locals := 21 }
theorem wd_X1_send : yX1_send.cls ≠ "java/lang/invoke/MethodHandle" ∧ yX1_send.cls ≠ "java/lang/invoke/VarHandle" ∧ (parseMethodDescriptor yX1_send.desc).map (fun d => d.parameters.length) = some 3 := by decide +kernel
def mX1_send_148 (N : Nat) (u : USt) : Option USt := some u
set_option maxRecDepth 100000 in
set_option maxHeartbeats 4000000 in
theorem kX1_send_148 {l : Launch} {D : va_G} {cI cO cR : ClassId} {q : Nat → Nat} {t0 : Nat} {b : BSt} {G : Gx} {N : Nat} {rr : USt} (C : jC l rmX1_send D (tX cI cO cR) G cX1_send 8 RX1) (hR : jR D (tX cI cO cR) G (0, 0) none none (wX cI cO cR q t0 rr b))  (u : USt) (hm : mX1_send_148 N u = some rr) : J l rmX1_send D G (0, 0) (wX cI cO cR q t0 u b) [] [] 148 := by
  unfold mX1_send_148 at hm
  cases hm
  exact j_vret C hR dX1_send_148
def mX1_send_128 (N : Nat) (u : USt) : Option USt := mX1_send_148 N u
set_option maxRecDepth 100000 in
set_option maxHeartbeats 4000000 in
theorem kX1_send_128 {l : Launch} {D : va_G} {cI cO cR : ClassId} {q : Nat → Nat} {t0 : Nat} {b : BSt} {G : Gx} {N : Nat} {rr : USt} (C : jC l rmX1_send D (tX cI cO cR) G cX1_send 8 RX1) (hR : jR D (tX cI cO cR) G (0, 0) none none (wX cI cO cR q t0 rr b))  (u : USt) (hm : mX1_send_128 N u = some rr) : J l rmX1_send D G (0, 0) (wX cI cO cR q t0 u b) [] [] 128 := by
  unfold mX1_send_128 at hm
  refine j_goto (tgt := 148) C dX1_send_128 (by decide) ?_
  exact kX1_send_148 C hR u hm
def mX1_send_126 (N : Nat) (u : USt) (s0 : Int32) (s1 : Int32) (s2 : Int32) (t3 : Nat) : Option USt := wrX t3 s2 (fun i1 => nm (saX u t3 i1 (s1 ^^^ s0)) (fun u2 => mX1_send_128 N u2))
set_option maxRecDepth 100000 in
set_option maxHeartbeats 4000000 in
theorem kX1_send_126 {l : Launch} {D : va_G} {cI cO cR : ClassId} {q : Nat → Nat} {t0 : Nat} {b : BSt} {G : Gx} {N : Nat} {rr : USt} (C : jC l rmX1_send D (tX cI cO cR) G cX1_send 8 RX1) (hR : jR D (tX cI cO cR) G (0, 0) none none (wX cI cO cR q t0 rr b))  (u : USt) (s0 : Int32) (s1 : Int32) (s2 : Int32) (t3 : Nat) (hm : mX1_send_126 N u s0 s1 s2 t3 = some rr) : J l rmX1_send D G (0, 0) (wX cI cO cR q t0 u b) [] [.int s0, .int s1, .int s2, .ref (q t3)] 126 := by
  unfold mX1_send_126 at hm
  refine j_ixor C dX1_send_126 ?_
  refine jX_S C dX1_send_127 hm (fun u2 hm => ?_)
  exact kX1_send_128 C hR u2 hm
def mX1_send_46 (N : Nat) (u : USt) (s0 : Int32) (s1 : Int32) (s2 : Int32) (t3 : Nat) : Option USt := wrX t3 s2 (fun i1 => nm (saX u t3 i1 (s1 ^^^ s0)) (fun u2 => mX1_send_148 N u2))
set_option maxRecDepth 100000 in
set_option maxHeartbeats 4000000 in
theorem kX1_send_46 {l : Launch} {D : va_G} {cI cO cR : ClassId} {q : Nat → Nat} {t0 : Nat} {b : BSt} {G : Gx} {N : Nat} {rr : USt} (C : jC l rmX1_send D (tX cI cO cR) G cX1_send 8 RX1) (hR : jR D (tX cI cO cR) G (0, 0) none none (wX cI cO cR q t0 rr b))  (u : USt) (s0 : Int32) (s1 : Int32) (s2 : Int32) (t3 : Nat) (hm : mX1_send_46 N u s0 s1 s2 t3 = some rr) : J l rmX1_send D G (0, 0) (wX cI cO cR q t0 u b) [] [.int s0, .int s1, .int s2, .ref (q t3)] 46 := by
  unfold mX1_send_46 at hm
  refine j_ixor C dX1_send_46 ?_
  refine jX_S C dX1_send_47 hm (fun u2 hm => ?_)
  refine j_goto (tgt := 148) C dX1_send_48 (by decide) ?_
  exact kX1_send_148 C hR u2 hm
def mX1_send (N : Nat) (u : USt) (x2 : Int32) (x3 : Int32) : Option USt := nm (x2 / 61) (fun v1 => nm (x2 - x2 / 61 * 61) (fun v2 => if 10 ≤ x3 then (if ¬ x3 = 10 then (if 21 ≤ x3 then (if v2 ≤ 0 then (mX1_send_148 N u) else (rdX u 20 (x2 - 1) (fun ra3 => wrX 20 (x2 - 1) (fun i4 => nm (saX u 20 i4 (ra3 - 1)) (fun u5 => mX1_send_148 N u5))))) else (nm (x3 - 11) (fun v6 => (mX9_pace N u).bind (fun r7 => nm (v2 - r7) (fun v8 => if v8 < 0 then (mX1_send_128 N u) else (rdX u 19 ((v6 * 61) + v8) (fun ra9 => (mX9_pivot N u v6).bind (fun r10 => if ¬ v1 = r10 then (mX1_send_126 N u 1 ra9 ((v6 * 61) + v8) 19) else (mX1_send_126 N u 2 ra9 ((v6 * 61) + v8) 19))))))))) else (rdX u 20 x2 (fun ra11 => wrX 20 x2 (fun i12 => nm (saX u 20 i12 (ra11 + 1)) (fun u13 => mX1_send_148 N u13))))) else (rdX u 19 ((x3 * 61) + v2) (fun ra14 => (mX9_pivot N u x3).bind (fun r15 => if ¬ v1 = r15 then (mX1_send_46 N u 2 ra14 ((x3 * 61) + v2) 19) else (mX1_send_46 N u 1 ra14 ((x3 * 61) + v2) 19))))))
set_option maxRecDepth 100000 in
set_option maxHeartbeats 4000000 in
theorem qX1_send {l : Launch} {D : va_G} {cI cO cR : ClassId} {q : Nat → Nat} {t0 : Nat} {u : USt} {b : BSt} {N : Nat} {x2 : Int32} {x3 : Int32} {rr : USt} (hm : mX1_send N u x2 x3 = some rr) : Con l D (tX cI cO cR) yX1_send (wS yX1_send cX1_send 8 none) rmX1_send [.ref (q 18), .ref (q 12), .int x2, .int x3] (wX cI cO cR q t0 u b) none (wX cI cO cR q t0 rr b) := by
  refine Con.of (by decide +kernel) (Nat.le_of_ble_eq_true rfl) (fun G C hR => ?_)
  unfold mX1_send at hm
  show J l rmX1_send D G (0, 0) (wX cI cO cR q t0 u b) [(0, .ref (q 18)), (1, .ref (q 12)), (2, .int x2), (3, .int x3)] [] 0
  refine j_iload_n C dX1_send_0 rfl 2 rfl ?_
  refine j_bipush (v := 61) C dX1_send_1 (by decide) ?_
  refine j_idiv C dX1_send_3 (by decide) ?_
  refine j_nmi hm (fun v1 hm => ?_)
  refine j_istore C dX1_send_4 (by decide) rfl ?_
  refine j_iload_n C dX1_send_6 rfl 3 rfl ?_
  refine j_bipush (v := 61) C dX1_send_7 (by decide) ?_
  refine j_irem C dX1_send_9 (by decide) ?_
  refine j_nmi hm (fun v2 hm => ?_)
  refine j_istore C dX1_send_10 (by decide) rfl ?_
  refine j_iload_n C dX1_send_12 rfl 5 rfl ?_
  refine j_bipush (v := 10) C dX1_send_13 (by decide) ?_
  refine j_icmp_geq (tgt := 51) C dX1_send_15 (by decide) hm (fun hm => ?_) (fun hm => ?_)
  · refine j_iload_n C dX1_send_51 rfl 5 rfl ?_
    refine j_bipush (v := 10) C dX1_send_52 (by decide) ?_
    refine j_icmp_neq (tgt := 70) C dX1_send_54 (by decide) hm (fun hm => ?_) (fun hm => ?_)
    · refine j_iload_n C dX1_send_70 rfl 5 rfl ?_
      refine j_bipush (v := 21) C dX1_send_71 (by decide) ?_
      refine j_icmp_geq (tgt := 131) C dX1_send_73 (by decide) hm (fun hm => ?_) (fun hm => ?_)
      · refine j_iload C dX1_send_131 0 rfl ?_
        refine j_if_leq (tgt := 148) C dX1_send_133 (by decide) hm (fun hm => ?_) (fun hm => ?_)
        · exact J.sub [] rfl (kX1_send_148 C hR u hm)
        · refine j_aload_n C dX1_send_136 rfl 2 rfl ?_
          refine jX_g18_1_X1 C dX1_send_137 ?_
          refine j_iload_n C dX1_send_140 rfl 4 rfl ?_
          refine j_iconst (v := 1) C dX1_send_141 (by decide) ?_
          refine j_isub C dX1_send_142 ?_
          refine j_dup2_11 C dX1_send_143 rfl rfl ?_
          refine jX_L C dX1_send_144 hm (fun ra3 hm => ?_)
          refine j_iconst (v := 1) C dX1_send_145 (by decide) ?_
          refine j_isub C dX1_send_146 ?_
          refine jX_S C dX1_send_147 hm (fun u5 hm => ?_)
          exact J.sub [] rfl (kX1_send_148 C hR u5 hm)
      · refine j_iload_n C dX1_send_76 rfl 5 rfl ?_
        refine j_bipush (v := 11) C dX1_send_77 (by decide) ?_
        refine j_isub C dX1_send_79 ?_
        refine j_nmi hm (fun v6 hm => ?_)
        refine j_istore C dX1_send_80 (by decide) rfl ?_
        refine j_iload C dX1_send_82 1 rfl ?_
        refine j_aload_n C dX1_send_84 rfl 4 rfl ?_
        refine j_bind hm (fun r7 hr7 hm => ?_)
        refine j_callV (cs' := (0, 0)) (As := []) (rest := [.int v2]) C (qX9_pace hr7) w4_54 w4_51 w4_52 w4_53 w1_9 wd_X9_pace ⟨by decide, by decide⟩ 12 rfl rfl rfl (Nat.le_of_ble_eq_true rfl) dX1_send_85 ⟨by decide, by decide⟩ rfl rfl ?_
        refine j_isub C dX1_send_88 ?_
        refine j_nmi hm (fun v8 hm => ?_)
        refine j_istore C dX1_send_89 (by decide) rfl ?_
        refine j_iload C dX1_send_91 0 rfl ?_
        refine j_if_ltq (tgt := 128) C dX1_send_93 (by decide) hm (fun hm => ?_) (fun hm => ?_)
        · exact J.sub [] rfl (kX1_send_128 C hR u hm)
        · refine j_aload_n C dX1_send_96 rfl 4 rfl ?_
          refine jX_g18_0_X1 C dX1_send_97 ?_
          refine j_iload C dX1_send_100 1 rfl ?_
          refine j_bipush (v := 61) C dX1_send_102 (by decide) ?_
          refine j_imul C dX1_send_104 ?_
          refine j_iload C dX1_send_105 0 rfl ?_
          refine j_iadd C dX1_send_107 ?_
          refine j_dup2_11 C dX1_send_108 rfl rfl ?_
          refine jX_L C dX1_send_109 hm (fun ra9 hm => ?_)
          refine j_iload C dX1_send_110 3 rfl ?_
          refine j_aload_n C dX1_send_112 rfl 5 rfl ?_
          refine j_iload C dX1_send_113 1 rfl ?_
          refine j_bind hm (fun r10 hr10 hm => ?_)
          refine j_callV (cs' := (0, 0)) (As := [.int v6]) (rest := [.int v1, .int ra9, .int ((v6 * 61) + v8), .ref (q 19)]) C (qX9_pivot hr10) w4_50 w4_47 w4_48 w4_49 w1_9 wd_X9_pivot ⟨by decide, by decide⟩ 12 rfl rfl rfl (Nat.le_of_ble_eq_true rfl) dX1_send_115 ⟨by decide, by decide⟩ rfl rfl ?_
          refine j_icmp_neq (tgt := 125) C dX1_send_118 (by decide) hm (fun hm => ?_) (fun hm => ?_)
          · refine j_iconst (v := 1) C dX1_send_125 (by decide) ?_
            exact J.sub [] rfl (kX1_send_126 C hR u 1 ra9 ((v6 * 61) + v8) 19 hm)
          · refine j_iconst (v := 2) C dX1_send_121 (by decide) ?_
            refine j_goto (tgt := 126) C dX1_send_122 (by decide) ?_
            exact J.sub [] rfl (kX1_send_126 C hR u 2 ra9 ((v6 * 61) + v8) 19 hm)
    · refine j_aload_n C dX1_send_57 rfl 2 rfl ?_
      refine jX_g18_1_X1 C dX1_send_58 ?_
      refine j_iload_n C dX1_send_61 rfl 4 rfl ?_
      refine j_dup2_11 C dX1_send_62 rfl rfl ?_
      refine jX_L C dX1_send_63 hm (fun ra11 hm => ?_)
      refine j_iconst (v := 1) C dX1_send_64 (by decide) ?_
      refine j_iadd C dX1_send_65 ?_
      refine jX_S C dX1_send_66 hm (fun u13 hm => ?_)
      refine j_goto (tgt := 148) C dX1_send_67 (by decide) ?_
      exact J.sub [] rfl (kX1_send_148 C hR u13 hm)
  · refine j_aload_n C dX1_send_18 rfl 2 rfl ?_
    refine jX_g18_0_X1 C dX1_send_19 ?_
    refine j_iload_n C dX1_send_22 rfl 5 rfl ?_
    refine j_bipush (v := 61) C dX1_send_23 (by decide) ?_
    refine j_imul C dX1_send_25 ?_
    refine j_iload C dX1_send_26 0 rfl ?_
    refine j_iadd C dX1_send_28 ?_
    refine j_dup2_11 C dX1_send_29 rfl rfl ?_
    refine jX_L C dX1_send_30 hm (fun ra14 hm => ?_)
    refine j_iload C dX1_send_31 1 rfl ?_
    refine j_aload_n C dX1_send_33 rfl 3 rfl ?_
    refine j_iload_n C dX1_send_34 rfl 5 rfl ?_
    refine j_bind hm (fun r15 hr15 hm => ?_)
    refine j_callV (cs' := (0, 0)) (As := [.int x3]) (rest := [.int v1, .int ra14, .int ((x3 * 61) + v2), .ref (q 19)]) C (qX9_pivot hr15) w4_50 w4_47 w4_48 w4_49 w1_9 wd_X9_pivot ⟨by decide, by decide⟩ 12 rfl rfl rfl (Nat.le_of_ble_eq_true rfl) dX1_send_35 ⟨by decide, by decide⟩ rfl rfl ?_
    refine j_icmp_neq (tgt := 45) C dX1_send_38 (by decide) hm (fun hm => ?_) (fun hm => ?_)
    · refine j_iconst (v := 2) C dX1_send_45 (by decide) ?_
      exact J.sub [] rfl (kX1_send_46 C hR u 2 ra14 ((x3 * 61) + v2) 19 hm)
    · refine j_iconst (v := 1) C dX1_send_41 (by decide) ?_
      refine j_goto (tgt := 46) C dX1_send_42 (by decide) ?_
      exact J.sub [] rfl (kX1_send_46 C hR u 1 ra14 ((x3 * 61) + v2) 19 hm)
