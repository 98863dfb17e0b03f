def rmM_whereIn : Room := { frames := 2, cells := 0, slots := 0, locals := 44 }
theorem wd_X11_whereIn : yX11_whereIn.cls ≠ "java/lang/invoke/MethodHandle" ∧ yX11_whereIn.cls ≠ "java/lang/invoke/VarHandle" ∧ (parseMethodDescriptor yX11_whereIn.desc).map (fun d => d.parameters.length) = some 2 := by decide +kernel
def mM_whereIn (N : Nat) (u : MSt) (x1 : Int32) (x2 : Int32) : Option Int32 := (mM_roundOf N u x1).bind (fun r1 => rd (u.2.1 5) 100 ((10 * x1) + 8) (fun a2 => gd (¬ r1 = 0) (gd (¬ r1 = 0) (some ((((x2 + a2) - (x2 + a2) / r1 * r1) + r1) - (((x2 + a2) - (x2 + a2) / r1 * r1) + r1) / r1 * r1)))))
set_option maxRecDepth 100000 in
set_option maxHeartbeats 4000000 in
theorem cM_whereIn {l : Launch} {D : va_G} {cI : ClassId} {o : Nat} {q : Nat → Nat} {u : MSt} {N : Nat} {x1 : Int32} {x2 : Int32} {rr : Int32} (hm : mM_whereIn N u x1 x2 = some rr) : Con l D [(cI, .int)] yX11_whereIn (wS yX11_whereIn cX11_whereIn 4 (some .int)) rmM_whereIn [.ref o, .int x1, .int x2] (wM cI o q u) (some (.int rr)) (wM cI o q u) := by
  refine Con.of (by decide +kernel) (Nat.le_of_ble_eq_true rfl) (fun G C hR => ?_)
  unfold mM_whereIn at hm
  show J l rmM_whereIn D G (0, 0) (wM cI o q u) [(0, .ref o), (1, .int x1), (2, .int x2)] [] 0
  refine j_aload_n C dX11_whereIn_0 rfl 0 rfl ?_
  refine j_iload_n C dX11_whereIn_1 rfl 1 rfl ?_
  refine j_bind hm (fun r1 hr1 hm => ?_)
  refine j_callV (cs' := (0, 0)) (As := [.int x1]) (rest := []) C (cM_roundOf hr1) wc_X11_roundOf wm_X11_121 wi_X11_roundOf ws_X11_roundOf wn_X11 wd_X11_roundOf ⟨by decide, by decide⟩ 0 rfl rfl rfl (Nat.le_of_ble_eq_true rfl) dX11_whereIn_2 ⟨by decide, by decide⟩ rfl rfl ?_
  refine j_istore_n C dX11_whereIn_5 rfl (by decide) rfl ?_
  refine j_iload_n C dX11_whereIn_6 rfl 3 rfl ?_
  refine j_aload_n C dX11_whereIn_7 rfl 1 rfl ?_
  refine jM_g5 C dX11_whereIn_8 ?_
  refine j_bipush (v := 10) C dX11_whereIn_11 (by decide) ?_
  refine j_iload_n C dX11_whereIn_13 rfl 2 rfl ?_
  refine j_imul C dX11_whereIn_14 ?_
  refine j_bipush (v := 8) C dX11_whereIn_15 (by decide) ?_
  refine j_iadd C dX11_whereIn_17 ?_
  refine jM_L5 C dX11_whereIn_18 hm (fun a2 hm => ?_)
  refine j_iadd C dX11_whereIn_19 ?_
  refine j_iload_n C dX11_whereIn_20 rfl 0 rfl ?_
  obtain ⟨g, hm⟩ := gd_some hm
  refine j_irem C dX11_whereIn_21 g ?_
  refine j_iload_n C dX11_whereIn_22 rfl 0 rfl ?_
  refine j_iadd C dX11_whereIn_23 ?_
  refine j_iload_n C dX11_whereIn_24 rfl 0 rfl ?_
  obtain ⟨g, hm⟩ := gd_some hm
  refine j_irem C dX11_whereIn_25 g ?_
  cases hm
  exact j_iret C hR dX11_whereIn_26
def rmM_joinsNow : Room := { frames := 3, cells := 0, slots := 0, locals := 67 }
theorem wd_X11_joinsNow : yX11_joinsNow.cls ≠ "java/lang/invoke/MethodHandle" ∧ yX11_joinsNow.cls ≠ "java/lang/invoke/VarHandle" ∧ (parseMethodDescriptor yX11_joinsNow.desc).map (fun d => d.parameters.length) = some 2 := by decide +kernel
def mM_joinsNow_152 (N : Nat) (u : MSt) (s0 : Int32) : Option Int32 := some s0
set_option maxRecDepth 100000 in
set_option maxHeartbeats 4000000 in
theorem kM_joinsNow_152 {l : Launch} {D : va_G} {cI : ClassId} {o : Nat} {q : Nat → Nat} {u : MSt} {G : Gx} {N : Nat} {rr : Int32} (C : jC l rmM_joinsNow D [(cI, .int)] G cX11_joinsNow 7 RX11) (hR : jR D [(cI, .int)] G (0, 0) (some .int) (some (.int rr)) (wM cI o q u))  (s0 : Int32) (hm : mM_joinsNow_152 N u s0 = some rr) : J l rmM_joinsNow D G (0, 0) (wM cI o q u) [] [.int s0] 152 := by
  unfold mM_joinsNow_152 at hm
  cases hm
  exact j_iret C hR dX11_joinsNow_152
def mM_joinsNow_110 (N : Nat) (u : MSt) (x1 : Int32) (x3 : Int32) (s0 : Int32) : Option Int32 := (mM_placeOf N u x1).bind (fun r1 => gd (¬ r1 = 0) (rd (u.2.1 5) 100 ((10 * x1) + 6) (fun a2 => if a2 ≤ (x3 - x3 / r1 * r1) then (mM_joinsNow_152 N u (-1)) else (rd (u.2.1 5) 100 (((10 * x1) + 3) + s0) (fun a3 => mM_joinsNow_152 N u a3)))))
set_option maxRecDepth 100000 in
set_option maxHeartbeats 4000000 in
theorem kM_joinsNow_110 {l : Launch} {D : va_G} {cI : ClassId} {o : Nat} {q : Nat → Nat} {u : MSt} {G : Gx} {N : Nat} {rr : Int32} (C : jC l rmM_joinsNow D [(cI, .int)] G cX11_joinsNow 7 RX11) (hR : jR D [(cI, .int)] G (0, 0) (some .int) (some (.int rr)) (wM cI o q u))  (x1 : Int32) (x3 : Int32) (s0 : Int32) (hm : mM_joinsNow_110 N u x1 x3 s0 = some rr) : J l rmM_joinsNow D G (0, 0) (wM cI o q u) [(0, .ref o), (1, .int x1), (3, .int x3)] [.int s0] 110 := by
  unfold mM_joinsNow_110 at hm
  refine j_istore C dX11_joinsNow_110 (by decide) rfl ?_
  refine j_iload_n C dX11_joinsNow_112 rfl 3 rfl ?_
  refine j_aload_n C dX11_joinsNow_113 rfl 1 rfl ?_
  refine j_iload_n C dX11_joinsNow_114 rfl 2 rfl ?_
  refine j_bind hm (fun r1 hr1 hm => ?_)
  refine j_callV (cs' := (0, 0)) (As := [.int x1]) (rest := [.int x3]) C (cM_placeOf hr1) wc_X11_placeOf wm_X11_118 wi_X11_placeOf ws_X11_placeOf wn_X11 wd_X11_placeOf ⟨by decide, by decide⟩ 0 rfl rfl rfl (Nat.le_of_ble_eq_true rfl) dX11_joinsNow_115 ⟨by decide, by decide⟩ rfl rfl ?_
  obtain ⟨g, hm⟩ := gd_some hm
  refine j_irem C dX11_joinsNow_118 g ?_
  refine j_aload_n C dX11_joinsNow_119 rfl 1 rfl ?_
  refine jM_g5 C dX11_joinsNow_120 ?_
  refine j_bipush (v := 10) C dX11_joinsNow_123 (by decide) ?_
  refine j_iload_n C dX11_joinsNow_125 rfl 2 rfl ?_
  refine j_imul C dX11_joinsNow_126 ?_
  refine j_bipush (v := 6) C dX11_joinsNow_127 (by decide) ?_
  refine j_iadd C dX11_joinsNow_129 ?_
  refine jM_L5 C dX11_joinsNow_130 hm (fun a2 hm => ?_)
  refine j_icmp_geq (tgt := 151) C dX11_joinsNow_131 (by decide) hm (fun hm => ?_) (fun hm => ?_)
  · refine j_iconst (v := (-1)) C dX11_joinsNow_151 (by decide) ?_
    exact J.sub [] rfl (kM_joinsNow_152 C hR (-1) hm)
  · refine j_aload_n C dX11_joinsNow_134 rfl 1 rfl ?_
    refine jM_g5 C dX11_joinsNow_135 ?_
    refine j_bipush (v := 10) C dX11_joinsNow_138 (by decide) ?_
    refine j_iload_n C dX11_joinsNow_140 rfl 2 rfl ?_
    refine j_imul C dX11_joinsNow_141 ?_
    refine j_iconst (v := 3) C dX11_joinsNow_142 (by decide) ?_
    refine j_iadd C dX11_joinsNow_143 ?_
    refine j_iload C dX11_joinsNow_144 0 rfl ?_
    refine j_iadd C dX11_joinsNow_146 ?_
    refine jM_L5 C dX11_joinsNow_147 hm (fun a3 hm => ?_)
    refine j_goto (tgt := 152) C dX11_joinsNow_148 (by decide) ?_
    exact J.sub [] rfl (kM_joinsNow_152 C hR a3 hm)
def mM_joinsNow (N : Nat) (u : MSt) (x1 : Int32) (x2 : Int32) : Option Int32 := if ¬ x1 = (u.1 7) then (if ¬ x1 = (u.1 8) then (rd (u.2.1 5) 100 (10 * x1) (fun a1 => if ¬ a1 = 3 then ((mM_whereIn N u x1 x2).bind (fun r2 => (mM_placeOf N u x1).bind (fun r3 => gd (¬ r3 = 0) (nm (r2 / r3) (fun v4 => rd (u.2.1 5) 100 ((10 * x1) + 2) (fun a5 => if a5 ≤ v4 then (mM_joinsNow_110 N u x1 r2 (((2 * a5) - 2) - v4)) else (mM_joinsNow_110 N u x1 r2 v4))))))) else (rd (u.2.1 5) 100 ((10 * x1) + 3) (fun a6 => some a6)))) else (rd (u.2.1 5) 100 (((10 * x1) + 3) + (u.1 9)) (fun a7 => some a7))) else (some (-1))
set_option maxRecDepth 100000 in
set_option maxHeartbeats 4000000 in
theorem cM_joinsNow {l : Launch} {D : va_G} {cI : ClassId} {o : Nat} {q : Nat → Nat} {u : MSt} {N : Nat} {x1 : Int32} {x2 : Int32} {rr : Int32} (hm : mM_joinsNow N u x1 x2 = some rr) : Con l D [(cI, .int)] yX11_joinsNow (wS yX11_joinsNow cX11_joinsNow 7 (some .int)) rmM_joinsNow [.ref o, .int x1, .int x2] (wM cI o q u) (some (.int rr)) (wM cI o q u) := by
  refine Con.of (by decide +kernel) (Nat.le_of_ble_eq_true rfl) (fun G C hR => ?_)
  unfold mM_joinsNow at hm
  show J l rmM_joinsNow D G (0, 0) (wM cI o q u) [(0, .ref o), (1, .int x1), (2, .int x2)] [] 0
  refine j_iload_n C dX11_joinsNow_0 rfl 1 rfl ?_
  refine j_aload_n C dX11_joinsNow_1 rfl 0 rfl ?_
  refine jM_g7 C dX11_joinsNow_2 ?_
  refine j_icmp_neq (tgt := 10) C dX11_joinsNow_5 (by decide) hm (fun hm => ?_) (fun hm => ?_)
  · refine j_iload_n C dX11_joinsNow_10 rfl 1 rfl ?_
    refine j_aload_n C dX11_joinsNow_11 rfl 0 rfl ?_
    refine jM_g8 C dX11_joinsNow_12 ?_
    refine j_icmp_neq (tgt := 35) C dX11_joinsNow_15 (by decide) hm (fun hm => ?_) (fun hm => ?_)
    · refine j_aload_n C dX11_joinsNow_35 rfl 0 rfl ?_
      refine jM_g5 C dX11_joinsNow_36 ?_
      refine j_bipush (v := 10) C dX11_joinsNow_39 (by decide) ?_
      refine j_iload_n C dX11_joinsNow_41 rfl 1 rfl ?_
      refine j_imul C dX11_joinsNow_42 ?_
      refine jM_L5 C dX11_joinsNow_43 hm (fun a1 hm => ?_)
      refine j_iconst (v := 3) C dX11_joinsNow_44 (by decide) ?_
      refine j_icmp_neq (tgt := 60) C dX11_joinsNow_45 (by decide) hm (fun hm => ?_) (fun hm => ?_)
      · refine j_aload_n C dX11_joinsNow_60 rfl 0 rfl ?_
        refine j_iload_n C dX11_joinsNow_61 rfl 1 rfl ?_
        refine j_iload_n C dX11_joinsNow_62 rfl 2 rfl ?_
        refine j_bind hm (fun r2 hr2 hm => ?_)
        refine j_callV (cs' := (0, 0)) (As := [.int x1, .int x2]) (rest := []) C (cM_whereIn hr2) wc_X11_whereIn wm_X11_131 wi_X11_whereIn ws_X11_whereIn wn_X11 wd_X11_whereIn ⟨by decide, by decide⟩ 0 rfl rfl rfl (Nat.le_of_ble_eq_true rfl) dX11_joinsNow_63 ⟨by decide, by decide⟩ rfl rfl ?_
        refine j_istore_n C dX11_joinsNow_66 rfl (by decide) rfl ?_
        refine j_iload_n C dX11_joinsNow_67 rfl 0 rfl ?_
        refine j_aload_n C dX11_joinsNow_68 rfl 1 rfl ?_
        refine j_iload_n C dX11_joinsNow_69 rfl 2 rfl ?_
        refine j_bind hm (fun r3 hr3 hm => ?_)
        refine j_callV (cs' := (0, 0)) (As := [.int x1]) (rest := [.int r2]) C (cM_placeOf hr3) wc_X11_placeOf wm_X11_118 wi_X11_placeOf ws_X11_placeOf wn_X11 wd_X11_placeOf ⟨by decide, by decide⟩ 0 rfl rfl rfl (Nat.le_of_ble_eq_true rfl) dX11_joinsNow_70 ⟨by decide, by decide⟩ rfl rfl ?_
        obtain ⟨g, hm⟩ := gd_some hm
        refine j_idiv C dX11_joinsNow_73 g ?_
        refine j_nmi hm (fun v4 hm => ?_)
        refine j_istore C dX11_joinsNow_74 (by decide) rfl ?_
        refine j_aload_n C dX11_joinsNow_76 rfl 2 rfl ?_
        refine jM_g5 C dX11_joinsNow_77 ?_
        refine j_bipush (v := 10) C dX11_joinsNow_80 (by decide) ?_
        refine j_iload_n C dX11_joinsNow_82 rfl 3 rfl ?_
        refine j_imul C dX11_joinsNow_83 ?_
        refine j_iconst (v := 2) C dX11_joinsNow_84 (by decide) ?_
        refine j_iadd C dX11_joinsNow_85 ?_
        refine jM_L5 C dX11_joinsNow_86 hm (fun a5 hm => ?_)
        refine j_istore C dX11_joinsNow_87 (by decide) rfl ?_
        refine j_iload C dX11_joinsNow_89 1 rfl ?_
        refine j_iload C dX11_joinsNow_91 0 rfl ?_
        refine j_icmp_geq (tgt := 101) C dX11_joinsNow_93 (by decide) hm (fun hm => ?_) (fun hm => ?_)
        · refine j_iconst (v := 2) C dX11_joinsNow_101 (by decide) ?_
          refine j_iload C dX11_joinsNow_102 0 rfl ?_
          refine j_imul C dX11_joinsNow_104 ?_
          refine j_iconst (v := 2) C dX11_joinsNow_105 (by decide) ?_
          refine j_isub C dX11_joinsNow_106 ?_
          refine j_iload C dX11_joinsNow_107 1 rfl ?_
          refine j_isub C dX11_joinsNow_109 ?_
          exact J.sub [3, 4, 2] rfl (kM_joinsNow_110 C hR x1 r2 (((2 * a5) - 2) - v4) hm)
        · refine j_iload C dX11_joinsNow_96 1 rfl ?_
          refine j_goto (tgt := 110) C dX11_joinsNow_98 (by decide) ?_
          exact J.sub [3, 4, 2] rfl (kM_joinsNow_110 C hR x1 r2 v4 hm)
      · refine j_aload_n C dX11_joinsNow_48 rfl 0 rfl ?_
        refine jM_g5 C dX11_joinsNow_49 ?_
        refine j_bipush (v := 10) C dX11_joinsNow_52 (by decide) ?_
        refine j_iload_n C dX11_joinsNow_54 rfl 1 rfl ?_
        refine j_imul C dX11_joinsNow_55 ?_
        refine j_iconst (v := 3) C dX11_joinsNow_56 (by decide) ?_
        refine j_iadd C dX11_joinsNow_57 ?_
        refine jM_L5 C dX11_joinsNow_58 hm (fun a6 hm => ?_)
        cases hm
        exact j_iret C hR dX11_joinsNow_59
    · refine j_aload_n C dX11_joinsNow_18 rfl 0 rfl ?_
      refine jM_g5 C dX11_joinsNow_19 ?_
      refine j_bipush (v := 10) C dX11_joinsNow_22 (by decide) ?_
      refine j_iload_n C dX11_joinsNow_24 rfl 1 rfl ?_
      refine j_imul C dX11_joinsNow_25 ?_
      refine j_iconst (v := 3) C dX11_joinsNow_26 (by decide) ?_
      refine j_iadd C dX11_joinsNow_27 ?_
      refine j_aload_n C dX11_joinsNow_28 rfl 0 rfl ?_
      refine jM_g9 C dX11_joinsNow_29 ?_
      refine j_iadd C dX11_joinsNow_32 ?_
      refine jM_L5 C dX11_joinsNow_33 hm (fun a7 hm => ?_)
      cases hm
      exact j_iret C hR dX11_joinsNow_34
  · refine j_iconst (v := (-1)) C dX11_joinsNow_8 (by decide) ?_
    cases hm
    exact j_iret C hR dX11_joinsNow_9
def rmM_lastsNow : Room := { frames := 4, cells := 0, slots := 0, locals := 93 }
theorem wd_X11_lastsNow : yX11_lastsNow.cls ≠ "java/lang/invoke/MethodHandle" ∧ yX11_lastsNow.cls ≠ "java/lang/invoke/VarHandle" ∧ (parseMethodDescriptor yX11_lastsNow.desc).map (fun d => d.parameters.length) = some 2 := by decide +kernel
def mM_lastsNow_33 (N : Nat) (u : MSt)  : Option Int32 := some 999
set_option maxRecDepth 100000 in
set_option maxHeartbeats 4000000 in
theorem kM_lastsNow_33 {l : Launch} {D : va_G} {cI : ClassId} {o : Nat} {q : Nat → Nat} {u : MSt} {G : Gx} {N : Nat} {rr : Int32} (C : jC l rmM_lastsNow D [(cI, .int)] G cX11_lastsNow 3 RX11) (hR : jR D [(cI, .int)] G (0, 0) (some .int) (some (.int rr)) (wM cI o q u))   (hm : mM_lastsNow_33 N u = some rr) : J l rmM_lastsNow D G (0, 0) (wM cI o q u) [] [] 33 := by
  unfold mM_lastsNow_33 at hm
  refine j_sipush (v := 999) C dX11_lastsNow_33 (by decide) ?_
  cases hm
  exact j_iret C hR dX11_lastsNow_36
def mM_lastsNow (N : Nat) (u : MSt) (x1 : Int32) (x2 : Int32) : Option Int32 := (mM_joinsNow N u x1 x2).bind (fun r1 => if ¬ r1 = (-1) then (if x1 = (u.1 8) then (mM_lastsNow_33 N u) else (rd (u.2.1 5) 100 (10 * x1) (fun a2 => if ¬ a2 = 3 then (rd (u.2.1 5) 100 ((10 * x1) + 6) (fun a3 => (mM_whereIn N u x1 x2).bind (fun r4 => (mM_placeOf N u x1).bind (fun r5 => gd (¬ r5 = 0) (some (a3 - (r4 - r4 / r5 * r5))))))) else (mM_lastsNow_33 N u)))) else (some 0))
set_option maxRecDepth 100000 in
set_option maxHeartbeats 4000000 in
theorem cM_lastsNow {l : Launch} {D : va_G} {cI : ClassId} {o : Nat} {q : Nat → Nat} {u : MSt} {N : Nat} {x1 : Int32} {x2 : Int32} {rr : Int32} (hm : mM_lastsNow N u x1 x2 = some rr) : Con l D [(cI, .int)] yX11_lastsNow (wS yX11_lastsNow cX11_lastsNow 3 (some .int)) rmM_lastsNow [.ref o, .int x1, .int x2] (wM cI o q u) (some (.int rr)) (wM cI o q u) := by
  refine Con.of (by decide +kernel) (Nat.le_of_ble_eq_true rfl) (fun G C hR => ?_)
  unfold mM_lastsNow at hm
  show J l rmM_lastsNow D G (0, 0) (wM cI o q u) [(0, .ref o), (1, .int x1), (2, .int x2)] [] 0
  refine j_aload_n C dX11_lastsNow_0 rfl 0 rfl ?_
  refine j_iload_n C dX11_lastsNow_1 rfl 1 rfl ?_
  refine j_iload_n C dX11_lastsNow_2 rfl 2 rfl ?_
  refine j_bind hm (fun r1 hr1 hm => ?_)
  refine j_callV (cs' := (0, 0)) (As := [.int x1, .int x2]) (rest := []) C (cM_joinsNow hr1) wc_X11_joinsNow wm_X11_134 wi_X11_joinsNow ws_X11_joinsNow wn_X11 wd_X11_joinsNow ⟨by decide, by decide⟩ 0 rfl rfl rfl (Nat.le_of_ble_eq_true rfl) dX11_lastsNow_3 ⟨by decide, by decide⟩ rfl rfl ?_
  refine j_iconst (v := (-1)) C dX11_lastsNow_6 (by decide) ?_
  refine j_icmp_neq (tgt := 12) C dX11_lastsNow_7 (by decide) hm (fun hm => ?_) (fun hm => ?_)
  · refine j_iload_n C dX11_lastsNow_12 rfl 1 rfl ?_
    refine j_aload_n C dX11_lastsNow_13 rfl 0 rfl ?_
    refine jM_g8 C dX11_lastsNow_14 ?_
    refine j_icmp_eqq (tgt := 33) C dX11_lastsNow_17 (by decide) hm (fun hm => ?_) (fun hm => ?_)
    · exact J.sub [] rfl (kM_lastsNow_33 C hR hm)
    · refine j_aload_n C dX11_lastsNow_20 rfl 0 rfl ?_
      refine jM_g5 C dX11_lastsNow_21 ?_
      refine j_bipush (v := 10) C dX11_lastsNow_24 (by decide) ?_
      refine j_iload_n C dX11_lastsNow_26 rfl 1 rfl ?_
      refine j_imul C dX11_lastsNow_27 ?_
      refine jM_L5 C dX11_lastsNow_28 hm (fun a2 hm => ?_)
      refine j_iconst (v := 3) C dX11_lastsNow_29 (by decide) ?_
      refine j_icmp_neq (tgt := 37) C dX11_lastsNow_30 (by decide) hm (fun hm => ?_) (fun hm => ?_)
      · refine j_aload_n C dX11_lastsNow_37 rfl 0 rfl ?_
        refine jM_g5 C dX11_lastsNow_38 ?_
        refine j_bipush (v := 10) C dX11_lastsNow_41 (by decide) ?_
        refine j_iload_n C dX11_lastsNow_43 rfl 1 rfl ?_
        refine j_imul C dX11_lastsNow_44 ?_
        refine j_bipush (v := 6) C dX11_lastsNow_45 (by decide) ?_
        refine j_iadd C dX11_lastsNow_47 ?_
        refine jM_L5 C dX11_lastsNow_48 hm (fun a3 hm => ?_)
        refine j_aload_n C dX11_lastsNow_49 rfl 0 rfl ?_
        refine j_iload_n C dX11_lastsNow_50 rfl 1 rfl ?_
        refine j_iload_n C dX11_lastsNow_51 rfl 2 rfl ?_
        refine j_bind hm (fun r4 hr4 hm => ?_)
        refine j_callV (cs' := (0, 0)) (As := [.int x1, .int x2]) (rest := [.int a3]) C (cM_whereIn hr4) wc_X11_whereIn wm_X11_131 wi_X11_whereIn ws_X11_whereIn wn_X11 wd_X11_whereIn ⟨by decide, by decide⟩ 0 rfl rfl rfl (Nat.le_of_ble_eq_true rfl) dX11_lastsNow_52 ⟨by decide, by decide⟩ rfl rfl ?_
        refine j_aload_n C dX11_lastsNow_55 rfl 0 rfl ?_
        refine j_iload_n C dX11_lastsNow_56 rfl 1 rfl ?_
        refine j_bind hm (fun r5 hr5 hm => ?_)
        refine j_callV (cs' := (0, 0)) (As := [.int x1]) (rest := [.int r4, .int a3]) C (cM_placeOf hr5) wc_X11_placeOf wm_X11_118 wi_X11_placeOf ws_X11_placeOf wn_X11 wd_X11_placeOf ⟨by decide, by decide⟩ 0 rfl rfl rfl (Nat.le_of_ble_eq_true rfl) dX11_lastsNow_57 ⟨by decide, by decide⟩ rfl rfl ?_
        obtain ⟨g, hm⟩ := gd_some hm
        refine j_irem C dX11_lastsNow_60 g ?_
        refine j_isub C dX11_lastsNow_61 ?_
        cases hm
        exact j_iret C hR dX11_lastsNow_62
      · exact J.sub [] rfl (kM_lastsNow_33 C hR hm)
  · refine j_iconst (v := 0) C dX11_lastsNow_10 (by decide) ?_
    cases hm
    exact j_iret C hR dX11_lastsNow_11
def rmM_joins : Room := { frames := 4, cells := 0, slots := 0, locals := 93 }
theorem wd_X11_joins : yX11_joins.cls ≠ "java/lang/invoke/MethodHandle" ∧ yX11_joins.cls ≠ "java/lang/invoke/VarHandle" ∧ (parseMethodDescriptor yX11_joins.desc).map (fun d => d.parameters.length) = some 2 := by decide +kernel
def mM_joins_34 (N : Nat) (u : MSt) (s0 : Int32) : Option Int32 := some s0
set_option maxRecDepth 100000 in
set_option maxHeartbeats 4000000 in
theorem kM_joins_34 {l : Launch} {D : va_G} {cI : ClassId} {o : Nat} {q : Nat → Nat} {u : MSt} {G : Gx} {N : Nat} {rr : Int32} (C : jC l rmM_joins D [(cI, .int)] G cX11_joins 3 RX11) (hR : jR D [(cI, .int)] G (0, 0) (some .int) (some (.int rr)) (wM cI o q u))  (s0 : Int32) (hm : mM_joins_34 N u s0 = some rr) : J l rmM_joins D G (0, 0) (wM cI o q u) [] [.int s0] 34 := by
  unfold mM_joins_34 at hm
  cases hm
  exact j_iret C hR dX11_joins_34
def mM_joins (N : Nat) (u : MSt) (x1 : Int32) (x2 : Int32) : Option Int32 := (mM_isBridge N u x1).bind (fun r1 => if ¬ r1 = 0 then ((mM_in N (Int32.toInt64 x2) 0 9999).bind (fun r2 => if r2 = 0 then (mM_joins_34 N u (-102)) else ((mM_joinsNow N u x1 x2).bind (fun r3 => mM_joins_34 N u r3)))) else (some (-101)))
set_option maxRecDepth 100000 in
set_option maxHeartbeats 4000000 in
theorem cM_joins {l : Launch} {D : va_G} {cI : ClassId} {o : Nat} {q : Nat → Nat} {u : MSt} {N : Nat} {x1 : Int32} {x2 : Int32} {rr : Int32} (hm : mM_joins N u x1 x2 = some rr) : Con l D [(cI, .int)] yX11_joins (wS yX11_joins cX11_joins 3 (some .int)) rmM_joins [.ref o, .int x1, .int x2] (wM cI o q u) (some (.int rr)) (wM cI o q u) := by
  refine Con.of (by decide +kernel) (Nat.le_of_ble_eq_true rfl) (fun G C hR => ?_)
  unfold mM_joins at hm
  show J l rmM_joins D G (0, 0) (wM cI o q u) [(0, .ref o), (1, .int x1), (2, .int x2)] [] 0
  refine j_aload_n C dX11_joins_0 rfl 0 rfl ?_
  refine j_iload_n C dX11_joins_1 rfl 1 rfl ?_
  refine j_bind hm (fun r1 hr1 hm => ?_)
  refine j_callV (cs' := (0, 0)) (As := [.int x1]) (rest := []) C (cM_isBridge hr1) wc_X11_isBridge wm_X11_107 wi_X11_isBridge ws_X11_isBridge wn_X11 wd_X11_isBridge ⟨by decide, by decide⟩ 0 rfl rfl rfl (Nat.le_of_ble_eq_true rfl) dX11_joins_2 ⟨by decide, by decide⟩ rfl rfl ?_
  refine j_if_neq (tgt := 11) C dX11_joins_5 (by decide) hm (fun hm => ?_) (fun hm => ?_)
  · refine j_iload_n C dX11_joins_11 rfl 2 rfl ?_
    refine j_i2l C dX11_joins_12 ?_
    refine j_lconst (v := 0) C dX11_joins_13 (by decide) ?_
    refine j_ldc2 C dX11_joins_14 wk_X11_137 ?_
    refine j_bind hm (fun r2 hr2 hm => ?_)
    refine j_callS (cs' := (0, 0)) (As := [.long (Int32.toInt64 x2), .long 0, .long 9999]) (rest := []) C (cM_in hr2) wc_X11_in wm_X11_69 wt_X11_in wn_X11 wd_X11_in ⟨by decide, by decide⟩ rfl (Nat.le_of_ble_eq_true rfl) dX11_joins_17 ⟨by decide, by decide⟩ rfl rfl ?_
    refine j_if_eqq (tgt := 32) C dX11_joins_20 (by decide) hm (fun hm => ?_) (fun hm => ?_)
    · refine j_bipush (v := (-102)) C dX11_joins_32 (by decide) ?_
      exact J.sub [] rfl (kM_joins_34 C hR (-102) hm)
    · refine j_aload_n C dX11_joins_23 rfl 0 rfl ?_
      refine j_iload_n C dX11_joins_24 rfl 1 rfl ?_
      refine j_iload_n C dX11_joins_25 rfl 2 rfl ?_
      refine j_bind hm (fun r3 hr3 hm => ?_)
      refine j_callV (cs' := (0, 0)) (As := [.int x1, .int x2]) (rest := []) C (cM_joinsNow hr3) wc_X11_joinsNow wm_X11_134 wi_X11_joinsNow ws_X11_joinsNow wn_X11 wd_X11_joinsNow ⟨by decide, by decide⟩ 0 rfl rfl rfl (Nat.le_of_ble_eq_true rfl) dX11_joins_26 ⟨by decide, by decide⟩ rfl rfl ?_
      refine j_goto (tgt := 34) C dX11_joins_29 (by decide) ?_
      exact J.sub [] rfl (kM_joins_34 C hR r3 hm)
  · refine j_bipush (v := (-101)) C dX11_joins_8 (by decide) ?_
    cases hm
    exact j_iret C hR dX11_joins_10
def rmM_lasts : Room := { frames := 5, cells := 0, slots := 0, locals := 115 }
theorem wd_X11_lasts : yX11_lasts.cls ≠ "java/lang/invoke/MethodHandle" ∧ yX11_lasts.cls ≠ "java/lang/invoke/VarHandle" ∧ (parseMethodDescriptor yX11_lasts.desc).map (fun d => d.parameters.length) = some 2 := by decide +kernel
def mM_lasts_34 (N : Nat) (u : MSt) (s0 : Int32) : Option Int32 := some s0
set_option maxRecDepth 100000 in
set_option maxHeartbeats 4000000 in
theorem kM_lasts_34 {l : Launch} {D : va_G} {cI : ClassId} {o : Nat} {q : Nat → Nat} {u : MSt} {G : Gx} {N : Nat} {rr : Int32} (C : jC l rmM_lasts D [(cI, .int)] G cX11_lasts 3 RX11) (hR : jR D [(cI, .int)] G (0, 0) (some .int) (some (.int rr)) (wM cI o q u))  (s0 : Int32) (hm : mM_lasts_34 N u s0 = some rr) : J l rmM_lasts D G (0, 0) (wM cI o q u) [] [.int s0] 34 := by
  unfold mM_lasts_34 at hm
  cases hm
  exact j_iret C hR dX11_lasts_34
def mM_lasts (N : Nat) (u : MSt) (x1 : Int32) (x2 : Int32) : Option Int32 := (mM_isBridge N u x1).bind (fun r1 => if ¬ r1 = 0 then ((mM_in N (Int32.toInt64 x2) 0 9999).bind (fun r2 => if r2 = 0 then (mM_lasts_34 N u (-102)) else ((mM_lastsNow N u x1 x2).bind (fun r3 => mM_lasts_34 N u r3)))) else (some (-101)))
set_option maxRecDepth 100000 in
set_option maxHeartbeats 4000000 in
theorem cM_lasts {l : Launch} {D : va_G} {cI : ClassId} {o : Nat} {q : Nat → Nat} {u : MSt} {N : Nat} {x1 : Int32} {x2 : Int32} {rr : Int32} (hm : mM_lasts N u x1 x2 = some rr) : Con l D [(cI, .int)] yX11_lasts (wS yX11_lasts cX11_lasts 3 (some .int)) rmM_lasts [.ref o, .int x1, .int x2] (wM cI o q u) (some (.int rr)) (wM cI o q u) := by
  refine Con.of (by decide +kernel) (Nat.le_of_ble_eq_true rfl) (fun G C hR => ?_)
  unfold mM_lasts at hm
  show J l rmM_lasts D G (0, 0) (wM cI o q u) [(0, .ref o), (1, .int x1), (2, .int x2)] [] 0
  refine j_aload_n C dX11_lasts_0 rfl 0 rfl ?_
  refine j_iload_n C dX11_lasts_1 rfl 1 rfl ?_
  refine j_bind hm (fun r1 hr1 hm => ?_)
  refine j_callV (cs' := (0, 0)) (As := [.int x1]) (rest := []) C (cM_isBridge hr1) wc_X11_isBridge wm_X11_107 wi_X11_isBridge ws_X11_isBridge wn_X11 wd_X11_isBridge ⟨by decide, by decide⟩ 0 rfl rfl rfl (Nat.le_of_ble_eq_true rfl) dX11_lasts_2 ⟨by decide, by decide⟩ rfl rfl ?_
  refine j_if_neq (tgt := 11) C dX11_lasts_5 (by decide) hm (fun hm => ?_) (fun hm => ?_)
  · refine j_iload_n C dX11_lasts_11 rfl 2 rfl ?_
    refine j_i2l C dX11_lasts_12 ?_
    refine j_lconst (v := 0) C dX11_lasts_13 (by decide) ?_
    refine j_ldc2 C dX11_lasts_14 wk_X11_137 ?_
    refine j_bind hm (fun r2 hr2 hm => ?_)
    refine j_callS (cs' := (0, 0)) (As := [.long (Int32.toInt64 x2), .long 0, .long 9999]) (rest := []) C (cM_in hr2) wc_X11_in wm_X11_69 wt_X11_in wn_X11 wd_X11_in ⟨by decide, by decide⟩ rfl (Nat.le_of_ble_eq_true rfl) dX11_lasts_17 ⟨by decide, by decide⟩ rfl rfl ?_
    refine j_if_eqq (tgt := 32) C dX11_lasts_20 (by decide) hm (fun hm => ?_) (fun hm => ?_)
    · refine j_bipush (v := (-102)) C dX11_lasts_32 (by decide) ?_
      exact J.sub [] rfl (kM_lasts_34 C hR (-102) hm)
    · refine j_aload_n C dX11_lasts_23 rfl 0 rfl ?_
      refine j_iload_n C dX11_lasts_24 rfl 1 rfl ?_
      refine j_iload_n C dX11_lasts_25 rfl 2 rfl ?_
      refine j_bind hm (fun r3 hr3 hm => ?_)
      refine j_callV (cs' := (0, 0)) (As := [.int x1, .int x2]) (rest := []) C (cM_lastsNow hr3) wc_X11_lastsNow wm_X11_139 wi_X11_lastsNow ws_X11_lastsNow wn_X11 wd_X11_lastsNow ⟨by decide, by decide⟩ 0 rfl rfl rfl (Nat.le_of_ble_eq_true rfl) dX11_lasts_26 ⟨by decide, by decide⟩ rfl rfl ?_
      refine j_goto (tgt := 34) C dX11_lasts_29 (by decide) ?_
      exact J.sub [] rfl (kM_lasts_34 C hR r3 hm)
  · refine j_bipush (v := (-101)) C dX11_lasts_8 (by decide) ?_
    cases hm
    exact j_iret C hR dX11_lasts_10
def rmM_mayGo : Room := { frames := 5, cells := 0, slots := 0, locals := 115 }
theorem wd_X11_mayGo : yX11_mayGo.cls ≠ "java/lang/invoke/MethodHandle" ∧ yX11_mayGo.cls ≠ "java/lang/invoke/VarHandle" ∧ (parseMethodDescriptor yX11_mayGo.desc).map (fun d => d.parameters.length) = some 4 := by decide +kernel
def mM_mayGo_32 (N : Nat) (u : MSt) (s0 : Int32) : Option Int32 := gd (s0 = 0 ∨ s0 = 1) (some s0)
set_option maxRecDepth 100000 in
set_option maxHeartbeats 4000000 in
theorem kM_mayGo_32 {l : Launch} {D : va_G} {cI : ClassId} {o : Nat} {q : Nat → Nat} {u : MSt} {G : Gx} {N : Nat} {rr : Int32} (C : jC l rmM_mayGo D [(cI, .int)] G cX11_mayGo 5 RX11) (hR : jR D [(cI, .int)] G (0, 0) (some .boolean) (some (.int rr)) (wM cI o q u))  (s0 : Int32) (hm : mM_mayGo_32 N u s0 = some rr) : J l rmM_mayGo D G (0, 0) (wM cI o q u) [] [.int s0] 32 := by
  unfold mM_mayGo_32 at hm
  obtain ⟨g, hm⟩ := gd_some hm
  cases hm
  exact j_zret C hR (jz01 g) dX11_mayGo_32
def mM_mayGo_31 (N : Nat) (u : MSt)  : Option Int32 := mM_mayGo_32 N u 0
set_option maxRecDepth 100000 in
set_option maxHeartbeats 4000000 in
theorem kM_mayGo_31 {l : Launch} {D : va_G} {cI : ClassId} {o : Nat} {q : Nat → Nat} {u : MSt} {G : Gx} {N : Nat} {rr : Int32} (C : jC l rmM_mayGo D [(cI, .int)] G cX11_mayGo 5 RX11) (hR : jR D [(cI, .int)] G (0, 0) (some .boolean) (some (.int rr)) (wM cI o q u))   (hm : mM_mayGo_31 N u = some rr) : J l rmM_mayGo D G (0, 0) (wM cI o q u) [] [] 31 := by
  unfold mM_mayGo_31 at hm
  refine j_iconst (v := 0) C dX11_mayGo_31 (by decide) ?_
  exact kM_mayGo_32 C hR 0 hm
def mM_mayGo (N : Nat) (u : MSt) (x1 : Int32) (x2 : Int32) (x3 : Int32) (x4 : Int32) : Option Int32 := rd (u.2.1 5) 100 ((10 * x1) + 9) (fun a1 => if a1 < x4 then (mM_mayGo_31 N u) else ((mM_lastsNow N u x1 x2).bind (fun r2 => if r2 < x3 then (mM_mayGo_31 N u) else (mM_mayGo_32 N u 1))))
set_option maxRecDepth 100000 in
set_option maxHeartbeats 4000000 in
theorem cM_mayGo {l : Launch} {D : va_G} {cI : ClassId} {o : Nat} {q : Nat → Nat} {u : MSt} {N : Nat} {x1 : Int32} {x2 : Int32} {x3 : Int32} {x4 : Int32} {rr : Int32} (hm : mM_mayGo N u x1 x2 x3 x4 = some rr) : Con l D [(cI, .int)] yX11_mayGo (wS yX11_mayGo cX11_mayGo 5 (some .boolean)) rmM_mayGo [.ref o, .int x1, .int x2, .int x3, .int x4] (wM cI o q u) (some (.int rr)) (wM cI o q u) := by
  refine Con.of (by decide +kernel) (Nat.le_of_ble_eq_true rfl) (fun G C hR => ?_)
  unfold mM_mayGo at hm
  show J l rmM_mayGo D G (0, 0) (wM cI o q u) [(0, .ref o), (1, .int x1), (2, .int x2), (3, .int x3), (4, .int x4)] [] 0
  refine j_aload_n C dX11_mayGo_0 rfl 0 rfl ?_
  refine jM_g5 C dX11_mayGo_1 ?_
  refine j_bipush (v := 10) C dX11_mayGo_4 (by decide) ?_
  refine j_iload_n C dX11_mayGo_6 rfl 1 rfl ?_
  refine j_imul C dX11_mayGo_7 ?_
  refine j_bipush (v := 9) C dX11_mayGo_8 (by decide) ?_
  refine j_iadd C dX11_mayGo_10 ?_
  refine jM_L5 C dX11_mayGo_11 hm (fun a1 hm => ?_)
  refine j_iload C dX11_mayGo_12 4 rfl ?_
  refine j_icmp_ltq (tgt := 31) C dX11_mayGo_14 (by decide) hm (fun hm => ?_) (fun hm => ?_)
  · exact J.sub [] rfl (kM_mayGo_31 C hR hm)
  · refine j_aload_n C dX11_mayGo_17 rfl 0 rfl ?_
    refine j_iload_n C dX11_mayGo_18 rfl 1 rfl ?_
    refine j_iload_n C dX11_mayGo_19 rfl 2 rfl ?_
    refine j_bind hm (fun r2 hr2 hm => ?_)
    refine j_callV (cs' := (0, 0)) (As := [.int x1, .int x2]) (rest := []) C (cM_lastsNow hr2) wc_X11_lastsNow wm_X11_139 wi_X11_lastsNow ws_X11_lastsNow wn_X11 wd_X11_lastsNow ⟨by decide, by decide⟩ 0 rfl rfl rfl (Nat.le_of_ble_eq_true rfl) dX11_mayGo_20 ⟨by decide, by decide⟩ rfl rfl ?_
    refine j_iload_n C dX11_mayGo_23 rfl 3 rfl ?_
    refine j_icmp_ltq (tgt := 31) C dX11_mayGo_24 (by decide) hm (fun hm => ?_) (fun hm => ?_)
    · exact J.sub [] rfl (kM_mayGo_31 C hR hm)
    · refine j_iconst (v := 1) C dX11_mayGo_27 (by decide) ?_
      refine j_goto (tgt := 32) C dX11_mayGo_28 (by decide) ?_
      exact J.sub [] rfl (kM_mayGo_32 C hR 1 hm)
def rmM_layThere : Room := { frames := 6, cells := 0, slots := 0, locals := 139 }
theorem wd_X11_layThere : yX11_layThere.cls ≠ "java/lang/invoke/MethodHandle" ∧ yX11_layThere.cls ≠ "java/lang/invoke/VarHandle" ∧ (parseMethodDescriptor yX11_layThere.desc).map (fun d => d.parameters.length) = some 4 := by decide +kernel
def mM_layThere_28 (N : Nat) (k3 : MSt → Int32 → Int32 → Int32 → Int32 → Int32 → Option MSt) (u : MSt) (x1 : Int32) (x2 : Int32) (x3 : Int32) (x4 : Int32) (x5 : Int32) (s0 : Int32) (s1 : Int32) : Option MSt := wr 8 s1 (fun i1 => nm (saM u 10 i1 s0) (fun u2 => k3 u2 x1 x2 x3 x4 (x5 + 1)))
set_option maxRecDepth 100000 in
set_option maxHeartbeats 4000000 in
theorem kM_layThere_28 {l : Launch} {D : va_G} {cI : ClassId} {o : Nat} {q : Nat → Nat} {G : Gx} {N : Nat} {rr : MSt} (C : jC l rmM_layThere D [(cI, .int)] G cX11_layThere 12 RX11) (hR : jR D [(cI, .int)] G (0, 0) none none (wM cI o q rr)) (k3 : MSt → Int32 → Int32 → Int32 → Int32 → Int32 → Option MSt) (K3 : ∀ (u : MSt) (x1 : Int32) (x2 : Int32) (x3 : Int32) (x4 : Int32) (x5 : Int32), k3 u x1 x2 x3 x4 x5 = some rr → J l rmM_layThere D G (0, 0) (wM cI o q u) [(0, .ref o), (1, .int x1), (2, .int x2), (3, .int x3), (4, .int x4), (5, .int x5)] [] 3) (u : MSt) (x1 : Int32) (x2 : Int32) (x3 : Int32) (x4 : Int32) (x5 : Int32) (s0 : Int32) (s1 : Int32) (hm : mM_layThere_28 N k3 u x1 x2 x3 x4 x5 s0 s1 = some rr) : J l rmM_layThere D G (0, 0) (wM cI o q u) [(0, .ref o), (1, .int x1), (2, .int x2), (3, .int x3), (4, .int x4), (5, .int x5)] [.int s0, .int s1, .ref (q 10)] 28 := by
  unfold mM_layThere_28 at hm
  refine jM_S10 C dX11_layThere_28 hm (fun u2 hm => ?_)
  refine j_iinc (v := (x5 + 1)) C dX11_layThere_29 5 rfl rfl (by decide) rfl ?_
  refine j_goto (tgt := 3) C dX11_layThere_32 (by decide) ?_
  exact J.sub [1, 2, 3, 4, 5, 0] rfl (K3 u2 x1 x2 x3 x4 (x5 + 1) hm)
def mM_layThere_234 (N : Nat) (k38 : MSt → Int32 → Int32 → Int32 → Int32 → Option MSt) (k51 : MSt → Int32 → Int32 → Int32 → Int32 → Int32 → Option MSt) (u : MSt) (x2 : Int32) (x3 : Int32) (x4 : Int32) (x5 : Int32) (x6 : Int32) : Option MSt := k51 u x2 x3 x4 x5 (x6 + 1)
set_option maxRecDepth 100000 in
set_option maxHeartbeats 4000000 in
theorem kM_layThere_234 {l : Launch} {D : va_G} {cI : ClassId} {o : Nat} {q : Nat → Nat} {G : Gx} {N : Nat} {rr : MSt} (C : jC l rmM_layThere D [(cI, .int)] G cX11_layThere 12 RX11) (hR : jR D [(cI, .int)] G (0, 0) none none (wM cI o q rr)) (k38 : MSt → Int32 → Int32 → Int32 → Int32 → Option MSt) (K38 : ∀ (u : MSt) (x2 : Int32) (x3 : Int32) (x4 : Int32) (x5 : Int32), k38 u x2 x3 x4 x5 = some rr → J l rmM_layThere D G (0, 0) (wM cI o q u) [(0, .ref o), (2, .int x2), (3, .int x3), (4, .int x4), (5, .int x5)] [] 38) (k51 : MSt → Int32 → Int32 → Int32 → Int32 → Int32 → Option MSt) (K51 : ∀ (u : MSt) (x2 : Int32) (x3 : Int32) (x4 : Int32) (x5 : Int32) (x6 : Int32), k51 u x2 x3 x4 x5 x6 = some rr → J l rmM_layThere D G (0, 0) (wM cI o q u) [(0, .ref o), (2, .int x2), (3, .int x3), (4, .int x4), (5, .int x5), (6, .int x6)] [] 51) (u : MSt) (x2 : Int32) (x3 : Int32) (x4 : Int32) (x5 : Int32) (x6 : Int32) (hm : mM_layThere_234 N k38 k51 u x2 x3 x4 x5 x6 = some rr) : J l rmM_layThere D G (0, 0) (wM cI o q u) [(0, .ref o), (2, .int x2), (3, .int x3), (4, .int x4), (5, .int x5), (6, .int x6)] [] 234 := by
  unfold mM_layThere_234 at hm
  refine j_iinc (v := (x6 + 1)) C dX11_layThere_234 5 rfl rfl (by decide) rfl ?_
  refine j_goto (tgt := 51) C dX11_layThere_237 (by decide) ?_
  exact J.sub [1, 2, 3, 4, 5, 0] rfl (K51 u x2 x3 x4 x5 (x6 + 1) hm)
def mM_layThere_233 (N : Nat) (k38 : MSt → Int32 → Int32 → Int32 → Int32 → Option MSt) (k51 : MSt → Int32 → Int32 → Int32 → Int32 → Int32 → Option MSt) (u : MSt) (x2 : Int32) (x3 : Int32) (x4 : Int32) (x5 : Int32) (x6 : Int32) (s0 : Int32) (s1 : Int32) : Option MSt := wr 8 s1 (fun i1 => nm (saM u 10 i1 s0) (fun u2 => mM_layThere_234 N k38 k51 u2 x2 x3 x4 x5 x6))
set_option maxRecDepth 100000 in
set_option maxHeartbeats 4000000 in
theorem kM_layThere_233 {l : Launch} {D : va_G} {cI : ClassId} {o : Nat} {q : Nat → Nat} {G : Gx} {N : Nat} {rr : MSt} (C : jC l rmM_layThere D [(cI, .int)] G cX11_layThere 12 RX11) (hR : jR D [(cI, .int)] G (0, 0) none none (wM cI o q rr)) (k38 : MSt → Int32 → Int32 → Int32 → Int32 → Option MSt) (K38 : ∀ (u : MSt) (x2 : Int32) (x3 : Int32) (x4 : Int32) (x5 : Int32), k38 u x2 x3 x4 x5 = some rr → J l rmM_layThere D G (0, 0) (wM cI o q u) [(0, .ref o), (2, .int x2), (3, .int x3), (4, .int x4), (5, .int x5)] [] 38) (k51 : MSt → Int32 → Int32 → Int32 → Int32 → Int32 → Option MSt) (K51 : ∀ (u : MSt) (x2 : Int32) (x3 : Int32) (x4 : Int32) (x5 : Int32) (x6 : Int32), k51 u x2 x3 x4 x5 x6 = some rr → J l rmM_layThere D G (0, 0) (wM cI o q u) [(0, .ref o), (2, .int x2), (3, .int x3), (4, .int x4), (5, .int x5), (6, .int x6)] [] 51) (u : MSt) (x2 : Int32) (x3 : Int32) (x4 : Int32) (x5 : Int32) (x6 : Int32) (s0 : Int32) (s1 : Int32) (hm : mM_layThere_233 N k38 k51 u x2 x3 x4 x5 x6 s0 s1 = some rr) : J l rmM_layThere D G (0, 0) (wM cI o q u) [(0, .ref o), (2, .int x2), (3, .int x3), (4, .int x4), (5, .int x5), (6, .int x6)] [.int s0, .int s1, .ref (q 10)] 233 := by
  unfold mM_layThere_233 at hm
  refine jM_S10 C dX11_layThere_233 hm (fun u2 hm => ?_)
  exact kM_layThere_234 C hR k38 K38 k51 K51 u2 x2 x3 x4 x5 x6 hm
def mM_layThere_209 (N : Nat) (k38 : MSt → Int32 → Int32 → Int32 → Int32 → Option MSt) (k51 : MSt → Int32 → Int32 → Int32 → Int32 → Int32 → Option MSt) (u : MSt) (x2 : Int32) (x3 : Int32) (x4 : Int32) (x5 : Int32) (x6 : Int32) (x7 : Int32) (x9 : Int32) (x11 : Int32) (s0 : Int32) (s1 : Int32) : Option MSt := wr 8 s1 (fun i1 => nm (saM u 10 i1 s0) (fun u2 => if x11 = 0 then (rd (u2.2.1 10) 8 x7 (fun a3 => mM_layThere_233 N k38 k51 u2 x2 x3 x4 x5 x6 a3 x7)) else (mM_layThere_233 N k38 k51 u2 x2 x3 x4 x5 x6 x9 x7)))
set_option maxRecDepth 100000 in
set_option maxHeartbeats 4000000 in
theorem kM_layThere_209 {l : Launch} {D : va_G} {cI : ClassId} {o : Nat} {q : Nat → Nat} {G : Gx} {N : Nat} {rr : MSt} (C : jC l rmM_layThere D [(cI, .int)] G cX11_layThere 12 RX11) (hR : jR D [(cI, .int)] G (0, 0) none none (wM cI o q rr)) (k38 : MSt → Int32 → Int32 → Int32 → Int32 → Option MSt) (K38 : ∀ (u : MSt) (x2 : Int32) (x3 : Int32) (x4 : Int32) (x5 : Int32), k38 u x2 x3 x4 x5 = some rr → J l rmM_layThere D G (0, 0) (wM cI o q u) [(0, .ref o), (2, .int x2), (3, .int x3), (4, .int x4), (5, .int x5)] [] 38) (k51 : MSt → Int32 → Int32 → Int32 → Int32 → Int32 → Option MSt) (K51 : ∀ (u : MSt) (x2 : Int32) (x3 : Int32) (x4 : Int32) (x5 : Int32) (x6 : Int32), k51 u x2 x3 x4 x5 x6 = some rr → J l rmM_layThere D G (0, 0) (wM cI o q u) [(0, .ref o), (2, .int x2), (3, .int x3), (4, .int x4), (5, .int x5), (6, .int x6)] [] 51) (u : MSt) (x2 : Int32) (x3 : Int32) (x4 : Int32) (x5 : Int32) (x6 : Int32) (x7 : Int32) (x9 : Int32) (x11 : Int32) (s0 : Int32) (s1 : Int32) (hm : mM_layThere_209 N k38 k51 u x2 x3 x4 x5 x6 x7 x9 x11 s0 s1 = some rr) : J l rmM_layThere D G (0, 0) (wM cI o q u) [(0, .ref o), (2, .int x2), (3, .int x3), (4, .int x4), (5, .int x5), (6, .int x6), (7, .int x7), (9, .int x9), (11, .int x11)] [.int s0, .int s1, .ref (q 10)] 209 := by
  unfold mM_layThere_209 at hm
  refine jM_S10 C dX11_layThere_209 hm (fun u2 hm => ?_)
  refine j_aload_n C dX11_layThere_210 rfl 0 rfl ?_
  refine jM_g10 C dX11_layThere_211 ?_
  refine j_iload C dX11_layThere_214 6 rfl ?_
  refine j_iload C dX11_layThere_216 8 rfl ?_
  refine j_if_eqq (tgt := 226) C dX11_layThere_218 (by decide) hm (fun hm => ?_) (fun hm => ?_)
  · refine j_aload_n C dX11_layThere_226 rfl 0 rfl ?_
    refine jM_g10 C dX11_layThere_227 ?_
    refine j_iload C dX11_layThere_230 6 rfl ?_
    refine jM_L10 C dX11_layThere_232 hm (fun a3 hm => ?_)
    exact J.sub [0, 1, 2, 3, 4, 5] rfl (kM_layThere_233 C hR k38 K38 k51 K51 u2 x2 x3 x4 x5 x6 a3 x7 hm)
  · refine j_iload C dX11_layThere_221 7 rfl ?_
    refine j_goto (tgt := 233) C dX11_layThere_223 (by decide) ?_
    exact J.sub [0, 1, 2, 3, 4, 5] rfl (kM_layThere_233 C hR k38 K38 k51 K51 u2 x2 x3 x4 x5 x6 x9 x7 hm)
def mM_layThere_184 (N : Nat) (k38 : MSt → Int32 → Int32 → Int32 → Int32 → Option MSt) (k51 : MSt → Int32 → Int32 → Int32 → Int32 → Int32 → Option MSt) (u : MSt) (x2 : Int32) (x3 : Int32) (x4 : Int32) (x5 : Int32) (x6 : Int32) (x7 : Int32) (x8 : Int32) (x9 : Int32) (x10 : Int32) (s0 : Int32) : Option MSt := if x10 = 0 then (rd (u.2.1 10) 8 x8 (fun a1 => mM_layThere_209 N k38 k51 u x2 x3 x4 x5 x6 x7 x9 s0 a1 x8)) else (mM_layThere_209 N k38 k51 u x2 x3 x4 x5 x6 x7 x9 s0 x9 x8)
set_option maxRecDepth 100000 in
set_option maxHeartbeats 4000000 in
theorem kM_layThere_184 {l : Launch} {D : va_G} {cI : ClassId} {o : Nat} {q : Nat → Nat} {G : Gx} {N : Nat} {rr : MSt} (C : jC l rmM_layThere D [(cI, .int)] G cX11_layThere 12 RX11) (hR : jR D [(cI, .int)] G (0, 0) none none (wM cI o q rr)) (k38 : MSt → Int32 → Int32 → Int32 → Int32 → Option MSt) (K38 : ∀ (u : MSt) (x2 : Int32) (x3 : Int32) (x4 : Int32) (x5 : Int32), k38 u x2 x3 x4 x5 = some rr → J l rmM_layThere D G (0, 0) (wM cI o q u) [(0, .ref o), (2, .int x2), (3, .int x3), (4, .int x4), (5, .int x5)] [] 38) (k51 : MSt → Int32 → Int32 → Int32 → Int32 → Int32 → Option MSt) (K51 : ∀ (u : MSt) (x2 : Int32) (x3 : Int32) (x4 : Int32) (x5 : Int32) (x6 : Int32), k51 u x2 x3 x4 x5 x6 = some rr → J l rmM_layThere D G (0, 0) (wM cI o q u) [(0, .ref o), (2, .int x2), (3, .int x3), (4, .int x4), (5, .int x5), (6, .int x6)] [] 51) (u : MSt) (x2 : Int32) (x3 : Int32) (x4 : Int32) (x5 : Int32) (x6 : Int32) (x7 : Int32) (x8 : Int32) (x9 : Int32) (x10 : Int32) (s0 : Int32) (hm : mM_layThere_184 N k38 k51 u x2 x3 x4 x5 x6 x7 x8 x9 x10 s0 = some rr) : J l rmM_layThere D G (0, 0) (wM cI o q u) [(0, .ref o), (2, .int x2), (3, .int x3), (4, .int x4), (5, .int x5), (6, .int x6), (7, .int x7), (8, .int x8), (9, .int x9), (10, .int x10)] [.int s0] 184 := by
  unfold mM_layThere_184 at hm
  refine j_istore C dX11_layThere_184 (by decide) rfl ?_
  refine j_aload_n C dX11_layThere_186 rfl 1 rfl ?_
  refine jM_g10 C dX11_layThere_187 ?_
  refine j_iload C dX11_layThere_190 8 rfl ?_
  refine j_iload C dX11_layThere_192 10 rfl ?_
  refine j_if_eqq (tgt := 202) C dX11_layThere_194 (by decide) hm (fun hm => ?_) (fun hm => ?_)
  · refine j_aload_n C dX11_layThere_202 rfl 1 rfl ?_
    refine jM_g10 C dX11_layThere_203 ?_
    refine j_iload C dX11_layThere_206 8 rfl ?_
    refine jM_L10 C dX11_layThere_208 hm (fun a1 hm => ?_)
    exact J.sub [1, 2, 3, 4, 5, 6, 7, 9, 0] rfl (kM_layThere_209 C hR k38 K38 k51 K51 u x2 x3 x4 x5 x6 x7 x9 s0 a1 x8 hm)
  · refine j_iload C dX11_layThere_197 9 rfl ?_
    refine j_goto (tgt := 209) C dX11_layThere_199 (by decide) ?_
    exact J.sub [1, 2, 3, 4, 5, 6, 7, 9, 0] rfl (kM_layThere_209 C hR k38 K38 k51 K51 u x2 x3 x4 x5 x6 x7 x9 s0 x9 x8 hm)
def mM_layThere_183 (N : Nat) (k38 : MSt → Int32 → Int32 → Int32 → Int32 → Option MSt) (k51 : MSt → Int32 → Int32 → Int32 → Int32 → Int32 → Option MSt) (u : MSt) (x2 : Int32) (x3 : Int32) (x4 : Int32) (x5 : Int32) (x6 : Int32) (x7 : Int32) (x8 : Int32) (x9 : Int32) (x10 : Int32) : Option MSt := mM_layThere_184 N k38 k51 u x2 x3 x4 x5 x6 x7 x8 x9 x10 0
set_option maxRecDepth 100000 in
set_option maxHeartbeats 4000000 in
theorem kM_layThere_183 {l : Launch} {D : va_G} {cI : ClassId} {o : Nat} {q : Nat → Nat} {G : Gx} {N : Nat} {rr : MSt} (C : jC l rmM_layThere D [(cI, .int)] G cX11_layThere 12 RX11) (hR : jR D [(cI, .int)] G (0, 0) none none (wM cI o q rr)) (k38 : MSt → Int32 → Int32 → Int32 → Int32 → Option MSt) (K38 : ∀ (u : MSt) (x2 : Int32) (x3 : Int32) (x4 : Int32) (x5 : Int32), k38 u x2 x3 x4 x5 = some rr → J l rmM_layThere D G (0, 0) (wM cI o q u) [(0, .ref o), (2, .int x2), (3, .int x3), (4, .int x4), (5, .int x5)] [] 38) (k51 : MSt → Int32 → Int32 → Int32 → Int32 → Int32 → Option MSt) (K51 : ∀ (u : MSt) (x2 : Int32) (x3 : Int32) (x4 : Int32) (x5 : Int32) (x6 : Int32), k51 u x2 x3 x4 x5 x6 = some rr → J l rmM_layThere D G (0, 0) (wM cI o q u) [(0, .ref o), (2, .int x2), (3, .int x3), (4, .int x4), (5, .int x5), (6, .int x6)] [] 51) (u : MSt) (x2 : Int32) (x3 : Int32) (x4 : Int32) (x5 : Int32) (x6 : Int32) (x7 : Int32) (x8 : Int32) (x9 : Int32) (x10 : Int32) (hm : mM_layThere_183 N k38 k51 u x2 x3 x4 x5 x6 x7 x8 x9 x10 = some rr) : J l rmM_layThere D G (0, 0) (wM cI o q u) [(0, .ref o), (2, .int x2), (3, .int x3), (4, .int x4), (5, .int x5), (6, .int x6), (7, .int x7), (8, .int x8), (9, .int x9), (10, .int x10)] [] 183 := by
  unfold mM_layThere_183 at hm
  refine j_iconst (v := 0) C dX11_layThere_183 (by decide) ?_
  exact kM_layThere_184 C hR k38 K38 k51 K51 u x2 x3 x4 x5 x6 x7 x8 x9 x10 0 hm
def mM_layThere_143 (N : Nat) (k38 : MSt → Int32 → Int32 → Int32 → Int32 → Option MSt) (k51 : MSt → Int32 → Int32 → Int32 → Int32 → Int32 → Option MSt) (u : MSt) (x2 : Int32) (x3 : Int32) (x4 : Int32) (x5 : Int32) (x6 : Int32) (x7 : Int32) (x8 : Int32) (x9 : Int32) (s0 : Int32) : Option MSt := rd (u.2.1 10) 8 x8 (fun a1 => if x5 < a1 then (mM_layThere_183 N k38 k51 u x2 x3 x4 x5 x6 x7 x8 x9 s0) else (rd (u.2.1 10) 8 x7 (fun a2 => if a2 ≤ x9 then (mM_layThere_183 N k38 k51 u x2 x3 x4 x5 x6 x7 x8 x9 s0) else (if (x2 + 400) < x9 then (mM_layThere_183 N k38 k51 u x2 x3 x4 x5 x6 x7 x8 x9 s0) else (mM_layThere_184 N k38 k51 u x2 x3 x4 x5 x6 x7 x8 x9 s0 1)))))
set_option maxRecDepth 100000 in
set_option maxHeartbeats 4000000 in
theorem kM_layThere_143 {l : Launch} {D : va_G} {cI : ClassId} {o : Nat} {q : Nat → Nat} {G : Gx} {N : Nat} {rr : MSt} (C : jC l rmM_layThere D [(cI, .int)] G cX11_layThere 12 RX11) (hR : jR D [(cI, .int)] G (0, 0) none none (wM cI o q rr)) (k38 : MSt → Int32 → Int32 → Int32 → Int32 → Option MSt) (K38 : ∀ (u : MSt) (x2 : Int32) (x3 : Int32) (x4 : Int32) (x5 : Int32), k38 u x2 x3 x4 x5 = some rr → J l rmM_layThere D G (0, 0) (wM cI o q u) [(0, .ref o), (2, .int x2), (3, .int x3), (4, .int x4), (5, .int x5)] [] 38) (k51 : MSt → Int32 → Int32 → Int32 → Int32 → Int32 → Option MSt) (K51 : ∀ (u : MSt) (x2 : Int32) (x3 : Int32) (x4 : Int32) (x5 : Int32) (x6 : Int32), k51 u x2 x3 x4 x5 x6 = some rr → J l rmM_layThere D G (0, 0) (wM cI o q u) [(0, .ref o), (2, .int x2), (3, .int x3), (4, .int x4), (5, .int x5), (6, .int x6)] [] 51) (u : MSt) (x2 : Int32) (x3 : Int32) (x4 : Int32) (x5 : Int32) (x6 : Int32) (x7 : Int32) (x8 : Int32) (x9 : Int32) (s0 : Int32) (hm : mM_layThere_143 N k38 k51 u x2 x3 x4 x5 x6 x7 x8 x9 s0 = some rr) : J l rmM_layThere D G (0, 0) (wM cI o q u) [(0, .ref o), (2, .int x2), (3, .int x3), (4, .int x4), (5, .int x5), (6, .int x6), (7, .int x7), (8, .int x8), (9, .int x9)] [.int s0] 143 := by
  unfold mM_layThere_143 at hm
  refine j_istore C dX11_layThere_143 (by decide) rfl ?_
  refine j_aload_n C dX11_layThere_145 rfl 1 rfl ?_
  refine jM_g10 C dX11_layThere_146 ?_
  refine j_iload C dX11_layThere_149 8 rfl ?_
  refine jM_L10 C dX11_layThere_151 hm (fun a1 hm => ?_)
  refine j_iload C dX11_layThere_152 5 rfl ?_
  refine j_icmp_gtq (tgt := 183) C dX11_layThere_154 (by decide) hm (fun hm => ?_) (fun hm => ?_)
  · exact J.sub [1, 2, 3, 4, 5, 6, 7, 8, 9, 0] rfl (kM_layThere_183 C hR k38 K38 k51 K51 u x2 x3 x4 x5 x6 x7 x8 x9 s0 hm)
  · refine j_iload C dX11_layThere_157 9 rfl ?_
    refine j_aload_n C dX11_layThere_159 rfl 1 rfl ?_
    refine jM_g10 C dX11_layThere_160 ?_
    refine j_iload C dX11_layThere_163 7 rfl ?_
    refine jM_L10 C dX11_layThere_165 hm (fun a2 hm => ?_)
    refine j_icmp_geq (tgt := 183) C dX11_layThere_166 (by decide) hm (fun hm => ?_) (fun hm => ?_)
    · exact J.sub [1, 2, 3, 4, 5, 6, 7, 8, 9, 0] rfl (kM_layThere_183 C hR k38 K38 k51 K51 u x2 x3 x4 x5 x6 x7 x8 x9 s0 hm)
    · refine j_iload C dX11_layThere_169 9 rfl ?_
      refine j_iload_n C dX11_layThere_171 rfl 2 rfl ?_
      refine j_sipush (v := 400) C dX11_layThere_172 (by decide) ?_
      refine j_iadd C dX11_layThere_175 ?_
      refine j_icmp_gtq (tgt := 183) C dX11_layThere_176 (by decide) hm (fun hm => ?_) (fun hm => ?_)
      · exact J.sub [1, 2, 3, 4, 5, 6, 7, 8, 9, 0] rfl (kM_layThere_183 C hR k38 K38 k51 K51 u x2 x3 x4 x5 x6 x7 x8 x9 s0 hm)
      · refine j_iconst (v := 1) C dX11_layThere_179 (by decide) ?_
        refine j_goto (tgt := 184) C dX11_layThere_180 (by decide) ?_
        exact J.sub [1, 2, 3, 4, 5, 6, 7, 8, 9, 0] rfl (kM_layThere_184 C hR k38 K38 k51 K51 u x2 x3 x4 x5 x6 x7 x8 x9 s0 1 hm)
def mM_layThere_142 (N : Nat) (k38 : MSt → Int32 → Int32 → Int32 → Int32 → Option MSt) (k51 : MSt → Int32 → Int32 → Int32 → Int32 → Int32 → Option MSt) (u : MSt) (x2 : Int32) (x3 : Int32) (x4 : Int32) (x5 : Int32) (x6 : Int32) (x7 : Int32) (x8 : Int32) (x9 : Int32) : Option MSt := mM_layThere_143 N k38 k51 u x2 x3 x4 x5 x6 x7 x8 x9 0
set_option maxRecDepth 100000 in
set_option maxHeartbeats 4000000 in
theorem kM_layThere_142 {l : Launch} {D : va_G} {cI : ClassId} {o : Nat} {q : Nat → Nat} {G : Gx} {N : Nat} {rr : MSt} (C : jC l rmM_layThere D [(cI, .int)] G cX11_layThere 12 RX11) (hR : jR D [(cI, .int)] G (0, 0) none none (wM cI o q rr)) (k38 : MSt → Int32 → Int32 → Int32 → Int32 → Option MSt) (K38 : ∀ (u : MSt) (x2 : Int32) (x3 : Int32) (x4 : Int32) (x5 : Int32), k38 u x2 x3 x4 x5 = some rr → J l rmM_layThere D G (0, 0) (wM cI o q u) [(0, .ref o), (2, .int x2), (3, .int x3), (4, .int x4), (5, .int x5)] [] 38) (k51 : MSt → Int32 → Int32 → Int32 → Int32 → Int32 → Option MSt) (K51 : ∀ (u : MSt) (x2 : Int32) (x3 : Int32) (x4 : Int32) (x5 : Int32) (x6 : Int32), k51 u x2 x3 x4 x5 x6 = some rr → J l rmM_layThere D G (0, 0) (wM cI o q u) [(0, .ref o), (2, .int x2), (3, .int x3), (4, .int x4), (5, .int x5), (6, .int x6)] [] 51) (u : MSt) (x2 : Int32) (x3 : Int32) (x4 : Int32) (x5 : Int32) (x6 : Int32) (x7 : Int32) (x8 : Int32) (x9 : Int32) (hm : mM_layThere_142 N k38 k51 u x2 x3 x4 x5 x6 x7 x8 x9 = some rr) : J l rmM_layThere D G (0, 0) (wM cI o q u) [(0, .ref o), (2, .int x2), (3, .int x3), (4, .int x4), (5, .int x5), (6, .int x6), (7, .int x7), (8, .int x8), (9, .int x9)] [] 142 := by
  unfold mM_layThere_142 at hm
  refine j_iconst (v := 0) C dX11_layThere_142 (by decide) ?_
  exact kM_layThere_143 C hR k38 K38 k51 K51 u x2 x3 x4 x5 x6 x7 x8 x9 0 hm
def mM_layThere_51 (N : Nat) (k38 : MSt → Int32 → Int32 → Int32 → Int32 → Option MSt) (k51 : MSt → Int32 → Int32 → Int32 → Int32 → Int32 → Option MSt) (u : MSt) (x2 : Int32) (x3 : Int32) (x4 : Int32) (x5 : Int32) (x6 : Int32) : Option MSt := if (u.1 4) ≤ x6 then (k38 u x2 x3 x4 (x5 + 1)) else ((mM_mayGo N u x6 x5 x3 x4).bind (fun r1 => if r1 = 0 then (mM_layThere_234 N k38 k51 u x2 x3 x4 x5 x6) else (rd (u.2.1 5) 100 ((10 * x6) + 1) (fun a2 => (mM_joinsNow N u x6 x5).bind (fun r3 => nm (x5 + x3) (fun v4 => rd (u.2.1 10) 8 a2 (fun a5 => if x5 < a5 then (mM_layThere_142 N k38 k51 u x2 x3 x4 x5 x6 a2 r3 v4) else (rd (u.2.1 10) 8 r3 (fun a6 => if a6 ≤ v4 then (mM_layThere_142 N k38 k51 u x2 x3 x4 x5 x6 a2 r3 v4) else (if (x2 + 400) < v4 then (mM_layThere_142 N k38 k51 u x2 x3 x4 x5 x6 a2 r3 v4) else (mM_layThere_143 N k38 k51 u x2 x3 x4 x5 x6 a2 r3 v4 1)))))))))))
set_option maxRecDepth 100000 in
set_option maxHeartbeats 4000000 in
theorem kM_layThere_51 {l : Launch} {D : va_G} {cI : ClassId} {o : Nat} {q : Nat → Nat} {G : Gx} {N : Nat} {rr : MSt} (C : jC l rmM_layThere D [(cI, .int)] G cX11_layThere 12 RX11) (hR : jR D [(cI, .int)] G (0, 0) none none (wM cI o q rr)) (k38 : MSt → Int32 → Int32 → Int32 → Int32 → Option MSt) (K38 : ∀ (u : MSt) (x2 : Int32) (x3 : Int32) (x4 : Int32) (x5 : Int32), k38 u x2 x3 x4 x5 = some rr → J l rmM_layThere D G (0, 0) (wM cI o q u) [(0, .ref o), (2, .int x2), (3, .int x3), (4, .int x4), (5, .int x5)] [] 38) (k51 : MSt → Int32 → Int32 → Int32 → Int32 → Int32 → Option MSt) (K51 : ∀ (u : MSt) (x2 : Int32) (x3 : Int32) (x4 : Int32) (x5 : Int32) (x6 : Int32), k51 u x2 x3 x4 x5 x6 = some rr → J l rmM_layThere D G (0, 0) (wM cI o q u) [(0, .ref o), (2, .int x2), (3, .int x3), (4, .int x4), (5, .int x5), (6, .int x6)] [] 51) (u : MSt) (x2 : Int32) (x3 : Int32) (x4 : Int32) (x5 : Int32) (x6 : Int32) (hm : mM_layThere_51 N k38 k51 u x2 x3 x4 x5 x6 = some rr) : J l rmM_layThere D G (0, 0) (wM cI o q u) [(0, .ref o), (2, .int x2), (3, .int x3), (4, .int x4), (5, .int x5), (6, .int x6)] [] 51 := by
  unfold mM_layThere_51 at hm
  refine j_iload C dX11_layThere_51 5 rfl ?_
  refine j_aload_n C dX11_layThere_53 rfl 0 rfl ?_
  refine jM_g4 C dX11_layThere_54 ?_
  refine j_icmp_geq (tgt := 240) C dX11_layThere_57 (by decide) hm (fun hm => ?_) (fun hm => ?_)
  · refine j_iinc (v := (x5 + 1)) C dX11_layThere_240 4 rfl rfl (by decide) rfl ?_
    refine j_goto (tgt := 38) C dX11_layThere_243 (by decide) ?_
    exact J.sub [1, 2, 3, 4, 0] rfl (K38 u x2 x3 x4 (x5 + 1) hm)
  · refine j_aload_n C dX11_layThere_60 rfl 0 rfl ?_
    refine j_iload C dX11_layThere_61 5 rfl ?_
    refine j_iload C dX11_layThere_63 4 rfl ?_
    refine j_iload_n C dX11_layThere_65 rfl 2 rfl ?_
    refine j_iload C dX11_layThere_66 3 rfl ?_
    refine j_bind hm (fun r1 hr1 hm => ?_)
    refine j_callV (cs' := (0, 0)) (As := [.int x6, .int x5, .int x3, .int x4]) (rest := []) C (cM_mayGo hr1) wc_X11_mayGo wm_X11_143 wi_X11_mayGo ws_X11_mayGo wn_X11 wd_X11_mayGo ⟨by decide, by decide⟩ 0 rfl rfl rfl (Nat.le_of_ble_eq_true rfl) dX11_layThere_68 ⟨by decide, by decide⟩ rfl rfl ?_
    refine j_if_eqq (tgt := 234) C dX11_layThere_71 (by decide) hm (fun hm => ?_) (fun hm => ?_)
    · exact kM_layThere_234 C hR k38 K38 k51 K51 u x2 x3 x4 x5 x6 hm
    · refine j_aload_n C dX11_layThere_74 rfl 0 rfl ?_
      refine jM_g5 C dX11_layThere_75 ?_
      refine j_bipush (v := 10) C dX11_layThere_78 (by decide) ?_
      refine j_iload C dX11_layThere_80 5 rfl ?_
      refine j_imul C dX11_layThere_82 ?_
      refine j_iconst (v := 1) C dX11_layThere_83 (by decide) ?_
      refine j_iadd C dX11_layThere_84 ?_
      refine jM_L5 C dX11_layThere_85 hm (fun a2 hm => ?_)
      refine j_istore C dX11_layThere_86 (by decide) rfl ?_
      refine j_aload_n C dX11_layThere_88 rfl 1 rfl ?_
      refine j_iload C dX11_layThere_89 6 rfl ?_
      refine j_iload C dX11_layThere_91 5 rfl ?_
      refine j_bind hm (fun r3 hr3 hm => ?_)
      refine j_callV (cs' := (0, 0)) (As := [.int x6, .int x5]) (rest := []) C (cM_joinsNow hr3) wc_X11_joinsNow wm_X11_134 wi_X11_joinsNow ws_X11_joinsNow wn_X11 wd_X11_joinsNow ⟨by decide, by decide⟩ 0 rfl rfl rfl (Nat.le_of_ble_eq_true rfl) dX11_layThere_93 ⟨by decide, by decide⟩ rfl rfl ?_
      refine j_istore C dX11_layThere_96 (by decide) rfl ?_
      refine j_iload C dX11_layThere_98 6 rfl ?_
      refine j_iload_n C dX11_layThere_100 rfl 4 rfl ?_
      refine j_iadd C dX11_layThere_101 ?_
      refine j_nmi hm (fun v4 hm => ?_)
      refine j_istore C dX11_layThere_102 (by decide) rfl ?_
      refine j_aload_n C dX11_layThere_104 rfl 3 rfl ?_
      refine jM_g10 C dX11_layThere_105 ?_
      refine j_iload C dX11_layThere_108 2 rfl ?_
      refine jM_L10 C dX11_layThere_110 hm (fun a5 hm => ?_)
      refine j_iload C dX11_layThere_111 7 rfl ?_
      refine j_icmp_gtq (tgt := 142) C dX11_layThere_113 (by decide) hm (fun hm => ?_) (fun hm => ?_)
      · exact J.sub [3, 4, 5, 6, 7, 8, 2, 1, 0] rfl (kM_layThere_142 C hR k38 K38 k51 K51 u x2 x3 x4 x5 x6 a2 r3 v4 hm)
      · refine j_iload C dX11_layThere_116 0 rfl ?_
        refine j_aload_n C dX11_layThere_118 rfl 3 rfl ?_
        refine jM_g10 C dX11_layThere_119 ?_
        refine j_iload C dX11_layThere_122 1 rfl ?_
        refine jM_L10 C dX11_layThere_124 hm (fun a6 hm => ?_)
        refine j_icmp_geq (tgt := 142) C dX11_layThere_125 (by decide) hm (fun hm => ?_) (fun hm => ?_)
        · exact J.sub [3, 4, 5, 6, 7, 8, 2, 1, 0] rfl (kM_layThere_142 C hR k38 K38 k51 K51 u x2 x3 x4 x5 x6 a2 r3 v4 hm)
        · refine j_iload C dX11_layThere_128 0 rfl ?_
          refine j_iload_n C dX11_layThere_130 rfl 4 rfl ?_
          refine j_sipush (v := 400) C dX11_layThere_131 (by decide) ?_
          refine j_iadd C dX11_layThere_134 ?_
          refine j_icmp_gtq (tgt := 142) C dX11_layThere_135 (by decide) hm (fun hm => ?_) (fun hm => ?_)
          · exact J.sub [3, 4, 5, 6, 7, 8, 2, 1, 0] rfl (kM_layThere_142 C hR k38 K38 k51 K51 u x2 x3 x4 x5 x6 a2 r3 v4 hm)
          · refine j_iconst (v := 1) C dX11_layThere_138 (by decide) ?_
            refine j_goto (tgt := 143) C dX11_layThere_139 (by decide) ?_
            exact J.sub [3, 4, 5, 6, 7, 8, 2, 1, 0] rfl (kM_layThere_143 C hR k38 K38 k51 K51 u x2 x3 x4 x5 x6 a2 r3 v4 1 hm)
def mM_layThere_h51 (N : Nat) (k38 : MSt → Int32 → Int32 → Int32 → Int32 → Option MSt) : Nat → MSt → Int32 → Int32 → Int32 → Int32 → Int32 → Option MSt
  | 0, _, _, _, _, _, _ => none
  | n + 1, u, x2, x3, x4, x5, x6 => mM_layThere_51 N k38 (mM_layThere_h51 N k38 n) u x2 x3 x4 x5 x6
theorem kM_layThere_h51 {l : Launch} {D : va_G} {cI : ClassId} {o : Nat} {q : Nat → Nat} {G : Gx} {N : Nat} {rr : MSt} (C : jC l rmM_layThere D [(cI, .int)] G cX11_layThere 12 RX11) (hR : jR D [(cI, .int)] G (0, 0) none none (wM cI o q rr)) (k38 : MSt → Int32 → Int32 → Int32 → Int32 → Option MSt) (K38 : ∀ (u : MSt) (x2 : Int32) (x3 : Int32) (x4 : Int32) (x5 : Int32), k38 u x2 x3 x4 x5 = some rr → J l rmM_layThere D G (0, 0) (wM cI o q u) [(0, .ref o), (2, .int x2), (3, .int x3), (4, .int x4), (5, .int x5)] [] 38) : ∀ (n : Nat) (u : MSt) (x2 : Int32) (x3 : Int32) (x4 : Int32) (x5 : Int32) (x6 : Int32), mM_layThere_h51 N k38 n u x2 x3 x4 x5 x6 = some rr → J l rmM_layThere D G (0, 0) (wM cI o q u) [(0, .ref o), (2, .int x2), (3, .int x3), (4, .int x4), (5, .int x5), (6, .int x6)] [] 51 := by
  intro n
  induction n with
  | zero =>
    intro u x2 x3 x4 x5 x6 hm
    have hm : (none : Option MSt) = some rr := hm
    cases hm
  | succ n ih =>
    intro u x2 x3 x4 x5 x6 hm
    exact kM_layThere_51 C hR k38 K38 _ ih u x2 x3 x4 x5 x6 hm
def mM_layThere_38 (N : Nat) (k38 : MSt → Int32 → Int32 → Int32 → Int32 → Option MSt) (u : MSt) (x2 : Int32) (x3 : Int32) (x4 : Int32) (x5 : Int32) : Option MSt := if (x2 + 400) ≤ x5 then (some u) else (mM_layThere_h51 N k38 N u x2 x3 x4 x5 0)
set_option maxRecDepth 100000 in
set_option maxHeartbeats 4000000 in
theorem kM_layThere_38 {l : Launch} {D : va_G} {cI : ClassId} {o : Nat} {q : Nat → Nat} {G : Gx} {N : Nat} {rr : MSt} (C : jC l rmM_layThere D [(cI, .int)] G cX11_layThere 12 RX11) (hR : jR D [(cI, .int)] G (0, 0) none none (wM cI o q rr)) (k38 : MSt → Int32 → Int32 → Int32 → Int32 → Option MSt) (K38 : ∀ (u : MSt) (x2 : Int32) (x3 : Int32) (x4 : Int32) (x5 : Int32), k38 u x2 x3 x4 x5 = some rr → J l rmM_layThere D G (0, 0) (wM cI o q u) [(0, .ref o), (2, .int x2), (3, .int x3), (4, .int x4), (5, .int x5)] [] 38) (u : MSt) (x2 : Int32) (x3 : Int32) (x4 : Int32) (x5 : Int32) (hm : mM_layThere_38 N k38 u x2 x3 x4 x5 = some rr) : J l rmM_layThere D G (0, 0) (wM cI o q u) [(0, .ref o), (2, .int x2), (3, .int x3), (4, .int x4), (5, .int x5)] [] 38 := by
  unfold mM_layThere_38 at hm
  refine j_iload C dX11_layThere_38 4 rfl ?_
  refine j_iload_n C dX11_layThere_40 rfl 1 rfl ?_
  refine j_sipush (v := 400) C dX11_layThere_41 (by decide) ?_
  refine j_iadd C dX11_layThere_44 ?_
  refine j_icmp_geq (tgt := 246) C dX11_layThere_45 (by decide) hm (fun hm => ?_) (fun hm => ?_)
  · cases hm
    exact j_vret C hR dX11_layThere_246
  · refine j_iconst (v := 0) C dX11_layThere_48 (by decide) ?_
    refine j_istore C dX11_layThere_49 (by decide) rfl ?_
    exact J.sub [1, 2, 3, 4, 5, 0] rfl (kM_layThere_h51 C hR k38 K38 N u x2 x3 x4 x5 0 hm)
def mM_layThere_h38 (N : Nat) : Nat → MSt → Int32 → Int32 → Int32 → Int32 → Option MSt
  | 0, _, _, _, _, _ => none
  | n + 1, u, x2, x3, x4, x5 => mM_layThere_38 N (mM_layThere_h38 N n) u x2 x3 x4 x5
theorem kM_layThere_h38 {l : Launch} {D : va_G} {cI : ClassId} {o : Nat} {q : Nat → Nat} {G : Gx} {N : Nat} {rr : MSt} (C : jC l rmM_layThere D [(cI, .int)] G cX11_layThere 12 RX11) (hR : jR D [(cI, .int)] G (0, 0) none none (wM cI o q rr))  : ∀ (n : Nat) (u : MSt) (x2 : Int32) (x3 : Int32) (x4 : Int32) (x5 : Int32), mM_layThere_h38 N n u x2 x3 x4 x5 = some rr → J l rmM_layThere D G (0, 0) (wM cI o q u) [(0, .ref o), (2, .int x2), (3, .int x3), (4, .int x4), (5, .int x5)] [] 38 := by
  intro n
  induction n with
  | zero =>
    intro u x2 x3 x4 x5 hm
    have hm : (none : Option MSt) = some rr := hm
    cases hm
  | succ n ih =>
    intro u x2 x3 x4 x5 hm
    exact kM_layThere_38 C hR _ ih u x2 x3 x4 x5 hm
def mM_layThere_3 (N : Nat) (k3 : MSt → Int32 → Int32 → Int32 → Int32 → Int32 → Option MSt) (u : MSt) (x1 : Int32) (x2 : Int32) (x3 : Int32) (x4 : Int32) (x5 : Int32) : Option MSt := if 8 ≤ x5 then (mM_layThere_h38 N N u x2 x3 x4 x2) else (if ¬ x5 = x1 then (mM_layThere_28 N k3 u x1 x2 x3 x4 x5 100000 x5) else (mM_layThere_28 N k3 u x1 x2 x3 x4 x5 x2 x5))
set_option maxRecDepth 100000 in
set_option maxHeartbeats 4000000 in
theorem kM_layThere_3 {l : Launch} {D : va_G} {cI : ClassId} {o : Nat} {q : Nat → Nat} {G : Gx} {N : Nat} {rr : MSt} (C : jC l rmM_layThere D [(cI, .int)] G cX11_layThere 12 RX11) (hR : jR D [(cI, .int)] G (0, 0) none none (wM cI o q rr)) (k3 : MSt → Int32 → Int32 → Int32 → Int32 → Int32 → Option MSt) (K3 : ∀ (u : MSt) (x1 : Int32) (x2 : Int32) (x3 : Int32) (x4 : Int32) (x5 : Int32), k3 u x1 x2 x3 x4 x5 = some rr → J l rmM_layThere D G (0, 0) (wM cI o q u) [(0, .ref o), (1, .int x1), (2, .int x2), (3, .int x3), (4, .int x4), (5, .int x5)] [] 3) (u : MSt) (x1 : Int32) (x2 : Int32) (x3 : Int32) (x4 : Int32) (x5 : Int32) (hm : mM_layThere_3 N k3 u x1 x2 x3 x4 x5 = some rr) : J l rmM_layThere D G (0, 0) (wM cI o q u) [(0, .ref o), (1, .int x1), (2, .int x2), (3, .int x3), (4, .int x4), (5, .int x5)] [] 3 := by
  unfold mM_layThere_3 at hm
  refine j_iload C dX11_layThere_3 5 rfl ?_
  refine j_bipush (v := 8) C dX11_layThere_5 (by decide) ?_
  refine j_icmp_geq (tgt := 35) C dX11_layThere_7 (by decide) hm (fun hm => ?_) (fun hm => ?_)
  · refine j_iload_n C dX11_layThere_35 rfl 2 rfl ?_
    refine j_istore C dX11_layThere_36 (by decide) rfl ?_
    exact J.sub [1, 3, 4, 5, 0] rfl (kM_layThere_h38 C hR N u x2 x3 x4 x2 hm)
  · refine j_aload_n C dX11_layThere_10 rfl 0 rfl ?_
    refine jM_g10 C dX11_layThere_11 ?_
    refine j_iload C dX11_layThere_14 5 rfl ?_
    refine j_iload C dX11_layThere_16 5 rfl ?_
    refine j_iload_n C dX11_layThere_18 rfl 1 rfl ?_
    refine j_icmp_neq (tgt := 26) C dX11_layThere_19 (by decide) hm (fun hm => ?_) (fun hm => ?_)
    · refine j_ldc C dX11_layThere_26 wk_X11_142 ?_
      exact kM_layThere_28 C hR k3 K3 u x1 x2 x3 x4 x5 100000 x5 hm
    · refine j_iload_n C dX11_layThere_22 rfl 2 rfl ?_
      refine j_goto (tgt := 28) C dX11_layThere_23 (by decide) ?_
      exact kM_layThere_28 C hR k3 K3 u x1 x2 x3 x4 x5 x2 x5 hm
def mM_layThere_h3 (N : Nat) : Nat → MSt → Int32 → Int32 → Int32 → Int32 → Int32 → Option MSt
  | 0, _, _, _, _, _, _ => none
  | n + 1, u, x1, x2, x3, x4, x5 => mM_layThere_3 N (mM_layThere_h3 N n) u x1 x2 x3 x4 x5
theorem kM_layThere_h3 {l : Launch} {D : va_G} {cI : ClassId} {o : Nat} {q : Nat → Nat} {G : Gx} {N : Nat} {rr : MSt} (C : jC l rmM_layThere D [(cI, .int)] G cX11_layThere 12 RX11) (hR : jR D [(cI, .int)] G (0, 0) none none (wM cI o q rr))  : ∀ (n : Nat) (u : MSt) (x1 : Int32) (x2 : Int32) (x3 : Int32) (x4 : Int32) (x5 : Int32), mM_layThere_h3 N n u x1 x2 x3 x4 x5 = some rr → J l rmM_layThere D G (0, 0) (wM cI o q u) [(0, .ref o), (1, .int x1), (2, .int x2), (3, .int x3), (4, .int x4), (5, .int x5)] [] 3 := by
  intro n
  induction n with
  | zero =>
    intro u x1 x2 x3 x4 x5 hm
    have hm : (none : Option MSt) = some rr := hm
    cases hm
  | succ n ih =>
    intro u x1 x2 x3 x4 x5 hm
    exact kM_layThere_3 C hR _ ih u x1 x2 x3 x4 x5 hm
def mM_layThere (N : Nat) (u : MSt) (x1 : Int32) (x2 : Int32) (x3 : Int32) (x4 : Int32) : Option MSt := mM_layThere_h3 N N u x1 x2 x3 x4 0
set_option maxRecDepth 100000 in
set_option maxHeartbeats 4000000 in
theorem cM_layThere {l : Launch} {D : va_G} {cI : ClassId} {o : Nat} {q : Nat → Nat} {u : MSt} {N : Nat} {x1 : Int32} {x2 : Int32} {x3 : Int32} {x4 : Int32} {rr : MSt} (hm : mM_layThere N u x1 x2 x3 x4 = some rr) : Con l D [(cI, .int)] yX11_layThere (wS yX11_layThere cX11_layThere 12 none) rmM_layThere [.ref o, .int x1, .int x2, .int x3, .int x4] (wM cI o q u) none (wM cI o q rr) := by
  refine Con.of (by decide +kernel) (Nat.le_of_ble_eq_true rfl) (fun G C hR => ?_)
  unfold mM_layThere at hm
  show J l rmM_layThere D G (0, 0) (wM cI o q u) [(0, .ref o), (1, .int x1), (2, .int x2), (3, .int x3), (4, .int x4)] [] 0
  refine j_iconst (v := 0) C dX11_layThere_0 (by decide) ?_
  refine j_istore C dX11_layThere_1 (by decide) rfl ?_
  exact J.sub [1, 2, 3, 4, 5, 0] rfl (kM_layThere_h3 C hR N u x1 x2 x3 x4 0 hm)
def rmM_soonestOf : Room := { frames := 7, cells := 0, slots := 0, locals := 170 }
theorem wd_X11_soonestOf : yX11_soonestOf.cls ≠ "java/lang/invoke/MethodHandle" ∧ yX11_soonestOf.cls ≠ "java/lang/invoke/VarHandle" ∧ (parseMethodDescriptor yX11_soonestOf.desc).map (fun d => d.parameters.length) = some 5 := by decide +kernel
def mM_soonestOf_31 (N : Nat) (u : MSt) (s0 : Int32) : Option (Int32 × MSt) := some (s0, u)
set_option maxRecDepth 100000 in
set_option maxHeartbeats 4000000 in
theorem kM_soonestOf_31 {l : Launch} {D : va_G} {cI : ClassId} {o : Nat} {q : Nat → Nat} {G : Gx} {N : Nat} {rr : (Int32 × MSt)} (C : jC l rmM_soonestOf D [(cI, .int)] G cX11_soonestOf 6 RX11) (hR : jR D [(cI, .int)] G (0, 0) (some .int) (some (.int rr.1)) (wM cI o q rr.2))  (u : MSt) (s0 : Int32) (hm : mM_soonestOf_31 N u s0 = some rr) : J l rmM_soonestOf D G (0, 0) (wM cI o q u) [] [.int s0] 31 := by
  unfold mM_soonestOf_31 at hm
  cases hm
  exact j_iret C hR dX11_soonestOf_31
def mM_soonestOf (N : Nat) (u : MSt) (x1 : Int32) (x2 : Int32) (x3 : Int32) (x4 : Int32) (x5 : Int32) : Option (Int32 × MSt) := (mM_layThere N u x1 x3 x4 x5).bind (fun r1 => rd (r1.2.1 10) 8 x2 (fun a2 => if ¬ a2 = 100000 then (rd (r1.2.1 10) 8 x2 (fun a3 => mM_soonestOf_31 N r1 a3)) else (mM_soonestOf_31 N r1 (-1))))
set_option maxRecDepth 100000 in
set_option maxHeartbeats 4000000 in
theorem cM_soonestOf {l : Launch} {D : va_G} {cI : ClassId} {o : Nat} {q : Nat → Nat} {u : MSt} {N : Nat} {x1 : Int32} {x2 : Int32} {x3 : Int32} {x4 : Int32} {x5 : Int32} {rr : (Int32 × MSt)} (hm : mM_soonestOf N u x1 x2 x3 x4 x5 = some rr) : Con l D [(cI, .int)] yX11_soonestOf (wS yX11_soonestOf cX11_soonestOf 6 (some .int)) rmM_soonestOf [.ref o, .int x1, .int x2, .int x3, .int x4, .int x5] (wM cI o q u) (some (.int rr.1)) (wM cI o q rr.2) := by
  refine Con.of (by decide +kernel) (Nat.le_of_ble_eq_true rfl) (fun G C hR => ?_)
  unfold mM_soonestOf at hm
  show J l rmM_soonestOf D G (0, 0) (wM cI o q u) [(0, .ref o), (1, .int x1), (2, .int x2), (3, .int x3), (4, .int x4), (5, .int x5)] [] 0
  refine j_aload_n C dX11_soonestOf_0 rfl 0 rfl ?_
  refine j_iload_n C dX11_soonestOf_1 rfl 1 rfl ?_
  refine j_iload_n C dX11_soonestOf_2 rfl 3 rfl ?_
  refine j_iload C dX11_soonestOf_3 4 rfl ?_
  refine j_iload C dX11_soonestOf_5 5 rfl ?_
  refine j_bind hm (fun r1 hr1 hm => ?_)
  refine j_callV (cs' := (0, 0)) (As := [.int x1, .int x3, .int x4, .int x5]) (rest := []) C (cM_layThere hr1) wc_X11_layThere wm_X11_147 wi_X11_layThere ws_X11_layThere wn_X11 wd_X11_layThere ⟨by decide, by decide⟩ 0 rfl rfl rfl (Nat.le_of_ble_eq_true rfl) dX11_soonestOf_7 ⟨by decide, by decide⟩ rfl rfl ?_
  refine j_aload_n C dX11_soonestOf_10 rfl 0 rfl ?_
  refine jM_g10 C dX11_soonestOf_11 ?_
  refine j_iload_n C dX11_soonestOf_14 rfl 2 rfl ?_
  refine jM_L10 C dX11_soonestOf_15 hm (fun a2 hm => ?_)
  refine j_ldc C dX11_soonestOf_16 wk_X11_142 ?_
  refine j_icmp_neq (tgt := 25) C dX11_soonestOf_18 (by decide) hm (fun hm => ?_) (fun hm => ?_)
  · refine j_aload_n C dX11_soonestOf_25 rfl 0 rfl ?_
    refine jM_g10 C dX11_soonestOf_26 ?_
    refine j_iload_n C dX11_soonestOf_29 rfl 2 rfl ?_
    refine jM_L10 C dX11_soonestOf_30 hm (fun a3 hm => ?_)
    exact J.sub [] rfl (kM_soonestOf_31 C hR r1 a3 hm)
  · refine j_iconst (v := (-1)) C dX11_soonestOf_21 (by decide) ?_
    refine j_goto (tgt := 31) C dX11_soonestOf_22 (by decide) ?_
    exact J.sub [] rfl (kM_soonestOf_31 C hR r1 (-1) hm)
def rmM_isCarrier : Room := { frames := 1, cells := 0, slots := 0, locals := 25 }
theorem wd_X11_isCarrier : yX11_isCarrier.cls ≠ "java/lang/invoke/MethodHandle" ∧ yX11_isCarrier.cls ≠ "java/lang/invoke/VarHandle" ∧ (parseMethodDescriptor yX11_isCarrier.desc).map (fun d => d.parameters.length) = some 2 := by decide +kernel
def mM_isCarrier_29 (N : Nat) (s0 : Int32) : Option Int32 := gd (s0 = 0 ∨ s0 = 1) (some s0)
set_option maxRecDepth 100000 in
set_option maxHeartbeats 4000000 in
theorem kM_isCarrier_29 {l : Launch} {D : va_G} {tys : List (ClassId × FieldType)} {G : Gx} {N : Nat} {rr : Int32} (C : jC l rmM_isCarrier D tys G cX11_isCarrier 2 RX11) (hR : jR D tys G (0, 0) (some .boolean) (some (.int rr)) [])  (s0 : Int32) (hm : mM_isCarrier_29 N s0 = some rr) : J l rmM_isCarrier D G (0, 0) [] [] [.int s0] 29 := by
  unfold mM_isCarrier_29 at hm
  obtain ⟨g, hm⟩ := gd_some hm
  cases hm
  exact j_zret C hR (jz01 g) dX11_isCarrier_29
def mM_isCarrier_28 (N : Nat)  : Option Int32 := mM_isCarrier_29 N 0
set_option maxRecDepth 100000 in
set_option maxHeartbeats 4000000 in
theorem kM_isCarrier_28 {l : Launch} {D : va_G} {tys : List (ClassId × FieldType)} {G : Gx} {N : Nat} {rr : Int32} (C : jC l rmM_isCarrier D tys G cX11_isCarrier 2 RX11) (hR : jR D tys G (0, 0) (some .boolean) (some (.int rr)) [])   (hm : mM_isCarrier_28 N = some rr) : J l rmM_isCarrier D G (0, 0) [] [] [] 28 := by
  unfold mM_isCarrier_28 at hm
  refine j_iconst (v := 0) C dX11_isCarrier_28 (by decide) ?_
  exact kM_isCarrier_29 C hR 0 hm
def mM_isCarrier (N : Nat) (x0 : Int32) (x1 : Int32) : Option Int32 := (mM_in N (Int32.toInt64 x0) 1 9).bind (fun r1 => if r1 = 0 then (mM_isCarrier_28 N) else ((mM_in N (Int32.toInt64 x1) 1 9).bind (fun r2 => if r2 = 0 then (mM_isCarrier_28 N) else (mM_isCarrier_29 N 1))))
set_option maxRecDepth 100000 in
set_option maxHeartbeats 4000000 in
theorem cM_isCarrier {l : Launch} {D : va_G} {tys : List (ClassId × FieldType)} {N : Nat} {x0 : Int32} {x1 : Int32} {rr : Int32} (hm : mM_isCarrier N x0 x1 = some rr) : Con l D tys yX11_isCarrier (wS yX11_isCarrier cX11_isCarrier 2 (some .boolean)) rmM_isCarrier [.int x0, .int x1] [] (some (.int rr)) [] := by
  refine Con.of (by decide +kernel) (Nat.le_of_ble_eq_true rfl) (fun G C hR => ?_)
  unfold mM_isCarrier at hm
  show J l rmM_isCarrier D G (0, 0) [] [(0, .int x0), (1, .int x1)] [] 0
  refine j_iload_n C dX11_isCarrier_0 rfl 0 rfl ?_
  refine j_i2l C dX11_isCarrier_1 ?_
  refine j_lconst (v := 1) C dX11_isCarrier_2 (by decide) ?_
  refine j_ldc2 C dX11_isCarrier_3 wk_X11_67 ?_
  refine j_bind hm (fun r1 hr1 hm => ?_)
  refine j_callS (cs' := (0, 0)) (As := [.long (Int32.toInt64 x0), .long 1, .long 9]) (rest := []) C (cM_in hr1) wc_X11_in wm_X11_69 wt_X11_in wn_X11 wd_X11_in ⟨by decide, by decide⟩ rfl (Nat.le_of_ble_eq_true rfl) dX11_isCarrier_6 ⟨by decide, by decide⟩ rfl rfl ?_
  refine j_if_eqq (tgt := 28) C dX11_isCarrier_9 (by decide) hm (fun hm => ?_) (fun hm => ?_)
  · exact J.sub [] rfl (kM_isCarrier_28 C hR hm)
  · refine j_iload_n C dX11_isCarrier_12 rfl 1 rfl ?_
    refine j_i2l C dX11_isCarrier_13 ?_
    refine j_lconst (v := 1) C dX11_isCarrier_14 (by decide) ?_
    refine j_ldc2 C dX11_isCarrier_15 wk_X11_67 ?_
    refine j_bind hm (fun r2 hr2 hm => ?_)
    refine j_callS (cs' := (0, 0)) (As := [.long (Int32.toInt64 x1), .long 1, .long 9]) (rest := []) C (cM_in hr2) wc_X11_in wm_X11_69 wt_X11_in wn_X11 wd_X11_in ⟨by decide, by decide⟩ rfl (Nat.le_of_ble_eq_true rfl) dX11_isCarrier_18 ⟨by decide, by decide⟩ rfl rfl ?_
    refine j_if_eqq (tgt := 28) C dX11_isCarrier_21 (by decide) hm (fun hm => ?_) (fun hm => ?_)
    · exact J.sub [] rfl (kM_isCarrier_28 C hR hm)
    · refine j_iconst (v := 1) C dX11_isCarrier_24 (by decide) ?_
      refine j_goto (tgt := 29) C dX11_isCarrier_25 (by decide) ?_
      exact J.sub [] rfl (kM_isCarrier_29 C hR 1 hm)
def rmM_isMinute : Room := { frames := 1, cells := 0, slots := 0, locals := 25 }
theorem wd_X11_isMinute : yX11_isMinute.cls ≠ "java/lang/invoke/MethodHandle" ∧ yX11_isMinute.cls ≠ "java/lang/invoke/VarHandle" ∧ (parseMethodDescriptor yX11_isMinute.desc).map (fun d => d.parameters.length) = some 1 := by decide +kernel
def mM_isMinute (N : Nat) (x0 : Int32) : Option Int32 := (mM_in N (Int32.toInt64 x0) 0 999).bind (fun r1 => gd (r1 = 0 ∨ r1 = 1) (some r1))
set_option maxRecDepth 100000 in
set_option maxHeartbeats 4000000 in
theorem cM_isMinute {l : Launch} {D : va_G} {tys : List (ClassId × FieldType)} {N : Nat} {x0 : Int32} {rr : Int32} (hm : mM_isMinute N x0 = some rr) : Con l D tys yX11_isMinute (wS yX11_isMinute cX11_isMinute 1 (some .boolean)) rmM_isMinute [.int x0] [] (some (.int rr)) [] := by
  refine Con.of (by decide +kernel) (Nat.le_of_ble_eq_true rfl) (fun G C hR => ?_)
  unfold mM_isMinute at hm
  show J l rmM_isMinute D G (0, 0) [] [(0, .int x0)] [] 0
  refine j_iload_n C dX11_isMinute_0 rfl 0 rfl ?_
  refine j_i2l C dX11_isMinute_1 ?_
  refine j_lconst (v := 0) C dX11_isMinute_2 (by decide) ?_
  refine j_ldc2 C dX11_isMinute_3 wk_X11_151 ?_
  refine j_bind hm (fun r1 hr1 hm => ?_)
  refine j_callS (cs' := (0, 0)) (As := [.long (Int32.toInt64 x0), .long 0, .long 999]) (rest := []) C (cM_in hr1) wc_X11_in wm_X11_69 wt_X11_in wn_X11 wd_X11_in ⟨by decide, by decide⟩ rfl (Nat.le_of_ble_eq_true rfl) dX11_isMinute_6 ⟨by decide, by decide⟩ rfl rfl ?_
  obtain ⟨g, hm⟩ := gd_some hm
  cases hm
  exact j_zret C hR (jz01 g) dX11_isMinute_9
def rmM_soonest : Room := { frames := 8, cells := 0, slots := 0, locals := 195 }
theorem wd_X11_soonest : yX11_soonest.cls ≠ "java/lang/invoke/MethodHandle" ∧ yX11_soonest.cls ≠ "java/lang/invoke/VarHandle" ∧ (parseMethodDescriptor yX11_soonest.desc).map (fun d => d.parameters.length) = some 5 := by decide +kernel
def mM_soonest_14 (N : Nat) (u : MSt) : Option (Int32 × MSt) := some ((-101), u)
set_option maxRecDepth 100000 in
set_option maxHeartbeats 4000000 in
theorem kM_soonest_14 {l : Launch} {D : va_G} {cI : ClassId} {o : Nat} {q : Nat → Nat} {G : Gx} {N : Nat} {rr : (Int32 × MSt)} (C : jC l rmM_soonest D [(cI, .int)] G cX11_soonest 6 RX11) (hR : jR D [(cI, .int)] G (0, 0) (some .int) (some (.int rr.1)) (wM cI o q rr.2))  (u : MSt)  (hm : mM_soonest_14 N u = some rr) : J l rmM_soonest D G (0, 0) (wM cI o q u) [] [] 14 := by
  unfold mM_soonest_14 at hm
  refine j_bipush (v := (-101)) C dX11_soonest_14 (by decide) ?_
  cases hm
  exact j_iret C hR dX11_soonest_16
def mM_soonest_50 (N : Nat) (u : MSt) (s0 : Int32) : Option (Int32 × MSt) := some (s0, u)
set_option maxRecDepth 100000 in
set_option maxHeartbeats 4000000 in
theorem kM_soonest_50 {l : Launch} {D : va_G} {cI : ClassId} {o : Nat} {q : Nat → Nat} {G : Gx} {N : Nat} {rr : (Int32 × MSt)} (C : jC l rmM_soonest D [(cI, .int)] G cX11_soonest 6 RX11) (hR : jR D [(cI, .int)] G (0, 0) (some .int) (some (.int rr.1)) (wM cI o q rr.2))  (u : MSt) (s0 : Int32) (hm : mM_soonest_50 N u s0 = some rr) : J l rmM_soonest D G (0, 0) (wM cI o q u) [] [.int s0] 50 := by
  unfold mM_soonest_50 at hm
  cases hm
  exact j_iret C hR dX11_soonest_50
def mM_soonest_48 (N : Nat) (u : MSt) : Option (Int32 × MSt) := mM_soonest_50 N u (-102)
set_option maxRecDepth 100000 in
set_option maxHeartbeats 4000000 in
theorem kM_soonest_48 {l : Launch} {D : va_G} {cI : ClassId} {o : Nat} {q : Nat → Nat} {G : Gx} {N : Nat} {rr : (Int32 × MSt)} (C : jC l rmM_soonest D [(cI, .int)] G cX11_soonest 6 RX11) (hR : jR D [(cI, .int)] G (0, 0) (some .int) (some (.int rr.1)) (wM cI o q rr.2))  (u : MSt)  (hm : mM_soonest_48 N u = some rr) : J l rmM_soonest D G (0, 0) (wM cI o q u) [] [] 48 := by
  unfold mM_soonest_48 at hm
  refine j_bipush (v := (-102)) C dX11_soonest_48 (by decide) ?_
  exact kM_soonest_50 C hR u (-102) hm
def mM_soonest (N : Nat) (u : MSt) (x1 : Int32) (x2 : Int32) (x3 : Int32) (x4 : Int32) (x5 : Int32) : Option (Int32 × MSt) := (mM_isIslet N x1).bind (fun r1 => if r1 = 0 then (mM_soonest_14 N u) else ((mM_isIslet N x2).bind (fun r2 => if ¬ r2 = 0 then ((mM_isMinute N x3).bind (fun r3 => if r3 = 0 then (mM_soonest_48 N u) else ((mM_isCarrier N x4 x5).bind (fun r4 => if r4 = 0 then (mM_soonest_48 N u) else (bp (mM_soonestOf N u x1 x2 x3 x4 x5) (fun r5 u6 => mM_soonest_50 N u6 r5)))))) else (mM_soonest_14 N u))))
set_option maxRecDepth 100000 in
set_option maxHeartbeats 4000000 in
theorem cM_soonest {l : Launch} {D : va_G} {cI : ClassId} {o : Nat} {q : Nat → Nat} {u : MSt} {N : Nat} {x1 : Int32} {x2 : Int32} {x3 : Int32} {x4 : Int32} {x5 : Int32} {rr : (Int32 × MSt)} (hm : mM_soonest N u x1 x2 x3 x4 x5 = some rr) : Con l D [(cI, .int)] yX11_soonest (wS yX11_soonest cX11_soonest 6 (some .int)) rmM_soonest [.ref o, .int x1, .int x2, .int x3, .int x4, .int x5] (wM cI o q u) (some (.int rr.1)) (wM cI o q rr.2) := by
  refine Con.of (by decide +kernel) (Nat.le_of_ble_eq_true rfl) (fun G C hR => ?_)
  unfold mM_soonest at hm
  show J l rmM_soonest D G (0, 0) (wM cI o q u) [(0, .ref o), (1, .int x1), (2, .int x2), (3, .int x3), (4, .int x4), (5, .int x5)] [] 0
  refine j_iload_n C dX11_soonest_0 rfl 1 rfl ?_
  refine j_bind hm (fun r1 hr1 hm => ?_)
  refine j_callS (cs' := (0, 0)) (As := [.int x1]) (rest := []) C (cM_isIslet hr1) wc_X11_isIslet wm_X11_153 wt_X11_isIslet wn_X11 wd_X11_isIslet ⟨by decide, by decide⟩ rfl (Nat.le_of_ble_eq_true rfl) dX11_soonest_1 ⟨by decide, by decide⟩ rfl rfl ?_
  refine j_if_eqq (tgt := 14) C dX11_soonest_4 (by decide) hm (fun hm => ?_) (fun hm => ?_)
  · exact J.sub [] rfl (kM_soonest_14 C hR u hm)
  · refine j_iload_n C dX11_soonest_7 rfl 2 rfl ?_
    refine j_bind hm (fun r2 hr2 hm => ?_)
    refine j_callS (cs' := (0, 0)) (As := [.int x2]) (rest := []) C (cM_isIslet hr2) wc_X11_isIslet wm_X11_153 wt_X11_isIslet wn_X11 wd_X11_isIslet ⟨by decide, by decide⟩ rfl (Nat.le_of_ble_eq_true rfl) dX11_soonest_8 ⟨by decide, by decide⟩ rfl rfl ?_
    refine j_if_neq (tgt := 17) C dX11_soonest_11 (by decide) hm (fun hm => ?_) (fun hm => ?_)
    · refine j_iload_n C dX11_soonest_17 rfl 3 rfl ?_
      refine j_bind hm (fun r3 hr3 hm => ?_)
      refine j_callS (cs' := (0, 0)) (As := [.int x3]) (rest := []) C (cM_isMinute hr3) wc_X11_isMinute wm_X11_156 wt_X11_isMinute wn_X11 wd_X11_isMinute ⟨by decide, by decide⟩ rfl (Nat.le_of_ble_eq_true rfl) dX11_soonest_18 ⟨by decide, by decide⟩ rfl rfl ?_
      refine j_if_eqq (tgt := 48) C dX11_soonest_21 (by decide) hm (fun hm => ?_) (fun hm => ?_)
      · exact J.sub [] rfl (kM_soonest_48 C hR u hm)
      · refine j_iload C dX11_soonest_24 4 rfl ?_
        refine j_iload C dX11_soonest_26 5 rfl ?_
        refine j_bind hm (fun r4 hr4 hm => ?_)
        refine j_callS (cs' := (0, 0)) (As := [.int x4, .int x5]) (rest := []) C (cM_isCarrier hr4) wc_X11_isCarrier wm_X11_159 wt_X11_isCarrier wn_X11 wd_X11_isCarrier ⟨by decide, by decide⟩ rfl (Nat.le_of_ble_eq_true rfl) dX11_soonest_28 ⟨by decide, by decide⟩ rfl rfl ?_
        refine j_if_eqq (tgt := 48) C dX11_soonest_31 (by decide) hm (fun hm => ?_) (fun hm => ?_)
        · exact J.sub [] rfl (kM_soonest_48 C hR u hm)
        · refine j_aload_n C dX11_soonest_34 rfl 0 rfl ?_
          refine j_iload_n C dX11_soonest_35 rfl 1 rfl ?_
          refine j_iload_n C dX11_soonest_36 rfl 2 rfl ?_
          refine j_iload_n C dX11_soonest_37 rfl 3 rfl ?_
          refine j_iload C dX11_soonest_38 4 rfl ?_
          refine j_iload C dX11_soonest_40 5 rfl ?_
          refine j_bindp hm (fun r5 u6 hr5 hm => ?_)
          refine j_callV (cs' := (0, 0)) (As := [.int x1, .int x2, .int x3, .int x4, .int x5]) (rest := []) C (cM_soonestOf hr5) wc_X11_soonestOf wm_X11_163 wi_X11_soonestOf ws_X11_soonestOf wn_X11 wd_X11_soonestOf ⟨by decide, by decide⟩ 0 rfl rfl rfl (Nat.le_of_ble_eq_true rfl) dX11_soonest_42 ⟨by decide, by decide⟩ rfl rfl ?_
          refine j_goto (tgt := 50) C dX11_soonest_45 (by decide) ?_
          exact J.sub [] rfl (kM_soonest_50 C hR u6 r5 hm)
    · exact J.sub [] rfl (kM_soonest_14 C hR u hm)
def rmM_last : Room := { frames := 6, cells := 0, slots := 0, locals := 139 }
theorem wd_X11_last : yX11_last.cls ≠ "java/lang/invoke/MethodHandle" ∧ yX11_last.cls ≠ "java/lang/invoke/VarHandle" ∧ (parseMethodDescriptor yX11_last.desc).map (fun d => d.parameters.length) = some 6 := by decide +kernel
def mM_last_14 (N : Nat) (u : MSt) : Option (Int32 × MSt) := some ((-101), u)
set_option maxRecDepth 100000 in
set_option maxHeartbeats 4000000 in
theorem kM_last_14 {l : Launch} {D : va_G} {cI : ClassId} {o : Nat} {q : Nat → Nat} {G : Gx} {N : Nat} {rr : (Int32 × MSt)} (C : jC l rmM_last D [(cI, .int)] G cX11_last 13 RX11) (hR : jR D [(cI, .int)] G (0, 0) (some .int) (some (.int rr.1)) (wM cI o q rr.2))  (u : MSt)  (hm : mM_last_14 N u = some rr) : J l rmM_last D G (0, 0) (wM cI o q u) [] [] 14 := by
  unfold mM_last_14 at hm
  refine j_bipush (v := (-101)) C dX11_last_14 (by decide) ?_
  cases hm
  exact j_iret C hR dX11_last_16
def mM_last_48 (N : Nat) (u : MSt) : Option (Int32 × MSt) := some ((-102), u)
set_option maxRecDepth 100000 in
set_option maxHeartbeats 4000000 in
theorem kM_last_48 {l : Launch} {D : va_G} {cI : ClassId} {o : Nat} {q : Nat → Nat} {G : Gx} {N : Nat} {rr : (Int32 × MSt)} (C : jC l rmM_last D [(cI, .int)] G cX11_last 13 RX11) (hR : jR D [(cI, .int)] G (0, 0) (some .int) (some (.int rr.1)) (wM cI o q rr.2))  (u : MSt)  (hm : mM_last_48 N u = some rr) : J l rmM_last D G (0, 0) (wM cI o q u) [] [] 48 := by
  unfold mM_last_48 at hm
  refine j_bipush (v := (-102)) C dX11_last_48 (by decide) ?_
  cases hm
  exact j_iret C hR dX11_last_50
def mM_last_79 (N : Nat) (k54 : MSt → Int32 → Int32 → Int32 → Int32 → Int32 → Int32 → Int32 → Option (Int32 × MSt)) (u : MSt) (x1 : Int32) (x2 : Int32) (x3 : Int32) (x4 : Int32) (x5 : Int32) (x6 : Int32) (x7 : Int32) (s0 : Int32) (s1 : Int32) : Option (Int32 × MSt) := wr 8 s1 (fun i1 => nm (saM u 10 i1 s0) (fun u2 => k54 u2 x1 x2 x3 x4 x5 x6 (x7 + 1)))
set_option maxRecDepth 100000 in
set_option maxHeartbeats 4000000 in
theorem kM_last_79 {l : Launch} {D : va_G} {cI : ClassId} {o : Nat} {q : Nat → Nat} {G : Gx} {N : Nat} {rr : (Int32 × MSt)} (C : jC l rmM_last D [(cI, .int)] G cX11_last 13 RX11) (hR : jR D [(cI, .int)] G (0, 0) (some .int) (some (.int rr.1)) (wM cI o q rr.2)) (k54 : MSt → Int32 → Int32 → Int32 → Int32 → Int32 → Int32 → Int32 → Option (Int32 × MSt)) (K54 : ∀ (u : MSt) (x1 : Int32) (x2 : Int32) (x3 : Int32) (x4 : Int32) (x5 : Int32) (x6 : Int32) (x7 : Int32), k54 u x1 x2 x3 x4 x5 x6 x7 = some rr → J l rmM_last D G (0, 0) (wM cI o q u) [(0, .ref o), (1, .int x1), (2, .int x2), (3, .int x3), (4, .int x4), (5, .int x5), (6, .int x6), (7, .int x7)] [] 54) (u : MSt) (x1 : Int32) (x2 : Int32) (x3 : Int32) (x4 : Int32) (x5 : Int32) (x6 : Int32) (x7 : Int32) (s0 : Int32) (s1 : Int32) (hm : mM_last_79 N k54 u x1 x2 x3 x4 x5 x6 x7 s0 s1 = some rr) : J l rmM_last D G (0, 0) (wM cI o q u) [(0, .ref o), (1, .int x1), (2, .int x2), (3, .int x3), (4, .int x4), (5, .int x5), (6, .int x6), (7, .int x7)] [.int s0, .int s1, .ref (q 10)] 79 := by
  unfold mM_last_79 at hm
  refine jM_S10 C dX11_last_79 hm (fun u2 hm => ?_)
  refine j_iinc (v := (x7 + 1)) C dX11_last_80 7 rfl rfl (by decide) rfl ?_
  refine j_goto (tgt := 54) C dX11_last_83 (by decide) ?_
  exact J.sub [1, 2, 3, 4, 5, 6, 7, 0] rfl (K54 u2 x1 x2 x3 x4 x5 x6 (x7 + 1) hm)
def mM_last_263 (N : Nat) (k90 : MSt → Int32 → Int32 → Int32 → Int32 → Int32 → Option (Int32 × MSt)) (k99 : MSt → Int32 → Int32 → Int32 → Int32 → Int32 → Int32 → Option (Int32 × MSt)) (u : MSt) (x1 : Int32) (x3 : Int32) (x5 : Int32) (x6 : Int32) (x7 : Int32) (x8 : Int32) : Option (Int32 × MSt) := k99 u x1 x3 x5 x6 x7 (x8 + 1)
set_option maxRecDepth 100000 in
set_option maxHeartbeats 4000000 in
theorem kM_last_263 {l : Launch} {D : va_G} {cI : ClassId} {o : Nat} {q : Nat → Nat} {G : Gx} {N : Nat} {rr : (Int32 × MSt)} (C : jC l rmM_last D [(cI, .int)] G cX11_last 13 RX11) (hR : jR D [(cI, .int)] G (0, 0) (some .int) (some (.int rr.1)) (wM cI o q rr.2)) (k90 : MSt → Int32 → Int32 → Int32 → Int32 → Int32 → Option (Int32 × MSt)) (K90 : ∀ (u : MSt) (x1 : Int32) (x3 : Int32) (x5 : Int32) (x6 : Int32) (x7 : Int32), k90 u x1 x3 x5 x6 x7 = some rr → J l rmM_last D G (0, 0) (wM cI o q u) [(0, .ref o), (1, .int x1), (3, .int x3), (5, .int x5), (6, .int x6), (7, .int x7)] [] 90) (k99 : MSt → Int32 → Int32 → Int32 → Int32 → Int32 → Int32 → Option (Int32 × MSt)) (K99 : ∀ (u : MSt) (x1 : Int32) (x3 : Int32) (x5 : Int32) (x6 : Int32) (x7 : Int32) (x8 : Int32), k99 u x1 x3 x5 x6 x7 x8 = some rr → J l rmM_last D G (0, 0) (wM cI o q u) [(0, .ref o), (1, .int x1), (3, .int x3), (5, .int x5), (6, .int x6), (7, .int x7), (8, .int x8)] [] 99) (u : MSt) (x1 : Int32) (x3 : Int32) (x5 : Int32) (x6 : Int32) (x7 : Int32) (x8 : Int32) (hm : mM_last_263 N k90 k99 u x1 x3 x5 x6 x7 x8 = some rr) : J l rmM_last D G (0, 0) (wM cI o q u) [(0, .ref o), (1, .int x1), (3, .int x3), (5, .int x5), (6, .int x6), (7, .int x7), (8, .int x8)] [] 263 := by
  unfold mM_last_263 at hm
  refine j_iinc (v := (x8 + 1)) C dX11_last_263 6 rfl rfl (by decide) rfl ?_
  refine j_goto (tgt := 99) C dX11_last_266 (by decide) ?_
  exact J.sub [1, 2, 3, 4, 5, 6, 0] rfl (K99 u x1 x3 x5 x6 x7 (x8 + 1) hm)
def mM_last_262 (N : Nat) (k90 : MSt → Int32 → Int32 → Int32 → Int32 → Int32 → Option (Int32 × MSt)) (k99 : MSt → Int32 → Int32 → Int32 → Int32 → Int32 → Int32 → Option (Int32 × MSt)) (u : MSt) (x1 : Int32) (x3 : Int32) (x5 : Int32) (x6 : Int32) (x7 : Int32) (x8 : Int32) (s0 : Int32) (s1 : Int32) : Option (Int32 × MSt) := wr 8 s1 (fun i1 => nm (saM u 10 i1 s0) (fun u2 => mM_last_263 N k90 k99 u2 x1 x3 x5 x6 x7 x8))
set_option maxRecDepth 100000 in
set_option maxHeartbeats 4000000 in
theorem kM_last_262 {l : Launch} {D : va_G} {cI : ClassId} {o : Nat} {q : Nat → Nat} {G : Gx} {N : Nat} {rr : (Int32 × MSt)} (C : jC l rmM_last D [(cI, .int)] G cX11_last 13 RX11) (hR : jR D [(cI, .int)] G (0, 0) (some .int) (some (.int rr.1)) (wM cI o q rr.2)) (k90 : MSt → Int32 → Int32 → Int32 → Int32 → Int32 → Option (Int32 × MSt)) (K90 : ∀ (u : MSt) (x1 : Int32) (x3 : Int32) (x5 : Int32) (x6 : Int32) (x7 : Int32), k90 u x1 x3 x5 x6 x7 = some rr → J l rmM_last D G (0, 0) (wM cI o q u) [(0, .ref o), (1, .int x1), (3, .int x3), (5, .int x5), (6, .int x6), (7, .int x7)] [] 90) (k99 : MSt → Int32 → Int32 → Int32 → Int32 → Int32 → Int32 → Option (Int32 × MSt)) (K99 : ∀ (u : MSt) (x1 : Int32) (x3 : Int32) (x5 : Int32) (x6 : Int32) (x7 : Int32) (x8 : Int32), k99 u x1 x3 x5 x6 x7 x8 = some rr → J l rmM_last D G (0, 0) (wM cI o q u) [(0, .ref o), (1, .int x1), (3, .int x3), (5, .int x5), (6, .int x6), (7, .int x7), (8, .int x8)] [] 99) (u : MSt) (x1 : Int32) (x3 : Int32) (x5 : Int32) (x6 : Int32) (x7 : Int32) (x8 : Int32) (s0 : Int32) (s1 : Int32) (hm : mM_last_262 N k90 k99 u x1 x3 x5 x6 x7 x8 s0 s1 = some rr) : J l rmM_last D G (0, 0) (wM cI o q u) [(0, .ref o), (1, .int x1), (3, .int x3), (5, .int x5), (6, .int x6), (7, .int x7), (8, .int x8)] [.int s0, .int s1, .ref (q 10)] 262 := by
  unfold mM_last_262 at hm
  refine jM_S10 C dX11_last_262 hm (fun u2 hm => ?_)
  exact kM_last_263 C hR k90 K90 k99 K99 u2 x1 x3 x5 x6 x7 x8 hm
def mM_last_238 (N : Nat) (k90 : MSt → Int32 → Int32 → Int32 → Int32 → Int32 → Option (Int32 × MSt)) (k99 : MSt → Int32 → Int32 → Int32 → Int32 → Int32 → Int32 → Option (Int32 × MSt)) (u : MSt) (x1 : Int32) (x3 : Int32) (x5 : Int32) (x6 : Int32) (x7 : Int32) (x8 : Int32) (x10 : Int32) (x12 : Int32) (s0 : Int32) (s1 : Int32) : Option (Int32 × MSt) := wr 8 s1 (fun i1 => nm (saM u 10 i1 s0) (fun u2 => if x12 = 0 then (rd (u2.2.1 10) 8 x10 (fun a3 => mM_last_262 N k90 k99 u2 x1 x3 x5 x6 x7 x8 a3 x10)) else (mM_last_262 N k90 k99 u2 x1 x3 x5 x6 x7 x8 x7 x10)))
set_option maxRecDepth 100000 in
set_option maxHeartbeats 4000000 in
theorem kM_last_238 {l : Launch} {D : va_G} {cI : ClassId} {o : Nat} {q : Nat → Nat} {G : Gx} {N : Nat} {rr : (Int32 × MSt)} (C : jC l rmM_last D [(cI, .int)] G cX11_last 13 RX11) (hR : jR D [(cI, .int)] G (0, 0) (some .int) (some (.int rr.1)) (wM cI o q rr.2)) (k90 : MSt → Int32 → Int32 → Int32 → Int32 → Int32 → Option (Int32 × MSt)) (K90 : ∀ (u : MSt) (x1 : Int32) (x3 : Int32) (x5 : Int32) (x6 : Int32) (x7 : Int32), k90 u x1 x3 x5 x6 x7 = some rr → J l rmM_last D G (0, 0) (wM cI o q u) [(0, .ref o), (1, .int x1), (3, .int x3), (5, .int x5), (6, .int x6), (7, .int x7)] [] 90) (k99 : MSt → Int32 → Int32 → Int32 → Int32 → Int32 → Int32 → Option (Int32 × MSt)) (K99 : ∀ (u : MSt) (x1 : Int32) (x3 : Int32) (x5 : Int32) (x6 : Int32) (x7 : Int32) (x8 : Int32), k99 u x1 x3 x5 x6 x7 x8 = some rr → J l rmM_last D G (0, 0) (wM cI o q u) [(0, .ref o), (1, .int x1), (3, .int x3), (5, .int x5), (6, .int x6), (7, .int x7), (8, .int x8)] [] 99) (u : MSt) (x1 : Int32) (x3 : Int32) (x5 : Int32) (x6 : Int32) (x7 : Int32) (x8 : Int32) (x10 : Int32) (x12 : Int32) (s0 : Int32) (s1 : Int32) (hm : mM_last_238 N k90 k99 u x1 x3 x5 x6 x7 x8 x10 x12 s0 s1 = some rr) : J l rmM_last D G (0, 0) (wM cI o q u) [(0, .ref o), (1, .int x1), (3, .int x3), (5, .int x5), (6, .int x6), (7, .int x7), (8, .int x8), (10, .int x10), (12, .int x12)] [.int s0, .int s1, .ref (q 10)] 238 := by
  unfold mM_last_238 at hm
  refine jM_S10 C dX11_last_238 hm (fun u2 hm => ?_)
  refine j_aload_n C dX11_last_239 rfl 0 rfl ?_
  refine jM_g10 C dX11_last_240 ?_
  refine j_iload C dX11_last_243 7 rfl ?_
  refine j_iload C dX11_last_245 8 rfl ?_
  refine j_if_eqq (tgt := 255) C dX11_last_247 (by decide) hm (fun hm => ?_) (fun hm => ?_)
  · refine j_aload_n C dX11_last_255 rfl 0 rfl ?_
    refine jM_g10 C dX11_last_256 ?_
    refine j_iload C dX11_last_259 7 rfl ?_
    refine jM_L10 C dX11_last_261 hm (fun a3 hm => ?_)
    exact J.sub [0, 1, 2, 3, 4, 5, 6] rfl (kM_last_262 C hR k90 K90 k99 K99 u2 x1 x3 x5 x6 x7 x8 a3 x10 hm)
  · refine j_iload C dX11_last_250 5 rfl ?_
    refine j_goto (tgt := 262) C dX11_last_252 (by decide) ?_
    exact J.sub [0, 1, 2, 3, 4, 5, 6] rfl (kM_last_262 C hR k90 K90 k99 K99 u2 x1 x3 x5 x6 x7 x8 x7 x10 hm)
def mM_last_213 (N : Nat) (k90 : MSt → Int32 → Int32 → Int32 → Int32 → Int32 → Option (Int32 × MSt)) (k99 : MSt → Int32 → Int32 → Int32 → Int32 → Int32 → Int32 → Option (Int32 × MSt)) (u : MSt) (x1 : Int32) (x3 : Int32) (x5 : Int32) (x6 : Int32) (x7 : Int32) (x8 : Int32) (x9 : Int32) (x10 : Int32) (x11 : Int32) (s0 : Int32) : Option (Int32 × MSt) := if x11 = 0 then (rd (u.2.1 10) 8 x9 (fun a1 => mM_last_238 N k90 k99 u x1 x3 x5 x6 x7 x8 x10 s0 a1 x9)) else (mM_last_238 N k90 k99 u x1 x3 x5 x6 x7 x8 x10 s0 x7 x9)
set_option maxRecDepth 100000 in
set_option maxHeartbeats 4000000 in
theorem kM_last_213 {l : Launch} {D : va_G} {cI : ClassId} {o : Nat} {q : Nat → Nat} {G : Gx} {N : Nat} {rr : (Int32 × MSt)} (C : jC l rmM_last D [(cI, .int)] G cX11_last 13 RX11) (hR : jR D [(cI, .int)] G (0, 0) (some .int) (some (.int rr.1)) (wM cI o q rr.2)) (k90 : MSt → Int32 → Int32 → Int32 → Int32 → Int32 → Option (Int32 × MSt)) (K90 : ∀ (u : MSt) (x1 : Int32) (x3 : Int32) (x5 : Int32) (x6 : Int32) (x7 : Int32), k90 u x1 x3 x5 x6 x7 = some rr → J l rmM_last D G (0, 0) (wM cI o q u) [(0, .ref o), (1, .int x1), (3, .int x3), (5, .int x5), (6, .int x6), (7, .int x7)] [] 90) (k99 : MSt → Int32 → Int32 → Int32 → Int32 → Int32 → Int32 → Option (Int32 × MSt)) (K99 : ∀ (u : MSt) (x1 : Int32) (x3 : Int32) (x5 : Int32) (x6 : Int32) (x7 : Int32) (x8 : Int32), k99 u x1 x3 x5 x6 x7 x8 = some rr → J l rmM_last D G (0, 0) (wM cI o q u) [(0, .ref o), (1, .int x1), (3, .int x3), (5, .int x5), (6, .int x6), (7, .int x7), (8, .int x8)] [] 99) (u : MSt) (x1 : Int32) (x3 : Int32) (x5 : Int32) (x6 : Int32) (x7 : Int32) (x8 : Int32) (x9 : Int32) (x10 : Int32) (x11 : Int32) (s0 : Int32) (hm : mM_last_213 N k90 k99 u x1 x3 x5 x6 x7 x8 x9 x10 x11 s0 = some rr) : J l rmM_last D G (0, 0) (wM cI o q u) [(0, .ref o), (1, .int x1), (3, .int x3), (5, .int x5), (6, .int x6), (7, .int x7), (8, .int x8), (9, .int x9), (10, .int x10), (11, .int x11)] [.int s0] 213 := by
  unfold mM_last_213 at hm
  refine j_istore C dX11_last_213 (by decide) rfl ?_
  refine j_aload_n C dX11_last_215 rfl 1 rfl ?_
  refine jM_g10 C dX11_last_216 ?_
  refine j_iload C dX11_last_219 8 rfl ?_
  refine j_iload C dX11_last_221 10 rfl ?_
  refine j_if_eqq (tgt := 231) C dX11_last_223 (by decide) hm (fun hm => ?_) (fun hm => ?_)
  · refine j_aload_n C dX11_last_231 rfl 1 rfl ?_
    refine jM_g10 C dX11_last_232 ?_
    refine j_iload C dX11_last_235 8 rfl ?_
    refine jM_L10 C dX11_last_237 hm (fun a1 hm => ?_)
    exact J.sub [1, 2, 3, 4, 5, 6, 7, 9, 0] rfl (kM_last_238 C hR k90 K90 k99 K99 u x1 x3 x5 x6 x7 x8 x10 s0 a1 x9 hm)
  · refine j_iload C dX11_last_226 6 rfl ?_
    refine j_goto (tgt := 238) C dX11_last_228 (by decide) ?_
    exact J.sub [1, 2, 3, 4, 5, 6, 7, 9, 0] rfl (kM_last_238 C hR k90 K90 k99 K99 u x1 x3 x5 x6 x7 x8 x10 s0 x7 x9 hm)
def mM_last_212 (N : Nat) (k90 : MSt → Int32 → Int32 → Int32 → Int32 → Int32 → Option (Int32 × MSt)) (k99 : MSt → Int32 → Int32 → Int32 → Int32 → Int32 → Int32 → Option (Int32 × MSt)) (u : MSt) (x1 : Int32) (x3 : Int32) (x5 : Int32) (x6 : Int32) (x7 : Int32) (x8 : Int32) (x9 : Int32) (x10 : Int32) (x11 : Int32) : Option (Int32 × MSt) := mM_last_213 N k90 k99 u x1 x3 x5 x6 x7 x8 x9 x10 x11 0
set_option maxRecDepth 100000 in
set_option maxHeartbeats 4000000 in
theorem kM_last_212 {l : Launch} {D : va_G} {cI : ClassId} {o : Nat} {q : Nat → Nat} {G : Gx} {N : Nat} {rr : (Int32 × MSt)} (C : jC l rmM_last D [(cI, .int)] G cX11_last 13 RX11) (hR : jR D [(cI, .int)] G (0, 0) (some .int) (some (.int rr.1)) (wM cI o q rr.2)) (k90 : MSt → Int32 → Int32 → Int32 → Int32 → Int32 → Option (Int32 × MSt)) (K90 : ∀ (u : MSt) (x1 : Int32) (x3 : Int32) (x5 : Int32) (x6 : Int32) (x7 : Int32), k90 u x1 x3 x5 x6 x7 = some rr → J l rmM_last D G (0, 0) (wM cI o q u) [(0, .ref o), (1, .int x1), (3, .int x3), (5, .int x5), (6, .int x6), (7, .int x7)] [] 90) (k99 : MSt → Int32 → Int32 → Int32 → Int32 → Int32 → Int32 → Option (Int32 × MSt)) (K99 : ∀ (u : MSt) (x1 : Int32) (x3 : Int32) (x5 : Int32) (x6 : Int32) (x7 : Int32) (x8 : Int32), k99 u x1 x3 x5 x6 x7 x8 = some rr → J l rmM_last D G (0, 0) (wM cI o q u) [(0, .ref o), (1, .int x1), (3, .int x3), (5, .int x5), (6, .int x6), (7, .int x7), (8, .int x8)] [] 99) (u : MSt) (x1 : Int32) (x3 : Int32) (x5 : Int32) (x6 : Int32) (x7 : Int32) (x8 : Int32) (x9 : Int32) (x10 : Int32) (x11 : Int32) (hm : mM_last_212 N k90 k99 u x1 x3 x5 x6 x7 x8 x9 x10 x11 = some rr) : J l rmM_last D G (0, 0) (wM cI o q u) [(0, .ref o), (1, .int x1), (3, .int x3), (5, .int x5), (6, .int x6), (7, .int x7), (8, .int x8), (9, .int x9), (10, .int x10), (11, .int x11)] [] 212 := by
  unfold mM_last_212 at hm
  refine j_iconst (v := 0) C dX11_last_212 (by decide) ?_
  exact kM_last_213 C hR k90 K90 k99 K99 u x1 x3 x5 x6 x7 x8 x9 x10 x11 0 hm
def mM_last_179 (N : Nat) (k90 : MSt → Int32 → Int32 → Int32 → Int32 → Int32 → Option (Int32 × MSt)) (k99 : MSt → Int32 → Int32 → Int32 → Int32 → Int32 → Int32 → Option (Int32 × MSt)) (u : MSt) (x1 : Int32) (x3 : Int32) (x5 : Int32) (x6 : Int32) (x7 : Int32) (x8 : Int32) (x9 : Int32) (x10 : Int32) (s0 : Int32) : Option (Int32 × MSt) := rd (u.2.1 10) 8 x9 (fun a1 => if a1 < (x7 + x5) then (mM_last_212 N k90 k99 u x1 x3 x5 x6 x7 x8 x9 x10 s0) else (rd (u.2.1 10) 8 x10 (fun a2 => if x7 ≤ a2 then (mM_last_212 N k90 k99 u x1 x3 x5 x6 x7 x8 x9 x10 s0) else (mM_last_213 N k90 k99 u x1 x3 x5 x6 x7 x8 x9 x10 s0 1))))
set_option maxRecDepth 100000 in
set_option maxHeartbeats 4000000 in
theorem kM_last_179 {l : Launch} {D : va_G} {cI : ClassId} {o : Nat} {q : Nat → Nat} {G : Gx} {N : Nat} {rr : (Int32 × MSt)} (C : jC l rmM_last D [(cI, .int)] G cX11_last 13 RX11) (hR : jR D [(cI, .int)] G (0, 0) (some .int) (some (.int rr.1)) (wM cI o q rr.2)) (k90 : MSt → Int32 → Int32 → Int32 → Int32 → Int32 → Option (Int32 × MSt)) (K90 : ∀ (u : MSt) (x1 : Int32) (x3 : Int32) (x5 : Int32) (x6 : Int32) (x7 : Int32), k90 u x1 x3 x5 x6 x7 = some rr → J l rmM_last D G (0, 0) (wM cI o q u) [(0, .ref o), (1, .int x1), (3, .int x3), (5, .int x5), (6, .int x6), (7, .int x7)] [] 90) (k99 : MSt → Int32 → Int32 → Int32 → Int32 → Int32 → Int32 → Option (Int32 × MSt)) (K99 : ∀ (u : MSt) (x1 : Int32) (x3 : Int32) (x5 : Int32) (x6 : Int32) (x7 : Int32) (x8 : Int32), k99 u x1 x3 x5 x6 x7 x8 = some rr → J l rmM_last D G (0, 0) (wM cI o q u) [(0, .ref o), (1, .int x1), (3, .int x3), (5, .int x5), (6, .int x6), (7, .int x7), (8, .int x8)] [] 99) (u : MSt) (x1 : Int32) (x3 : Int32) (x5 : Int32) (x6 : Int32) (x7 : Int32) (x8 : Int32) (x9 : Int32) (x10 : Int32) (s0 : Int32) (hm : mM_last_179 N k90 k99 u x1 x3 x5 x6 x7 x8 x9 x10 s0 = some rr) : J l rmM_last D G (0, 0) (wM cI o q u) [(0, .ref o), (1, .int x1), (3, .int x3), (5, .int x5), (6, .int x6), (7, .int x7), (8, .int x8), (9, .int x9), (10, .int x10)] [.int s0] 179 := by
  unfold mM_last_179 at hm
  refine j_istore C dX11_last_179 (by decide) rfl ?_
  refine j_iload C dX11_last_181 6 rfl ?_
  refine j_iload C dX11_last_183 4 rfl ?_
  refine j_iadd C dX11_last_185 ?_
  refine j_aload_n C dX11_last_186 rfl 1 rfl ?_
  refine jM_g10 C dX11_last_187 ?_
  refine j_iload C dX11_last_190 8 rfl ?_
  refine jM_L10 C dX11_last_192 hm (fun a1 hm => ?_)
  refine j_icmp_gtq (tgt := 212) C dX11_last_193 (by decide) hm (fun hm => ?_) (fun hm => ?_)
  · exact J.sub [1, 2, 3, 4, 5, 6, 7, 8, 9, 0] rfl (kM_last_212 C hR k90 K90 k99 K99 u x1 x3 x5 x6 x7 x8 x9 x10 s0 hm)
  · refine j_iload C dX11_last_196 6 rfl ?_
    refine j_aload_n C dX11_last_198 rfl 1 rfl ?_
    refine jM_g10 C dX11_last_199 ?_
    refine j_iload C dX11_last_202 9 rfl ?_
    refine jM_L10 C dX11_last_204 hm (fun a2 hm => ?_)
    refine j_icmp_leq (tgt := 212) C dX11_last_205 (by decide) hm (fun hm => ?_) (fun hm => ?_)
    · exact J.sub [1, 2, 3, 4, 5, 6, 7, 8, 9, 0] rfl (kM_last_212 C hR k90 K90 k99 K99 u x1 x3 x5 x6 x7 x8 x9 x10 s0 hm)
    · refine j_iconst (v := 1) C dX11_last_208 (by decide) ?_
      refine j_goto (tgt := 213) C dX11_last_209 (by decide) ?_
      exact J.sub [1, 2, 3, 4, 5, 6, 7, 8, 9, 0] rfl (kM_last_213 C hR k90 K90 k99 K99 u x1 x3 x5 x6 x7 x8 x9 x10 s0 1 hm)
def mM_last_178 (N : Nat) (k90 : MSt → Int32 → Int32 → Int32 → Int32 → Int32 → Option (Int32 × MSt)) (k99 : MSt → Int32 → Int32 → Int32 → Int32 → Int32 → Int32 → Option (Int32 × MSt)) (u : MSt) (x1 : Int32) (x3 : Int32) (x5 : Int32) (x6 : Int32) (x7 : Int32) (x8 : Int32) (x9 : Int32) (x10 : Int32) : Option (Int32 × MSt) := mM_last_179 N k90 k99 u x1 x3 x5 x6 x7 x8 x9 x10 0
set_option maxRecDepth 100000 in
set_option maxHeartbeats 4000000 in
theorem kM_last_178 {l : Launch} {D : va_G} {cI : ClassId} {o : Nat} {q : Nat → Nat} {G : Gx} {N : Nat} {rr : (Int32 × MSt)} (C : jC l rmM_last D [(cI, .int)] G cX11_last 13 RX11) (hR : jR D [(cI, .int)] G (0, 0) (some .int) (some (.int rr.1)) (wM cI o q rr.2)) (k90 : MSt → Int32 → Int32 → Int32 → Int32 → Int32 → Option (Int32 × MSt)) (K90 : ∀ (u : MSt) (x1 : Int32) (x3 : Int32) (x5 : Int32) (x6 : Int32) (x7 : Int32), k90 u x1 x3 x5 x6 x7 = some rr → J l rmM_last D G (0, 0) (wM cI o q u) [(0, .ref o), (1, .int x1), (3, .int x3), (5, .int x5), (6, .int x6), (7, .int x7)] [] 90) (k99 : MSt → Int32 → Int32 → Int32 → Int32 → Int32 → Int32 → Option (Int32 × MSt)) (K99 : ∀ (u : MSt) (x1 : Int32) (x3 : Int32) (x5 : Int32) (x6 : Int32) (x7 : Int32) (x8 : Int32), k99 u x1 x3 x5 x6 x7 x8 = some rr → J l rmM_last D G (0, 0) (wM cI o q u) [(0, .ref o), (1, .int x1), (3, .int x3), (5, .int x5), (6, .int x6), (7, .int x7), (8, .int x8)] [] 99) (u : MSt) (x1 : Int32) (x3 : Int32) (x5 : Int32) (x6 : Int32) (x7 : Int32) (x8 : Int32) (x9 : Int32) (x10 : Int32) (hm : mM_last_178 N k90 k99 u x1 x3 x5 x6 x7 x8 x9 x10 = some rr) : J l rmM_last D G (0, 0) (wM cI o q u) [(0, .ref o), (1, .int x1), (3, .int x3), (5, .int x5), (6, .int x6), (7, .int x7), (8, .int x8), (9, .int x9), (10, .int x10)] [] 178 := by
  unfold mM_last_178 at hm
  refine j_iconst (v := 0) C dX11_last_178 (by decide) ?_
  exact kM_last_179 C hR k90 K90 k99 K99 u x1 x3 x5 x6 x7 x8 x9 x10 0 hm
def mM_last_99 (N : Nat) (k90 : MSt → Int32 → Int32 → Int32 → Int32 → Int32 → Option (Int32 × MSt)) (k99 : MSt → Int32 → Int32 → Int32 → Int32 → Int32 → Int32 → Option (Int32 × MSt)) (u : MSt) (x1 : Int32) (x3 : Int32) (x5 : Int32) (x6 : Int32) (x7 : Int32) (x8 : Int32) : Option (Int32 × MSt) := if (u.1 4) ≤ x8 then (k90 u x1 x3 x5 x6 (x7 + (-1))) else ((mM_mayGo N u x8 x7 x5 x6).bind (fun r1 => if r1 = 0 then (mM_last_263 N k90 k99 u x1 x3 x5 x6 x7 x8) else (rd (u.2.1 5) 100 ((10 * x8) + 1) (fun a2 => (mM_joinsNow N u x8 x7).bind (fun r3 => rd (u.2.1 10) 8 r3 (fun a4 => if a4 < (x7 + x5) then (mM_last_178 N k90 k99 u x1 x3 x5 x6 x7 x8 a2 r3) else (rd (u.2.1 10) 8 a2 (fun a5 => if x7 ≤ a5 then (mM_last_178 N k90 k99 u x1 x3 x5 x6 x7 x8 a2 r3) else (mM_last_179 N k90 k99 u x1 x3 x5 x6 x7 x8 a2 r3 1)))))))))
set_option maxRecDepth 100000 in
set_option maxHeartbeats 4000000 in
theorem kM_last_99 {l : Launch} {D : va_G} {cI : ClassId} {o : Nat} {q : Nat → Nat} {G : Gx} {N : Nat} {rr : (Int32 × MSt)} (C : jC l rmM_last D [(cI, .int)] G cX11_last 13 RX11) (hR : jR D [(cI, .int)] G (0, 0) (some .int) (some (.int rr.1)) (wM cI o q rr.2)) (k90 : MSt → Int32 → Int32 → Int32 → Int32 → Int32 → Option (Int32 × MSt)) (K90 : ∀ (u : MSt) (x1 : Int32) (x3 : Int32) (x5 : Int32) (x6 : Int32) (x7 : Int32), k90 u x1 x3 x5 x6 x7 = some rr → J l rmM_last D G (0, 0) (wM cI o q u) [(0, .ref o), (1, .int x1), (3, .int x3), (5, .int x5), (6, .int x6), (7, .int x7)] [] 90) (k99 : MSt → Int32 → Int32 → Int32 → Int32 → Int32 → Int32 → Option (Int32 × MSt)) (K99 : ∀ (u : MSt) (x1 : Int32) (x3 : Int32) (x5 : Int32) (x6 : Int32) (x7 : Int32) (x8 : Int32), k99 u x1 x3 x5 x6 x7 x8 = some rr → J l rmM_last D G (0, 0) (wM cI o q u) [(0, .ref o), (1, .int x1), (3, .int x3), (5, .int x5), (6, .int x6), (7, .int x7), (8, .int x8)] [] 99) (u : MSt) (x1 : Int32) (x3 : Int32) (x5 : Int32) (x6 : Int32) (x7 : Int32) (x8 : Int32) (hm : mM_last_99 N k90 k99 u x1 x3 x5 x6 x7 x8 = some rr) : J l rmM_last D G (0, 0) (wM cI o q u) [(0, .ref o), (1, .int x1), (3, .int x3), (5, .int x5), (6, .int x6), (7, .int x7), (8, .int x8)] [] 99 := by
  unfold mM_last_99 at hm
  refine j_iload C dX11_last_99 6 rfl ?_
  refine j_aload_n C dX11_last_101 rfl 0 rfl ?_
  refine jM_g4 C dX11_last_102 ?_
  refine j_icmp_geq (tgt := 269) C dX11_last_105 (by decide) hm (fun hm => ?_) (fun hm => ?_)
  · refine j_iinc (v := (x7 + (-1))) C dX11_last_269 5 rfl rfl (by decide) rfl ?_
    refine j_goto (tgt := 90) C dX11_last_272 (by decide) ?_
    exact J.sub [1, 2, 3, 4, 5, 0] rfl (K90 u x1 x3 x5 x6 (x7 + (-1)) hm)
  · refine j_aload_n C dX11_last_108 rfl 0 rfl ?_
    refine j_iload C dX11_last_109 6 rfl ?_
    refine j_iload C dX11_last_111 5 rfl ?_
    refine j_iload C dX11_last_113 3 rfl ?_
    refine j_iload C dX11_last_115 4 rfl ?_
    refine j_bind hm (fun r1 hr1 hm => ?_)
    refine j_callV (cs' := (0, 0)) (As := [.int x8, .int x7, .int x5, .int x6]) (rest := []) C (cM_mayGo hr1) wc_X11_mayGo wm_X11_143 wi_X11_mayGo ws_X11_mayGo wn_X11 wd_X11_mayGo ⟨by decide, by decide⟩ 0 rfl rfl rfl (Nat.le_of_ble_eq_true rfl) dX11_last_117 ⟨by decide, by decide⟩ rfl rfl ?_
    refine j_if_eqq (tgt := 263) C dX11_last_120 (by decide) hm (fun hm => ?_) (fun hm => ?_)
    · exact kM_last_263 C hR k90 K90 k99 K99 u x1 x3 x5 x6 x7 x8 hm
    · refine j_aload_n C dX11_last_123 rfl 0 rfl ?_
      refine jM_g5 C dX11_last_124 ?_
      refine j_bipush (v := 10) C dX11_last_127 (by decide) ?_
      refine j_iload C dX11_last_129 6 rfl ?_
      refine j_imul C dX11_last_131 ?_
      refine j_iconst (v := 1) C dX11_last_132 (by decide) ?_
      refine j_iadd C dX11_last_133 ?_
      refine jM_L5 C dX11_last_134 hm (fun a2 hm => ?_)
      refine j_istore C dX11_last_135 (by decide) rfl ?_
      refine j_aload_n C dX11_last_137 rfl 1 rfl ?_
      refine j_iload C dX11_last_138 7 rfl ?_
      refine j_iload C dX11_last_140 6 rfl ?_
      refine j_bind hm (fun r3 hr3 hm => ?_)
      refine j_callV (cs' := (0, 0)) (As := [.int x8, .int x7]) (rest := []) C (cM_joinsNow hr3) wc_X11_joinsNow wm_X11_134 wi_X11_joinsNow ws_X11_joinsNow wn_X11 wd_X11_joinsNow ⟨by decide, by decide⟩ 0 rfl rfl rfl (Nat.le_of_ble_eq_true rfl) dX11_last_142 ⟨by decide, by decide⟩ rfl rfl ?_
      refine j_istore C dX11_last_145 (by decide) rfl ?_
      refine j_iload C dX11_last_147 7 rfl ?_
      refine j_iload C dX11_last_149 5 rfl ?_
      refine j_iadd C dX11_last_151 ?_
      refine j_aload_n C dX11_last_152 rfl 2 rfl ?_
      refine jM_g10 C dX11_last_153 ?_
      refine j_iload C dX11_last_156 0 rfl ?_
      refine jM_L10 C dX11_last_158 hm (fun a4 hm => ?_)
      refine j_icmp_gtq (tgt := 178) C dX11_last_159 (by decide) hm (fun hm => ?_) (fun hm => ?_)
      · exact J.sub [2, 3, 4, 5, 6, 7, 8, 1, 0] rfl (kM_last_178 C hR k90 K90 k99 K99 u x1 x3 x5 x6 x7 x8 a2 r3 hm)
      · refine j_iload C dX11_last_162 7 rfl ?_
        refine j_aload_n C dX11_last_164 rfl 2 rfl ?_
        refine jM_g10 C dX11_last_165 ?_
        refine j_iload C dX11_last_168 1 rfl ?_
        refine jM_L10 C dX11_last_170 hm (fun a5 hm => ?_)
        refine j_icmp_leq (tgt := 178) C dX11_last_171 (by decide) hm (fun hm => ?_) (fun hm => ?_)
        · exact J.sub [2, 3, 4, 5, 6, 7, 8, 1, 0] rfl (kM_last_178 C hR k90 K90 k99 K99 u x1 x3 x5 x6 x7 x8 a2 r3 hm)
        · refine j_iconst (v := 1) C dX11_last_174 (by decide) ?_
          refine j_goto (tgt := 179) C dX11_last_175 (by decide) ?_
          exact J.sub [2, 3, 4, 5, 6, 7, 8, 1, 0] rfl (kM_last_179 C hR k90 K90 k99 K99 u x1 x3 x5 x6 x7 x8 a2 r3 1 hm)
def mM_last_h99 (N : Nat) (k90 : MSt → Int32 → Int32 → Int32 → Int32 → Int32 → Option (Int32 × MSt)) : Nat → MSt → Int32 → Int32 → Int32 → Int32 → Int32 → Int32 → Option (Int32 × MSt)
  | 0, _, _, _, _, _, _, _ => none
  | n + 1, u, x1, x3, x5, x6, x7, x8 => mM_last_99 N k90 (mM_last_h99 N k90 n) u x1 x3 x5 x6 x7 x8
theorem kM_last_h99 {l : Launch} {D : va_G} {cI : ClassId} {o : Nat} {q : Nat → Nat} {G : Gx} {N : Nat} {rr : (Int32 × MSt)} (C : jC l rmM_last D [(cI, .int)] G cX11_last 13 RX11) (hR : jR D [(cI, .int)] G (0, 0) (some .int) (some (.int rr.1)) (wM cI o q rr.2)) (k90 : MSt → Int32 → Int32 → Int32 → Int32 → Int32 → Option (Int32 × MSt)) (K90 : ∀ (u : MSt) (x1 : Int32) (x3 : Int32) (x5 : Int32) (x6 : Int32) (x7 : Int32), k90 u x1 x3 x5 x6 x7 = some rr → J l rmM_last D G (0, 0) (wM cI o q u) [(0, .ref o), (1, .int x1), (3, .int x3), (5, .int x5), (6, .int x6), (7, .int x7)] [] 90) : ∀ (n : Nat) (u : MSt) (x1 : Int32) (x3 : Int32) (x5 : Int32) (x6 : Int32) (x7 : Int32) (x8 : Int32), mM_last_h99 N k90 n u x1 x3 x5 x6 x7 x8 = some rr → J l rmM_last D G (0, 0) (wM cI o q u) [(0, .ref o), (1, .int x1), (3, .int x3), (5, .int x5), (6, .int x6), (7, .int x7), (8, .int x8)] [] 99 := by
  intro n
  induction n with
  | zero =>
    intro u x1 x3 x5 x6 x7 x8 hm
    have hm : (none : Option (Int32 × MSt)) = some rr := hm
    cases hm
  | succ n ih =>
    intro u x1 x3 x5 x6 x7 x8 hm
    exact kM_last_99 C hR k90 K90 _ ih u x1 x3 x5 x6 x7 x8 hm
def mM_last_90 (N : Nat) (k90 : MSt → Int32 → Int32 → Int32 → Int32 → Int32 → Option (Int32 × MSt)) (u : MSt) (x1 : Int32) (x3 : Int32) (x5 : Int32) (x6 : Int32) (x7 : Int32) : Option (Int32 × MSt) := if x7 < x3 then (rd (u.2.1 10) 8 x1 (fun a1 => some (a1, u))) else (mM_last_h99 N k90 N u x1 x3 x5 x6 x7 0)
set_option maxRecDepth 100000 in
set_option maxHeartbeats 4000000 in
theorem kM_last_90 {l : Launch} {D : va_G} {cI : ClassId} {o : Nat} {q : Nat → Nat} {G : Gx} {N : Nat} {rr : (Int32 × MSt)} (C : jC l rmM_last D [(cI, .int)] G cX11_last 13 RX11) (hR : jR D [(cI, .int)] G (0, 0) (some .int) (some (.int rr.1)) (wM cI o q rr.2)) (k90 : MSt → Int32 → Int32 → Int32 → Int32 → Int32 → Option (Int32 × MSt)) (K90 : ∀ (u : MSt) (x1 : Int32) (x3 : Int32) (x5 : Int32) (x6 : Int32) (x7 : Int32), k90 u x1 x3 x5 x6 x7 = some rr → J l rmM_last D G (0, 0) (wM cI o q u) [(0, .ref o), (1, .int x1), (3, .int x3), (5, .int x5), (6, .int x6), (7, .int x7)] [] 90) (u : MSt) (x1 : Int32) (x3 : Int32) (x5 : Int32) (x6 : Int32) (x7 : Int32) (hm : mM_last_90 N k90 u x1 x3 x5 x6 x7 = some rr) : J l rmM_last D G (0, 0) (wM cI o q u) [(0, .ref o), (1, .int x1), (3, .int x3), (5, .int x5), (6, .int x6), (7, .int x7)] [] 90 := by
  unfold mM_last_90 at hm
  refine j_iload C dX11_last_90 5 rfl ?_
  refine j_iload_n C dX11_last_92 rfl 2 rfl ?_
  refine j_icmp_ltq (tgt := 275) C dX11_last_93 (by decide) hm (fun hm => ?_) (fun hm => ?_)
  · refine j_aload_n C dX11_last_275 rfl 0 rfl ?_
    refine jM_g10 C dX11_last_276 ?_
    refine j_iload_n C dX11_last_279 rfl 1 rfl ?_
    refine jM_L10 C dX11_last_280 hm (fun a1 hm => ?_)
    cases hm
    exact j_iret C hR dX11_last_281
  · refine j_iconst (v := 0) C dX11_last_96 (by decide) ?_
    refine j_istore C dX11_last_97 (by decide) rfl ?_
    exact J.sub [1, 2, 3, 4, 5, 6, 0] rfl (kM_last_h99 C hR k90 K90 N u x1 x3 x5 x6 x7 0 hm)
def mM_last_h90 (N : Nat) : Nat → MSt → Int32 → Int32 → Int32 → Int32 → Int32 → Option (Int32 × MSt)
  | 0, _, _, _, _, _, _ => none
  | n + 1, u, x1, x3, x5, x6, x7 => mM_last_90 N (mM_last_h90 N n) u x1 x3 x5 x6 x7
theorem kM_last_h90 {l : Launch} {D : va_G} {cI : ClassId} {o : Nat} {q : Nat → Nat} {G : Gx} {N : Nat} {rr : (Int32 × MSt)} (C : jC l rmM_last D [(cI, .int)] G cX11_last 13 RX11) (hR : jR D [(cI, .int)] G (0, 0) (some .int) (some (.int rr.1)) (wM cI o q rr.2))  : ∀ (n : Nat) (u : MSt) (x1 : Int32) (x3 : Int32) (x5 : Int32) (x6 : Int32) (x7 : Int32), mM_last_h90 N n u x1 x3 x5 x6 x7 = some rr → J l rmM_last D G (0, 0) (wM cI o q u) [(0, .ref o), (1, .int x1), (3, .int x3), (5, .int x5), (6, .int x6), (7, .int x7)] [] 90 := by
  intro n
  induction n with
  | zero =>
    intro u x1 x3 x5 x6 x7 hm
    have hm : (none : Option (Int32 × MSt)) = some rr := hm
    cases hm
  | succ n ih =>
    intro u x1 x3 x5 x6 x7 hm
    exact kM_last_90 C hR _ ih u x1 x3 x5 x6 x7 hm
def mM_last_54 (N : Nat) (k54 : MSt → Int32 → Int32 → Int32 → Int32 → Int32 → Int32 → Int32 → Option (Int32 × MSt)) (u : MSt) (x1 : Int32) (x2 : Int32) (x3 : Int32) (x4 : Int32) (x5 : Int32) (x6 : Int32) (x7 : Int32) : Option (Int32 × MSt) := if 8 ≤ x7 then (mM_last_h90 N N u x1 x3 x5 x6 x4) else (if ¬ x7 = x2 then (mM_last_79 N k54 u x1 x2 x3 x4 x5 x6 x7 (-1) x7) else (mM_last_79 N k54 u x1 x2 x3 x4 x5 x6 x7 x4 x7))
set_option maxRecDepth 100000 in
set_option maxHeartbeats 4000000 in
theorem kM_last_54 {l : Launch} {D : va_G} {cI : ClassId} {o : Nat} {q : Nat → Nat} {G : Gx} {N : Nat} {rr : (Int32 × MSt)} (C : jC l rmM_last D [(cI, .int)] G cX11_last 13 RX11) (hR : jR D [(cI, .int)] G (0, 0) (some .int) (some (.int rr.1)) (wM cI o q rr.2)) (k54 : MSt → Int32 → Int32 → Int32 → Int32 → Int32 → Int32 → Int32 → Option (Int32 × MSt)) (K54 : ∀ (u : MSt) (x1 : Int32) (x2 : Int32) (x3 : Int32) (x4 : Int32) (x5 : Int32) (x6 : Int32) (x7 : Int32), k54 u x1 x2 x3 x4 x5 x6 x7 = some rr → J l rmM_last D G (0, 0) (wM cI o q u) [(0, .ref o), (1, .int x1), (2, .int x2), (3, .int x3), (4, .int x4), (5, .int x5), (6, .int x6), (7, .int x7)] [] 54) (u : MSt) (x1 : Int32) (x2 : Int32) (x3 : Int32) (x4 : Int32) (x5 : Int32) (x6 : Int32) (x7 : Int32) (hm : mM_last_54 N k54 u x1 x2 x3 x4 x5 x6 x7 = some rr) : J l rmM_last D G (0, 0) (wM cI o q u) [(0, .ref o), (1, .int x1), (2, .int x2), (3, .int x3), (4, .int x4), (5, .int x5), (6, .int x6), (7, .int x7)] [] 54 := by
  unfold mM_last_54 at hm
  refine j_iload C dX11_last_54 7 rfl ?_
  refine j_bipush (v := 8) C dX11_last_56 (by decide) ?_
  refine j_icmp_geq (tgt := 86) C dX11_last_58 (by decide) hm (fun hm => ?_) (fun hm => ?_)
  · refine j_iload C dX11_last_86 4 rfl ?_
    refine j_istore C dX11_last_88 (by decide) rfl ?_
    exact J.sub [1, 2, 4, 6, 7, 0] rfl (kM_last_h90 C hR N u x1 x3 x5 x6 x4 hm)
  · refine j_aload_n C dX11_last_61 rfl 0 rfl ?_
    refine jM_g10 C dX11_last_62 ?_
    refine j_iload C dX11_last_65 7 rfl ?_
    refine j_iload C dX11_last_67 7 rfl ?_
    refine j_iload_n C dX11_last_69 rfl 2 rfl ?_
    refine j_icmp_neq (tgt := 78) C dX11_last_70 (by decide) hm (fun hm => ?_) (fun hm => ?_)
    · refine j_iconst (v := (-1)) C dX11_last_78 (by decide) ?_
      exact kM_last_79 C hR k54 K54 u x1 x2 x3 x4 x5 x6 x7 (-1) x7 hm
    · refine j_iload C dX11_last_73 4 rfl ?_
      refine j_goto (tgt := 79) C dX11_last_75 (by decide) ?_
      exact kM_last_79 C hR k54 K54 u x1 x2 x3 x4 x5 x6 x7 x4 x7 hm
def mM_last_h54 (N : Nat) : Nat → MSt → Int32 → Int32 → Int32 → Int32 → Int32 → Int32 → Int32 → Option (Int32 × MSt)
  | 0, _, _, _, _, _, _, _, _ => none
  | n + 1, u, x1, x2, x3, x4, x5, x6, x7 => mM_last_54 N (mM_last_h54 N n) u x1 x2 x3 x4 x5 x6 x7
theorem kM_last_h54 {l : Launch} {D : va_G} {cI : ClassId} {o : Nat} {q : Nat → Nat} {G : Gx} {N : Nat} {rr : (Int32 × MSt)} (C : jC l rmM_last D [(cI, .int)] G cX11_last 13 RX11) (hR : jR D [(cI, .int)] G (0, 0) (some .int) (some (.int rr.1)) (wM cI o q rr.2))  : ∀ (n : Nat) (u : MSt) (x1 : Int32) (x2 : Int32) (x3 : Int32) (x4 : Int32) (x5 : Int32) (x6 : Int32) (x7 : Int32), mM_last_h54 N n u x1 x2 x3 x4 x5 x6 x7 = some rr → J l rmM_last D G (0, 0) (wM cI o q u) [(0, .ref o), (1, .int x1), (2, .int x2), (3, .int x3), (4, .int x4), (5, .int x5), (6, .int x6), (7, .int x7)] [] 54 := by
  intro n
  induction n with
  | zero =>
    intro u x1 x2 x3 x4 x5 x6 x7 hm
    have hm : (none : Option (Int32 × MSt)) = some rr := hm
    cases hm
  | succ n ih =>
    intro u x1 x2 x3 x4 x5 x6 x7 hm
    exact kM_last_54 C hR _ ih u x1 x2 x3 x4 x5 x6 x7 hm
def mM_last (N : Nat) (u : MSt) (x1 : Int32) (x2 : Int32) (x3 : Int32) (x4 : Int32) (x5 : Int32) (x6 : Int32) : Option (Int32 × MSt) := (mM_isIslet N x1).bind (fun r1 => if r1 = 0 then (mM_last_14 N u) else ((mM_isIslet N x2).bind (fun r2 => if ¬ r2 = 0 then ((mM_isMinute N x3).bind (fun r3 => if r3 = 0 then (mM_last_48 N u) else ((mM_in N (Int32.toInt64 x4) (Int32.toInt64 x3) 999).bind (fun r4 => if r4 = 0 then (mM_last_48 N u) else ((mM_isCarrier N x5 x6).bind (fun r5 => if ¬ r5 = 0 then (mM_last_h54 N N u x1 x2 x3 x4 x5 x6 0) else (mM_last_48 N u))))))) else (mM_last_14 N u))))
set_option maxRecDepth 100000 in
set_option maxHeartbeats 4000000 in
theorem cM_last {l : Launch} {D : va_G} {cI : ClassId} {o : Nat} {q : Nat → Nat} {u : MSt} {N : Nat} {x1 : Int32} {x2 : Int32} {x3 : Int32} {x4 : Int32} {x5 : Int32} {x6 : Int32} {rr : (Int32 × MSt)} (hm : mM_last N u x1 x2 x3 x4 x5 x6 = some rr) : Con l D [(cI, .int)] yX11_last (wS yX11_last cX11_last 13 (some .int)) rmM_last [.ref o, .int x1, .int x2, .int x3, .int x4, .int x5, .int x6] (wM cI o q u) (some (.int rr.1)) (wM cI o q rr.2) := by
  refine Con.of (by decide +kernel) (Nat.le_of_ble_eq_true rfl) (fun G C hR => ?_)
  unfold mM_last at hm
  show J l rmM_last D G (0, 0) (wM cI o q u) [(0, .ref o), (1, .int x1), (2, .int x2), (3, .int x3), (4, .int x4), (5, .int x5), (6, .int x6)] [] 0
  refine j_iload_n C dX11_last_0 rfl 1 rfl ?_
  refine j_bind hm (fun r1 hr1 hm => ?_)
  refine j_callS (cs' := (0, 0)) (As := [.int x1]) (rest := []) C (cM_isIslet hr1) wc_X11_isIslet wm_X11_153 wt_X11_isIslet wn_X11 wd_X11_isIslet ⟨by decide, by decide⟩ rfl (Nat.le_of_ble_eq_true rfl) dX11_last_1 ⟨by decide, by decide⟩ rfl rfl ?_
  refine j_if_eqq (tgt := 14) C dX11_last_4 (by decide) hm (fun hm => ?_) (fun hm => ?_)
  · exact J.sub [] rfl (kM_last_14 C hR u hm)
  · refine j_iload_n C dX11_last_7 rfl 2 rfl ?_
    refine j_bind hm (fun r2 hr2 hm => ?_)
    refine j_callS (cs' := (0, 0)) (As := [.int x2]) (rest := []) C (cM_isIslet hr2) wc_X11_isIslet wm_X11_153 wt_X11_isIslet wn_X11 wd_X11_isIslet ⟨by decide, by decide⟩ rfl (Nat.le_of_ble_eq_true rfl) dX11_last_8 ⟨by decide, by decide⟩ rfl rfl ?_
    refine j_if_neq (tgt := 17) C dX11_last_11 (by decide) hm (fun hm => ?_) (fun hm => ?_)
    · refine j_iload_n C dX11_last_17 rfl 3 rfl ?_
      refine j_bind hm (fun r3 hr3 hm => ?_)
      refine j_callS (cs' := (0, 0)) (As := [.int x3]) (rest := []) C (cM_isMinute hr3) wc_X11_isMinute wm_X11_156 wt_X11_isMinute wn_X11 wd_X11_isMinute ⟨by decide, by decide⟩ rfl (Nat.le_of_ble_eq_true rfl) dX11_last_18 ⟨by decide, by decide⟩ rfl rfl ?_
      refine j_if_eqq (tgt := 48) C dX11_last_21 (by decide) hm (fun hm => ?_) (fun hm => ?_)
      · exact J.sub [] rfl (kM_last_48 C hR u hm)
      · refine j_iload C dX11_last_24 4 rfl ?_
        refine j_i2l C dX11_last_26 ?_
        refine j_iload_n C dX11_last_27 rfl 3 rfl ?_
        refine j_i2l C dX11_last_28 ?_
        refine j_ldc2 C dX11_last_29 wk_X11_151 ?_
        refine j_bind hm (fun r4 hr4 hm => ?_)
        refine j_callS (cs' := (0, 0)) (As := [.long (Int32.toInt64 x4), .long (Int32.toInt64 x3), .long 999]) (rest := []) C (cM_in hr4) wc_X11_in wm_X11_69 wt_X11_in wn_X11 wd_X11_in ⟨by decide, by decide⟩ rfl (Nat.le_of_ble_eq_true rfl) dX11_last_32 ⟨by decide, by decide⟩ rfl rfl ?_
        refine j_if_eqq (tgt := 48) C dX11_last_35 (by decide) hm (fun hm => ?_) (fun hm => ?_)
        · exact J.sub [] rfl (kM_last_48 C hR u hm)
        · refine j_iload C dX11_last_38 5 rfl ?_
          refine j_iload C dX11_last_40 6 rfl ?_
          refine j_bind hm (fun r5 hr5 hm => ?_)
          refine j_callS (cs' := (0, 0)) (As := [.int x5, .int x6]) (rest := []) C (cM_isCarrier hr5) wc_X11_isCarrier wm_X11_159 wt_X11_isCarrier wn_X11 wd_X11_isCarrier ⟨by decide, by decide⟩ rfl (Nat.le_of_ble_eq_true rfl) dX11_last_42 ⟨by decide, by decide⟩ rfl rfl ?_
          refine j_if_neq (tgt := 51) C dX11_last_45 (by decide) hm (fun hm => ?_) (fun hm => ?_)
          · refine j_iconst (v := 0) C dX11_last_51 (by decide) ?_
            refine j_istore C dX11_last_52 (by decide) rfl ?_
            exact J.sub [1, 2, 3, 4, 5, 6, 7, 0] rfl (kM_last_h54 C hR N u x1 x2 x3 x4 x5 x6 0 hm)
          · exact J.sub [] rfl (kM_last_48 C hR u hm)
    · exact J.sub [] rfl (kM_last_14 C hR u hm)
def rmM_common : Room := { frames := 0, cells := 0, slots := 0, locals := 0 }
theorem wd_X11_common : yX11_common.cls ≠ "java/lang/invoke/MethodHandle" ∧ yX11_common.cls ≠ "java/lang/invoke/VarHandle" ∧ (parseMethodDescriptor yX11_common.desc).map (fun d => d.parameters.length) = some 2 := by decide +kernel
def mM_common_6 (N : Nat) (k6 : Int64 → Int64 → Option Int64) (x4 : Int64) (x6 : Int64) : Option Int64 := if (lg_cmp x4 0) = 0 then (some x6) else (gd (¬ x4 = 0) (nm (x6 - x6 / x4 * x4) (fun v1 => k6 v1 x4)))
set_option maxRecDepth 100000 in
set_option maxHeartbeats 4000000 in
theorem kM_common_6 {l : Launch} {D : va_G} {tys : List (ClassId × FieldType)} {G : Gx} {N : Nat} {rr : Int64} (C : jC l rmM_common D tys G cX11_common 10 RX11) (hR : jR D tys G (0, 0) (some .long) (some (.long rr)) []) (k6 : Int64 → Int64 → Option Int64) (K6 : ∀ (x4 : Int64) (x6 : Int64), k6 x4 x6 = some rr → J l rmM_common D G (0, 0) [] [(4, .long x4), (6, .long x6)] [] 6) (x4 : Int64) (x6 : Int64) (hm : mM_common_6 N k6 x4 x6 = some rr) : J l rmM_common D G (0, 0) [] [(4, .long x4), (6, .long x6)] [] 6 := by
  unfold mM_common_6 at hm
  refine j_lload C dX11_common_6 0 rfl ?_
  refine j_lconst (v := 0) C dX11_common_8 (by decide) ?_
  refine j_lcmp C dX11_common_9 ?_
  refine j_if_eqq (tgt := 31) C dX11_common_10 (by decide) hm (fun hm => ?_) (fun hm => ?_)
  · refine j_lload C dX11_common_31 1 rfl ?_
    cases hm
    exact j_lret C hR dX11_common_33
  · refine j_lload C dX11_common_13 1 rfl ?_
    refine j_lload C dX11_common_15 0 rfl ?_
    obtain ⟨g, hm⟩ := gd_some hm
    refine j_lrem C dX11_common_17 g ?_
    refine j_nml hm (fun v1 hm => ?_)
    refine j_lstore C dX11_common_18 (by decide) rfl ?_
    refine j_lload C dX11_common_20 1 rfl ?_
    refine j_lstore C dX11_common_22 (by decide) rfl ?_
    refine j_lload C dX11_common_24 1 rfl ?_
    refine j_lstore C dX11_common_26 (by decide) rfl ?_
    refine j_goto (tgt := 6) C dX11_common_28 (by decide) ?_
    exact J.sub [0, 1] rfl (K6 v1 x4 hm)
def mM_common_h6 (N : Nat) : Nat → Int64 → Int64 → Option Int64
  | 0, _, _ => none
  | n + 1, x4, x6 => mM_common_6 N (mM_common_h6 N n) x4 x6
theorem kM_common_h6 {l : Launch} {D : va_G} {tys : List (ClassId × FieldType)} {G : Gx} {N : Nat} {rr : Int64} (C : jC l rmM_common D tys G cX11_common 10 RX11) (hR : jR D tys G (0, 0) (some .long) (some (.long rr)) [])  : ∀ (n : Nat) (x4 : Int64) (x6 : Int64), mM_common_h6 N n x4 x6 = some rr → J l rmM_common D G (0, 0) [] [(4, .long x4), (6, .long x6)] [] 6 := by
  intro n
  induction n with
  | zero =>
    intro x4 x6 hm
    have hm : (none : Option Int64) = some rr := hm
    cases hm
  | succ n ih =>
    intro x4 x6 hm
    exact kM_common_6 C hR _ ih x4 x6 hm
def mM_common (N : Nat) (x0 : Int64) (x2 : Int64) : Option Int64 := mM_common_h6 N N x0 x2
set_option maxRecDepth 100000 in
set_option maxHeartbeats 4000000 in
theorem cM_common {l : Launch} {D : va_G} {tys : List (ClassId × FieldType)} {N : Nat} {x0 : Int64} {x2 : Int64} {rr : Int64} (hm : mM_common N x0 x2 = some rr) : Con l D tys yX11_common (wS yX11_common cX11_common 10 (some .long)) rmM_common [.long x0, .long x2] [] (some (.long rr)) [] := by
  refine Con.of (by decide +kernel) (Nat.le_of_ble_eq_true rfl) (fun G C hR => ?_)
  unfold mM_common at hm
  show J l rmM_common D G (0, 0) [] [(0, .long x0), (2, .long x2)] [] 0
  refine j_lload_n C dX11_common_0 rfl 0 rfl ?_
  refine j_lstore C dX11_common_1 (by decide) rfl ?_
  refine j_lload_n C dX11_common_3 rfl 2 rfl ?_
  refine j_lstore C dX11_common_4 (by decide) rfl ?_
  exact J.sub [1, 0] rfl (kM_common_h6 C hR N x0 x2 hm)
def rmM_againOf : Room := { frames := 2, cells := 0, slots := 0, locals := 44 }
theorem wd_X11_againOf : yX11_againOf.cls ≠ "java/lang/invoke/MethodHandle" ∧ yX11_againOf.cls ≠ "java/lang/invoke/VarHandle" ∧ (parseMethodDescriptor yX11_againOf.desc).map (fun d => d.parameters.length) = some 0 := by decide +kernel
def mM_againOf_4 (N : Nat) (u : MSt) (k4 : Int64 → Int32 → Option Int64) (x1 : Int64) (x3 : Int32) : Option Int64 := if (u.1 4) ≤ x3 then (some x1) else ((mM_roundOf N u x3).bind (fun r1 => (mM_common N x1 (Int32.toInt64 r1)).bind (fun r2 => gd (¬ r2 = 0) ((mM_roundOf N u x3).bind (fun r3 => nm ((x1 / r2) * (Int32.toInt64 r3)) (fun v4 => k4 v4 (x3 + 1)))))))
set_option maxRecDepth 100000 in
set_option maxHeartbeats 4000000 in
theorem kM_againOf_4 {l : Launch} {D : va_G} {cI : ClassId} {o : Nat} {q : Nat → Nat} {u : MSt} {G : Gx} {N : Nat} {rr : Int64} (C : jC l rmM_againOf D [(cI, .int)] G cX11_againOf 4 RX11) (hR : jR D [(cI, .int)] G (0, 0) (some .long) (some (.long rr)) (wM cI o q u)) (k4 : Int64 → Int32 → Option Int64) (K4 : ∀ (x1 : Int64) (x3 : Int32), k4 x1 x3 = some rr → J l rmM_againOf D G (0, 0) (wM cI o q u) [(0, .ref o), (1, .long x1), (3, .int x3)] [] 4) (x1 : Int64) (x3 : Int32) (hm : mM_againOf_4 N u k4 x1 x3 = some rr) : J l rmM_againOf D G (0, 0) (wM cI o q u) [(0, .ref o), (1, .long x1), (3, .int x3)] [] 4 := by
  unfold mM_againOf_4 at hm
  refine j_iload_n C dX11_againOf_4 rfl 2 rfl ?_
  refine j_aload_n C dX11_againOf_5 rfl 0 rfl ?_
  refine jM_g4 C dX11_againOf_6 ?_
  refine j_icmp_geq (tgt := 38) C dX11_againOf_9 (by decide) hm (fun hm => ?_) (fun hm => ?_)
  · refine j_lload_n C dX11_againOf_38 rfl 1 rfl ?_
    cases hm
    exact j_lret C hR dX11_againOf_39
  · refine j_lload_n C dX11_againOf_12 rfl 1 rfl ?_
    refine j_lload_n C dX11_againOf_13 rfl 1 rfl ?_
    refine j_aload_n C dX11_againOf_14 rfl 0 rfl ?_
    refine j_iload_n C dX11_againOf_15 rfl 2 rfl ?_
    refine j_bind hm (fun r1 hr1 hm => ?_)
    refine j_callV (cs' := (0, 0)) (As := [.int x3]) (rest := [.long x1, .long x1]) C (cM_roundOf hr1) wc_X11_roundOf wm_X11_121 wi_X11_roundOf ws_X11_roundOf wn_X11 wd_X11_roundOf ⟨by decide, by decide⟩ 0 rfl rfl rfl (Nat.le_of_ble_eq_true rfl) dX11_againOf_16 ⟨by decide, by decide⟩ rfl rfl ?_
    refine j_i2l C dX11_againOf_19 ?_
    refine j_bind hm (fun r2 hr2 hm => ?_)
    refine j_callS (cs' := (0, 0)) (As := [.long x1, .long (Int32.toInt64 r1)]) (rest := [.long x1]) C (cM_common hr2) wc_X11_common wm_X11_167 wt_X11_common wn_X11 wd_X11_common ⟨by decide, by decide⟩ rfl (Nat.le_of_ble_eq_true rfl) dX11_againOf_20 ⟨by decide, by decide⟩ rfl rfl ?_
    obtain ⟨g, hm⟩ := gd_some hm
    refine j_ldiv C dX11_againOf_23 g ?_
    refine j_aload_n C dX11_againOf_24 rfl 0 rfl ?_
    refine j_iload_n C dX11_againOf_25 rfl 2 rfl ?_
    refine j_bind hm (fun r3 hr3 hm => ?_)
    refine j_callV (cs' := (0, 0)) (As := [.int x3]) (rest := [.long (x1 / r2)]) C (cM_roundOf hr3) wc_X11_roundOf wm_X11_121 wi_X11_roundOf ws_X11_roundOf wn_X11 wd_X11_roundOf ⟨by decide, by decide⟩ 0 rfl rfl rfl (Nat.le_of_ble_eq_true rfl) dX11_againOf_26 ⟨by decide, by decide⟩ rfl rfl ?_
    refine j_i2l C dX11_againOf_29 ?_
    refine j_lmul C dX11_againOf_30 ?_
    refine j_nml hm (fun v4 hm => ?_)
    refine j_lstore_n C dX11_againOf_31 rfl (by decide) rfl ?_
    refine j_iinc (v := (x3 + 1)) C dX11_againOf_32 2 rfl rfl (by decide) rfl ?_
    refine j_goto (tgt := 4) C dX11_againOf_35 (by decide) ?_
    exact J.sub [2, 1, 0] rfl (K4 v4 (x3 + 1) hm)
def mM_againOf_h4 (N : Nat) (u : MSt) : Nat → Int64 → Int32 → Option Int64
  | 0, _, _ => none
  | n + 1, x1, x3 => mM_againOf_4 N u (mM_againOf_h4 N u n) x1 x3
theorem kM_againOf_h4 {l : Launch} {D : va_G} {cI : ClassId} {o : Nat} {q : Nat → Nat} {u : MSt} {G : Gx} {N : Nat} {rr : Int64} (C : jC l rmM_againOf D [(cI, .int)] G cX11_againOf 4 RX11) (hR : jR D [(cI, .int)] G (0, 0) (some .long) (some (.long rr)) (wM cI o q u))  : ∀ (n : Nat) (x1 : Int64) (x3 : Int32), mM_againOf_h4 N u n x1 x3 = some rr → J l rmM_againOf D G (0, 0) (wM cI o q u) [(0, .ref o), (1, .long x1), (3, .int x3)] [] 4 := by
  intro n
  induction n with
  | zero =>
    intro x1 x3 hm
    have hm : (none : Option Int64) = some rr := hm
    cases hm
  | succ n ih =>
    intro x1 x3 hm
    exact kM_againOf_4 C hR _ ih x1 x3 hm
def mM_againOf (N : Nat) (u : MSt) : Option Int64 := mM_againOf_h4 N u N 1 0
set_option maxRecDepth 100000 in
set_option maxHeartbeats 4000000 in
theorem cM_againOf {l : Launch} {D : va_G} {cI : ClassId} {o : Nat} {q : Nat → Nat} {u : MSt} {N : Nat}  {rr : Int64} (hm : mM_againOf N u = some rr) : Con l D [(cI, .int)] yX11_againOf (wS yX11_againOf cX11_againOf 4 (some .long)) rmM_againOf [.ref o] (wM cI o q u) (some (.long rr)) (wM cI o q u) := by
  refine Con.of (by decide +kernel) (Nat.le_of_ble_eq_true rfl) (fun G C hR => ?_)
  unfold mM_againOf at hm
  show J l rmM_againOf D G (0, 0) (wM cI o q u) [(0, .ref o)] [] 0
  refine j_lconst (v := 1) C dX11_againOf_0 (by decide) ?_
  refine j_lstore_n C dX11_againOf_1 rfl (by decide) rfl ?_
  refine j_iconst (v := 0) C dX11_againOf_2 (by decide) ?_
  refine j_istore_n C dX11_againOf_3 rfl (by decide) rfl ?_
  exact J.sub [2, 1, 0] rfl (kM_againOf_h4 C hR N 1 0 hm)
def rmM_again : Room := { frames := 3, cells := 0, slots := 0, locals := 67 }
theorem wd_X11_again : yX11_again.cls ≠ "java/lang/invoke/MethodHandle" ∧ yX11_again.cls ≠ "java/lang/invoke/VarHandle" ∧ (parseMethodDescriptor yX11_again.desc).map (fun d => d.parameters.length) = some 0 := by decide +kernel
def mM_again (N : Nat) (u : MSt) : Option Int64 := (mM_againOf N u).bind (fun r1 => some r1)
set_option maxRecDepth 100000 in
set_option maxHeartbeats 4000000 in
theorem cM_again {l : Launch} {D : va_G} {cI : ClassId} {o : Nat} {q : Nat → Nat} {u : MSt} {N : Nat}  {rr : Int64} (hm : mM_again N u = some rr) : Con l D [(cI, .int)] yX11_again (wS yX11_again cX11_again 1 (some .long)) rmM_again [.ref o] (wM cI o q u) (some (.long rr)) (wM cI o q u) := by
  refine Con.of (by decide +kernel) (Nat.le_of_ble_eq_true rfl) (fun G C hR => ?_)
  unfold mM_again at hm
  show J l rmM_again D G (0, 0) (wM cI o q u) [(0, .ref o)] [] 0
  refine j_aload_n C dX11_again_0 rfl 0 rfl ?_
  refine j_bind hm (fun r1 hr1 hm => ?_)
  refine j_callV (cs' := (0, 0)) (As := []) (rest := []) C (cM_againOf hr1) wc_X11_againOf wm_X11_171 wi_X11_againOf ws_X11_againOf wn_X11 wd_X11_againOf ⟨by decide, by decide⟩ 0 rfl rfl rfl (Nat.le_of_ble_eq_true rfl) dX11_again_1 ⟨by decide, by decide⟩ rfl rfl ?_
  cases hm
  exact j_lret C hR dX11_again_4
def rmM_cutOf : Room := { frames := 4, cells := 0, slots := 0, locals := 93 }
theorem wd_X11_cutOf : yX11_cutOf.cls ≠ "java/lang/invoke/MethodHandle" ∧ yX11_cutOf.cls ≠ "java/lang/invoke/VarHandle" ∧ (parseMethodDescriptor yX11_cutOf.desc).map (fun d => d.parameters.length) = some 3 := by decide +kernel
def mM_cutOf_77 (N : Nat) (u : MSt) (k6 : Int32 → Int32 → Int32 → Int32 → Int32 → Option Int32) (k20 : Int32 → Int32 → Int32 → Int32 → Int32 → Int32 → Int32 → Option Int32) (x1 : Int32) (x2 : Int32) (x3 : Int32) (x4 : Int32) (x5 : Int32) (x7 : Int32) (s0 : Int32) : Option Int32 := k20 x1 x2 x3 x4 x5 s0 (x7 + 1)
set_option maxRecDepth 100000 in
set_option maxHeartbeats 4000000 in
theorem kM_cutOf_77 {l : Launch} {D : va_G} {cI : ClassId} {o : Nat} {q : Nat → Nat} {u : MSt} {G : Gx} {N : Nat} {rr : Int32} (C : jC l rmM_cutOf D [(cI, .int)] G cX11_cutOf 9 RX11) (hR : jR D [(cI, .int)] G (0, 0) (some .int) (some (.int rr)) (wM cI o q u)) (k6 : Int32 → Int32 → Int32 → Int32 → Int32 → Option Int32) (K6 : ∀ (x1 : Int32) (x2 : Int32) (x3 : Int32) (x4 : Int32) (x5 : Int32), k6 x1 x2 x3 x4 x5 = some rr → J l rmM_cutOf D G (0, 0) (wM cI o q u) [(0, .ref o), (1, .int x1), (2, .int x2), (3, .int x3), (4, .int x4), (5, .int x5)] [] 6) (k20 : Int32 → Int32 → Int32 → Int32 → Int32 → Int32 → Int32 → Option Int32) (K20 : ∀ (x1 : Int32) (x2 : Int32) (x3 : Int32) (x4 : Int32) (x5 : Int32) (x6 : Int32) (x7 : Int32), k20 x1 x2 x3 x4 x5 x6 x7 = some rr → J l rmM_cutOf D G (0, 0) (wM cI o q u) [(0, .ref o), (1, .int x1), (2, .int x2), (3, .int x3), (4, .int x4), (5, .int x5), (6, .int x6), (7, .int x7)] [] 20) (x1 : Int32) (x2 : Int32) (x3 : Int32) (x4 : Int32) (x5 : Int32) (x7 : Int32) (s0 : Int32) (hm : mM_cutOf_77 N u k6 k20 x1 x2 x3 x4 x5 x7 s0 = some rr) : J l rmM_cutOf D G (0, 0) (wM cI o q u) [(0, .ref o), (1, .int x1), (2, .int x2), (3, .int x3), (4, .int x4), (5, .int x5), (7, .int x7)] [.int s0] 77 := by
  unfold mM_cutOf_77 at hm
  refine j_istore C dX11_cutOf_77 (by decide) rfl ?_
  refine j_iinc (v := (x7 + 1)) C dX11_cutOf_79 7 rfl rfl (by decide) rfl ?_
  refine j_goto (tgt := 20) C dX11_cutOf_82 (by decide) ?_
  exact J.sub [2, 3, 4, 5, 6, 7, 1, 0] rfl (K20 x1 x2 x3 x4 x5 s0 (x7 + 1) hm)
def mM_cutOf_72 (N : Nat) (u : MSt) (k6 : Int32 → Int32 → Int32 → Int32 → Int32 → Option Int32) (k20 : Int32 → Int32 → Int32 → Int32 → Int32 → Int32 → Int32 → Option Int32) (x1 : Int32) (x2 : Int32) (x3 : Int32) (x4 : Int32) (x5 : Int32) (x7 : Int32) : Option Int32 := mM_cutOf_77 N u k6 k20 x1 x2 x3 x4 x5 x7 1
set_option maxRecDepth 100000 in
set_option maxHeartbeats 4000000 in
theorem kM_cutOf_72 {l : Launch} {D : va_G} {cI : ClassId} {o : Nat} {q : Nat → Nat} {u : MSt} {G : Gx} {N : Nat} {rr : Int32} (C : jC l rmM_cutOf D [(cI, .int)] G cX11_cutOf 9 RX11) (hR : jR D [(cI, .int)] G (0, 0) (some .int) (some (.int rr)) (wM cI o q u)) (k6 : Int32 → Int32 → Int32 → Int32 → Int32 → Option Int32) (K6 : ∀ (x1 : Int32) (x2 : Int32) (x3 : Int32) (x4 : Int32) (x5 : Int32), k6 x1 x2 x3 x4 x5 = some rr → J l rmM_cutOf D G (0, 0) (wM cI o q u) [(0, .ref o), (1, .int x1), (2, .int x2), (3, .int x3), (4, .int x4), (5, .int x5)] [] 6) (k20 : Int32 → Int32 → Int32 → Int32 → Int32 → Int32 → Int32 → Option Int32) (K20 : ∀ (x1 : Int32) (x2 : Int32) (x3 : Int32) (x4 : Int32) (x5 : Int32) (x6 : Int32) (x7 : Int32), k20 x1 x2 x3 x4 x5 x6 x7 = some rr → J l rmM_cutOf D G (0, 0) (wM cI o q u) [(0, .ref o), (1, .int x1), (2, .int x2), (3, .int x3), (4, .int x4), (5, .int x5), (6, .int x6), (7, .int x7)] [] 20) (x1 : Int32) (x2 : Int32) (x3 : Int32) (x4 : Int32) (x5 : Int32) (x7 : Int32) (hm : mM_cutOf_72 N u k6 k20 x1 x2 x3 x4 x5 x7 = some rr) : J l rmM_cutOf D G (0, 0) (wM cI o q u) [(0, .ref o), (1, .int x1), (2, .int x2), (3, .int x3), (4, .int x4), (5, .int x5), (7, .int x7)] [] 72 := by
  unfold mM_cutOf_72 at hm
  refine j_iconst (v := 1) C dX11_cutOf_72 (by decide) ?_
  refine j_goto (tgt := 77) C dX11_cutOf_73 (by decide) ?_
  exact kM_cutOf_77 C hR k6 K6 k20 K20 x1 x2 x3 x4 x5 x7 1 hm
def mM_cutOf_76 (N : Nat) (u : MSt) (k6 : Int32 → Int32 → Int32 → Int32 → Int32 → Option Int32) (k20 : Int32 → Int32 → Int32 → Int32 → Int32 → Int32 → Int32 → Option Int32) (x1 : Int32) (x2 : Int32) (x3 : Int32) (x4 : Int32) (x5 : Int32) (x7 : Int32) : Option Int32 := mM_cutOf_77 N u k6 k20 x1 x2 x3 x4 x5 x7 0
set_option maxRecDepth 100000 in
set_option maxHeartbeats 4000000 in
theorem kM_cutOf_76 {l : Launch} {D : va_G} {cI : ClassId} {o : Nat} {q : Nat → Nat} {u : MSt} {G : Gx} {N : Nat} {rr : Int32} (C : jC l rmM_cutOf D [(cI, .int)] G cX11_cutOf 9 RX11) (hR : jR D [(cI, .int)] G (0, 0) (some .int) (some (.int rr)) (wM cI o q u)) (k6 : Int32 → Int32 → Int32 → Int32 → Int32 → Option Int32) (K6 : ∀ (x1 : Int32) (x2 : Int32) (x3 : Int32) (x4 : Int32) (x5 : Int32), k6 x1 x2 x3 x4 x5 = some rr → J l rmM_cutOf D G (0, 0) (wM cI o q u) [(0, .ref o), (1, .int x1), (2, .int x2), (3, .int x3), (4, .int x4), (5, .int x5)] [] 6) (k20 : Int32 → Int32 → Int32 → Int32 → Int32 → Int32 → Int32 → Option Int32) (K20 : ∀ (x1 : Int32) (x2 : Int32) (x3 : Int32) (x4 : Int32) (x5 : Int32) (x6 : Int32) (x7 : Int32), k20 x1 x2 x3 x4 x5 x6 x7 = some rr → J l rmM_cutOf D G (0, 0) (wM cI o q u) [(0, .ref o), (1, .int x1), (2, .int x2), (3, .int x3), (4, .int x4), (5, .int x5), (6, .int x6), (7, .int x7)] [] 20) (x1 : Int32) (x2 : Int32) (x3 : Int32) (x4 : Int32) (x5 : Int32) (x7 : Int32) (hm : mM_cutOf_76 N u k6 k20 x1 x2 x3 x4 x5 x7 = some rr) : J l rmM_cutOf D G (0, 0) (wM cI o q u) [(0, .ref o), (1, .int x1), (2, .int x2), (3, .int x3), (4, .int x4), (5, .int x5), (7, .int x7)] [] 76 := by
  unfold mM_cutOf_76 at hm
  refine j_iconst (v := 0) C dX11_cutOf_76 (by decide) ?_
  exact kM_cutOf_77 C hR k6 K6 k20 K20 x1 x2 x3 x4 x5 x7 0 hm
def mM_cutOf_97 (N : Nat) (u : MSt) (k6 : Int32 → Int32 → Int32 → Int32 → Int32 → Option Int32) (x1 : Int32) (x2 : Int32) (x3 : Int32) (x5 : Int32) (s0 : Int32) (s1 : Int32) : Option Int32 := nm (s1 + s0) (fun v1 => k6 x1 x2 x3 v1 (x5 + 1))
set_option maxRecDepth 100000 in
set_option maxHeartbeats 4000000 in
theorem kM_cutOf_97 {l : Launch} {D : va_G} {cI : ClassId} {o : Nat} {q : Nat → Nat} {u : MSt} {G : Gx} {N : Nat} {rr : Int32} (C : jC l rmM_cutOf D [(cI, .int)] G cX11_cutOf 9 RX11) (hR : jR D [(cI, .int)] G (0, 0) (some .int) (some (.int rr)) (wM cI o q u)) (k6 : Int32 → Int32 → Int32 → Int32 → Int32 → Option Int32) (K6 : ∀ (x1 : Int32) (x2 : Int32) (x3 : Int32) (x4 : Int32) (x5 : Int32), k6 x1 x2 x3 x4 x5 = some rr → J l rmM_cutOf D G (0, 0) (wM cI o q u) [(0, .ref o), (1, .int x1), (2, .int x2), (3, .int x3), (4, .int x4), (5, .int x5)] [] 6) (x1 : Int32) (x2 : Int32) (x3 : Int32) (x5 : Int32) (s0 : Int32) (s1 : Int32) (hm : mM_cutOf_97 N u k6 x1 x2 x3 x5 s0 s1 = some rr) : J l rmM_cutOf D G (0, 0) (wM cI o q u) [(0, .ref o), (1, .int x1), (2, .int x2), (3, .int x3), (5, .int x5)] [.int s0, .int s1] 97 := by
  unfold mM_cutOf_97 at hm
  refine j_iadd C dX11_cutOf_97 ?_
  refine j_nmi hm (fun v1 hm => ?_)
  refine j_istore C dX11_cutOf_98 (by decide) rfl ?_
  refine j_iinc (v := (x5 + 1)) C dX11_cutOf_100 5 rfl rfl (by decide) rfl ?_
  refine j_goto (tgt := 6) C dX11_cutOf_103 (by decide) ?_
  exact J.sub [2, 3, 4, 5, 1, 0] rfl (K6 x1 x2 x3 v1 (x5 + 1) hm)
def mM_cutOf_20 (N : Nat) (u : MSt) (k6 : Int32 → Int32 → Int32 → Int32 → Int32 → Option Int32) (k20 : Int32 → Int32 → Int32 → Int32 → Int32 → Int32 → Int32 → Option Int32) (x1 : Int32) (x2 : Int32) (x3 : Int32) (x4 : Int32) (x5 : Int32) (x6 : Int32) (x7 : Int32) : Option Int32 := if (u.1 4) ≤ x7 then (if x6 = 0 then (mM_cutOf_97 N u k6 x1 x2 x3 x5 1 x4) else (mM_cutOf_97 N u k6 x1 x2 x3 x5 0 x4)) else ((mM_joinsNow N u x7 x5).bind (fun r1 => if ¬ x6 = 0 then (mM_cutOf_72 N u k6 k20 x1 x2 x3 x4 x5 x7) else (if r1 = (-1) then (mM_cutOf_76 N u k6 k20 x1 x2 x3 x4 x5 x7) else (if r1 = x1 then (mM_cutOf_72 N u k6 k20 x1 x2 x3 x4 x5 x7) else (rd (u.2.1 5) 100 ((10 * x7) + 1) (fun a2 => if ¬ a2 = x1 then (mM_cutOf_76 N u k6 k20 x1 x2 x3 x4 x5 x7) else (mM_cutOf_72 N u k6 k20 x1 x2 x3 x4 x5 x7)))))))
set_option maxRecDepth 100000 in
set_option maxHeartbeats 4000000 in
theorem kM_cutOf_20 {l : Launch} {D : va_G} {cI : ClassId} {o : Nat} {q : Nat → Nat} {u : MSt} {G : Gx} {N : Nat} {rr : Int32} (C : jC l rmM_cutOf D [(cI, .int)] G cX11_cutOf 9 RX11) (hR : jR D [(cI, .int)] G (0, 0) (some .int) (some (.int rr)) (wM cI o q u)) (k6 : Int32 → Int32 → Int32 → Int32 → Int32 → Option Int32) (K6 : ∀ (x1 : Int32) (x2 : Int32) (x3 : Int32) (x4 : Int32) (x5 : Int32), k6 x1 x2 x3 x4 x5 = some rr → J l rmM_cutOf D G (0, 0) (wM cI o q u) [(0, .ref o), (1, .int x1), (2, .int x2), (3, .int x3), (4, .int x4), (5, .int x5)] [] 6) (k20 : Int32 → Int32 → Int32 → Int32 → Int32 → Int32 → Int32 → Option Int32) (K20 : ∀ (x1 : Int32) (x2 : Int32) (x3 : Int32) (x4 : Int32) (x5 : Int32) (x6 : Int32) (x7 : Int32), k20 x1 x2 x3 x4 x5 x6 x7 = some rr → J l rmM_cutOf D G (0, 0) (wM cI o q u) [(0, .ref o), (1, .int x1), (2, .int x2), (3, .int x3), (4, .int x4), (5, .int x5), (6, .int x6), (7, .int x7)] [] 20) (x1 : Int32) (x2 : Int32) (x3 : Int32) (x4 : Int32) (x5 : Int32) (x6 : Int32) (x7 : Int32) (hm : mM_cutOf_20 N u k6 k20 x1 x2 x3 x4 x5 x6 x7 = some rr) : J l rmM_cutOf D G (0, 0) (wM cI o q u) [(0, .ref o), (1, .int x1), (2, .int x2), (3, .int x3), (4, .int x4), (5, .int x5), (6, .int x6), (7, .int x7)] [] 20 := by
  unfold mM_cutOf_20 at hm
  refine j_iload C dX11_cutOf_20 7 rfl ?_
  refine j_aload_n C dX11_cutOf_22 rfl 0 rfl ?_
  refine jM_g4 C dX11_cutOf_23 ?_
  refine j_icmp_geq (tgt := 85) C dX11_cutOf_26 (by decide) hm (fun hm => ?_) (fun hm => ?_)
  · refine j_iload C dX11_cutOf_85 4 rfl ?_
    refine j_iload C dX11_cutOf_87 6 rfl ?_
    refine j_if_eqq (tgt := 96) C dX11_cutOf_89 (by decide) hm (fun hm => ?_) (fun hm => ?_)
    · refine j_iconst (v := 1) C dX11_cutOf_96 (by decide) ?_
      exact J.sub [0, 1, 2, 3, 5] rfl (kM_cutOf_97 C hR k6 K6 x1 x2 x3 x5 1 x4 hm)
    · refine j_iconst (v := 0) C dX11_cutOf_92 (by decide) ?_
      refine j_goto (tgt := 97) C dX11_cutOf_93 (by decide) ?_
      exact J.sub [0, 1, 2, 3, 5] rfl (kM_cutOf_97 C hR k6 K6 x1 x2 x3 x5 0 x4 hm)
  · refine j_aload_n C dX11_cutOf_29 rfl 0 rfl ?_
    refine j_iload C dX11_cutOf_30 7 rfl ?_
    refine j_iload C dX11_cutOf_32 5 rfl ?_
    refine j_bind hm (fun r1 hr1 hm => ?_)
    refine j_callV (cs' := (0, 0)) (As := [.int x7, .int x5]) (rest := []) C (cM_joinsNow hr1) wc_X11_joinsNow wm_X11_134 wi_X11_joinsNow ws_X11_joinsNow wn_X11 wd_X11_joinsNow ⟨by decide, by decide⟩ 0 rfl rfl rfl (Nat.le_of_ble_eq_true rfl) dX11_cutOf_34 ⟨by decide, by decide⟩ rfl rfl ?_
    refine j_istore C dX11_cutOf_37 (by decide) rfl ?_
    refine j_iload C dX11_cutOf_39 7 rfl ?_
    refine j_if_neq (tgt := 72) C dX11_cutOf_41 (by decide) hm (fun hm => ?_) (fun hm => ?_)
    · exact J.sub [1, 2, 3, 4, 5, 6, 8] rfl (kM_cutOf_72 C hR k6 K6 k20 K20 x1 x2 x3 x4 x5 x7 hm)
    · refine j_iload C dX11_cutOf_44 0 rfl ?_
      refine j_iconst (v := (-1)) C dX11_cutOf_46 (by decide) ?_
      refine j_icmp_eqq (tgt := 76) C dX11_cutOf_47 (by decide) hm (fun hm => ?_) (fun hm => ?_)
      · exact J.sub [1, 2, 3, 4, 5, 6, 8] rfl (kM_cutOf_76 C hR k6 K6 k20 K20 x1 x2 x3 x4 x5 x7 hm)
      · refine j_iload C dX11_cutOf_50 0 rfl ?_
        refine j_iload_n C dX11_cutOf_52 rfl 2 rfl ?_
        refine j_icmp_eqq (tgt := 72) C dX11_cutOf_53 (by decide) hm (fun hm => ?_) (fun hm => ?_)
        · exact J.sub [1, 2, 3, 4, 5, 6, 8] rfl (kM_cutOf_72 C hR k6 K6 k20 K20 x1 x2 x3 x4 x5 x7 hm)
        · refine j_aload_n C dX11_cutOf_56 rfl 1 rfl ?_
          refine jM_g5 C dX11_cutOf_57 ?_
          refine j_bipush (v := 10) C dX11_cutOf_60 (by decide) ?_
          refine j_iload C dX11_cutOf_62 8 rfl ?_
          refine j_imul C dX11_cutOf_64 ?_
          refine j_iconst (v := 1) C dX11_cutOf_65 (by decide) ?_
          refine j_iadd C dX11_cutOf_66 ?_
          refine jM_L5 C dX11_cutOf_67 hm (fun a2 hm => ?_)
          refine j_iload_n C dX11_cutOf_68 rfl 2 rfl ?_
          refine j_icmp_neq (tgt := 76) C dX11_cutOf_69 (by decide) hm (fun hm => ?_) (fun hm => ?_)
          · exact J.sub [1, 2, 3, 4, 5, 6, 8] rfl (kM_cutOf_76 C hR k6 K6 k20 K20 x1 x2 x3 x4 x5 x7 hm)
          · exact J.sub [1, 2, 3, 4, 5, 6, 8] rfl (kM_cutOf_72 C hR k6 K6 k20 K20 x1 x2 x3 x4 x5 x7 hm)
def mM_cutOf_h20 (N : Nat) (u : MSt) (k6 : Int32 → Int32 → Int32 → Int32 → Int32 → Option Int32) : Nat → Int32 → Int32 → Int32 → Int32 → Int32 → Int32 → Int32 → Option Int32
  | 0, _, _, _, _, _, _, _ => none
  | n + 1, x1, x2, x3, x4, x5, x6, x7 => mM_cutOf_20 N u k6 (mM_cutOf_h20 N u k6 n) x1 x2 x3 x4 x5 x6 x7
theorem kM_cutOf_h20 {l : Launch} {D : va_G} {cI : ClassId} {o : Nat} {q : Nat → Nat} {u : MSt} {G : Gx} {N : Nat} {rr : Int32} (C : jC l rmM_cutOf D [(cI, .int)] G cX11_cutOf 9 RX11) (hR : jR D [(cI, .int)] G (0, 0) (some .int) (some (.int rr)) (wM cI o q u)) (k6 : Int32 → Int32 → Int32 → Int32 → Int32 → Option Int32) (K6 : ∀ (x1 : Int32) (x2 : Int32) (x3 : Int32) (x4 : Int32) (x5 : Int32), k6 x1 x2 x3 x4 x5 = some rr → J l rmM_cutOf D G (0, 0) (wM cI o q u) [(0, .ref o), (1, .int x1), (2, .int x2), (3, .int x3), (4, .int x4), (5, .int x5)] [] 6) : ∀ (n : Nat) (x1 : Int32) (x2 : Int32) (x3 : Int32) (x4 : Int32) (x5 : Int32) (x6 : Int32) (x7 : Int32), mM_cutOf_h20 N u k6 n x1 x2 x3 x4 x5 x6 x7 = some rr → J l rmM_cutOf D G (0, 0) (wM cI o q u) [(0, .ref o), (1, .int x1), (2, .int x2), (3, .int x3), (4, .int x4), (5, .int x5), (6, .int x6), (7, .int x7)] [] 20 := by
  intro n
  induction n with
  | zero =>
    intro x1 x2 x3 x4 x5 x6 x7 hm
    have hm : (none : Option Int32) = some rr := hm
    cases hm
  | succ n ih =>
    intro x1 x2 x3 x4 x5 x6 x7 hm
    exact kM_cutOf_20 C hR k6 K6 _ ih x1 x2 x3 x4 x5 x6 x7 hm
def mM_cutOf_6 (N : Nat) (u : MSt) (k6 : Int32 → Int32 → Int32 → Int32 → Int32 → Option Int32) (x1 : Int32) (x2 : Int32) (x3 : Int32) (x4 : Int32) (x5 : Int32) : Option Int32 := if (x2 + x3) ≤ x5 then (some x4) else (mM_cutOf_h20 N u k6 N x1 x2 x3 x4 x5 0 0)
set_option maxRecDepth 100000 in
set_option maxHeartbeats 4000000 in
theorem kM_cutOf_6 {l : Launch} {D : va_G} {cI : ClassId} {o : Nat} {q : Nat → Nat} {u : MSt} {G : Gx} {N : Nat} {rr : Int32} (C : jC l rmM_cutOf D [(cI, .int)] G cX11_cutOf 9 RX11) (hR : jR D [(cI, .int)] G (0, 0) (some .int) (some (.int rr)) (wM cI o q u)) (k6 : Int32 → Int32 → Int32 → Int32 → Int32 → Option Int32) (K6 : ∀ (x1 : Int32) (x2 : Int32) (x3 : Int32) (x4 : Int32) (x5 : Int32), k6 x1 x2 x3 x4 x5 = some rr → J l rmM_cutOf D G (0, 0) (wM cI o q u) [(0, .ref o), (1, .int x1), (2, .int x2), (3, .int x3), (4, .int x4), (5, .int x5)] [] 6) (x1 : Int32) (x2 : Int32) (x3 : Int32) (x4 : Int32) (x5 : Int32) (hm : mM_cutOf_6 N u k6 x1 x2 x3 x4 x5 = some rr) : J l rmM_cutOf D G (0, 0) (wM cI o q u) [(0, .ref o), (1, .int x1), (2, .int x2), (3, .int x3), (4, .int x4), (5, .int x5)] [] 6 := by
  unfold mM_cutOf_6 at hm
  refine j_iload C dX11_cutOf_6 5 rfl ?_
  refine j_iload_n C dX11_cutOf_8 rfl 2 rfl ?_
  refine j_iload_n C dX11_cutOf_9 rfl 3 rfl ?_
  refine j_iadd C dX11_cutOf_10 ?_
  refine j_icmp_geq (tgt := 106) C dX11_cutOf_11 (by decide) hm (fun hm => ?_) (fun hm => ?_)
  · refine j_iload C dX11_cutOf_106 4 rfl ?_
    cases hm
    exact j_iret C hR dX11_cutOf_108
  · refine j_iconst (v := 0) C dX11_cutOf_14 (by decide) ?_
    refine j_istore C dX11_cutOf_15 (by decide) rfl ?_
    refine j_iconst (v := 0) C dX11_cutOf_17 (by decide) ?_
    refine j_istore C dX11_cutOf_18 (by decide) rfl ?_
    exact J.sub [2, 3, 4, 5, 6, 7, 1, 0] rfl (kM_cutOf_h20 C hR k6 K6 N x1 x2 x3 x4 x5 0 0 hm)
def mM_cutOf_h6 (N : Nat) (u : MSt) : Nat → Int32 → Int32 → Int32 → Int32 → Int32 → Option Int32
  | 0, _, _, _, _, _ => none
  | n + 1, x1, x2, x3, x4, x5 => mM_cutOf_6 N u (mM_cutOf_h6 N u n) x1 x2 x3 x4 x5
theorem kM_cutOf_h6 {l : Launch} {D : va_G} {cI : ClassId} {o : Nat} {q : Nat → Nat} {u : MSt} {G : Gx} {N : Nat} {rr : Int32} (C : jC l rmM_cutOf D [(cI, .int)] G cX11_cutOf 9 RX11) (hR : jR D [(cI, .int)] G (0, 0) (some .int) (some (.int rr)) (wM cI o q u))  : ∀ (n : Nat) (x1 : Int32) (x2 : Int32) (x3 : Int32) (x4 : Int32) (x5 : Int32), mM_cutOf_h6 N u n x1 x2 x3 x4 x5 = some rr → J l rmM_cutOf D G (0, 0) (wM cI o q u) [(0, .ref o), (1, .int x1), (2, .int x2), (3, .int x3), (4, .int x4), (5, .int x5)] [] 6 := by
  intro n
  induction n with
  | zero =>
    intro x1 x2 x3 x4 x5 hm
    have hm : (none : Option Int32) = some rr := hm
    cases hm
  | succ n ih =>
    intro x1 x2 x3 x4 x5 hm
    exact kM_cutOf_6 C hR _ ih x1 x2 x3 x4 x5 hm
def mM_cutOf (N : Nat) (u : MSt) (x1 : Int32) (x2 : Int32) (x3 : Int32) : Option Int32 := mM_cutOf_h6 N u N x1 x2 x3 0 x2
set_option maxRecDepth 100000 in
set_option maxHeartbeats 4000000 in
theorem cM_cutOf {l : Launch} {D : va_G} {cI : ClassId} {o : Nat} {q : Nat → Nat} {u : MSt} {N : Nat} {x1 : Int32} {x2 : Int32} {x3 : Int32} {rr : Int32} (hm : mM_cutOf N u x1 x2 x3 = some rr) : Con l D [(cI, .int)] yX11_cutOf (wS yX11_cutOf cX11_cutOf 9 (some .int)) rmM_cutOf [.ref o, .int x1, .int x2, .int x3] (wM cI o q u) (some (.int rr)) (wM cI o q u) := by
  refine Con.of (by decide +kernel) (Nat.le_of_ble_eq_true rfl) (fun G C hR => ?_)
  unfold mM_cutOf at hm
  show J l rmM_cutOf D G (0, 0) (wM cI o q u) [(0, .ref o), (1, .int x1), (2, .int x2), (3, .int x3)] [] 0
  refine j_iconst (v := 0) C dX11_cutOf_0 (by decide) ?_
  refine j_istore C dX11_cutOf_1 (by decide) rfl ?_
  refine j_iload_n C dX11_cutOf_3 rfl 3 rfl ?_
  refine j_istore C dX11_cutOf_4 (by decide) rfl ?_
  exact J.sub [2, 3, 4, 5, 1, 0] rfl (kM_cutOf_h6 C hR N x1 x2 x3 0 x2 hm)
def rmM_cut : Room := { frames := 5, cells := 0, slots := 0, locals := 121 }
theorem wd_X11_cut : yX11_cut.cls ≠ "java/lang/invoke/MethodHandle" ∧ yX11_cut.cls ≠ "java/lang/invoke/VarHandle" ∧ (parseMethodDescriptor yX11_cut.desc).map (fun d => d.parameters.length) = some 3 := by decide +kernel
def mM_cut_41 (N : Nat) (u : MSt) (s0 : Int32) : Option Int32 := some s0
set_option maxRecDepth 100000 in
set_option maxHeartbeats 4000000 in
theorem kM_cut_41 {l : Launch} {D : va_G} {cI : ClassId} {o : Nat} {q : Nat → Nat} {u : MSt} {G : Gx} {N : Nat} {rr : Int32} (C : jC l rmM_cut D [(cI, .int)] G cX11_cut 4 RX11) (hR : jR D [(cI, .int)] G (0, 0) (some .int) (some (.int rr)) (wM cI o q u))  (s0 : Int32) (hm : mM_cut_41 N u s0 = some rr) : J l rmM_cut D G (0, 0) (wM cI o q u) [] [.int s0] 41 := by
  unfold mM_cut_41 at hm
  cases hm
  exact j_iret C hR dX11_cut_41
def mM_cut_39 (N : Nat) (u : MSt)  : Option Int32 := mM_cut_41 N u (-102)
set_option maxRecDepth 100000 in
set_option maxHeartbeats 4000000 in
theorem kM_cut_39 {l : Launch} {D : va_G} {cI : ClassId} {o : Nat} {q : Nat → Nat} {u : MSt} {G : Gx} {N : Nat} {rr : Int32} (C : jC l rmM_cut D [(cI, .int)] G cX11_cut 4 RX11) (hR : jR D [(cI, .int)] G (0, 0) (some .int) (some (.int rr)) (wM cI o q u))   (hm : mM_cut_39 N u = some rr) : J l rmM_cut D G (0, 0) (wM cI o q u) [] [] 39 := by
  unfold mM_cut_39 at hm
  refine j_bipush (v := (-102)) C dX11_cut_39 (by decide) ?_
  exact kM_cut_41 C hR (-102) hm
def mM_cut (N : Nat) (u : MSt) (x1 : Int32) (x2 : Int32) (x3 : Int32) : Option Int32 := (mM_isIslet N x1).bind (fun r1 => if ¬ r1 = 0 then ((mM_isMinute N x2).bind (fun r2 => if r2 = 0 then (mM_cut_39 N u) else ((mM_in N (Int32.toInt64 x3) 1 400).bind (fun r3 => if r3 = 0 then (mM_cut_39 N u) else ((mM_cutOf N u x1 x2 x3).bind (fun r4 => mM_cut_41 N u r4)))))) else (some (-101)))
set_option maxRecDepth 100000 in
set_option maxHeartbeats 4000000 in
theorem cM_cut {l : Launch} {D : va_G} {cI : ClassId} {o : Nat} {q : Nat → Nat} {u : MSt} {N : Nat} {x1 : Int32} {x2 : Int32} {x3 : Int32} {rr : Int32} (hm : mM_cut N u x1 x2 x3 = some rr) : Con l D [(cI, .int)] yX11_cut (wS yX11_cut cX11_cut 4 (some .int)) rmM_cut [.ref o, .int x1, .int x2, .int x3] (wM cI o q u) (some (.int rr)) (wM cI o q u) := by
  refine Con.of (by decide +kernel) (Nat.le_of_ble_eq_true rfl) (fun G C hR => ?_)
  unfold mM_cut at hm
  show J l rmM_cut D G (0, 0) (wM cI o q u) [(0, .ref o), (1, .int x1), (2, .int x2), (3, .int x3)] [] 0
  refine j_iload_n C dX11_cut_0 rfl 1 rfl ?_
  refine j_bind hm (fun r1 hr1 hm => ?_)
  refine j_callS (cs' := (0, 0)) (As := [.int x1]) (rest := []) C (cM_isIslet hr1) wc_X11_isIslet wm_X11_153 wt_X11_isIslet wn_X11 wd_X11_isIslet ⟨by decide, by decide⟩ rfl (Nat.le_of_ble_eq_true rfl) dX11_cut_1 ⟨by decide, by decide⟩ rfl rfl ?_
  refine j_if_neq (tgt := 10) C dX11_cut_4 (by decide) hm (fun hm => ?_) (fun hm => ?_)
  · refine j_iload_n C dX11_cut_10 rfl 2 rfl ?_
    refine j_bind hm (fun r2 hr2 hm => ?_)
    refine j_callS (cs' := (0, 0)) (As := [.int x2]) (rest := []) C (cM_isMinute hr2) wc_X11_isMinute wm_X11_156 wt_X11_isMinute wn_X11 wd_X11_isMinute ⟨by decide, by decide⟩ rfl (Nat.le_of_ble_eq_true rfl) dX11_cut_11 ⟨by decide, by decide⟩ rfl rfl ?_
    refine j_if_eqq (tgt := 39) C dX11_cut_14 (by decide) hm (fun hm => ?_) (fun hm => ?_)
    · exact J.sub [] rfl (kM_cut_39 C hR hm)
    · refine j_iload_n C dX11_cut_17 rfl 3 rfl ?_
      refine j_i2l C dX11_cut_18 ?_
      refine j_lconst (v := 1) C dX11_cut_19 (by decide) ?_
      refine j_ldc2 C dX11_cut_20 wk_X11_175 ?_
      refine j_bind hm (fun r3 hr3 hm => ?_)
      refine j_callS (cs' := (0, 0)) (As := [.long (Int32.toInt64 x3), .long 1, .long 400]) (rest := []) C (cM_in hr3) wc_X11_in wm_X11_69 wt_X11_in wn_X11 wd_X11_in ⟨by decide, by decide⟩ rfl (Nat.le_of_ble_eq_true rfl) dX11_cut_23 ⟨by decide, by decide⟩ rfl rfl ?_
      refine j_if_eqq (tgt := 39) C dX11_cut_26 (by decide) hm (fun hm => ?_) (fun hm => ?_)
      · exact J.sub [] rfl (kM_cut_39 C hR hm)
      · refine j_aload_n C dX11_cut_29 rfl 0 rfl ?_
        refine j_iload_n C dX11_cut_30 rfl 1 rfl ?_
        refine j_iload_n C dX11_cut_31 rfl 2 rfl ?_
        refine j_iload_n C dX11_cut_32 rfl 3 rfl ?_
        refine j_bind hm (fun r4 hr4 hm => ?_)
        refine j_callV (cs' := (0, 0)) (As := [.int x1, .int x2, .int x3]) (rest := []) C (cM_cutOf hr4) wc_X11_cutOf wm_X11_177 wi_X11_cutOf ws_X11_cutOf wn_X11 wd_X11_cutOf ⟨by decide, by decide⟩ 0 rfl rfl rfl (Nat.le_of_ble_eq_true rfl) dX11_cut_33 ⟨by decide, by decide⟩ rfl rfl ?_
        refine j_goto (tgt := 41) C dX11_cut_36 (by decide) ?_
        exact J.sub [] rfl (kM_cut_41 C hR r4 hm)
  · refine j_bipush (v := (-101)) C dX11_cut_7 (by decide) ?_
    cases hm
    exact j_iret C hR dX11_cut_9
def rmM_layWaits : Room := { frames := 8, cells := 0, slots := 0, locals := 195 }
theorem wd_X11_layWaits : yX11_layWaits.cls ≠ "java/lang/invoke/MethodHandle" ∧ yX11_layWaits.cls ≠ "java/lang/invoke/VarHandle" ∧ (parseMethodDescriptor yX11_layWaits.desc).map (fun d => d.parameters.length) = some 5 := by decide +kernel
def mM_layWaits_90 (N : Nat) (k13 : MSt → Int32 → Int32 → Int32 → Int32 → Int32 → Int32 → Option MSt) (u : MSt) (x1 : Int32) (x2 : Int32) (x3 : Int32) (x4 : Int32) (x5 : Int32) (x6 : Int32) (s0 : Int32) : Option MSt := nm (siM u 12 s0) (fun u1 => k13 u1 x1 x2 x3 x4 x5 (x6 + 1))
set_option maxRecDepth 100000 in
set_option maxHeartbeats 4000000 in
theorem kM_layWaits_90 {l : Launch} {D : va_G} {cI : ClassId} {o : Nat} {q : Nat → Nat} {G : Gx} {N : Nat} {rr : MSt} (C : jC l rmM_layWaits D [(cI, .int)] G cX11_layWaits 8 RX11) (hR : jR D [(cI, .int)] G (0, 0) none none (wM cI o q rr)) (k13 : MSt → Int32 → Int32 → Int32 → Int32 → Int32 → Int32 → Option MSt) (K13 : ∀ (u : MSt) (x1 : Int32) (x2 : Int32) (x3 : Int32) (x4 : Int32) (x5 : Int32) (x6 : Int32), k13 u x1 x2 x3 x4 x5 x6 = some rr → J l rmM_layWaits D G (0, 0) (wM cI o q u) [(0, .ref o), (1, .int x1), (2, .int x2), (3, .int x3), (4, .int x4), (5, .int x5), (6, .int x6)] [] 13) (u : MSt) (x1 : Int32) (x2 : Int32) (x3 : Int32) (x4 : Int32) (x5 : Int32) (x6 : Int32) (s0 : Int32) (hm : mM_layWaits_90 N k13 u x1 x2 x3 x4 x5 x6 s0 = some rr) : J l rmM_layWaits D G (0, 0) (wM cI o q u) [(0, .ref o), (1, .int x1), (2, .int x2), (3, .int x3), (4, .int x4), (5, .int x5), (6, .int x6)] [.int s0, .ref o] 90 := by
  unfold mM_layWaits_90 at hm
  refine jM_p12 C dX11_layWaits_90 ?_
  refine j_nmu hm (w := wM cI o q) (fun u1 hm => ?_)
  refine j_iinc (v := (x6 + 1)) C dX11_layWaits_93 6 rfl rfl (by decide) rfl ?_
  refine j_goto (tgt := 13) C dX11_layWaits_96 (by decide) ?_
  exact J.sub [1, 2, 3, 4, 5, 6, 0] rfl (K13 u1 x1 x2 x3 x4 x5 (x6 + 1) hm)
def mM_layWaits_99 (N : Nat) (u : MSt) : Option MSt := some u
set_option maxRecDepth 100000 in
set_option maxHeartbeats 4000000 in
theorem kM_layWaits_99 {l : Launch} {D : va_G} {cI : ClassId} {o : Nat} {q : Nat → Nat} {G : Gx} {N : Nat} {rr : MSt} (C : jC l rmM_layWaits D [(cI, .int)] G cX11_layWaits 8 RX11) (hR : jR D [(cI, .int)] G (0, 0) none none (wM cI o q rr))  (u : MSt)  (hm : mM_layWaits_99 N u = some rr) : J l rmM_layWaits D G (0, 0) (wM cI o q u) [] [] 99 := by
  unfold mM_layWaits_99 at hm
  cases hm
  exact j_vret C hR dX11_layWaits_99
def mM_layWaits_13 (N : Nat) (k13 : MSt → Int32 → Int32 → Int32 → Int32 → Int32 → Int32 → Option MSt) (u : MSt) (x1 : Int32) (x2 : Int32) (x3 : Int32) (x4 : Int32) (x5 : Int32) (x6 : Int32) : Option MSt := if x3 ≤ x6 then (mM_layWaits_99 N u) else (if (u.1 12) = (-1) then (mM_layWaits_99 N u) else (bp (mM_soonestOf N u x1 x2 x6 x4 x5) (fun r1 u2 => nm (u2.1 11) (fun f3 => nm (siM u2 11 (f3 + (r1 - x6))) (fun u4 => if ¬ r1 = (-1) then (nm (u4.1 12) (fun f5 => if (r1 - x6) ≤ f5 then (nm (u4.1 12) (fun f6 => mM_layWaits_90 N k13 u4 x1 x2 x3 x4 x5 x6 f6)) else (mM_layWaits_90 N k13 u4 x1 x2 x3 x4 x5 x6 (r1 - x6)))) else (mM_layWaits_90 N k13 u4 x1 x2 x3 x4 x5 x6 (-1)))))))
set_option maxRecDepth 100000 in
set_option maxHeartbeats 4000000 in
theorem kM_layWaits_13 {l : Launch} {D : va_G} {cI : ClassId} {o : Nat} {q : Nat → Nat} {G : Gx} {N : Nat} {rr : MSt} (C : jC l rmM_layWaits D [(cI, .int)] G cX11_layWaits 8 RX11) (hR : jR D [(cI, .int)] G (0, 0) none none (wM cI o q rr)) (k13 : MSt → Int32 → Int32 → Int32 → Int32 → Int32 → Int32 → Option MSt) (K13 : ∀ (u : MSt) (x1 : Int32) (x2 : Int32) (x3 : Int32) (x4 : Int32) (x5 : Int32) (x6 : Int32), k13 u x1 x2 x3 x4 x5 x6 = some rr → J l rmM_layWaits D G (0, 0) (wM cI o q u) [(0, .ref o), (1, .int x1), (2, .int x2), (3, .int x3), (4, .int x4), (5, .int x5), (6, .int x6)] [] 13) (u : MSt) (x1 : Int32) (x2 : Int32) (x3 : Int32) (x4 : Int32) (x5 : Int32) (x6 : Int32) (hm : mM_layWaits_13 N k13 u x1 x2 x3 x4 x5 x6 = some rr) : J l rmM_layWaits D G (0, 0) (wM cI o q u) [(0, .ref o), (1, .int x1), (2, .int x2), (3, .int x3), (4, .int x4), (5, .int x5), (6, .int x6)] [] 13 := by
  unfold mM_layWaits_13 at hm
  refine j_iload C dX11_layWaits_13 6 rfl ?_
  refine j_iload_n C dX11_layWaits_15 rfl 3 rfl ?_
  refine j_icmp_geq (tgt := 99) C dX11_layWaits_16 (by decide) hm (fun hm => ?_) (fun hm => ?_)
  · exact J.sub [] rfl (kM_layWaits_99 C hR u hm)
  · refine j_aload_n C dX11_layWaits_19 rfl 0 rfl ?_
    refine jM_g12 C dX11_layWaits_20 ?_
    refine j_iconst (v := (-1)) C dX11_layWaits_23 (by decide) ?_
    refine j_icmp_eqq (tgt := 99) C dX11_layWaits_24 (by decide) hm (fun hm => ?_) (fun hm => ?_)
    · exact J.sub [] rfl (kM_layWaits_99 C hR u hm)
    · refine j_aload_n C dX11_layWaits_27 rfl 0 rfl ?_
      refine j_iload_n C dX11_layWaits_28 rfl 1 rfl ?_
      refine j_iload_n C dX11_layWaits_29 rfl 2 rfl ?_
      refine j_iload C dX11_layWaits_30 6 rfl ?_
      refine j_iload C dX11_layWaits_32 4 rfl ?_
      refine j_iload C dX11_layWaits_34 5 rfl ?_
      refine j_bindp hm (fun r1 u2 hr1 hm => ?_)
      refine j_callV (cs' := (0, 0)) (As := [.int x1, .int x2, .int x6, .int x4, .int x5]) (rest := []) C (cM_soonestOf hr1) wc_X11_soonestOf wm_X11_163 wi_X11_soonestOf ws_X11_soonestOf wn_X11 wd_X11_soonestOf ⟨by decide, by decide⟩ 0 rfl rfl rfl (Nat.le_of_ble_eq_true rfl) dX11_layWaits_36 ⟨by decide, by decide⟩ rfl rfl ?_
      refine j_istore C dX11_layWaits_39 (by decide) rfl ?_
      refine j_aload_n C dX11_layWaits_41 rfl 1 rfl ?_
      refine j_dup C dX11_layWaits_42 rfl ?_
      refine jM_g11 C dX11_layWaits_43 ?_
      refine j_nmi hm (fun f3 hm => ?_)
      refine j_iload C dX11_layWaits_46 0 rfl ?_
      refine j_iload C dX11_layWaits_48 7 rfl ?_
      refine j_isub C dX11_layWaits_50 ?_
      refine j_iadd C dX11_layWaits_51 ?_
      refine jM_p11 C dX11_layWaits_52 ?_
      refine j_nmu hm (w := wM cI o q) (fun u4 hm => ?_)
      refine j_aload_n C dX11_layWaits_55 rfl 1 rfl ?_
      refine j_iload C dX11_layWaits_56 0 rfl ?_
      refine j_iconst (v := (-1)) C dX11_layWaits_58 (by decide) ?_
      refine j_icmp_neq (tgt := 66) C dX11_layWaits_59 (by decide) hm (fun hm => ?_) (fun hm => ?_)
      · refine j_iload C dX11_layWaits_66 0 rfl ?_
        refine j_iload C dX11_layWaits_68 7 rfl ?_
        refine j_isub C dX11_layWaits_70 ?_
        refine j_aload_n C dX11_layWaits_71 rfl 1 rfl ?_
        refine jM_g12 C dX11_layWaits_72 ?_
        refine j_nmi hm (fun f5 hm => ?_)
        refine j_icmp_leq (tgt := 86) C dX11_layWaits_75 (by decide) hm (fun hm => ?_) (fun hm => ?_)
        · refine j_aload_n C dX11_layWaits_86 rfl 1 rfl ?_
          refine jM_g12 C dX11_layWaits_87 ?_
          refine j_nmi hm (fun f6 hm => ?_)
          exact J.sub [1, 2, 3, 4, 5, 6, 7] rfl (kM_layWaits_90 C hR k13 K13 u4 x1 x2 x3 x4 x5 x6 f6 hm)
        · refine j_iload C dX11_layWaits_78 0 rfl ?_
          refine j_iload C dX11_layWaits_80 7 rfl ?_
          refine j_isub C dX11_layWaits_82 ?_
          refine j_goto (tgt := 90) C dX11_layWaits_83 (by decide) ?_
          exact J.sub [1, 2, 3, 4, 5, 6, 7] rfl (kM_layWaits_90 C hR k13 K13 u4 x1 x2 x3 x4 x5 x6 (r1 - x6) hm)
      · refine j_iconst (v := (-1)) C dX11_layWaits_62 (by decide) ?_
        refine j_goto (tgt := 90) C dX11_layWaits_63 (by decide) ?_
        exact J.sub [1, 2, 3, 4, 5, 6, 7] rfl (kM_layWaits_90 C hR k13 K13 u4 x1 x2 x3 x4 x5 x6 (-1) hm)
def mM_layWaits_h13 (N : Nat) : Nat → MSt → Int32 → Int32 → Int32 → Int32 → Int32 → Int32 → Option MSt
  | 0, _, _, _, _, _, _, _ => none
  | n + 1, u, x1, x2, x3, x4, x5, x6 => mM_layWaits_13 N (mM_layWaits_h13 N n) u x1 x2 x3 x4 x5 x6
theorem kM_layWaits_h13 {l : Launch} {D : va_G} {cI : ClassId} {o : Nat} {q : Nat → Nat} {G : Gx} {N : Nat} {rr : MSt} (C : jC l rmM_layWaits D [(cI, .int)] G cX11_layWaits 8 RX11) (hR : jR D [(cI, .int)] G (0, 0) none none (wM cI o q rr))  : ∀ (n : Nat) (u : MSt) (x1 : Int32) (x2 : Int32) (x3 : Int32) (x4 : Int32) (x5 : Int32) (x6 : Int32), mM_layWaits_h13 N n u x1 x2 x3 x4 x5 x6 = some rr → J l rmM_layWaits D G (0, 0) (wM cI o q u) [(0, .ref o), (1, .int x1), (2, .int x2), (3, .int x3), (4, .int x4), (5, .int x5), (6, .int x6)] [] 13 := by
  intro n
  induction n with
  | zero =>
    intro u x1 x2 x3 x4 x5 x6 hm
    have hm : (none : Option MSt) = some rr := hm
    cases hm
  | succ n ih =>
    intro u x1 x2 x3 x4 x5 x6 hm
    exact kM_layWaits_13 C hR _ ih u x1 x2 x3 x4 x5 x6 hm
def mM_layWaits (N : Nat) (u : MSt) (x1 : Int32) (x2 : Int32) (x3 : Int32) (x4 : Int32) (x5 : Int32) : Option MSt := nm (siM u 11 0) (fun u1 => nm (siM u1 12 0) (fun u2 => mM_layWaits_h13 N N u2 x1 x2 x3 x4 x5 0))
set_option maxRecDepth 100000 in
set_option maxHeartbeats 4000000 in
theorem cM_layWaits {l : Launch} {D : va_G} {cI : ClassId} {o : Nat} {q : Nat → Nat} {u : MSt} {N : Nat} {x1 : Int32} {x2 : Int32} {x3 : Int32} {x4 : Int32} {x5 : Int32} {rr : MSt} (hm : mM_layWaits N u x1 x2 x3 x4 x5 = some rr) : Con l D [(cI, .int)] yX11_layWaits (wS yX11_layWaits cX11_layWaits 8 none) rmM_layWaits [.ref o, .int x1, .int x2, .int x3, .int x4, .int x5] (wM cI o q u) none (wM cI o q rr) := by
  refine Con.of (by decide +kernel) (Nat.le_of_ble_eq_true rfl) (fun G C hR => ?_)
  unfold mM_layWaits at hm
  show J l rmM_layWaits D G (0, 0) (wM cI o q u) [(0, .ref o), (1, .int x1), (2, .int x2), (3, .int x3), (4, .int x4), (5, .int x5)] [] 0
  refine j_aload_n C dX11_layWaits_0 rfl 0 rfl ?_
  refine j_iconst (v := 0) C dX11_layWaits_1 (by decide) ?_
  refine jM_p11 C dX11_layWaits_2 ?_
  refine j_nmu hm (w := wM cI o q) (fun u1 hm => ?_)
  refine j_aload_n C dX11_layWaits_5 rfl 0 rfl ?_
  refine j_iconst (v := 0) C dX11_layWaits_6 (by decide) ?_
  refine jM_p12 C dX11_layWaits_7 ?_
  refine j_nmu hm (w := wM cI o q) (fun u2 hm => ?_)
  refine j_iconst (v := 0) C dX11_layWaits_10 (by decide) ?_
  refine j_istore C dX11_layWaits_11 (by decide) rfl ?_
  exact J.sub [1, 2, 3, 4, 5, 6, 0] rfl (kM_layWaits_h13 C hR N u2 x1 x2 x3 x4 x5 0 hm)
