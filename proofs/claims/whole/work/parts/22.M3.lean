def rmM_worst : Room := { frames := 9, cells := 0, slots := 0, locals := 222 }
theorem wd_X11_worst : yX11_worst.cls ≠ "java/lang/invoke/MethodHandle" ∧ yX11_worst.cls ≠ "java/lang/invoke/VarHandle" ∧ (parseMethodDescriptor yX11_worst.desc).map (fun d => d.parameters.length) = some 5 := by decide +kernel
def mM_worst_14 (N : Nat) (u : MSt) : Option (Int32 × MSt) := some ((-101), u)
set_option maxRecDepth 100000 in
set_option maxHeartbeats 4000000 in
theorem kM_worst_14 {l : Launch} {D : va_G} {cI : ClassId} {o : Nat} {q : Nat → Nat} {G : Gx} {N : Nat} {rr : (Int32 × MSt)} (C : jC l rmM_worst D [(cI, .int)] G cX11_worst 6 RX11) (hR : jR D [(cI, .int)] G (0, 0) (some .int) (some (.int rr.1)) (wM cI o q rr.2))  (u : MSt)  (hm : mM_worst_14 N u = some rr) : J l rmM_worst D G (0, 0) (wM cI o q u) [] [] 14 := by
  unfold mM_worst_14 at hm
  refine j_bipush (v := (-101)) C dX11_worst_14 (by decide) ?_
  cases hm
  exact j_iret C hR dX11_worst_16
def mM_worst_39 (N : Nat) (u : MSt) : Option (Int32 × MSt) := some ((-102), u)
set_option maxRecDepth 100000 in
set_option maxHeartbeats 4000000 in
theorem kM_worst_39 {l : Launch} {D : va_G} {cI : ClassId} {o : Nat} {q : Nat → Nat} {G : Gx} {N : Nat} {rr : (Int32 × MSt)} (C : jC l rmM_worst D [(cI, .int)] G cX11_worst 6 RX11) (hR : jR D [(cI, .int)] G (0, 0) (some .int) (some (.int rr.1)) (wM cI o q rr.2))  (u : MSt)  (hm : mM_worst_39 N u = some rr) : J l rmM_worst D G (0, 0) (wM cI o q u) [] [] 39 := by
  unfold mM_worst_39 at hm
  refine j_bipush (v := (-102)) C dX11_worst_39 (by decide) ?_
  cases hm
  exact j_iret C hR dX11_worst_41
def mM_worst (N : Nat) (u : MSt) (x1 : Int32) (x2 : Int32) (x3 : Int32) (x4 : Int32) (x5 : Int32) : Option (Int32 × MSt) := (mM_isIslet N x1).bind (fun r1 => if r1 = 0 then (mM_worst_14 N u) else ((mM_isIslet N x2).bind (fun r2 => if ¬ r2 = 0 then ((mM_in N (Int32.toInt64 x3) 1 60).bind (fun r3 => if r3 = 0 then (mM_worst_39 N u) else ((mM_isCarrier N x4 x5).bind (fun r4 => if ¬ r4 = 0 then ((mM_layWaits N u x1 x2 x3 x4 x5).bind (fun r5 => nm (r5.1 12) (fun f6 => some (f6, r5)))) else (mM_worst_39 N u))))) else (mM_worst_14 N u))))
set_option maxRecDepth 100000 in
set_option maxHeartbeats 4000000 in
theorem cM_worst {l : Launch} {D : va_G} {cI : ClassId} {o : Nat} {q : Nat → Nat} {u : MSt} {N : Nat} {x1 : Int32} {x2 : Int32} {x3 : Int32} {x4 : Int32} {x5 : Int32} {rr : (Int32 × MSt)} (hm : mM_worst N u x1 x2 x3 x4 x5 = some rr) : Con l D [(cI, .int)] yX11_worst (wS yX11_worst cX11_worst 6 (some .int)) rmM_worst [.ref o, .int x1, .int x2, .int x3, .int x4, .int x5] (wM cI o q u) (some (.int rr.1)) (wM cI o q rr.2) := by
  refine Con.of (by decide +kernel) (Nat.le_of_ble_eq_true rfl) (fun G C hR => ?_)
  unfold mM_worst at hm
  show J l rmM_worst D G (0, 0) (wM cI o q u) [(0, .ref o), (1, .int x1), (2, .int x2), (3, .int x3), (4, .int x4), (5, .int x5)] [] 0
  refine j_iload_n C dX11_worst_0 rfl 1 rfl ?_
  refine j_bind hm (fun r1 hr1 hm => ?_)
  refine j_callS (cs' := (0, 0)) (As := [.int x1]) (rest := []) C (cM_isIslet hr1) wc_X11_isIslet wm_X11_153 wt_X11_isIslet wn_X11 wd_X11_isIslet ⟨by decide, by decide⟩ rfl (Nat.le_of_ble_eq_true rfl) dX11_worst_1 ⟨by decide, by decide⟩ rfl rfl ?_
  refine j_if_eqq (tgt := 14) C dX11_worst_4 (by decide) hm (fun hm => ?_) (fun hm => ?_)
  · exact J.sub [] rfl (kM_worst_14 C hR u hm)
  · refine j_iload_n C dX11_worst_7 rfl 2 rfl ?_
    refine j_bind hm (fun r2 hr2 hm => ?_)
    refine j_callS (cs' := (0, 0)) (As := [.int x2]) (rest := []) C (cM_isIslet hr2) wc_X11_isIslet wm_X11_153 wt_X11_isIslet wn_X11 wd_X11_isIslet ⟨by decide, by decide⟩ rfl (Nat.le_of_ble_eq_true rfl) dX11_worst_8 ⟨by decide, by decide⟩ rfl rfl ?_
    refine j_if_neq (tgt := 17) C dX11_worst_11 (by decide) hm (fun hm => ?_) (fun hm => ?_)
    · refine j_iload_n C dX11_worst_17 rfl 3 rfl ?_
      refine j_i2l C dX11_worst_18 ?_
      refine j_lconst (v := 1) C dX11_worst_19 (by decide) ?_
      refine j_ldc2 C dX11_worst_20 wk_X11_187 ?_
      refine j_bind hm (fun r3 hr3 hm => ?_)
      refine j_callS (cs' := (0, 0)) (As := [.long (Int32.toInt64 x3), .long 1, .long 60]) (rest := []) C (cM_in hr3) wc_X11_in wm_X11_69 wt_X11_in wn_X11 wd_X11_in ⟨by decide, by decide⟩ rfl (Nat.le_of_ble_eq_true rfl) dX11_worst_23 ⟨by decide, by decide⟩ rfl rfl ?_
      refine j_if_eqq (tgt := 39) C dX11_worst_26 (by decide) hm (fun hm => ?_) (fun hm => ?_)
      · exact J.sub [] rfl (kM_worst_39 C hR u hm)
      · refine j_iload C dX11_worst_29 4 rfl ?_
        refine j_iload C dX11_worst_31 5 rfl ?_
        refine j_bind hm (fun r4 hr4 hm => ?_)
        refine j_callS (cs' := (0, 0)) (As := [.int x4, .int x5]) (rest := []) C (cM_isCarrier hr4) wc_X11_isCarrier wm_X11_159 wt_X11_isCarrier wn_X11 wd_X11_isCarrier ⟨by decide, by decide⟩ rfl (Nat.le_of_ble_eq_true rfl) dX11_worst_33 ⟨by decide, by decide⟩ rfl rfl ?_
        refine j_if_neq (tgt := 42) C dX11_worst_36 (by decide) hm (fun hm => ?_) (fun hm => ?_)
        · refine j_aload_n C dX11_worst_42 rfl 0 rfl ?_
          refine j_iload_n C dX11_worst_43 rfl 1 rfl ?_
          refine j_iload_n C dX11_worst_44 rfl 2 rfl ?_
          refine j_iload_n C dX11_worst_45 rfl 3 rfl ?_
          refine j_iload C dX11_worst_46 4 rfl ?_
          refine j_iload C dX11_worst_48 5 rfl ?_
          refine j_bind hm (fun r5 hr5 hm => ?_)
          refine j_callV (cs' := (0, 0)) (As := [.int x1, .int x2, .int x3, .int x4, .int x5]) (rest := []) C (cM_layWaits hr5) wc_X11_layWaits wm_X11_189 wi_X11_layWaits ws_X11_layWaits wn_X11 wd_X11_layWaits ⟨by decide, by decide⟩ 0 rfl rfl rfl (Nat.le_of_ble_eq_true rfl) dX11_worst_50 ⟨by decide, by decide⟩ rfl rfl ?_
          refine j_aload_n C dX11_worst_53 rfl 0 rfl ?_
          refine jM_g12 C dX11_worst_54 ?_
          refine j_nmi hm (fun f6 hm => ?_)
          cases hm
          exact j_iret C hR dX11_worst_57
        · exact J.sub [] rfl (kM_worst_39 C hR u hm)
    · exact J.sub [] rfl (kM_worst_14 C hR u hm)
def rmM_mean : Room := { frames := 9, cells := 0, slots := 0, locals := 222 }
theorem wd_X11_mean : yX11_mean.cls ≠ "java/lang/invoke/MethodHandle" ∧ yX11_mean.cls ≠ "java/lang/invoke/VarHandle" ∧ (parseMethodDescriptor yX11_mean.desc).map (fun d => d.parameters.length) = some 6 := by decide +kernel
def mM_mean_106 (N : Nat) (u : MSt) (s0 : Int32) : Option (Int32 × MSt) := some (s0, u)
set_option maxRecDepth 100000 in
set_option maxHeartbeats 4000000 in
theorem kM_mean_106 {l : Launch} {D : va_G} {cI : ClassId} {o : Nat} {q : Nat → Nat} {G : Gx} {N : Nat} {rr : (Int32 × MSt)} (C : jC l rmM_mean D [(cI, .int)] G cX11_mean 8 RX11) (hR : jR D [(cI, .int)] G (0, 0) (some .int) (some (.int rr.1)) (wM cI o q rr.2))  (u : MSt) (s0 : Int32) (hm : mM_mean_106 N u s0 = some rr) : J l rmM_mean D G (0, 0) (wM cI o q u) [] [.int s0] 106 := by
  unfold mM_mean_106 at hm
  cases hm
  exact j_iret C hR dX11_mean_106
def mM_mean_14 (N : Nat) (u : MSt) : Option (Int32 × MSt) := some ((-101), u)
set_option maxRecDepth 100000 in
set_option maxHeartbeats 4000000 in
theorem kM_mean_14 {l : Launch} {D : va_G} {cI : ClassId} {o : Nat} {q : Nat → Nat} {G : Gx} {N : Nat} {rr : (Int32 × MSt)} (C : jC l rmM_mean D [(cI, .int)] G cX11_mean 8 RX11) (hR : jR D [(cI, .int)] G (0, 0) (some .int) (some (.int rr.1)) (wM cI o q rr.2))  (u : MSt)  (hm : mM_mean_14 N u = some rr) : J l rmM_mean D G (0, 0) (wM cI o q u) [] [] 14 := by
  unfold mM_mean_14 at hm
  refine j_bipush (v := (-101)) C dX11_mean_14 (by decide) ?_
  cases hm
  exact j_iret C hR dX11_mean_16
def mM_mean_50 (N : Nat) (u : MSt) : Option (Int32 × MSt) := some ((-102), u)
set_option maxRecDepth 100000 in
set_option maxHeartbeats 4000000 in
theorem kM_mean_50 {l : Launch} {D : va_G} {cI : ClassId} {o : Nat} {q : Nat → Nat} {G : Gx} {N : Nat} {rr : (Int32 × MSt)} (C : jC l rmM_mean D [(cI, .int)] G cX11_mean 8 RX11) (hR : jR D [(cI, .int)] G (0, 0) (some .int) (some (.int rr.1)) (wM cI o q rr.2))  (u : MSt)  (hm : mM_mean_50 N u = some rr) : J l rmM_mean D G (0, 0) (wM cI o q u) [] [] 50 := by
  unfold mM_mean_50 at hm
  refine j_bipush (v := (-102)) C dX11_mean_50 (by decide) ?_
  cases hm
  exact j_iret C hR dX11_mean_52
def mM_mean (N : Nat) (u : MSt) (x1 : Int32) (x2 : Int32) (x3 : Int32) (x4 : Int32) (x5 : Int32) (x6 : Int32) : Option (Int32 × MSt) := (mM_isIslet N x1).bind (fun r1 => if r1 = 0 then (mM_mean_14 N u) else ((mM_isIslet N x2).bind (fun r2 => if ¬ r2 = 0 then ((mM_in N (Int32.toInt64 x3) 1 60).bind (fun r3 => if r3 = 0 then (mM_mean_50 N u) else ((mM_isCarrier N x4 x5).bind (fun r4 => if r4 = 0 then (mM_mean_50 N u) else ((mM_in N (Int32.toInt64 x6) 0 1).bind (fun r5 => if ¬ r5 = 0 then ((mM_layWaits N u x1 x2 x3 x4 x5).bind (fun r6 => nm (r6.1 12) (fun f7 => if ¬ f7 = (-1) then (nm (r6.1 11) (fun f8 => (mM_common N (Int32.toInt64 f8) (Int32.toInt64 x3)).bind (fun r9 => nm (Int64.toInt32 r9) (fun v10 => if ¬ x6 = 0 then (gd (¬ v10 = 0) (mM_mean_106 N r6 (x3 / v10))) else (nm (r6.1 11) (fun f11 => gd (¬ v10 = 0) (mM_mean_106 N r6 (f11 / v10)))))))) else (some ((-1), r6))))) else (mM_mean_50 N u))))))) else (mM_mean_14 N u))))
set_option maxRecDepth 100000 in
set_option maxHeartbeats 4000000 in
theorem cM_mean {l : Launch} {D : va_G} {cI : ClassId} {o : Nat} {q : Nat → Nat} {u : MSt} {N : Nat} {x1 : Int32} {x2 : Int32} {x3 : Int32} {x4 : Int32} {x5 : Int32} {x6 : Int32} {rr : (Int32 × MSt)} (hm : mM_mean N u x1 x2 x3 x4 x5 x6 = some rr) : Con l D [(cI, .int)] yX11_mean (wS yX11_mean cX11_mean 8 (some .int)) rmM_mean [.ref o, .int x1, .int x2, .int x3, .int x4, .int x5, .int x6] (wM cI o q u) (some (.int rr.1)) (wM cI o q rr.2) := by
  refine Con.of (by decide +kernel) (Nat.le_of_ble_eq_true rfl) (fun G C hR => ?_)
  unfold mM_mean at hm
  show J l rmM_mean D G (0, 0) (wM cI o q u) [(0, .ref o), (1, .int x1), (2, .int x2), (3, .int x3), (4, .int x4), (5, .int x5), (6, .int x6)] [] 0
  refine j_iload_n C dX11_mean_0 rfl 1 rfl ?_
  refine j_bind hm (fun r1 hr1 hm => ?_)
  refine j_callS (cs' := (0, 0)) (As := [.int x1]) (rest := []) C (cM_isIslet hr1) wc_X11_isIslet wm_X11_153 wt_X11_isIslet wn_X11 wd_X11_isIslet ⟨by decide, by decide⟩ rfl (Nat.le_of_ble_eq_true rfl) dX11_mean_1 ⟨by decide, by decide⟩ rfl rfl ?_
  refine j_if_eqq (tgt := 14) C dX11_mean_4 (by decide) hm (fun hm => ?_) (fun hm => ?_)
  · exact J.sub [] rfl (kM_mean_14 C hR u hm)
  · refine j_iload_n C dX11_mean_7 rfl 2 rfl ?_
    refine j_bind hm (fun r2 hr2 hm => ?_)
    refine j_callS (cs' := (0, 0)) (As := [.int x2]) (rest := []) C (cM_isIslet hr2) wc_X11_isIslet wm_X11_153 wt_X11_isIslet wn_X11 wd_X11_isIslet ⟨by decide, by decide⟩ rfl (Nat.le_of_ble_eq_true rfl) dX11_mean_8 ⟨by decide, by decide⟩ rfl rfl ?_
    refine j_if_neq (tgt := 17) C dX11_mean_11 (by decide) hm (fun hm => ?_) (fun hm => ?_)
    · refine j_iload_n C dX11_mean_17 rfl 3 rfl ?_
      refine j_i2l C dX11_mean_18 ?_
      refine j_lconst (v := 1) C dX11_mean_19 (by decide) ?_
      refine j_ldc2 C dX11_mean_20 wk_X11_187 ?_
      refine j_bind hm (fun r3 hr3 hm => ?_)
      refine j_callS (cs' := (0, 0)) (As := [.long (Int32.toInt64 x3), .long 1, .long 60]) (rest := []) C (cM_in hr3) wc_X11_in wm_X11_69 wt_X11_in wn_X11 wd_X11_in ⟨by decide, by decide⟩ rfl (Nat.le_of_ble_eq_true rfl) dX11_mean_23 ⟨by decide, by decide⟩ rfl rfl ?_
      refine j_if_eqq (tgt := 50) C dX11_mean_26 (by decide) hm (fun hm => ?_) (fun hm => ?_)
      · exact J.sub [] rfl (kM_mean_50 C hR u hm)
      · refine j_iload C dX11_mean_29 4 rfl ?_
        refine j_iload C dX11_mean_31 5 rfl ?_
        refine j_bind hm (fun r4 hr4 hm => ?_)
        refine j_callS (cs' := (0, 0)) (As := [.int x4, .int x5]) (rest := []) C (cM_isCarrier hr4) wc_X11_isCarrier wm_X11_159 wt_X11_isCarrier wn_X11 wd_X11_isCarrier ⟨by decide, by decide⟩ rfl (Nat.le_of_ble_eq_true rfl) dX11_mean_33 ⟨by decide, by decide⟩ rfl rfl ?_
        refine j_if_eqq (tgt := 50) C dX11_mean_36 (by decide) hm (fun hm => ?_) (fun hm => ?_)
        · exact J.sub [] rfl (kM_mean_50 C hR u hm)
        · refine j_iload C dX11_mean_39 6 rfl ?_
          refine j_i2l C dX11_mean_41 ?_
          refine j_lconst (v := 0) C dX11_mean_42 (by decide) ?_
          refine j_lconst (v := 1) C dX11_mean_43 (by decide) ?_
          refine j_bind hm (fun r5 hr5 hm => ?_)
          refine j_callS (cs' := (0, 0)) (As := [.long (Int32.toInt64 x6), .long 0, .long 1]) (rest := []) C (cM_in hr5) wc_X11_in wm_X11_69 wt_X11_in wn_X11 wd_X11_in ⟨by decide, by decide⟩ rfl (Nat.le_of_ble_eq_true rfl) dX11_mean_44 ⟨by decide, by decide⟩ rfl rfl ?_
          refine j_if_neq (tgt := 53) C dX11_mean_47 (by decide) hm (fun hm => ?_) (fun hm => ?_)
          · refine j_aload_n C dX11_mean_53 rfl 0 rfl ?_
            refine j_iload_n C dX11_mean_54 rfl 1 rfl ?_
            refine j_iload_n C dX11_mean_55 rfl 2 rfl ?_
            refine j_iload_n C dX11_mean_56 rfl 3 rfl ?_
            refine j_iload C dX11_mean_57 4 rfl ?_
            refine j_iload C dX11_mean_59 5 rfl ?_
            refine j_bind hm (fun r6 hr6 hm => ?_)
            refine j_callV (cs' := (0, 0)) (As := [.int x1, .int x2, .int x3, .int x4, .int x5]) (rest := []) C (cM_layWaits hr6) wc_X11_layWaits wm_X11_189 wi_X11_layWaits ws_X11_layWaits wn_X11 wd_X11_layWaits ⟨by decide, by decide⟩ 0 rfl rfl rfl (Nat.le_of_ble_eq_true rfl) dX11_mean_61 ⟨by decide, by decide⟩ rfl rfl ?_
            refine j_aload_n C dX11_mean_64 rfl 0 rfl ?_
            refine jM_g12 C dX11_mean_65 ?_
            refine j_nmi hm (fun f7 hm => ?_)
            refine j_iconst (v := (-1)) C dX11_mean_68 (by decide) ?_
            refine j_icmp_neq (tgt := 74) C dX11_mean_69 (by decide) hm (fun hm => ?_) (fun hm => ?_)
            · refine j_aload_n C dX11_mean_74 rfl 0 rfl ?_
              refine jM_g11 C dX11_mean_75 ?_
              refine j_nmi hm (fun f8 hm => ?_)
              refine j_i2l C dX11_mean_78 ?_
              refine j_iload_n C dX11_mean_79 rfl 3 rfl ?_
              refine j_i2l C dX11_mean_80 ?_
              refine j_bind hm (fun r9 hr9 hm => ?_)
              refine j_callS (cs' := (0, 0)) (As := [.long (Int32.toInt64 f8), .long (Int32.toInt64 x3)]) (rest := []) C (cM_common hr9) wc_X11_common wm_X11_167 wt_X11_common wn_X11 wd_X11_common ⟨by decide, by decide⟩ rfl (Nat.le_of_ble_eq_true rfl) dX11_mean_81 ⟨by decide, by decide⟩ rfl rfl ?_
              refine j_l2i C dX11_mean_84 ?_
              refine j_nmi hm (fun v10 hm => ?_)
              refine j_istore C dX11_mean_85 (by decide) rfl ?_
              refine j_iload C dX11_mean_87 7 rfl ?_
              refine j_if_neq (tgt := 102) C dX11_mean_89 (by decide) hm (fun hm => ?_) (fun hm => ?_)
              · refine j_iload_n C dX11_mean_102 rfl 4 rfl ?_
                refine j_iload C dX11_mean_103 0 rfl ?_
                obtain ⟨g, hm⟩ := gd_some hm
                refine j_idiv C dX11_mean_105 g ?_
                exact J.sub [] rfl (kM_mean_106 C hR r6 (x3 / v10) hm)
              · refine j_aload_n C dX11_mean_92 rfl 1 rfl ?_
                refine jM_g11 C dX11_mean_93 ?_
                refine j_nmi hm (fun f11 hm => ?_)
                refine j_iload C dX11_mean_96 0 rfl ?_
                obtain ⟨g, hm⟩ := gd_some hm
                refine j_idiv C dX11_mean_98 g ?_
                refine j_goto (tgt := 106) C dX11_mean_99 (by decide) ?_
                exact J.sub [] rfl (kM_mean_106 C hR r6 (f11 / v10) hm)
            · refine j_iconst (v := (-1)) C dX11_mean_72 (by decide) ?_
              cases hm
              exact j_iret C hR dX11_mean_73
          · exact J.sub [] rfl (kM_mean_50 C hR u hm)
    · exact J.sub [] rfl (kM_mean_14 C hR u hm)
def rmM_set : Room := { frames := 9, cells := 0, slots := 0, locals := 222 }
theorem wd_X11_set : yX11_set.cls ≠ "java/lang/invoke/MethodHandle" ∧ yX11_set.cls ≠ "java/lang/invoke/VarHandle" ∧ (parseMethodDescriptor yX11_set.desc).map (fun d => d.parameters.length) = some 3 := by decide +kernel
def mM_set_22 (N : Nat) (u : MSt) : Option (Int32 × MSt) := some ((-101), u)
set_option maxRecDepth 100000 in
set_option maxHeartbeats 4000000 in
theorem kM_set_22 {l : Launch} {D : va_G} {cI : ClassId} {o : Nat} {q : Nat → Nat} {G : Gx} {N : Nat} {rr : (Int32 × MSt)} (C : jC l rmM_set D [(cI, .int)] G cX11_set 9 RX11) (hR : jR D [(cI, .int)] G (0, 0) (some .int) (some (.int rr.1)) (wM cI o q rr.2))  (u : MSt)  (hm : mM_set_22 N u = some rr) : J l rmM_set D G (0, 0) (wM cI o q u) [] [] 22 := by
  unfold mM_set_22 at hm
  refine j_bipush (v := (-101)) C dX11_set_22 (by decide) ?_
  cases hm
  exact j_iret C hR dX11_set_24
def mM_set_146 (N : Nat) (k65 : MSt → Int32 → Int32 → Int32 → Int32 → Int32 → Int32 → Int32 → Option (Int32 × MSt)) (u : MSt) (x1 : Int32) (x2 : Int32) (x3 : Int32) (x4 : Int32) (x5 : Int32) (x7 : Int32) (s0 : Int32) : Option (Int32 × MSt) := k65 u x1 x2 x3 x4 x5 s0 (x7 + 1)
set_option maxRecDepth 100000 in
set_option maxHeartbeats 4000000 in
theorem kM_set_146 {l : Launch} {D : va_G} {cI : ClassId} {o : Nat} {q : Nat → Nat} {G : Gx} {N : Nat} {rr : (Int32 × MSt)} (C : jC l rmM_set D [(cI, .int)] G cX11_set 9 RX11) (hR : jR D [(cI, .int)] G (0, 0) (some .int) (some (.int rr.1)) (wM cI o q rr.2)) (k65 : MSt → Int32 → Int32 → Int32 → Int32 → Int32 → Int32 → Int32 → Option (Int32 × MSt)) (K65 : ∀ (u : MSt) (x1 : Int32) (x2 : Int32) (x3 : Int32) (x4 : Int32) (x5 : Int32) (x6 : Int32) (x7 : Int32), k65 u x1 x2 x3 x4 x5 x6 x7 = some rr → J l rmM_set D G (0, 0) (wM cI o q u) [(0, .ref o), (1, .int x1), (2, .int x2), (3, .int x3), (4, .int x4), (5, .int x5), (6, .int x6), (7, .int x7)] [] 65) (u : MSt) (x1 : Int32) (x2 : Int32) (x3 : Int32) (x4 : Int32) (x5 : Int32) (x7 : Int32) (s0 : Int32) (hm : mM_set_146 N k65 u x1 x2 x3 x4 x5 x7 s0 = some rr) : J l rmM_set D G (0, 0) (wM cI o q u) [(0, .ref o), (1, .int x1), (2, .int x2), (3, .int x3), (4, .int x4), (5, .int x5), (7, .int x7)] [.int s0] 146 := by
  unfold mM_set_146 at hm
  refine j_istore C dX11_set_146 (by decide) rfl ?_
  refine j_iinc (v := (x7 + 1)) C dX11_set_148 7 rfl rfl (by decide) rfl ?_
  refine j_goto (tgt := 65) C dX11_set_151 (by decide) ?_
  exact J.sub [2, 3, 4, 5, 6, 7, 1, 0] rfl (K65 u x1 x2 x3 x4 x5 s0 (x7 + 1) hm)
def mM_set_130 (N : Nat) (k65 : MSt → Int32 → Int32 → Int32 → Int32 → Int32 → Int32 → Int32 → Option (Int32 × MSt)) (u : MSt) (x1 : Int32) (x2 : Int32) (x3 : Int32) (x4 : Int32) (x6 : Int32) (x7 : Int32) (x8 : Int32) (s0 : Int32) : Option (Int32 × MSt) := if x6 ≤ x8 then (mM_set_146 N k65 u x1 x2 x3 x4 s0 x7 x6) else (mM_set_146 N k65 u x1 x2 x3 x4 s0 x7 x8)
set_option maxRecDepth 100000 in
set_option maxHeartbeats 4000000 in
theorem kM_set_130 {l : Launch} {D : va_G} {cI : ClassId} {o : Nat} {q : Nat → Nat} {G : Gx} {N : Nat} {rr : (Int32 × MSt)} (C : jC l rmM_set D [(cI, .int)] G cX11_set 9 RX11) (hR : jR D [(cI, .int)] G (0, 0) (some .int) (some (.int rr.1)) (wM cI o q rr.2)) (k65 : MSt → Int32 → Int32 → Int32 → Int32 → Int32 → Int32 → Int32 → Option (Int32 × MSt)) (K65 : ∀ (u : MSt) (x1 : Int32) (x2 : Int32) (x3 : Int32) (x4 : Int32) (x5 : Int32) (x6 : Int32) (x7 : Int32), k65 u x1 x2 x3 x4 x5 x6 x7 = some rr → J l rmM_set D G (0, 0) (wM cI o q u) [(0, .ref o), (1, .int x1), (2, .int x2), (3, .int x3), (4, .int x4), (5, .int x5), (6, .int x6), (7, .int x7)] [] 65) (u : MSt) (x1 : Int32) (x2 : Int32) (x3 : Int32) (x4 : Int32) (x6 : Int32) (x7 : Int32) (x8 : Int32) (s0 : Int32) (hm : mM_set_130 N k65 u x1 x2 x3 x4 x6 x7 x8 s0 = some rr) : J l rmM_set D G (0, 0) (wM cI o q u) [(0, .ref o), (1, .int x1), (2, .int x2), (3, .int x3), (4, .int x4), (6, .int x6), (7, .int x7), (8, .int x8)] [.int s0] 130 := by
  unfold mM_set_130 at hm
  refine j_istore C dX11_set_130 (by decide) rfl ?_
  refine j_iload C dX11_set_132 8 rfl ?_
  refine j_iload C dX11_set_134 6 rfl ?_
  refine j_icmp_geq (tgt := 144) C dX11_set_136 (by decide) hm (fun hm => ?_) (fun hm => ?_)
  · refine j_iload C dX11_set_144 6 rfl ?_
    exact J.sub [1, 2, 3, 4, 5, 0, 7] rfl (kM_set_146 C hR k65 K65 u x1 x2 x3 x4 s0 x7 x6 hm)
  · refine j_iload C dX11_set_139 8 rfl ?_
    refine j_goto (tgt := 146) C dX11_set_141 (by decide) ?_
    exact J.sub [1, 2, 3, 4, 5, 0, 7] rfl (kM_set_146 C hR k65 K65 u x1 x2 x3 x4 s0 x7 x8 hm)
def mM_set_114 (N : Nat) (k65 : MSt → Int32 → Int32 → Int32 → Int32 → Int32 → Int32 → Int32 → Option (Int32 × MSt)) (u : MSt) (x1 : Int32) (x2 : Int32) (x3 : Int32) (x4 : Int32) (x5 : Int32) (x6 : Int32) (x7 : Int32) (s0 : Int32) : Option (Int32 × MSt) := if x6 ≤ s0 then (mM_set_130 N k65 u x1 x2 x3 x4 x6 x7 s0 x5) else (mM_set_130 N k65 u x1 x2 x3 x4 x6 x7 s0 x7)
set_option maxRecDepth 100000 in
set_option maxHeartbeats 4000000 in
theorem kM_set_114 {l : Launch} {D : va_G} {cI : ClassId} {o : Nat} {q : Nat → Nat} {G : Gx} {N : Nat} {rr : (Int32 × MSt)} (C : jC l rmM_set D [(cI, .int)] G cX11_set 9 RX11) (hR : jR D [(cI, .int)] G (0, 0) (some .int) (some (.int rr.1)) (wM cI o q rr.2)) (k65 : MSt → Int32 → Int32 → Int32 → Int32 → Int32 → Int32 → Int32 → Option (Int32 × MSt)) (K65 : ∀ (u : MSt) (x1 : Int32) (x2 : Int32) (x3 : Int32) (x4 : Int32) (x5 : Int32) (x6 : Int32) (x7 : Int32), k65 u x1 x2 x3 x4 x5 x6 x7 = some rr → J l rmM_set D G (0, 0) (wM cI o q u) [(0, .ref o), (1, .int x1), (2, .int x2), (3, .int x3), (4, .int x4), (5, .int x5), (6, .int x6), (7, .int x7)] [] 65) (u : MSt) (x1 : Int32) (x2 : Int32) (x3 : Int32) (x4 : Int32) (x5 : Int32) (x6 : Int32) (x7 : Int32) (s0 : Int32) (hm : mM_set_114 N k65 u x1 x2 x3 x4 x5 x6 x7 s0 = some rr) : J l rmM_set D G (0, 0) (wM cI o q u) [(0, .ref o), (1, .int x1), (2, .int x2), (3, .int x3), (4, .int x4), (5, .int x5), (6, .int x6), (7, .int x7)] [.int s0] 114 := by
  unfold mM_set_114 at hm
  refine j_istore C dX11_set_114 (by decide) rfl ?_
  refine j_iload C dX11_set_116 0 rfl ?_
  refine j_iload C dX11_set_118 7 rfl ?_
  refine j_icmp_geq (tgt := 128) C dX11_set_120 (by decide) hm (fun hm => ?_) (fun hm => ?_)
  · refine j_iload C dX11_set_128 6 rfl ?_
    exact J.sub [1, 2, 3, 4, 5, 7, 8, 0] rfl (kM_set_130 C hR k65 K65 u x1 x2 x3 x4 x6 x7 s0 x5 hm)
  · refine j_iload C dX11_set_123 8 rfl ?_
    refine j_goto (tgt := 130) C dX11_set_125 (by decide) ?_
    exact J.sub [1, 2, 3, 4, 5, 7, 8, 0] rfl (kM_set_130 C hR k65 K65 u x1 x2 x3 x4 x6 x7 s0 x7 hm)
def mM_set_65 (N : Nat) (k65 : MSt → Int32 → Int32 → Int32 → Int32 → Int32 → Int32 → Int32 → Option (Int32 × MSt)) (u : MSt) (x1 : Int32) (x2 : Int32) (x3 : Int32) (x4 : Int32) (x5 : Int32) (x6 : Int32) (x7 : Int32) : Option (Int32 × MSt) := if 10 ≤ x7 then (wr 100 ((10 * x1) + 8) (fun i1 => nm (saM u 5 i1 x4) (fun u2 => some (x5, u2)))) else (wr 100 ((10 * x1) + 8) (fun i3 => nm (saM u 5 i3 x7) (fun u4 => (mM_layWaits N u4 x2 x3 60 1 1).bind (fun r5 => nm (r5.1 12) (fun f6 => if ¬ f6 = (-1) then (nm (r5.1 12) (fun f7 => mM_set_114 N k65 r5 x1 x2 x3 x4 x5 x6 x7 f7)) else (mM_set_114 N k65 r5 x1 x2 x3 x4 x5 x6 x7 1000))))))
set_option maxRecDepth 100000 in
set_option maxHeartbeats 4000000 in
theorem kM_set_65 {l : Launch} {D : va_G} {cI : ClassId} {o : Nat} {q : Nat → Nat} {G : Gx} {N : Nat} {rr : (Int32 × MSt)} (C : jC l rmM_set D [(cI, .int)] G cX11_set 9 RX11) (hR : jR D [(cI, .int)] G (0, 0) (some .int) (some (.int rr.1)) (wM cI o q rr.2)) (k65 : MSt → Int32 → Int32 → Int32 → Int32 → Int32 → Int32 → Int32 → Option (Int32 × MSt)) (K65 : ∀ (u : MSt) (x1 : Int32) (x2 : Int32) (x3 : Int32) (x4 : Int32) (x5 : Int32) (x6 : Int32) (x7 : Int32), k65 u x1 x2 x3 x4 x5 x6 x7 = some rr → J l rmM_set D G (0, 0) (wM cI o q u) [(0, .ref o), (1, .int x1), (2, .int x2), (3, .int x3), (4, .int x4), (5, .int x5), (6, .int x6), (7, .int x7)] [] 65) (u : MSt) (x1 : Int32) (x2 : Int32) (x3 : Int32) (x4 : Int32) (x5 : Int32) (x6 : Int32) (x7 : Int32) (hm : mM_set_65 N k65 u x1 x2 x3 x4 x5 x6 x7 = some rr) : J l rmM_set D G (0, 0) (wM cI o q u) [(0, .ref o), (1, .int x1), (2, .int x2), (3, .int x3), (4, .int x4), (5, .int x5), (6, .int x6), (7, .int x7)] [] 65 := by
  unfold mM_set_65 at hm
  refine j_iload C dX11_set_65 7 rfl ?_
  refine j_bipush (v := 10) C dX11_set_67 (by decide) ?_
  refine j_icmp_geq (tgt := 154) C dX11_set_69 (by decide) hm (fun hm => ?_) (fun hm => ?_)
  · refine j_aload_n C dX11_set_154 rfl 0 rfl ?_
    refine jM_g5 C dX11_set_155 ?_
    refine j_bipush (v := 10) C dX11_set_158 (by decide) ?_
    refine j_iload_n C dX11_set_160 rfl 1 rfl ?_
    refine j_imul C dX11_set_161 ?_
    refine j_bipush (v := 8) C dX11_set_162 (by decide) ?_
    refine j_iadd C dX11_set_164 ?_
    refine j_iload C dX11_set_165 4 rfl ?_
    refine jM_S5 C dX11_set_167 hm (fun u2 hm => ?_)
    refine j_iload C dX11_set_168 5 rfl ?_
    cases hm
    exact j_iret C hR dX11_set_170
  · refine j_aload_n C dX11_set_72 rfl 0 rfl ?_
    refine jM_g5 C dX11_set_73 ?_
    refine j_bipush (v := 10) C dX11_set_76 (by decide) ?_
    refine j_iload_n C dX11_set_78 rfl 1 rfl ?_
    refine j_imul C dX11_set_79 ?_
    refine j_bipush (v := 8) C dX11_set_80 (by decide) ?_
    refine j_iadd C dX11_set_82 ?_
    refine j_iload C dX11_set_83 7 rfl ?_
    refine jM_S5 C dX11_set_85 hm (fun u4 hm => ?_)
    refine j_aload_n C dX11_set_86 rfl 0 rfl ?_
    refine j_iload_n C dX11_set_87 rfl 2 rfl ?_
    refine j_iload_n C dX11_set_88 rfl 3 rfl ?_
    refine j_bipush (v := 60) C dX11_set_89 (by decide) ?_
    refine j_iconst (v := 1) C dX11_set_91 (by decide) ?_
    refine j_iconst (v := 1) C dX11_set_92 (by decide) ?_
    refine j_bind hm (fun r5 hr5 hm => ?_)
    refine j_callV (cs' := (0, 0)) (As := [.int x2, .int x3, .int 60, .int 1, .int 1]) (rest := []) C (cM_layWaits hr5) wc_X11_layWaits wm_X11_189 wi_X11_layWaits ws_X11_layWaits wn_X11 wd_X11_layWaits ⟨by decide, by decide⟩ 0 rfl rfl rfl (Nat.le_of_ble_eq_true rfl) dX11_set_93 ⟨by decide, by decide⟩ rfl rfl ?_
    refine j_aload_n C dX11_set_96 rfl 0 rfl ?_
    refine jM_g12 C dX11_set_97 ?_
    refine j_nmi hm (fun f6 hm => ?_)
    refine j_iconst (v := (-1)) C dX11_set_100 (by decide) ?_
    refine j_icmp_neq (tgt := 110) C dX11_set_101 (by decide) hm (fun hm => ?_) (fun hm => ?_)
    · refine j_aload_n C dX11_set_110 rfl 0 rfl ?_
      refine jM_g12 C dX11_set_111 ?_
      refine j_nmi hm (fun f7 hm => ?_)
      exact kM_set_114 C hR k65 K65 r5 x1 x2 x3 x4 x5 x6 x7 f7 hm
    · refine j_sipush (v := 1000) C dX11_set_104 (by decide) ?_
      refine j_goto (tgt := 114) C dX11_set_107 (by decide) ?_
      exact kM_set_114 C hR k65 K65 r5 x1 x2 x3 x4 x5 x6 x7 1000 hm
def mM_set_h65 (N : Nat) : Nat → MSt → Int32 → Int32 → Int32 → Int32 → Int32 → Int32 → Int32 → Option (Int32 × MSt)
  | 0, _, _, _, _, _, _, _, _ => none
  | n + 1, u, x1, x2, x3, x4, x5, x6, x7 => mM_set_65 N (mM_set_h65 N n) u x1 x2 x3 x4 x5 x6 x7
theorem kM_set_h65 {l : Launch} {D : va_G} {cI : ClassId} {o : Nat} {q : Nat → Nat} {G : Gx} {N : Nat} {rr : (Int32 × MSt)} (C : jC l rmM_set D [(cI, .int)] G cX11_set 9 RX11) (hR : jR D [(cI, .int)] G (0, 0) (some .int) (some (.int rr.1)) (wM cI o q rr.2))  : ∀ (n : Nat) (u : MSt) (x1 : Int32) (x2 : Int32) (x3 : Int32) (x4 : Int32) (x5 : Int32) (x6 : Int32) (x7 : Int32), mM_set_h65 N n u x1 x2 x3 x4 x5 x6 x7 = some rr → J l rmM_set D G (0, 0) (wM cI o q u) [(0, .ref o), (1, .int x1), (2, .int x2), (3, .int x3), (4, .int x4), (5, .int x5), (6, .int x6), (7, .int x7)] [] 65 := by
  intro n
  induction n with
  | zero =>
    intro u x1 x2 x3 x4 x5 x6 x7 hm
    have hm : (none : Option (Int32 × MSt)) = some rr := hm
    cases hm
  | succ n ih =>
    intro u x1 x2 x3 x4 x5 x6 x7 hm
    exact kM_set_65 C hR _ ih u x1 x2 x3 x4 x5 x6 x7 hm
def mM_set (N : Nat) (u : MSt) (x1 : Int32) (x2 : Int32) (x3 : Int32) : Option (Int32 × MSt) := (mM_isBridge N u x1).bind (fun r1 => if r1 = 0 then (mM_set_22 N u) else ((mM_isIslet N x2).bind (fun r2 => if r2 = 0 then (mM_set_22 N u) else ((mM_isIslet N x3).bind (fun r3 => if ¬ r3 = 0 then (rd (u.2.1 5) 100 (10 * x1) (fun a4 => if ¬ a4 = 3 then (rd (u.2.1 5) 100 ((10 * x1) + 8) (fun a5 => mM_set_h65 N N u x1 x2 x3 a5 (-1) 100000 0)) else (some ((-103), u)))) else (mM_set_22 N u))))))
set_option maxRecDepth 100000 in
set_option maxHeartbeats 4000000 in
theorem cM_set {l : Launch} {D : va_G} {cI : ClassId} {o : Nat} {q : Nat → Nat} {u : MSt} {N : Nat} {x1 : Int32} {x2 : Int32} {x3 : Int32} {rr : (Int32 × MSt)} (hm : mM_set N u x1 x2 x3 = some rr) : Con l D [(cI, .int)] yX11_set (wS yX11_set cX11_set 9 (some .int)) rmM_set [.ref o, .int x1, .int x2, .int x3] (wM cI o q u) (some (.int rr.1)) (wM cI o q rr.2) := by
  refine Con.of (by decide +kernel) (Nat.le_of_ble_eq_true rfl) (fun G C hR => ?_)
  unfold mM_set at hm
  show J l rmM_set D G (0, 0) (wM cI o q u) [(0, .ref o), (1, .int x1), (2, .int x2), (3, .int x3)] [] 0
  refine j_aload_n C dX11_set_0 rfl 0 rfl ?_
  refine j_iload_n C dX11_set_1 rfl 1 rfl ?_
  refine j_bind hm (fun r1 hr1 hm => ?_)
  refine j_callV (cs' := (0, 0)) (As := [.int x1]) (rest := []) C (cM_isBridge hr1) wc_X11_isBridge wm_X11_107 wi_X11_isBridge ws_X11_isBridge wn_X11 wd_X11_isBridge ⟨by decide, by decide⟩ 0 rfl rfl rfl (Nat.le_of_ble_eq_true rfl) dX11_set_2 ⟨by decide, by decide⟩ rfl rfl ?_
  refine j_if_eqq (tgt := 22) C dX11_set_5 (by decide) hm (fun hm => ?_) (fun hm => ?_)
  · exact J.sub [] rfl (kM_set_22 C hR u hm)
  · refine j_iload_n C dX11_set_8 rfl 2 rfl ?_
    refine j_bind hm (fun r2 hr2 hm => ?_)
    refine j_callS (cs' := (0, 0)) (As := [.int x2]) (rest := []) C (cM_isIslet hr2) wc_X11_isIslet wm_X11_153 wt_X11_isIslet wn_X11 wd_X11_isIslet ⟨by decide, by decide⟩ rfl (Nat.le_of_ble_eq_true rfl) dX11_set_9 ⟨by decide, by decide⟩ rfl rfl ?_
    refine j_if_eqq (tgt := 22) C dX11_set_12 (by decide) hm (fun hm => ?_) (fun hm => ?_)
    · exact J.sub [] rfl (kM_set_22 C hR u hm)
    · refine j_iload_n C dX11_set_15 rfl 3 rfl ?_
      refine j_bind hm (fun r3 hr3 hm => ?_)
      refine j_callS (cs' := (0, 0)) (As := [.int x3]) (rest := []) C (cM_isIslet hr3) wc_X11_isIslet wm_X11_153 wt_X11_isIslet wn_X11 wd_X11_isIslet ⟨by decide, by decide⟩ rfl (Nat.le_of_ble_eq_true rfl) dX11_set_16 ⟨by decide, by decide⟩ rfl rfl ?_
      refine j_if_neq (tgt := 25) C dX11_set_19 (by decide) hm (fun hm => ?_) (fun hm => ?_)
      · refine j_aload_n C dX11_set_25 rfl 0 rfl ?_
        refine jM_g5 C dX11_set_26 ?_
        refine j_bipush (v := 10) C dX11_set_29 (by decide) ?_
        refine j_iload_n C dX11_set_31 rfl 1 rfl ?_
        refine j_imul C dX11_set_32 ?_
        refine jM_L5 C dX11_set_33 hm (fun a4 hm => ?_)
        refine j_iconst (v := 3) C dX11_set_34 (by decide) ?_
        refine j_icmp_neq (tgt := 41) C dX11_set_35 (by decide) hm (fun hm => ?_) (fun hm => ?_)
        · refine j_aload_n C dX11_set_41 rfl 0 rfl ?_
          refine jM_g5 C dX11_set_42 ?_
          refine j_bipush (v := 10) C dX11_set_45 (by decide) ?_
          refine j_iload_n C dX11_set_47 rfl 1 rfl ?_
          refine j_imul C dX11_set_48 ?_
          refine j_bipush (v := 8) C dX11_set_49 (by decide) ?_
          refine j_iadd C dX11_set_51 ?_
          refine jM_L5 C dX11_set_52 hm (fun a5 hm => ?_)
          refine j_istore C dX11_set_53 (by decide) rfl ?_
          refine j_iconst (v := (-1)) C dX11_set_55 (by decide) ?_
          refine j_istore C dX11_set_56 (by decide) rfl ?_
          refine j_ldc C dX11_set_58 wk_X11_142 ?_
          refine j_istore C dX11_set_60 (by decide) rfl ?_
          refine j_iconst (v := 0) C dX11_set_62 (by decide) ?_
          refine j_istore C dX11_set_63 (by decide) rfl ?_
          exact J.sub [4, 5, 6, 7, 3, 2, 1, 0] rfl (kM_set_h65 C hR N u x1 x2 x3 a5 (-1) 100000 0 hm)
        · refine j_bipush (v := (-103)) C dX11_set_38 (by decide) ?_
          cases hm
          exact j_iret C hR dX11_set_40
      · exact J.sub [] rfl (kM_set_22 C hR u hm)
def rmM_comeTo : Room := { frames := 0, cells := 0, slots := 0, locals := 0 }
theorem wd_X11_comeTo : yX11_comeTo.cls ≠ "java/lang/invoke/MethodHandle" ∧ yX11_comeTo.cls ≠ "java/lang/invoke/VarHandle" ∧ (parseMethodDescriptor yX11_comeTo.desc).map (fun d => d.parameters.length) = some 3 := by decide +kernel
def mM_comeTo_44 (N : Nat) (u : MSt) : Option MSt := some u
set_option maxRecDepth 100000 in
set_option maxHeartbeats 4000000 in
theorem kM_comeTo_44 {l : Launch} {D : va_G} {cI : ClassId} {o : Nat} {q : Nat → Nat} {G : Gx} {N : Nat} {rr : MSt} (C : jC l rmM_comeTo D [(cI, .int)] G cX11_comeTo 4 RX11) (hR : jR D [(cI, .int)] G (0, 0) none none (wM cI o q rr))  (u : MSt)  (hm : mM_comeTo_44 N u = some rr) : J l rmM_comeTo D G (0, 0) (wM cI o q u) [] [] 44 := by
  unfold mM_comeTo_44 at hm
  cases hm
  exact j_vret C hR dX11_comeTo_44
def mM_comeTo (N : Nat) (u : MSt) (x1 : Int32) (x2 : Int32) (x3 : Int32) : Option MSt := rd (u.2.1 16) 488 x1 (fun a1 => if ¬ a1 = (-1) then (mM_comeTo_44 N u) else (wr 488 x1 (fun i2 => nm (saM u 16 i2 x2) (fun u3 => wr 488 x1 (fun i4 => nm (saM u3 17 i4 x3) (fun u5 => nm (u5.1 19) (fun f6 => wr 488 f6 (fun i7 => nm (saM u5 18 i7 x1) (fun u8 => nm (u8.1 19) (fun f9 => nm (siM u8 19 (f9 + 1)) (fun u10 => mM_comeTo_44 N u10)))))))))))
set_option maxRecDepth 100000 in
set_option maxHeartbeats 4000000 in
theorem cM_comeTo {l : Launch} {D : va_G} {cI : ClassId} {o : Nat} {q : Nat → Nat} {u : MSt} {N : Nat} {x1 : Int32} {x2 : Int32} {x3 : Int32} {rr : MSt} (hm : mM_comeTo N u x1 x2 x3 = some rr) : Con l D [(cI, .int)] yX11_comeTo (wS yX11_comeTo cX11_comeTo 4 none) rmM_comeTo [.ref o, .int x1, .int x2, .int x3] (wM cI o q u) none (wM cI o q rr) := by
  refine Con.of (by decide +kernel) (Nat.le_of_ble_eq_true rfl) (fun G C hR => ?_)
  unfold mM_comeTo at hm
  show J l rmM_comeTo D G (0, 0) (wM cI o q u) [(0, .ref o), (1, .int x1), (2, .int x2), (3, .int x3)] [] 0
  refine j_aload_n C dX11_comeTo_0 rfl 0 rfl ?_
  refine jM_g16 C dX11_comeTo_1 ?_
  refine j_iload_n C dX11_comeTo_4 rfl 1 rfl ?_
  refine jM_L16 C dX11_comeTo_5 hm (fun a1 hm => ?_)
  refine j_iconst (v := (-1)) C dX11_comeTo_6 (by decide) ?_
  refine j_icmp_neq (tgt := 44) C dX11_comeTo_7 (by decide) hm (fun hm => ?_) (fun hm => ?_)
  · exact J.sub [] rfl (kM_comeTo_44 C hR u hm)
  · refine j_aload_n C dX11_comeTo_10 rfl 0 rfl ?_
    refine jM_g16 C dX11_comeTo_11 ?_
    refine j_iload_n C dX11_comeTo_14 rfl 1 rfl ?_
    refine j_iload_n C dX11_comeTo_15 rfl 2 rfl ?_
    refine jM_S16 C dX11_comeTo_16 hm (fun u3 hm => ?_)
    refine j_aload_n C dX11_comeTo_17 rfl 0 rfl ?_
    refine jM_g17 C dX11_comeTo_18 ?_
    refine j_iload_n C dX11_comeTo_21 rfl 1 rfl ?_
    refine j_iload_n C dX11_comeTo_22 rfl 3 rfl ?_
    refine jM_S17 C dX11_comeTo_23 hm (fun u5 hm => ?_)
    refine j_aload_n C dX11_comeTo_24 rfl 0 rfl ?_
    refine jM_g18 C dX11_comeTo_25 ?_
    refine j_aload_n C dX11_comeTo_28 rfl 0 rfl ?_
    refine jM_g19 C dX11_comeTo_29 ?_
    refine j_nmi hm (fun f6 hm => ?_)
    refine j_iload_n C dX11_comeTo_32 rfl 1 rfl ?_
    refine jM_S18 C dX11_comeTo_33 hm (fun u8 hm => ?_)
    refine j_aload_n C dX11_comeTo_34 rfl 0 rfl ?_
    refine j_dup C dX11_comeTo_35 rfl ?_
    refine jM_g19 C dX11_comeTo_36 ?_
    refine j_nmi hm (fun f9 hm => ?_)
    refine j_iconst (v := 1) C dX11_comeTo_39 (by decide) ?_
    refine j_iadd C dX11_comeTo_40 ?_
    refine jM_p19 C dX11_comeTo_41 ?_
    refine j_nmu hm (w := wM cI o q) (fun u10 hm => ?_)
    exact J.sub [] rfl (kM_comeTo_44 C hR u10 hm)
def rmM_lookOn : Room := { frames := 6, cells := 0, slots := 0, locals := 139 }
theorem wd_X11_lookOn : yX11_lookOn.cls ≠ "java/lang/invoke/MethodHandle" ∧ yX11_lookOn.cls ≠ "java/lang/invoke/VarHandle" ∧ (parseMethodDescriptor yX11_lookOn.desc).map (fun d => d.parameters.length) = some 5 := by decide +kernel
def mM_lookOn_348 (N : Nat) (k58 : MSt → Int32 → Int32 → Int32 → Int32 → Int32 → Int32 → Int32 → Int32 → Option MSt) (u : MSt) (x1 : Int32) (x2 : Int32) (x3 : Int32) (x4 : Int32) (x5 : Int32) (x6 : Int32) (x7 : Int32) (x8 : Int32) : Option MSt := k58 u x1 x2 x3 x4 x5 x6 x7 (x8 + 1)
set_option maxRecDepth 100000 in
set_option maxHeartbeats 4000000 in
theorem kM_lookOn_348 {l : Launch} {D : va_G} {cI : ClassId} {o : Nat} {q : Nat → Nat} {G : Gx} {N : Nat} {rr : MSt} (C : jC l rmM_lookOn D [(cI, .int)] G cX11_lookOn 11 RX11) (hR : jR D [(cI, .int)] G (0, 0) none none (wM cI o q rr)) (k58 : MSt → Int32 → Int32 → Int32 → Int32 → Int32 → Int32 → Int32 → Int32 → Option MSt) (K58 : ∀ (u : MSt) (x1 : Int32) (x2 : Int32) (x3 : Int32) (x4 : Int32) (x5 : Int32) (x6 : Int32) (x7 : Int32) (x8 : Int32), k58 u x1 x2 x3 x4 x5 x6 x7 x8 = some rr → J l rmM_lookOn D G (0, 0) (wM cI o q u) [(0, .ref o), (1, .int x1), (2, .int x2), (3, .int x3), (4, .int x4), (5, .int x5), (6, .int x6), (7, .int x7), (8, .int x8)] [] 58) (u : MSt) (x1 : Int32) (x2 : Int32) (x3 : Int32) (x4 : Int32) (x5 : Int32) (x6 : Int32) (x7 : Int32) (x8 : Int32) (hm : mM_lookOn_348 N k58 u x1 x2 x3 x4 x5 x6 x7 x8 = some rr) : J l rmM_lookOn D G (0, 0) (wM cI o q u) [(0, .ref o), (1, .int x1), (2, .int x2), (3, .int x3), (4, .int x4), (5, .int x5), (6, .int x6), (7, .int x7), (8, .int x8)] [] 348 := by
  unfold mM_lookOn_348 at hm
  refine j_iinc (v := (x8 + 1)) C dX11_lookOn_348 8 rfl rfl (by decide) rfl ?_
  refine j_goto (tgt := 58) C dX11_lookOn_351 (by decide) ?_
  exact J.sub [1, 2, 3, 4, 5, 6, 7, 8, 0] rfl (K58 u x1 x2 x3 x4 x5 x6 x7 (x8 + 1) hm)
def mM_lookOn_299 (N : Nat) (k58 : MSt → Int32 → Int32 → Int32 → Int32 → Int32 → Int32 → Int32 → Int32 → Option MSt) (u : MSt) (x1 : Int32) (x2 : Int32) (x3 : Int32) (x4 : Int32) (x5 : Int32) (x6 : Int32) (x7 : Int32) (x8 : Int32) (x9 : Int32) (x10 : Int32) : Option MSt := if ¬ x7 = x9 then (mM_lookOn_348 N k58 u x1 x2 x3 x4 x5 x6 x7 x8) else (rd (u.2.1 15) 610 ((10 * (x6 - x4)) + x8) (fun a1 => if ¬ a1 = 1 then (mM_lookOn_348 N k58 u x1 x2 x3 x4 x5 x6 x7 x8) else ((mM_comeTo N u ((8 * (x6 - x4)) + x10) x1 (400 + x8)).bind (fun r2 => mM_lookOn_348 N k58 r2 x1 x2 x3 x4 x5 x6 x7 x8))))
set_option maxRecDepth 100000 in
set_option maxHeartbeats 4000000 in
theorem kM_lookOn_299 {l : Launch} {D : va_G} {cI : ClassId} {o : Nat} {q : Nat → Nat} {G : Gx} {N : Nat} {rr : MSt} (C : jC l rmM_lookOn D [(cI, .int)] G cX11_lookOn 11 RX11) (hR : jR D [(cI, .int)] G (0, 0) none none (wM cI o q rr)) (k58 : MSt → Int32 → Int32 → Int32 → Int32 → Int32 → Int32 → Int32 → Int32 → Option MSt) (K58 : ∀ (u : MSt) (x1 : Int32) (x2 : Int32) (x3 : Int32) (x4 : Int32) (x5 : Int32) (x6 : Int32) (x7 : Int32) (x8 : Int32), k58 u x1 x2 x3 x4 x5 x6 x7 x8 = some rr → J l rmM_lookOn D G (0, 0) (wM cI o q u) [(0, .ref o), (1, .int x1), (2, .int x2), (3, .int x3), (4, .int x4), (5, .int x5), (6, .int x6), (7, .int x7), (8, .int x8)] [] 58) (u : MSt) (x1 : Int32) (x2 : Int32) (x3 : Int32) (x4 : Int32) (x5 : Int32) (x6 : Int32) (x7 : Int32) (x8 : Int32) (x9 : Int32) (x10 : Int32) (hm : mM_lookOn_299 N k58 u x1 x2 x3 x4 x5 x6 x7 x8 x9 x10 = some rr) : J l rmM_lookOn D G (0, 0) (wM cI o q u) [(0, .ref o), (1, .int x1), (2, .int x2), (3, .int x3), (4, .int x4), (5, .int x5), (6, .int x6), (7, .int x7), (8, .int x8), (9, .int x9), (10, .int x10)] [] 299 := by
  unfold mM_lookOn_299 at hm
  refine j_iload C dX11_lookOn_299 7 rfl ?_
  refine j_iload C dX11_lookOn_301 9 rfl ?_
  refine j_icmp_neq (tgt := 348) C dX11_lookOn_303 (by decide) hm (fun hm => ?_) (fun hm => ?_)
  · exact J.sub [0, 1, 2, 3, 4, 5, 6, 7, 8] rfl (kM_lookOn_348 C hR k58 K58 u x1 x2 x3 x4 x5 x6 x7 x8 hm)
  · refine j_aload_n C dX11_lookOn_306 rfl 0 rfl ?_
    refine jM_g15 C dX11_lookOn_307 ?_
    refine j_bipush (v := 10) C dX11_lookOn_310 (by decide) ?_
    refine j_iload C dX11_lookOn_312 6 rfl ?_
    refine j_iload C dX11_lookOn_314 4 rfl ?_
    refine j_isub C dX11_lookOn_316 ?_
    refine j_imul C dX11_lookOn_317 ?_
    refine j_iload C dX11_lookOn_318 8 rfl ?_
    refine j_iadd C dX11_lookOn_320 ?_
    refine jM_L15 C dX11_lookOn_321 hm (fun a1 hm => ?_)
    refine j_iconst (v := 1) C dX11_lookOn_322 (by decide) ?_
    refine j_icmp_neq (tgt := 348) C dX11_lookOn_323 (by decide) hm (fun hm => ?_) (fun hm => ?_)
    · exact J.sub [0, 1, 2, 3, 4, 5, 6, 7, 8] rfl (kM_lookOn_348 C hR k58 K58 u x1 x2 x3 x4 x5 x6 x7 x8 hm)
    · refine j_aload_n C dX11_lookOn_326 rfl 0 rfl ?_
      refine j_bipush (v := 8) C dX11_lookOn_327 (by decide) ?_
      refine j_iload C dX11_lookOn_329 6 rfl ?_
      refine j_iload C dX11_lookOn_331 4 rfl ?_
      refine j_isub C dX11_lookOn_333 ?_
      refine j_imul C dX11_lookOn_334 ?_
      refine j_iload C dX11_lookOn_335 10 rfl ?_
      refine j_iadd C dX11_lookOn_337 ?_
      refine j_iload_n C dX11_lookOn_338 rfl 1 rfl ?_
      refine j_sipush (v := 400) C dX11_lookOn_339 (by decide) ?_
      refine j_iload C dX11_lookOn_342 8 rfl ?_
      refine j_iadd C dX11_lookOn_344 ?_
      refine j_bind hm (fun r2 hr2 hm => ?_)
      refine j_callV (cs' := (0, 0)) (As := [.int ((8 * (x6 - x4)) + x10), .int x1, .int (400 + x8)]) (rest := []) C (cM_comeTo hr2) wc_X11_comeTo wm_X11_196 wi_X11_comeTo ws_X11_comeTo wn_X11 wd_X11_comeTo ⟨by decide, by decide⟩ 0 rfl rfl rfl (Nat.le_of_ble_eq_true rfl) dX11_lookOn_345 ⟨by decide, by decide⟩ rfl rfl ?_
      exact J.sub [0, 1, 2, 3, 4, 5, 6, 7, 8] rfl (kM_lookOn_348 C hR k58 K58 r2 x1 x2 x3 x4 x5 x6 x7 x8 hm)
def mM_lookOn_208 (N : Nat) (k58 : MSt → Int32 → Int32 → Int32 → Int32 → Int32 → Int32 → Int32 → Int32 → Option MSt) (u : MSt) (x1 : Int32) (x2 : Int32) (x3 : Int32) (x4 : Int32) (x5 : Int32) (x6 : Int32) (x7 : Int32) (x8 : Int32) (x9 : Int32) : Option MSt := if x6 < x4 then (mM_lookOn_348 N k58 u x1 x2 x3 x4 x5 x6 x7 x8) else ((mM_mayGo N u x8 ((x2 + x6) - x4) x4 x5).bind (fun r1 => if r1 = 0 then (mM_lookOn_348 N k58 u x1 x2 x3 x4 x5 x6 x7 x8) else ((mM_joinsNow N u x8 ((x2 + x6) - x4)).bind (fun r2 => if ¬ x7 = r2 then (mM_lookOn_299 N k58 u x1 x2 x3 x4 x5 x6 x7 x8 x9 r2) else (rd (u.2.1 14) 610 ((10 * (x6 - x4)) + x8) (fun a3 => if ¬ a3 = 1 then (mM_lookOn_299 N k58 u x1 x2 x3 x4 x5 x6 x7 x8 x9 r2) else ((mM_comeTo N u ((8 * (x6 - x4)) + x9) x1 (300 + x8)).bind (fun r4 => mM_lookOn_299 N k58 r4 x1 x2 x3 x4 x5 x6 x7 x8 x9 r2))))))))
set_option maxRecDepth 100000 in
set_option maxHeartbeats 4000000 in
theorem kM_lookOn_208 {l : Launch} {D : va_G} {cI : ClassId} {o : Nat} {q : Nat → Nat} {G : Gx} {N : Nat} {rr : MSt} (C : jC l rmM_lookOn D [(cI, .int)] G cX11_lookOn 11 RX11) (hR : jR D [(cI, .int)] G (0, 0) none none (wM cI o q rr)) (k58 : MSt → Int32 → Int32 → Int32 → Int32 → Int32 → Int32 → Int32 → Int32 → Option MSt) (K58 : ∀ (u : MSt) (x1 : Int32) (x2 : Int32) (x3 : Int32) (x4 : Int32) (x5 : Int32) (x6 : Int32) (x7 : Int32) (x8 : Int32), k58 u x1 x2 x3 x4 x5 x6 x7 x8 = some rr → J l rmM_lookOn D G (0, 0) (wM cI o q u) [(0, .ref o), (1, .int x1), (2, .int x2), (3, .int x3), (4, .int x4), (5, .int x5), (6, .int x6), (7, .int x7), (8, .int x8)] [] 58) (u : MSt) (x1 : Int32) (x2 : Int32) (x3 : Int32) (x4 : Int32) (x5 : Int32) (x6 : Int32) (x7 : Int32) (x8 : Int32) (x9 : Int32) (hm : mM_lookOn_208 N k58 u x1 x2 x3 x4 x5 x6 x7 x8 x9 = some rr) : J l rmM_lookOn D G (0, 0) (wM cI o q u) [(0, .ref o), (1, .int x1), (2, .int x2), (3, .int x3), (4, .int x4), (5, .int x5), (6, .int x6), (7, .int x7), (8, .int x8), (9, .int x9)] [] 208 := by
  unfold mM_lookOn_208 at hm
  refine j_iload C dX11_lookOn_208 6 rfl ?_
  refine j_iload C dX11_lookOn_210 4 rfl ?_
  refine j_icmp_ltq (tgt := 348) C dX11_lookOn_212 (by decide) hm (fun hm => ?_) (fun hm => ?_)
  · exact J.sub [0, 1, 2, 3, 4, 5, 6, 7, 8] rfl (kM_lookOn_348 C hR k58 K58 u x1 x2 x3 x4 x5 x6 x7 x8 hm)
  · refine j_aload_n C dX11_lookOn_215 rfl 0 rfl ?_
    refine j_iload C dX11_lookOn_216 8 rfl ?_
    refine j_iload_n C dX11_lookOn_218 rfl 2 rfl ?_
    refine j_iload C dX11_lookOn_219 6 rfl ?_
    refine j_iadd C dX11_lookOn_221 ?_
    refine j_iload C dX11_lookOn_222 4 rfl ?_
    refine j_isub C dX11_lookOn_224 ?_
    refine j_iload C dX11_lookOn_225 4 rfl ?_
    refine j_iload C dX11_lookOn_227 5 rfl ?_
    refine j_bind hm (fun r1 hr1 hm => ?_)
    refine j_callV (cs' := (0, 0)) (As := [.int x8, .int ((x2 + x6) - x4), .int x4, .int x5]) (rest := []) C (cM_mayGo hr1) wc_X11_mayGo wm_X11_143 wi_X11_mayGo ws_X11_mayGo wn_X11 wd_X11_mayGo ⟨by decide, by decide⟩ 0 rfl rfl rfl (Nat.le_of_ble_eq_true rfl) dX11_lookOn_229 ⟨by decide, by decide⟩ rfl rfl ?_
    refine j_if_eqq (tgt := 348) C dX11_lookOn_232 (by decide) hm (fun hm => ?_) (fun hm => ?_)
    · exact J.sub [0, 1, 2, 3, 4, 5, 6, 7, 8] rfl (kM_lookOn_348 C hR k58 K58 u x1 x2 x3 x4 x5 x6 x7 x8 hm)
    · refine j_aload_n C dX11_lookOn_235 rfl 0 rfl ?_
      refine j_iload C dX11_lookOn_236 8 rfl ?_
      refine j_iload_n C dX11_lookOn_238 rfl 2 rfl ?_
      refine j_iload C dX11_lookOn_239 6 rfl ?_
      refine j_iadd C dX11_lookOn_241 ?_
      refine j_iload C dX11_lookOn_242 4 rfl ?_
      refine j_isub C dX11_lookOn_244 ?_
      refine j_bind hm (fun r2 hr2 hm => ?_)
      refine j_callV (cs' := (0, 0)) (As := [.int x8, .int ((x2 + x6) - x4)]) (rest := []) C (cM_joinsNow hr2) wc_X11_joinsNow wm_X11_134 wi_X11_joinsNow ws_X11_joinsNow wn_X11 wd_X11_joinsNow ⟨by decide, by decide⟩ 0 rfl rfl rfl (Nat.le_of_ble_eq_true rfl) dX11_lookOn_245 ⟨by decide, by decide⟩ rfl rfl ?_
      refine j_istore C dX11_lookOn_248 (by decide) rfl ?_
      refine j_iload C dX11_lookOn_250 8 rfl ?_
      refine j_iload C dX11_lookOn_252 0 rfl ?_
      refine j_icmp_neq (tgt := 299) C dX11_lookOn_254 (by decide) hm (fun hm => ?_) (fun hm => ?_)
      · exact J.sub [1, 2, 3, 4, 5, 6, 7, 8, 9, 10, 0] rfl (kM_lookOn_299 C hR k58 K58 u x1 x2 x3 x4 x5 x6 x7 x8 x9 r2 hm)
      · refine j_aload_n C dX11_lookOn_257 rfl 1 rfl ?_
        refine jM_g14 C dX11_lookOn_258 ?_
        refine j_bipush (v := 10) C dX11_lookOn_261 (by decide) ?_
        refine j_iload C dX11_lookOn_263 7 rfl ?_
        refine j_iload C dX11_lookOn_265 5 rfl ?_
        refine j_isub C dX11_lookOn_267 ?_
        refine j_imul C dX11_lookOn_268 ?_
        refine j_iload C dX11_lookOn_269 9 rfl ?_
        refine j_iadd C dX11_lookOn_271 ?_
        refine jM_L14 C dX11_lookOn_272 hm (fun a3 hm => ?_)
        refine j_iconst (v := 1) C dX11_lookOn_273 (by decide) ?_
        refine j_icmp_neq (tgt := 299) C dX11_lookOn_274 (by decide) hm (fun hm => ?_) (fun hm => ?_)
        · exact J.sub [1, 2, 3, 4, 5, 6, 7, 8, 9, 10, 0] rfl (kM_lookOn_299 C hR k58 K58 u x1 x2 x3 x4 x5 x6 x7 x8 x9 r2 hm)
        · refine j_aload_n C dX11_lookOn_277 rfl 1 rfl ?_
          refine j_bipush (v := 8) C dX11_lookOn_278 (by decide) ?_
          refine j_iload C dX11_lookOn_280 7 rfl ?_
          refine j_iload C dX11_lookOn_282 5 rfl ?_
          refine j_isub C dX11_lookOn_284 ?_
          refine j_imul C dX11_lookOn_285 ?_
          refine j_iload C dX11_lookOn_286 10 rfl ?_
          refine j_iadd C dX11_lookOn_288 ?_
          refine j_iload_n C dX11_lookOn_289 rfl 2 rfl ?_
          refine j_sipush (v := 300) C dX11_lookOn_290 (by decide) ?_
          refine j_iload C dX11_lookOn_293 9 rfl ?_
          refine j_iadd C dX11_lookOn_295 ?_
          refine j_bind hm (fun r4 hr4 hm => ?_)
          refine j_callV (cs' := (0, 0)) (As := [.int ((8 * (x6 - x4)) + x9), .int x1, .int (300 + x8)]) (rest := []) C (cM_comeTo hr4) wc_X11_comeTo wm_X11_196 wi_X11_comeTo ws_X11_comeTo wn_X11 wd_X11_comeTo ⟨by decide, by decide⟩ 0 rfl rfl rfl (Nat.le_of_ble_eq_true rfl) dX11_lookOn_296 ⟨by decide, by decide⟩ rfl rfl ?_
          exact J.sub [1, 2, 3, 4, 5, 6, 7, 8, 9, 10, 0] rfl (kM_lookOn_299 C hR k58 K58 r4 x1 x2 x3 x4 x5 x6 x7 x8 x9 r2 hm)
def mM_lookOn_163 (N : Nat) (k58 : MSt → Int32 → Int32 → Int32 → Int32 → Int32 → Int32 → Int32 → Int32 → Option MSt) (u : MSt) (x1 : Int32) (x2 : Int32) (x3 : Int32) (x4 : Int32) (x5 : Int32) (x6 : Int32) (x7 : Int32) (x8 : Int32) (x9 : Int32) (x10 : Int32) : Option MSt := if ¬ x7 = x10 then (mM_lookOn_208 N k58 u x1 x2 x3 x4 x5 x6 x7 x8 x9) else (rd (u.2.1 15) 610 ((10 * x6) + x8) (fun a1 => if ¬ a1 = 0 then (mM_lookOn_208 N k58 u x1 x2 x3 x4 x5 x6 x7 x8 x9) else ((mM_comeTo N u ((8 * (x6 + x4)) + x9) x1 (200 + x8)).bind (fun r2 => mM_lookOn_208 N k58 r2 x1 x2 x3 x4 x5 x6 x7 x8 x9))))
set_option maxRecDepth 100000 in
set_option maxHeartbeats 4000000 in
theorem kM_lookOn_163 {l : Launch} {D : va_G} {cI : ClassId} {o : Nat} {q : Nat → Nat} {G : Gx} {N : Nat} {rr : MSt} (C : jC l rmM_lookOn D [(cI, .int)] G cX11_lookOn 11 RX11) (hR : jR D [(cI, .int)] G (0, 0) none none (wM cI o q rr)) (k58 : MSt → Int32 → Int32 → Int32 → Int32 → Int32 → Int32 → Int32 → Int32 → Option MSt) (K58 : ∀ (u : MSt) (x1 : Int32) (x2 : Int32) (x3 : Int32) (x4 : Int32) (x5 : Int32) (x6 : Int32) (x7 : Int32) (x8 : Int32), k58 u x1 x2 x3 x4 x5 x6 x7 x8 = some rr → J l rmM_lookOn D G (0, 0) (wM cI o q u) [(0, .ref o), (1, .int x1), (2, .int x2), (3, .int x3), (4, .int x4), (5, .int x5), (6, .int x6), (7, .int x7), (8, .int x8)] [] 58) (u : MSt) (x1 : Int32) (x2 : Int32) (x3 : Int32) (x4 : Int32) (x5 : Int32) (x6 : Int32) (x7 : Int32) (x8 : Int32) (x9 : Int32) (x10 : Int32) (hm : mM_lookOn_163 N k58 u x1 x2 x3 x4 x5 x6 x7 x8 x9 x10 = some rr) : J l rmM_lookOn D G (0, 0) (wM cI o q u) [(0, .ref o), (1, .int x1), (2, .int x2), (3, .int x3), (4, .int x4), (5, .int x5), (6, .int x6), (7, .int x7), (8, .int x8), (9, .int x9), (10, .int x10)] [] 163 := by
  unfold mM_lookOn_163 at hm
  refine j_iload C dX11_lookOn_163 7 rfl ?_
  refine j_iload C dX11_lookOn_165 10 rfl ?_
  refine j_icmp_neq (tgt := 208) C dX11_lookOn_167 (by decide) hm (fun hm => ?_) (fun hm => ?_)
  · exact J.sub [0, 1, 2, 3, 4, 5, 6, 7, 8, 9] rfl (kM_lookOn_208 C hR k58 K58 u x1 x2 x3 x4 x5 x6 x7 x8 x9 hm)
  · refine j_aload_n C dX11_lookOn_170 rfl 0 rfl ?_
    refine jM_g15 C dX11_lookOn_171 ?_
    refine j_bipush (v := 10) C dX11_lookOn_174 (by decide) ?_
    refine j_iload C dX11_lookOn_176 6 rfl ?_
    refine j_imul C dX11_lookOn_178 ?_
    refine j_iload C dX11_lookOn_179 8 rfl ?_
    refine j_iadd C dX11_lookOn_181 ?_
    refine jM_L15 C dX11_lookOn_182 hm (fun a1 hm => ?_)
    refine j_if_neq (tgt := 208) C dX11_lookOn_183 (by decide) hm (fun hm => ?_) (fun hm => ?_)
    · exact J.sub [0, 1, 2, 3, 4, 5, 6, 7, 8, 9] rfl (kM_lookOn_208 C hR k58 K58 u x1 x2 x3 x4 x5 x6 x7 x8 x9 hm)
    · refine j_aload_n C dX11_lookOn_186 rfl 0 rfl ?_
      refine j_bipush (v := 8) C dX11_lookOn_187 (by decide) ?_
      refine j_iload C dX11_lookOn_189 6 rfl ?_
      refine j_iload C dX11_lookOn_191 4 rfl ?_
      refine j_iadd C dX11_lookOn_193 ?_
      refine j_imul C dX11_lookOn_194 ?_
      refine j_iload C dX11_lookOn_195 9 rfl ?_
      refine j_iadd C dX11_lookOn_197 ?_
      refine j_iload_n C dX11_lookOn_198 rfl 1 rfl ?_
      refine j_sipush (v := 200) C dX11_lookOn_199 (by decide) ?_
      refine j_iload C dX11_lookOn_202 8 rfl ?_
      refine j_iadd C dX11_lookOn_204 ?_
      refine j_bind hm (fun r2 hr2 hm => ?_)
      refine j_callV (cs' := (0, 0)) (As := [.int ((8 * (x6 + x4)) + x9), .int x1, .int (200 + x8)]) (rest := []) C (cM_comeTo hr2) wc_X11_comeTo wm_X11_196 wi_X11_comeTo ws_X11_comeTo wn_X11 wd_X11_comeTo ⟨by decide, by decide⟩ 0 rfl rfl rfl (Nat.le_of_ble_eq_true rfl) dX11_lookOn_205 ⟨by decide, by decide⟩ rfl rfl ?_
      exact J.sub [0, 1, 2, 3, 4, 5, 6, 7, 8, 9] rfl (kM_lookOn_208 C hR k58 K58 r2 x1 x2 x3 x4 x5 x6 x7 x8 x9 hm)
def mM_lookOn_58 (N : Nat) (k58 : MSt → Int32 → Int32 → Int32 → Int32 → Int32 → Int32 → Int32 → Int32 → Option MSt) (u : MSt) (x1 : Int32) (x2 : Int32) (x3 : Int32) (x4 : Int32) (x5 : Int32) (x6 : Int32) (x7 : Int32) (x8 : Int32) : Option MSt := if (u.1 4) ≤ x8 then (some u) else (rd (u.2.1 5) 100 ((10 * x8) + 1) (fun a1 => if x3 < (x6 + x4) then (mM_lookOn_208 N k58 u x1 x2 x3 x4 x5 x6 x7 x8 a1) else ((mM_mayGo N u x8 (x2 + x6) x4 x5).bind (fun r2 => if r2 = 0 then (mM_lookOn_208 N k58 u x1 x2 x3 x4 x5 x6 x7 x8 a1) else ((mM_joinsNow N u x8 (x2 + x6)).bind (fun r3 => if ¬ x7 = a1 then (mM_lookOn_163 N k58 u x1 x2 x3 x4 x5 x6 x7 x8 a1 r3) else (rd (u.2.1 14) 610 ((10 * x6) + x8) (fun a4 => if ¬ a4 = 0 then (mM_lookOn_163 N k58 u x1 x2 x3 x4 x5 x6 x7 x8 a1 r3) else ((mM_comeTo N u ((8 * (x6 + x4)) + r3) x1 (100 + x8)).bind (fun r5 => mM_lookOn_163 N k58 r5 x1 x2 x3 x4 x5 x6 x7 x8 a1 r3))))))))))
set_option maxRecDepth 100000 in
set_option maxHeartbeats 4000000 in
theorem kM_lookOn_58 {l : Launch} {D : va_G} {cI : ClassId} {o : Nat} {q : Nat → Nat} {G : Gx} {N : Nat} {rr : MSt} (C : jC l rmM_lookOn D [(cI, .int)] G cX11_lookOn 11 RX11) (hR : jR D [(cI, .int)] G (0, 0) none none (wM cI o q rr)) (k58 : MSt → Int32 → Int32 → Int32 → Int32 → Int32 → Int32 → Int32 → Int32 → Option MSt) (K58 : ∀ (u : MSt) (x1 : Int32) (x2 : Int32) (x3 : Int32) (x4 : Int32) (x5 : Int32) (x6 : Int32) (x7 : Int32) (x8 : Int32), k58 u x1 x2 x3 x4 x5 x6 x7 x8 = some rr → J l rmM_lookOn D G (0, 0) (wM cI o q u) [(0, .ref o), (1, .int x1), (2, .int x2), (3, .int x3), (4, .int x4), (5, .int x5), (6, .int x6), (7, .int x7), (8, .int x8)] [] 58) (u : MSt) (x1 : Int32) (x2 : Int32) (x3 : Int32) (x4 : Int32) (x5 : Int32) (x6 : Int32) (x7 : Int32) (x8 : Int32) (hm : mM_lookOn_58 N k58 u x1 x2 x3 x4 x5 x6 x7 x8 = some rr) : J l rmM_lookOn D G (0, 0) (wM cI o q u) [(0, .ref o), (1, .int x1), (2, .int x2), (3, .int x3), (4, .int x4), (5, .int x5), (6, .int x6), (7, .int x7), (8, .int x8)] [] 58 := by
  unfold mM_lookOn_58 at hm
  refine j_iload C dX11_lookOn_58 8 rfl ?_
  refine j_aload_n C dX11_lookOn_60 rfl 0 rfl ?_
  refine jM_g4 C dX11_lookOn_61 ?_
  refine j_icmp_geq (tgt := 354) C dX11_lookOn_64 (by decide) hm (fun hm => ?_) (fun hm => ?_)
  · cases hm
    exact j_vret C hR dX11_lookOn_354
  · refine j_aload_n C dX11_lookOn_67 rfl 0 rfl ?_
    refine jM_g5 C dX11_lookOn_68 ?_
    refine j_bipush (v := 10) C dX11_lookOn_71 (by decide) ?_
    refine j_iload C dX11_lookOn_73 8 rfl ?_
    refine j_imul C dX11_lookOn_75 ?_
    refine j_iconst (v := 1) C dX11_lookOn_76 (by decide) ?_
    refine j_iadd C dX11_lookOn_77 ?_
    refine jM_L5 C dX11_lookOn_78 hm (fun a1 hm => ?_)
    refine j_istore C dX11_lookOn_79 (by decide) rfl ?_
    refine j_iload C dX11_lookOn_81 7 rfl ?_
    refine j_iload C dX11_lookOn_83 5 rfl ?_
    refine j_iadd C dX11_lookOn_85 ?_
    refine j_iload_n C dX11_lookOn_86 rfl 4 rfl ?_
    refine j_icmp_gtq (tgt := 208) C dX11_lookOn_87 (by decide) hm (fun hm => ?_) (fun hm => ?_)
    · exact J.sub [1, 2, 3, 4, 5, 6, 7, 8, 9, 0] rfl (kM_lookOn_208 C hR k58 K58 u x1 x2 x3 x4 x5 x6 x7 x8 a1 hm)
    · refine j_aload_n C dX11_lookOn_90 rfl 1 rfl ?_
      refine j_iload C dX11_lookOn_91 9 rfl ?_
      refine j_iload_n C dX11_lookOn_93 rfl 3 rfl ?_
      refine j_iload C dX11_lookOn_94 7 rfl ?_
      refine j_iadd C dX11_lookOn_96 ?_
      refine j_iload C dX11_lookOn_97 5 rfl ?_
      refine j_iload C dX11_lookOn_99 6 rfl ?_
      refine j_bind hm (fun r2 hr2 hm => ?_)
      refine j_callV (cs' := (0, 0)) (As := [.int x8, .int (x2 + x6), .int x4, .int x5]) (rest := []) C (cM_mayGo hr2) wc_X11_mayGo wm_X11_143 wi_X11_mayGo ws_X11_mayGo wn_X11 wd_X11_mayGo ⟨by decide, by decide⟩ 0 rfl rfl rfl (Nat.le_of_ble_eq_true rfl) dX11_lookOn_101 ⟨by decide, by decide⟩ rfl rfl ?_
      refine j_if_eqq (tgt := 208) C dX11_lookOn_104 (by decide) hm (fun hm => ?_) (fun hm => ?_)
      · exact J.sub [1, 2, 3, 4, 5, 6, 7, 8, 9, 0] rfl (kM_lookOn_208 C hR k58 K58 u x1 x2 x3 x4 x5 x6 x7 x8 a1 hm)
      · refine j_aload_n C dX11_lookOn_107 rfl 1 rfl ?_
        refine j_iload C dX11_lookOn_108 9 rfl ?_
        refine j_iload_n C dX11_lookOn_110 rfl 3 rfl ?_
        refine j_iload C dX11_lookOn_111 7 rfl ?_
        refine j_iadd C dX11_lookOn_113 ?_
        refine j_bind hm (fun r3 hr3 hm => ?_)
        refine j_callV (cs' := (0, 0)) (As := [.int x8, .int (x2 + x6)]) (rest := []) C (cM_joinsNow hr3) wc_X11_joinsNow wm_X11_134 wi_X11_joinsNow ws_X11_joinsNow wn_X11 wd_X11_joinsNow ⟨by decide, by decide⟩ 0 rfl rfl rfl (Nat.le_of_ble_eq_true rfl) dX11_lookOn_114 ⟨by decide, by decide⟩ rfl rfl ?_
        refine j_istore C dX11_lookOn_117 (by decide) rfl ?_
        refine j_iload C dX11_lookOn_119 9 rfl ?_
        refine j_iload C dX11_lookOn_121 1 rfl ?_
        refine j_icmp_neq (tgt := 163) C dX11_lookOn_123 (by decide) hm (fun hm => ?_) (fun hm => ?_)
        · exact J.sub [2, 3, 4, 5, 6, 7, 8, 9, 10, 1, 0] rfl (kM_lookOn_163 C hR k58 K58 u x1 x2 x3 x4 x5 x6 x7 x8 a1 r3 hm)
        · refine j_aload_n C dX11_lookOn_126 rfl 2 rfl ?_
          refine jM_g14 C dX11_lookOn_127 ?_
          refine j_bipush (v := 10) C dX11_lookOn_130 (by decide) ?_
          refine j_iload C dX11_lookOn_132 8 rfl ?_
          refine j_imul C dX11_lookOn_134 ?_
          refine j_iload C dX11_lookOn_135 10 rfl ?_
          refine j_iadd C dX11_lookOn_137 ?_
          refine jM_L14 C dX11_lookOn_138 hm (fun a4 hm => ?_)
          refine j_if_neq (tgt := 163) C dX11_lookOn_139 (by decide) hm (fun hm => ?_) (fun hm => ?_)
          · exact J.sub [2, 3, 4, 5, 6, 7, 8, 9, 10, 1, 0] rfl (kM_lookOn_163 C hR k58 K58 u x1 x2 x3 x4 x5 x6 x7 x8 a1 r3 hm)
          · refine j_aload_n C dX11_lookOn_142 rfl 2 rfl ?_
            refine j_bipush (v := 8) C dX11_lookOn_143 (by decide) ?_
            refine j_iload C dX11_lookOn_145 8 rfl ?_
            refine j_iload C dX11_lookOn_147 6 rfl ?_
            refine j_iadd C dX11_lookOn_149 ?_
            refine j_imul C dX11_lookOn_150 ?_
            refine j_iload C dX11_lookOn_151 0 rfl ?_
            refine j_iadd C dX11_lookOn_153 ?_
            refine j_iload_n C dX11_lookOn_154 rfl 3 rfl ?_
            refine j_bipush (v := 100) C dX11_lookOn_155 (by decide) ?_
            refine j_iload C dX11_lookOn_157 10 rfl ?_
            refine j_iadd C dX11_lookOn_159 ?_
            refine j_bind hm (fun r5 hr5 hm => ?_)
            refine j_callV (cs' := (0, 0)) (As := [.int ((8 * (x6 + x4)) + r3), .int x1, .int (100 + x8)]) (rest := []) C (cM_comeTo hr5) wc_X11_comeTo wm_X11_196 wi_X11_comeTo ws_X11_comeTo wn_X11 wd_X11_comeTo ⟨by decide, by decide⟩ 0 rfl rfl rfl (Nat.le_of_ble_eq_true rfl) dX11_lookOn_160 ⟨by decide, by decide⟩ rfl rfl ?_
            exact J.sub [2, 3, 4, 5, 6, 7, 8, 9, 10, 1, 0] rfl (kM_lookOn_163 C hR k58 K58 r5 x1 x2 x3 x4 x5 x6 x7 x8 a1 r3 hm)
def mM_lookOn_h58 (N : Nat) : Nat → MSt → Int32 → Int32 → Int32 → Int32 → Int32 → Int32 → Int32 → Int32 → Option MSt
  | 0, _, _, _, _, _, _, _, _, _ => none
  | n + 1, u, x1, x2, x3, x4, x5, x6, x7, x8 => mM_lookOn_58 N (mM_lookOn_h58 N n) u x1 x2 x3 x4 x5 x6 x7 x8
theorem kM_lookOn_h58 {l : Launch} {D : va_G} {cI : ClassId} {o : Nat} {q : Nat → Nat} {G : Gx} {N : Nat} {rr : MSt} (C : jC l rmM_lookOn D [(cI, .int)] G cX11_lookOn 11 RX11) (hR : jR D [(cI, .int)] G (0, 0) none none (wM cI o q rr))  : ∀ (n : Nat) (u : MSt) (x1 : Int32) (x2 : Int32) (x3 : Int32) (x4 : Int32) (x5 : Int32) (x6 : Int32) (x7 : Int32) (x8 : Int32), mM_lookOn_h58 N n u x1 x2 x3 x4 x5 x6 x7 x8 = some rr → J l rmM_lookOn D G (0, 0) (wM cI o q u) [(0, .ref o), (1, .int x1), (2, .int x2), (3, .int x3), (4, .int x4), (5, .int x5), (6, .int x6), (7, .int x7), (8, .int x8)] [] 58 := by
  intro n
  induction n with
  | zero =>
    intro u x1 x2 x3 x4 x5 x6 x7 x8 hm
    have hm : (none : Option MSt) = some rr := hm
    cases hm
  | succ n ih =>
    intro u x1 x2 x3 x4 x5 x6 x7 x8 hm
    exact kM_lookOn_58 C hR _ ih u x1 x2 x3 x4 x5 x6 x7 x8 hm
def mM_lookOn_55 (N : Nat) (u : MSt) (x1 : Int32) (x2 : Int32) (x3 : Int32) (x4 : Int32) (x5 : Int32) (x6 : Int32) (x7 : Int32) : Option MSt := mM_lookOn_h58 N N u x1 x2 x3 x4 x5 x6 x7 0
set_option maxRecDepth 100000 in
set_option maxHeartbeats 4000000 in
theorem kM_lookOn_55 {l : Launch} {D : va_G} {cI : ClassId} {o : Nat} {q : Nat → Nat} {G : Gx} {N : Nat} {rr : MSt} (C : jC l rmM_lookOn D [(cI, .int)] G cX11_lookOn 11 RX11) (hR : jR D [(cI, .int)] G (0, 0) none none (wM cI o q rr))  (u : MSt) (x1 : Int32) (x2 : Int32) (x3 : Int32) (x4 : Int32) (x5 : Int32) (x6 : Int32) (x7 : Int32) (hm : mM_lookOn_55 N u x1 x2 x3 x4 x5 x6 x7 = some rr) : J l rmM_lookOn D G (0, 0) (wM cI o q u) [(0, .ref o), (1, .int x1), (2, .int x2), (3, .int x3), (4, .int x4), (5, .int x5), (6, .int x6), (7, .int x7)] [] 55 := by
  unfold mM_lookOn_55 at hm
  refine j_iconst (v := 0) C dX11_lookOn_55 (by decide) ?_
  refine j_istore C dX11_lookOn_56 (by decide) rfl ?_
  exact J.sub [1, 2, 3, 4, 5, 6, 7, 8, 0] rfl (kM_lookOn_h58 C hR N u x1 x2 x3 x4 x5 x6 x7 0 hm)
def mM_lookOn_28 (N : Nat) (u : MSt) (x1 : Int32) (x2 : Int32) (x3 : Int32) (x4 : Int32) (x5 : Int32) (x6 : Int32) (x7 : Int32) : Option MSt := if x6 ≤ 0 then (mM_lookOn_55 N u x1 x2 x3 x4 x5 x6 x7) else (rd (u.2.1 13) 488 (x1 - 8) (fun a1 => if a1 ≤ 0 then (mM_lookOn_55 N u x1 x2 x3 x4 x5 x6 x7) else ((mM_comeTo N u (x1 - 8) x1 1).bind (fun r2 => mM_lookOn_55 N r2 x1 x2 x3 x4 x5 x6 x7))))
set_option maxRecDepth 100000 in
set_option maxHeartbeats 4000000 in
theorem kM_lookOn_28 {l : Launch} {D : va_G} {cI : ClassId} {o : Nat} {q : Nat → Nat} {G : Gx} {N : Nat} {rr : MSt} (C : jC l rmM_lookOn D [(cI, .int)] G cX11_lookOn 11 RX11) (hR : jR D [(cI, .int)] G (0, 0) none none (wM cI o q rr))  (u : MSt) (x1 : Int32) (x2 : Int32) (x3 : Int32) (x4 : Int32) (x5 : Int32) (x6 : Int32) (x7 : Int32) (hm : mM_lookOn_28 N u x1 x2 x3 x4 x5 x6 x7 = some rr) : J l rmM_lookOn D G (0, 0) (wM cI o q u) [(0, .ref o), (1, .int x1), (2, .int x2), (3, .int x3), (4, .int x4), (5, .int x5), (6, .int x6), (7, .int x7)] [] 28 := by
  unfold mM_lookOn_28 at hm
  refine j_iload C dX11_lookOn_28 6 rfl ?_
  refine j_if_leq (tgt := 55) C dX11_lookOn_30 (by decide) hm (fun hm => ?_) (fun hm => ?_)
  · exact kM_lookOn_55 C hR u x1 x2 x3 x4 x5 x6 x7 hm
  · refine j_aload_n C dX11_lookOn_33 rfl 0 rfl ?_
    refine jM_g13 C dX11_lookOn_34 ?_
    refine j_iload_n C dX11_lookOn_37 rfl 1 rfl ?_
    refine j_bipush (v := 8) C dX11_lookOn_38 (by decide) ?_
    refine j_isub C dX11_lookOn_40 ?_
    refine jM_L13 C dX11_lookOn_41 hm (fun a1 hm => ?_)
    refine j_if_leq (tgt := 55) C dX11_lookOn_42 (by decide) hm (fun hm => ?_) (fun hm => ?_)
    · exact kM_lookOn_55 C hR u x1 x2 x3 x4 x5 x6 x7 hm
    · refine j_aload_n C dX11_lookOn_45 rfl 0 rfl ?_
      refine j_iload_n C dX11_lookOn_46 rfl 1 rfl ?_
      refine j_bipush (v := 8) C dX11_lookOn_47 (by decide) ?_
      refine j_isub C dX11_lookOn_49 ?_
      refine j_iload_n C dX11_lookOn_50 rfl 1 rfl ?_
      refine j_iconst (v := 1) C dX11_lookOn_51 (by decide) ?_
      refine j_bind hm (fun r2 hr2 hm => ?_)
      refine j_callV (cs' := (0, 0)) (As := [.int (x1 - 8), .int x1, .int 1]) (rest := []) C (cM_comeTo hr2) wc_X11_comeTo wm_X11_196 wi_X11_comeTo ws_X11_comeTo wn_X11 wd_X11_comeTo ⟨by decide, by decide⟩ 0 rfl rfl rfl (Nat.le_of_ble_eq_true rfl) dX11_lookOn_52 ⟨by decide, by decide⟩ rfl rfl ?_
      exact kM_lookOn_55 C hR r2 x1 x2 x3 x4 x5 x6 x7 hm
def mM_lookOn (N : Nat) (u : MSt) (x1 : Int32) (x2 : Int32) (x3 : Int32) (x4 : Int32) (x5 : Int32) : Option MSt := nm (x1 / 8) (fun v1 => nm (x1 - x1 / 8 * 8) (fun v2 => if x3 ≤ v1 then (mM_lookOn_28 N u x1 x2 x3 x4 x5 v1 v2) else ((mM_comeTo N u (x1 + 8) x1 0).bind (fun r3 => mM_lookOn_28 N r3 x1 x2 x3 x4 x5 v1 v2))))
set_option maxRecDepth 100000 in
set_option maxHeartbeats 4000000 in
theorem cM_lookOn {l : Launch} {D : va_G} {cI : ClassId} {o : Nat} {q : Nat → Nat} {u : MSt} {N : Nat} {x1 : Int32} {x2 : Int32} {x3 : Int32} {x4 : Int32} {x5 : Int32} {rr : MSt} (hm : mM_lookOn N u x1 x2 x3 x4 x5 = some rr) : Con l D [(cI, .int)] yX11_lookOn (wS yX11_lookOn cX11_lookOn 11 none) rmM_lookOn [.ref o, .int x1, .int x2, .int x3, .int x4, .int x5] (wM cI o q u) none (wM cI o q rr) := by
  refine Con.of (by decide +kernel) (Nat.le_of_ble_eq_true rfl) (fun G C hR => ?_)
  unfold mM_lookOn at hm
  show J l rmM_lookOn D G (0, 0) (wM cI o q u) [(0, .ref o), (1, .int x1), (2, .int x2), (3, .int x3), (4, .int x4), (5, .int x5)] [] 0
  refine j_iload_n C dX11_lookOn_0 rfl 1 rfl ?_
  refine j_bipush (v := 8) C dX11_lookOn_1 (by decide) ?_
  refine j_idiv C dX11_lookOn_3 (by decide) ?_
  refine j_nmi hm (fun v1 hm => ?_)
  refine j_istore C dX11_lookOn_4 (by decide) rfl ?_
  refine j_iload_n C dX11_lookOn_6 rfl 2 rfl ?_
  refine j_bipush (v := 8) C dX11_lookOn_7 (by decide) ?_
  refine j_irem C dX11_lookOn_9 (by decide) ?_
  refine j_nmi hm (fun v2 hm => ?_)
  refine j_istore C dX11_lookOn_10 (by decide) rfl ?_
  refine j_iload C dX11_lookOn_12 1 rfl ?_
  refine j_iload_n C dX11_lookOn_14 rfl 5 rfl ?_
  refine j_icmp_geq (tgt := 28) C dX11_lookOn_15 (by decide) hm (fun hm => ?_) (fun hm => ?_)
  · exact J.sub [2, 3, 4, 5, 6, 7, 1, 0] rfl (kM_lookOn_28 C hR u x1 x2 x3 x4 x5 v1 v2 hm)
  · refine j_aload_n C dX11_lookOn_18 rfl 2 rfl ?_
    refine j_iload_n C dX11_lookOn_19 rfl 3 rfl ?_
    refine j_bipush (v := 8) C dX11_lookOn_20 (by decide) ?_
    refine j_iadd C dX11_lookOn_22 ?_
    refine j_iload_n C dX11_lookOn_23 rfl 3 rfl ?_
    refine j_iconst (v := 0) C dX11_lookOn_24 (by decide) ?_
    refine j_bind hm (fun r3 hr3 hm => ?_)
    refine j_callV (cs' := (0, 0)) (As := [.int (x1 + 8), .int x1, .int 0]) (rest := []) C (cM_comeTo hr3) wc_X11_comeTo wm_X11_196 wi_X11_comeTo ws_X11_comeTo wn_X11 wd_X11_comeTo ⟨by decide, by decide⟩ 0 rfl rfl rfl (Nat.le_of_ble_eq_true rfl) dX11_lookOn_25 ⟨by decide, by decide⟩ rfl rfl ?_
    exact J.sub [2, 3, 4, 5, 6, 7, 1, 0] rfl (kM_lookOn_28 C hR r3 x1 x2 x3 x4 x5 v1 v2 hm)
def rmM_takeWay : Room := { frames := 0, cells := 0, slots := 0, locals := 0 }
theorem wd_X11_takeWay : yX11_takeWay.cls ≠ "java/lang/invoke/MethodHandle" ∧ yX11_takeWay.cls ≠ "java/lang/invoke/VarHandle" ∧ (parseMethodDescriptor yX11_takeWay.desc).map (fun d => d.parameters.length) = some 2 := by decide +kernel
def mM_takeWay_167 (N : Nat) (k2 : MSt → Int32 → Int32 → Option MSt) (u : MSt) (x1 : Int32) (x4 : Int32) : Option MSt := k2 u x1 x4
set_option maxRecDepth 100000 in
set_option maxHeartbeats 4000000 in
theorem kM_takeWay_167 {l : Launch} {D : va_G} {cI : ClassId} {o : Nat} {q : Nat → Nat} {G : Gx} {N : Nat} {rr : MSt} (C : jC l rmM_takeWay D [(cI, .int)] G cX11_takeWay 7 RX11) (hR : jR D [(cI, .int)] G (0, 0) none none (wM cI o q rr)) (k2 : MSt → Int32 → Int32 → Option MSt) (K2 : ∀ (u : MSt) (x1 : Int32) (x3 : Int32), k2 u x1 x3 = some rr → J l rmM_takeWay D G (0, 0) (wM cI o q u) [(0, .ref o), (1, .int x1), (3, .int x3)] [] 2) (u : MSt) (x1 : Int32) (x4 : Int32) (hm : mM_takeWay_167 N k2 u x1 x4 = some rr) : J l rmM_takeWay D G (0, 0) (wM cI o q u) [(0, .ref o), (1, .int x1), (4, .int x4)] [] 167 := by
  unfold mM_takeWay_167 at hm
  refine j_iload C dX11_takeWay_167 2 rfl ?_
  refine j_istore_n C dX11_takeWay_169 rfl (by decide) rfl ?_
  refine j_goto (tgt := 2) C dX11_takeWay_170 (by decide) ?_
  exact J.sub [1, 2, 0] rfl (K2 u x1 x4 hm)
def mM_takeWay_2 (N : Nat) (k2 : MSt → Int32 → Int32 → Option MSt) (u : MSt) (x1 : Int32) (x3 : Int32) : Option MSt := if x3 = x1 then (some u) else (rd (u.2.1 16) 488 x3 (fun a1 => rd (u.2.1 17) 488 x3 (fun a2 => nm (a2 - a2 / 100 * 100) (fun v3 => if ¬ a2 = 0 then (if ¬ a2 = 1 then (if 200 ≤ a2 then (if 300 ≤ a2 then (if 400 ≤ a2 then (wr 610 ((10 * (x3 / 8)) + v3) (fun i4 => nm (saM u 15 i4 0) (fun u5 => mM_takeWay_167 N k2 u5 x1 a1))) else (wr 610 ((10 * (x3 / 8)) + v3) (fun i6 => nm (saM u 14 i6 0) (fun u7 => mM_takeWay_167 N k2 u7 x1 a1)))) else (wr 610 ((10 * (a1 / 8)) + v3) (fun i8 => nm (saM u 15 i8 1) (fun u9 => mM_takeWay_167 N k2 u9 x1 a1)))) else (wr 610 ((10 * (a1 / 8)) + v3) (fun i10 => nm (saM u 14 i10 1) (fun u11 => mM_takeWay_167 N k2 u11 x1 a1)))) else (rd (u.2.1 13) 488 x3 (fun a12 => wr 488 x3 (fun i13 => nm (saM u 13 i13 (a12 - 1)) (fun u14 => mM_takeWay_167 N k2 u14 x1 a1))))) else (rd (u.2.1 13) 488 a1 (fun a15 => wr 488 a1 (fun i16 => nm (saM u 13 i16 (a15 + 1)) (fun u17 => mM_takeWay_167 N k2 u17 x1 a1))))))))
set_option maxRecDepth 100000 in
set_option maxHeartbeats 4000000 in
theorem kM_takeWay_2 {l : Launch} {D : va_G} {cI : ClassId} {o : Nat} {q : Nat → Nat} {G : Gx} {N : Nat} {rr : MSt} (C : jC l rmM_takeWay D [(cI, .int)] G cX11_takeWay 7 RX11) (hR : jR D [(cI, .int)] G (0, 0) none none (wM cI o q rr)) (k2 : MSt → Int32 → Int32 → Option MSt) (K2 : ∀ (u : MSt) (x1 : Int32) (x3 : Int32), k2 u x1 x3 = some rr → J l rmM_takeWay D G (0, 0) (wM cI o q u) [(0, .ref o), (1, .int x1), (3, .int x3)] [] 2) (u : MSt) (x1 : Int32) (x3 : Int32) (hm : mM_takeWay_2 N k2 u x1 x3 = some rr) : J l rmM_takeWay D G (0, 0) (wM cI o q u) [(0, .ref o), (1, .int x1), (3, .int x3)] [] 2 := by
  unfold mM_takeWay_2 at hm
  refine j_iload_n C dX11_takeWay_2 rfl 2 rfl ?_
  refine j_iload_n C dX11_takeWay_3 rfl 1 rfl ?_
  refine j_icmp_eqq (tgt := 173) C dX11_takeWay_4 (by decide) hm (fun hm => ?_) (fun hm => ?_)
  · cases hm
    exact j_vret C hR dX11_takeWay_173
  · refine j_aload_n C dX11_takeWay_7 rfl 0 rfl ?_
    refine jM_g16 C dX11_takeWay_8 ?_
    refine j_iload_n C dX11_takeWay_11 rfl 2 rfl ?_
    refine jM_L16 C dX11_takeWay_12 hm (fun a1 hm => ?_)
    refine j_istore C dX11_takeWay_13 (by decide) rfl ?_
    refine j_aload_n C dX11_takeWay_15 rfl 1 rfl ?_
    refine jM_g17 C dX11_takeWay_16 ?_
    refine j_iload_n C dX11_takeWay_19 rfl 3 rfl ?_
    refine jM_L17 C dX11_takeWay_20 hm (fun a2 hm => ?_)
    refine j_istore C dX11_takeWay_21 (by decide) rfl ?_
    refine j_iload C dX11_takeWay_23 0 rfl ?_
    refine j_bipush (v := 100) C dX11_takeWay_25 (by decide) ?_
    refine j_irem C dX11_takeWay_27 (by decide) ?_
    refine j_nmi hm (fun v3 hm => ?_)
    refine j_istore C dX11_takeWay_28 (by decide) rfl ?_
    refine j_iload C dX11_takeWay_30 1 rfl ?_
    refine j_if_neq (tgt := 49) C dX11_takeWay_32 (by decide) hm (fun hm => ?_) (fun hm => ?_)
    · refine j_iload C dX11_takeWay_49 1 rfl ?_
      refine j_iconst (v := 1) C dX11_takeWay_51 (by decide) ?_
      refine j_icmp_neq (tgt := 68) C dX11_takeWay_52 (by decide) hm (fun hm => ?_) (fun hm => ?_)
      · refine j_iload C dX11_takeWay_68 1 rfl ?_
        refine j_sipush (v := 200) C dX11_takeWay_70 (by decide) ?_
        refine j_icmp_geq (tgt := 96) C dX11_takeWay_73 (by decide) hm (fun hm => ?_) (fun hm => ?_)
        · refine j_iload C dX11_takeWay_96 1 rfl ?_
          refine j_sipush (v := 300) C dX11_takeWay_98 (by decide) ?_
          refine j_icmp_geq (tgt := 124) C dX11_takeWay_101 (by decide) hm (fun hm => ?_) (fun hm => ?_)
          · refine j_iload C dX11_takeWay_124 1 rfl ?_
            refine j_sipush (v := 400) C dX11_takeWay_126 (by decide) ?_
            refine j_icmp_geq (tgt := 151) C dX11_takeWay_129 (by decide) hm (fun hm => ?_) (fun hm => ?_)
            · refine j_aload_n C dX11_takeWay_151 rfl 3 rfl ?_
              refine jM_g15 C dX11_takeWay_152 ?_
              refine j_bipush (v := 10) C dX11_takeWay_155 (by decide) ?_
              refine j_iload_n C dX11_takeWay_157 rfl 5 rfl ?_
              refine j_bipush (v := 8) C dX11_takeWay_158 (by decide) ?_
              refine j_idiv C dX11_takeWay_160 (by decide) ?_
              refine j_imul C dX11_takeWay_161 ?_
              refine j_iload C dX11_takeWay_162 0 rfl ?_
              refine j_iadd C dX11_takeWay_164 ?_
              refine j_iconst (v := 0) C dX11_takeWay_165 (by decide) ?_
              refine jM_S15 C dX11_takeWay_166 hm (fun u5 hm => ?_)
              exact J.sub [3, 4, 2] rfl (kM_takeWay_167 C hR k2 K2 u5 x1 a1 hm)
            · refine j_aload_n C dX11_takeWay_132 rfl 3 rfl ?_
              refine jM_g14 C dX11_takeWay_133 ?_
              refine j_bipush (v := 10) C dX11_takeWay_136 (by decide) ?_
              refine j_iload_n C dX11_takeWay_138 rfl 5 rfl ?_
              refine j_bipush (v := 8) C dX11_takeWay_139 (by decide) ?_
              refine j_idiv C dX11_takeWay_141 (by decide) ?_
              refine j_imul C dX11_takeWay_142 ?_
              refine j_iload C dX11_takeWay_143 0 rfl ?_
              refine j_iadd C dX11_takeWay_145 ?_
              refine j_iconst (v := 0) C dX11_takeWay_146 (by decide) ?_
              refine jM_S14 C dX11_takeWay_147 hm (fun u7 hm => ?_)
              refine j_goto (tgt := 167) C dX11_takeWay_148 (by decide) ?_
              exact J.sub [3, 4, 2] rfl (kM_takeWay_167 C hR k2 K2 u7 x1 a1 hm)
          · refine j_aload_n C dX11_takeWay_104 rfl 3 rfl ?_
            refine jM_g15 C dX11_takeWay_105 ?_
            refine j_bipush (v := 10) C dX11_takeWay_108 (by decide) ?_
            refine j_iload C dX11_takeWay_110 2 rfl ?_
            refine j_bipush (v := 8) C dX11_takeWay_112 (by decide) ?_
            refine j_idiv C dX11_takeWay_114 (by decide) ?_
            refine j_imul C dX11_takeWay_115 ?_
            refine j_iload C dX11_takeWay_116 0 rfl ?_
            refine j_iadd C dX11_takeWay_118 ?_
            refine j_iconst (v := 1) C dX11_takeWay_119 (by decide) ?_
            refine jM_S15 C dX11_takeWay_120 hm (fun u9 hm => ?_)
            refine j_goto (tgt := 167) C dX11_takeWay_121 (by decide) ?_
            exact J.sub [3, 4, 2] rfl (kM_takeWay_167 C hR k2 K2 u9 x1 a1 hm)
        · refine j_aload_n C dX11_takeWay_76 rfl 3 rfl ?_
          refine jM_g14 C dX11_takeWay_77 ?_
          refine j_bipush (v := 10) C dX11_takeWay_80 (by decide) ?_
          refine j_iload C dX11_takeWay_82 2 rfl ?_
          refine j_bipush (v := 8) C dX11_takeWay_84 (by decide) ?_
          refine j_idiv C dX11_takeWay_86 (by decide) ?_
          refine j_imul C dX11_takeWay_87 ?_
          refine j_iload C dX11_takeWay_88 0 rfl ?_
          refine j_iadd C dX11_takeWay_90 ?_
          refine j_iconst (v := 1) C dX11_takeWay_91 (by decide) ?_
          refine jM_S14 C dX11_takeWay_92 hm (fun u11 hm => ?_)
          refine j_goto (tgt := 167) C dX11_takeWay_93 (by decide) ?_
          exact J.sub [3, 4, 2] rfl (kM_takeWay_167 C hR k2 K2 u11 x1 a1 hm)
      · refine j_aload_n C dX11_takeWay_55 rfl 3 rfl ?_
        refine jM_g13 C dX11_takeWay_56 ?_
        refine j_iload_n C dX11_takeWay_59 rfl 5 rfl ?_
        refine j_dup2_11 C dX11_takeWay_60 rfl rfl ?_
        refine jM_L13 C dX11_takeWay_61 hm (fun a12 hm => ?_)
        refine j_iconst (v := 1) C dX11_takeWay_62 (by decide) ?_
        refine j_isub C dX11_takeWay_63 ?_
        refine jM_S13 C dX11_takeWay_64 hm (fun u14 hm => ?_)
        refine j_goto (tgt := 167) C dX11_takeWay_65 (by decide) ?_
        exact J.sub [3, 4, 2] rfl (kM_takeWay_167 C hR k2 K2 u14 x1 a1 hm)
    · refine j_aload_n C dX11_takeWay_35 rfl 3 rfl ?_
      refine jM_g13 C dX11_takeWay_36 ?_
      refine j_iload C dX11_takeWay_39 2 rfl ?_
      refine j_dup2_11 C dX11_takeWay_41 rfl rfl ?_
      refine jM_L13 C dX11_takeWay_42 hm (fun a15 hm => ?_)
      refine j_iconst (v := 1) C dX11_takeWay_43 (by decide) ?_
      refine j_iadd C dX11_takeWay_44 ?_
      refine jM_S13 C dX11_takeWay_45 hm (fun u17 hm => ?_)
      refine j_goto (tgt := 167) C dX11_takeWay_46 (by decide) ?_
      exact J.sub [3, 4, 2] rfl (kM_takeWay_167 C hR k2 K2 u17 x1 a1 hm)
def mM_takeWay_h2 (N : Nat) : Nat → MSt → Int32 → Int32 → Option MSt
  | 0, _, _, _ => none
  | n + 1, u, x1, x3 => mM_takeWay_2 N (mM_takeWay_h2 N n) u x1 x3
theorem kM_takeWay_h2 {l : Launch} {D : va_G} {cI : ClassId} {o : Nat} {q : Nat → Nat} {G : Gx} {N : Nat} {rr : MSt} (C : jC l rmM_takeWay D [(cI, .int)] G cX11_takeWay 7 RX11) (hR : jR D [(cI, .int)] G (0, 0) none none (wM cI o q rr))  : ∀ (n : Nat) (u : MSt) (x1 : Int32) (x3 : Int32), mM_takeWay_h2 N n u x1 x3 = some rr → J l rmM_takeWay D G (0, 0) (wM cI o q u) [(0, .ref o), (1, .int x1), (3, .int x3)] [] 2 := by
  intro n
  induction n with
  | zero =>
    intro u x1 x3 hm
    have hm : (none : Option MSt) = some rr := hm
    cases hm
  | succ n ih =>
    intro u x1 x3 hm
    exact kM_takeWay_2 C hR _ ih u x1 x3 hm
def mM_takeWay (N : Nat) (u : MSt) (x1 : Int32) (x2 : Int32) : Option MSt := mM_takeWay_h2 N N u x1 x2
set_option maxRecDepth 100000 in
set_option maxHeartbeats 4000000 in
theorem cM_takeWay {l : Launch} {D : va_G} {cI : ClassId} {o : Nat} {q : Nat → Nat} {u : MSt} {N : Nat} {x1 : Int32} {x2 : Int32} {rr : MSt} (hm : mM_takeWay N u x1 x2 = some rr) : Con l D [(cI, .int)] yX11_takeWay (wS yX11_takeWay cX11_takeWay 7 none) rmM_takeWay [.ref o, .int x1, .int x2] (wM cI o q u) none (wM cI o q rr) := by
  refine Con.of (by decide +kernel) (Nat.le_of_ble_eq_true rfl) (fun G C hR => ?_)
  unfold mM_takeWay at hm
  show J l rmM_takeWay D G (0, 0) (wM cI o q u) [(0, .ref o), (1, .int x1), (2, .int x2)] [] 0
  refine j_iload_n C dX11_takeWay_0 rfl 2 rfl ?_
  refine j_istore_n C dX11_takeWay_1 rfl (by decide) rfl ?_
  exact J.sub [1, 2, 0] rfl (kM_takeWay_h2 C hR N u x1 x2 hm)
def rmM_oneMore : Room := { frames := 7, cells := 0, slots := 0, locals := 169 }
theorem wd_X11_oneMore : yX11_oneMore.cls ≠ "java/lang/invoke/MethodHandle" ∧ yX11_oneMore.cls ≠ "java/lang/invoke/VarHandle" ∧ (parseMethodDescriptor yX11_oneMore.desc).map (fun d => d.parameters.length) = some 6 := by decide +kernel
def mM_oneMore_93 (N : Nat) (u : MSt) (x1 : Int32) (x7 : Int32) : Option (Int32 × MSt) := rd (u.2.1 16) 488 x7 (fun a1 => if ¬ a1 = (-1) then ((mM_takeWay N u x1 x7).bind (fun r2 => some (1, r2))) else (some (0, u)))
set_option maxRecDepth 100000 in
set_option maxHeartbeats 4000000 in
theorem kM_oneMore_93 {l : Launch} {D : va_G} {cI : ClassId} {o : Nat} {q : Nat → Nat} {G : Gx} {N : Nat} {rr : (Int32 × MSt)} (C : jC l rmM_oneMore D [(cI, .int)] G cX11_oneMore 9 RX11) (hR : jR D [(cI, .int)] G (0, 0) (some .boolean) (some (.int rr.1)) (wM cI o q rr.2))  (u : MSt) (x1 : Int32) (x7 : Int32) (hm : mM_oneMore_93 N u x1 x7 = some rr) : J l rmM_oneMore D G (0, 0) (wM cI o q u) [(0, .ref o), (1, .int x1), (7, .int x7)] [] 93 := by
  unfold mM_oneMore_93 at hm
  refine j_aload_n C dX11_oneMore_93 rfl 0 rfl ?_
  refine jM_g16 C dX11_oneMore_94 ?_
  refine j_iload C dX11_oneMore_97 2 rfl ?_
  refine jM_L16 C dX11_oneMore_99 hm (fun a1 hm => ?_)
  refine j_iconst (v := (-1)) C dX11_oneMore_100 (by decide) ?_
  refine j_icmp_neq (tgt := 106) C dX11_oneMore_101 (by decide) hm (fun hm => ?_) (fun hm => ?_)
  · refine j_aload_n C dX11_oneMore_106 rfl 0 rfl ?_
    refine j_iload_n C dX11_oneMore_107 rfl 1 rfl ?_
    refine j_iload C dX11_oneMore_108 2 rfl ?_
    refine j_bind hm (fun r2 hr2 hm => ?_)
    refine j_callV (cs' := (0, 0)) (As := [.int x1, .int x7]) (rest := []) C (cM_takeWay hr2) wc_X11_takeWay wm_X11_203 wi_X11_takeWay ws_X11_takeWay wn_X11 wd_X11_takeWay ⟨by decide, by decide⟩ 0 rfl rfl rfl (Nat.le_of_ble_eq_true rfl) dX11_oneMore_110 ⟨by decide, by decide⟩ rfl rfl ?_
    refine j_iconst (v := 1) C dX11_oneMore_113 (by decide) ?_
    cases hm
    exact j_zret C hR (by decide) dX11_oneMore_114
  · refine j_iconst (v := 0) C dX11_oneMore_104 (by decide) ?_
    cases hm
    exact j_zret C hR (by decide) dX11_oneMore_105
def mM_oneMore_49 (N : Nat) (k49 : MSt → Int32 → Int32 → Int32 → Int32 → Int32 → Int32 → Int32 → Option (Int32 × MSt)) (u : MSt) (x1 : Int32) (x3 : Int32) (x4 : Int32) (x5 : Int32) (x6 : Int32) (x7 : Int32) (x8 : Int32) : Option (Int32 × MSt) := if (u.1 19) ≤ x8 then (mM_oneMore_93 N u x1 x7) else (rd (u.2.1 16) 488 x7 (fun a1 => if ¬ a1 = (-1) then (mM_oneMore_93 N u x1 x7) else (rd (u.2.1 18) 488 x8 (fun a2 => (mM_lookOn N u a2 x3 x4 x5 x6).bind (fun r3 => k49 r3 x1 x3 x4 x5 x6 x7 (x8 + 1))))))
set_option maxRecDepth 100000 in
set_option maxHeartbeats 4000000 in
theorem kM_oneMore_49 {l : Launch} {D : va_G} {cI : ClassId} {o : Nat} {q : Nat → Nat} {G : Gx} {N : Nat} {rr : (Int32 × MSt)} (C : jC l rmM_oneMore D [(cI, .int)] G cX11_oneMore 9 RX11) (hR : jR D [(cI, .int)] G (0, 0) (some .boolean) (some (.int rr.1)) (wM cI o q rr.2)) (k49 : MSt → Int32 → Int32 → Int32 → Int32 → Int32 → Int32 → Int32 → Option (Int32 × MSt)) (K49 : ∀ (u : MSt) (x1 : Int32) (x3 : Int32) (x4 : Int32) (x5 : Int32) (x6 : Int32) (x7 : Int32) (x8 : Int32), k49 u x1 x3 x4 x5 x6 x7 x8 = some rr → J l rmM_oneMore D G (0, 0) (wM cI o q u) [(0, .ref o), (1, .int x1), (3, .int x3), (4, .int x4), (5, .int x5), (6, .int x6), (7, .int x7), (8, .int x8)] [] 49) (u : MSt) (x1 : Int32) (x3 : Int32) (x4 : Int32) (x5 : Int32) (x6 : Int32) (x7 : Int32) (x8 : Int32) (hm : mM_oneMore_49 N k49 u x1 x3 x4 x5 x6 x7 x8 = some rr) : J l rmM_oneMore D G (0, 0) (wM cI o q u) [(0, .ref o), (1, .int x1), (3, .int x3), (4, .int x4), (5, .int x5), (6, .int x6), (7, .int x7), (8, .int x8)] [] 49 := by
  unfold mM_oneMore_49 at hm
  refine j_iload C dX11_oneMore_49 7 rfl ?_
  refine j_aload_n C dX11_oneMore_51 rfl 0 rfl ?_
  refine jM_g19 C dX11_oneMore_52 ?_
  refine j_icmp_geq (tgt := 93) C dX11_oneMore_55 (by decide) hm (fun hm => ?_) (fun hm => ?_)
  · exact J.sub [0, 1, 6] rfl (kM_oneMore_93 C hR u x1 x7 hm)
  · refine j_aload_n C dX11_oneMore_58 rfl 0 rfl ?_
    refine jM_g16 C dX11_oneMore_59 ?_
    refine j_iload C dX11_oneMore_62 6 rfl ?_
    refine jM_L16 C dX11_oneMore_64 hm (fun a1 hm => ?_)
    refine j_iconst (v := (-1)) C dX11_oneMore_65 (by decide) ?_
    refine j_icmp_neq (tgt := 93) C dX11_oneMore_66 (by decide) hm (fun hm => ?_) (fun hm => ?_)
    · exact J.sub [0, 1, 6] rfl (kM_oneMore_93 C hR u x1 x7 hm)
    · refine j_aload_n C dX11_oneMore_69 rfl 0 rfl ?_
      refine j_aload_n C dX11_oneMore_70 rfl 0 rfl ?_
      refine jM_g18 C dX11_oneMore_71 ?_
      refine j_iload C dX11_oneMore_74 7 rfl ?_
      refine jM_L18 C dX11_oneMore_76 hm (fun a2 hm => ?_)
      refine j_iload_n C dX11_oneMore_77 rfl 2 rfl ?_
      refine j_iload C dX11_oneMore_78 3 rfl ?_
      refine j_iload C dX11_oneMore_80 4 rfl ?_
      refine j_iload C dX11_oneMore_82 5 rfl ?_
      refine j_bind hm (fun r3 hr3 hm => ?_)
      refine j_callV (cs' := (0, 0)) (As := [.int a2, .int x3, .int x4, .int x5, .int x6]) (rest := []) C (cM_lookOn hr3) wc_X11_lookOn wm_X11_200 wi_X11_lookOn ws_X11_lookOn wn_X11 wd_X11_lookOn ⟨by decide, by decide⟩ 0 rfl rfl rfl (Nat.le_of_ble_eq_true rfl) dX11_oneMore_84 ⟨by decide, by decide⟩ rfl rfl ?_
      refine j_iinc (v := (x8 + 1)) C dX11_oneMore_87 7 rfl rfl (by decide) rfl ?_
      refine j_goto (tgt := 49) C dX11_oneMore_90 (by decide) ?_
      exact J.sub [1, 2, 3, 4, 5, 6, 7, 0] rfl (K49 r3 x1 x3 x4 x5 x6 x7 (x8 + 1) hm)
def mM_oneMore_h49 (N : Nat) : Nat → MSt → Int32 → Int32 → Int32 → Int32 → Int32 → Int32 → Int32 → Option (Int32 × MSt)
  | 0, _, _, _, _, _, _, _, _ => none
  | n + 1, u, x1, x3, x4, x5, x6, x7, x8 => mM_oneMore_49 N (mM_oneMore_h49 N n) u x1 x3 x4 x5 x6 x7 x8
theorem kM_oneMore_h49 {l : Launch} {D : va_G} {cI : ClassId} {o : Nat} {q : Nat → Nat} {G : Gx} {N : Nat} {rr : (Int32 × MSt)} (C : jC l rmM_oneMore D [(cI, .int)] G cX11_oneMore 9 RX11) (hR : jR D [(cI, .int)] G (0, 0) (some .boolean) (some (.int rr.1)) (wM cI o q rr.2))  : ∀ (n : Nat) (u : MSt) (x1 : Int32) (x3 : Int32) (x4 : Int32) (x5 : Int32) (x6 : Int32) (x7 : Int32) (x8 : Int32), mM_oneMore_h49 N n u x1 x3 x4 x5 x6 x7 x8 = some rr → J l rmM_oneMore D G (0, 0) (wM cI o q u) [(0, .ref o), (1, .int x1), (3, .int x3), (4, .int x4), (5, .int x5), (6, .int x6), (7, .int x7), (8, .int x8)] [] 49 := by
  intro n
  induction n with
  | zero =>
    intro u x1 x3 x4 x5 x6 x7 x8 hm
    have hm : (none : Option (Int32 × MSt)) = some rr := hm
    cases hm
  | succ n ih =>
    intro u x1 x3 x4 x5 x6 x7 x8 hm
    exact kM_oneMore_49 C hR _ ih u x1 x3 x4 x5 x6 x7 x8 hm
def mM_oneMore_3 (N : Nat) (k3 : MSt → Int32 → Int32 → Int32 → Int32 → Int32 → Int32 → Int32 → Option (Int32 × MSt)) (u : MSt) (x1 : Int32) (x2 : Int32) (x3 : Int32) (x4 : Int32) (x5 : Int32) (x6 : Int32) (x7 : Int32) : Option (Int32 × MSt) := if 488 ≤ x7 then (nm (siM u 19 0) (fun u1 => nm ((8 * x4) + x2) (fun v2 => (mM_comeTo N u1 x1 x1 0).bind (fun r3 => mM_oneMore_h49 N N r3 x1 x3 x4 x5 x6 v2 0)))) else (wr 488 x7 (fun i4 => nm (saM u 16 i4 (-1)) (fun u5 => k3 u5 x1 x2 x3 x4 x5 x6 (x7 + 1))))
set_option maxRecDepth 100000 in
set_option maxHeartbeats 4000000 in
theorem kM_oneMore_3 {l : Launch} {D : va_G} {cI : ClassId} {o : Nat} {q : Nat → Nat} {G : Gx} {N : Nat} {rr : (Int32 × MSt)} (C : jC l rmM_oneMore D [(cI, .int)] G cX11_oneMore 9 RX11) (hR : jR D [(cI, .int)] G (0, 0) (some .boolean) (some (.int rr.1)) (wM cI o q rr.2)) (k3 : MSt → Int32 → Int32 → Int32 → Int32 → Int32 → Int32 → Int32 → Option (Int32 × MSt)) (K3 : ∀ (u : MSt) (x1 : Int32) (x2 : Int32) (x3 : Int32) (x4 : Int32) (x5 : Int32) (x6 : Int32) (x7 : Int32), k3 u x1 x2 x3 x4 x5 x6 x7 = some rr → J l rmM_oneMore D G (0, 0) (wM cI o q u) [(0, .ref o), (1, .int x1), (2, .int x2), (3, .int x3), (4, .int x4), (5, .int x5), (6, .int x6), (7, .int x7)] [] 3) (u : MSt) (x1 : Int32) (x2 : Int32) (x3 : Int32) (x4 : Int32) (x5 : Int32) (x6 : Int32) (x7 : Int32) (hm : mM_oneMore_3 N k3 u x1 x2 x3 x4 x5 x6 x7 = some rr) : J l rmM_oneMore D G (0, 0) (wM cI o q u) [(0, .ref o), (1, .int x1), (2, .int x2), (3, .int x3), (4, .int x4), (5, .int x5), (6, .int x6), (7, .int x7)] [] 3 := by
  unfold mM_oneMore_3 at hm
  refine j_iload C dX11_oneMore_3 7 rfl ?_
  refine j_sipush (v := 488) C dX11_oneMore_5 (by decide) ?_
  refine j_icmp_geq (tgt := 25) C dX11_oneMore_8 (by decide) hm (fun hm => ?_) (fun hm => ?_)
  · refine j_aload_n C dX11_oneMore_25 rfl 0 rfl ?_
    refine j_iconst (v := 0) C dX11_oneMore_26 (by decide) ?_
    refine jM_p19 C dX11_oneMore_27 ?_
    refine j_nmu hm (w := wM cI o q) (fun u1 hm => ?_)
    refine j_bipush (v := 8) C dX11_oneMore_30 (by decide) ?_
    refine j_iload C dX11_oneMore_32 4 rfl ?_
    refine j_imul C dX11_oneMore_34 ?_
    refine j_iload_n C dX11_oneMore_35 rfl 2 rfl ?_
    refine j_iadd C dX11_oneMore_36 ?_
    refine j_nmi hm (fun v2 hm => ?_)
    refine j_istore C dX11_oneMore_37 (by decide) rfl ?_
    refine j_aload_n C dX11_oneMore_39 rfl 1 rfl ?_
    refine j_iload_n C dX11_oneMore_40 rfl 2 rfl ?_
    refine j_iload_n C dX11_oneMore_41 rfl 2 rfl ?_
    refine j_iconst (v := 0) C dX11_oneMore_42 (by decide) ?_
    refine j_bind hm (fun r3 hr3 hm => ?_)
    refine j_callV (cs' := (0, 0)) (As := [.int x1, .int x1, .int 0]) (rest := []) C (cM_comeTo hr3) wc_X11_comeTo wm_X11_196 wi_X11_comeTo ws_X11_comeTo wn_X11 wd_X11_comeTo ⟨by decide, by decide⟩ 0 rfl rfl rfl (Nat.le_of_ble_eq_true rfl) dX11_oneMore_43 ⟨by decide, by decide⟩ rfl rfl ?_
    refine j_iconst (v := 0) C dX11_oneMore_46 (by decide) ?_
    refine j_istore C dX11_oneMore_47 (by decide) rfl ?_
    exact J.sub [2, 3, 5, 6, 7, 8, 1, 0] rfl (kM_oneMore_h49 C hR N r3 x1 x3 x4 x5 x6 v2 0 hm)
  · refine j_aload_n C dX11_oneMore_11 rfl 0 rfl ?_
    refine jM_g16 C dX11_oneMore_12 ?_
    refine j_iload C dX11_oneMore_15 7 rfl ?_
    refine j_iconst (v := (-1)) C dX11_oneMore_17 (by decide) ?_
    refine jM_S16 C dX11_oneMore_18 hm (fun u5 hm => ?_)
    refine j_iinc (v := (x7 + 1)) C dX11_oneMore_19 7 rfl rfl (by decide) rfl ?_
    refine j_goto (tgt := 3) C dX11_oneMore_22 (by decide) ?_
    exact J.sub [1, 2, 3, 4, 5, 6, 7, 0] rfl (K3 u5 x1 x2 x3 x4 x5 x6 (x7 + 1) hm)
def mM_oneMore_h3 (N : Nat) : Nat → MSt → Int32 → Int32 → Int32 → Int32 → Int32 → Int32 → Int32 → Option (Int32 × MSt)
  | 0, _, _, _, _, _, _, _, _ => none
  | n + 1, u, x1, x2, x3, x4, x5, x6, x7 => mM_oneMore_3 N (mM_oneMore_h3 N n) u x1 x2 x3 x4 x5 x6 x7
theorem kM_oneMore_h3 {l : Launch} {D : va_G} {cI : ClassId} {o : Nat} {q : Nat → Nat} {G : Gx} {N : Nat} {rr : (Int32 × MSt)} (C : jC l rmM_oneMore D [(cI, .int)] G cX11_oneMore 9 RX11) (hR : jR D [(cI, .int)] G (0, 0) (some .boolean) (some (.int rr.1)) (wM cI o q rr.2))  : ∀ (n : Nat) (u : MSt) (x1 : Int32) (x2 : Int32) (x3 : Int32) (x4 : Int32) (x5 : Int32) (x6 : Int32) (x7 : Int32), mM_oneMore_h3 N n u x1 x2 x3 x4 x5 x6 x7 = some rr → J l rmM_oneMore D G (0, 0) (wM cI o q u) [(0, .ref o), (1, .int x1), (2, .int x2), (3, .int x3), (4, .int x4), (5, .int x5), (6, .int x6), (7, .int x7)] [] 3 := by
  intro n
  induction n with
  | zero =>
    intro u x1 x2 x3 x4 x5 x6 x7 hm
    have hm : (none : Option (Int32 × MSt)) = some rr := hm
    cases hm
  | succ n ih =>
    intro u x1 x2 x3 x4 x5 x6 x7 hm
    exact kM_oneMore_3 C hR _ ih u x1 x2 x3 x4 x5 x6 x7 hm
def mM_oneMore (N : Nat) (u : MSt) (x1 : Int32) (x2 : Int32) (x3 : Int32) (x4 : Int32) (x5 : Int32) (x6 : Int32) : Option (Int32 × MSt) := mM_oneMore_h3 N N u x1 x2 x3 x4 x5 x6 0
set_option maxRecDepth 100000 in
set_option maxHeartbeats 4000000 in
theorem cM_oneMore {l : Launch} {D : va_G} {cI : ClassId} {o : Nat} {q : Nat → Nat} {u : MSt} {N : Nat} {x1 : Int32} {x2 : Int32} {x3 : Int32} {x4 : Int32} {x5 : Int32} {x6 : Int32} {rr : (Int32 × MSt)} (hm : mM_oneMore N u x1 x2 x3 x4 x5 x6 = some rr) : Con l D [(cI, .int)] yX11_oneMore (wS yX11_oneMore cX11_oneMore 9 (some .boolean)) rmM_oneMore [.ref o, .int x1, .int x2, .int x3, .int x4, .int x5, .int x6] (wM cI o q u) (some (.int rr.1)) (wM cI o q rr.2) := by
  refine Con.of (by decide +kernel) (Nat.le_of_ble_eq_true rfl) (fun G C hR => ?_)
  unfold mM_oneMore at hm
  show J l rmM_oneMore D G (0, 0) (wM cI o q u) [(0, .ref o), (1, .int x1), (2, .int x2), (3, .int x3), (4, .int x4), (5, .int x5), (6, .int x6)] [] 0
  refine j_iconst (v := 0) C dX11_oneMore_0 (by decide) ?_
  refine j_istore C dX11_oneMore_1 (by decide) rfl ?_
  exact J.sub [1, 2, 3, 4, 5, 6, 7, 0] rfl (kM_oneMore_h3 C hR N u x1 x2 x3 x4 x5 x6 0 hm)
def rmM_crowd : Room := { frames := 8, cells := 0, slots := 0, locals := 197 }
theorem wd_X11_crowd : yX11_crowd.cls ≠ "java/lang/invoke/MethodHandle" ∧ yX11_crowd.cls ≠ "java/lang/invoke/VarHandle" ∧ (parseMethodDescriptor yX11_crowd.desc).map (fun d => d.parameters.length) = some 6 := by decide +kernel
def mM_crowd_14 (N : Nat) (u : MSt) : Option (Int32 × MSt) := some ((-101), u)
set_option maxRecDepth 100000 in
set_option maxHeartbeats 4000000 in
theorem kM_crowd_14 {l : Launch} {D : va_G} {cI : ClassId} {o : Nat} {q : Nat → Nat} {G : Gx} {N : Nat} {rr : (Int32 × MSt)} (C : jC l rmM_crowd D [(cI, .int)] G cX11_crowd 8 RX11) (hR : jR D [(cI, .int)] G (0, 0) (some .int) (some (.int rr.1)) (wM cI o q rr.2))  (u : MSt)  (hm : mM_crowd_14 N u = some rr) : J l rmM_crowd D G (0, 0) (wM cI o q u) [] [] 14 := by
  unfold mM_crowd_14 at hm
  refine j_bipush (v := (-101)) C dX11_crowd_14 (by decide) ?_
  cases hm
  exact j_iret C hR dX11_crowd_16
def mM_crowd_50 (N : Nat) (u : MSt) : Option (Int32 × MSt) := some ((-102), u)
set_option maxRecDepth 100000 in
set_option maxHeartbeats 4000000 in
theorem kM_crowd_50 {l : Launch} {D : va_G} {cI : ClassId} {o : Nat} {q : Nat → Nat} {G : Gx} {N : Nat} {rr : (Int32 × MSt)} (C : jC l rmM_crowd D [(cI, .int)] G cX11_crowd 8 RX11) (hR : jR D [(cI, .int)] G (0, 0) (some .int) (some (.int rr.1)) (wM cI o q rr.2))  (u : MSt)  (hm : mM_crowd_50 N u = some rr) : J l rmM_crowd D G (0, 0) (wM cI o q u) [] [] 50 := by
  unfold mM_crowd_50 at hm
  refine j_bipush (v := (-102)) C dX11_crowd_50 (by decide) ?_
  cases hm
  exact j_iret C hR dX11_crowd_52
def mM_crowd_122 (N : Nat) (k122 : MSt → Int32 → Int32 → Int32 → Int32 → Int32 → Int32 → Int32 → Option (Int32 × MSt)) (u : MSt) (x1 : Int32) (x2 : Int32) (x3 : Int32) (x4 : Int32) (x5 : Int32) (x6 : Int32) (x7 : Int32) : Option (Int32 × MSt) := bp (mM_oneMore N u x1 x2 x3 (x4 - x3) x5 x6) (fun r1 u2 => if r1 = 0 then (some (x7, u2)) else (k122 u2 x1 x2 x3 x4 x5 x6 (x7 + 1)))
set_option maxRecDepth 100000 in
set_option maxHeartbeats 4000000 in
theorem kM_crowd_122 {l : Launch} {D : va_G} {cI : ClassId} {o : Nat} {q : Nat → Nat} {G : Gx} {N : Nat} {rr : (Int32 × MSt)} (C : jC l rmM_crowd D [(cI, .int)] G cX11_crowd 8 RX11) (hR : jR D [(cI, .int)] G (0, 0) (some .int) (some (.int rr.1)) (wM cI o q rr.2)) (k122 : MSt → Int32 → Int32 → Int32 → Int32 → Int32 → Int32 → Int32 → Option (Int32 × MSt)) (K122 : ∀ (u : MSt) (x1 : Int32) (x2 : Int32) (x3 : Int32) (x4 : Int32) (x5 : Int32) (x6 : Int32) (x7 : Int32), k122 u x1 x2 x3 x4 x5 x6 x7 = some rr → J l rmM_crowd D G (0, 0) (wM cI o q u) [(0, .ref o), (1, .int x1), (2, .int x2), (3, .int x3), (4, .int x4), (5, .int x5), (6, .int x6), (7, .int x7)] [] 122) (u : MSt) (x1 : Int32) (x2 : Int32) (x3 : Int32) (x4 : Int32) (x5 : Int32) (x6 : Int32) (x7 : Int32) (hm : mM_crowd_122 N k122 u x1 x2 x3 x4 x5 x6 x7 = some rr) : J l rmM_crowd D G (0, 0) (wM cI o q u) [(0, .ref o), (1, .int x1), (2, .int x2), (3, .int x3), (4, .int x4), (5, .int x5), (6, .int x6), (7, .int x7)] [] 122 := by
  unfold mM_crowd_122 at hm
  refine j_aload_n C dX11_crowd_122 rfl 0 rfl ?_
  refine j_iload_n C dX11_crowd_123 rfl 1 rfl ?_
  refine j_iload_n C dX11_crowd_124 rfl 2 rfl ?_
  refine j_iload_n C dX11_crowd_125 rfl 3 rfl ?_
  refine j_iload C dX11_crowd_126 4 rfl ?_
  refine j_iload_n C dX11_crowd_128 rfl 3 rfl ?_
  refine j_isub C dX11_crowd_129 ?_
  refine j_iload C dX11_crowd_130 5 rfl ?_
  refine j_iload C dX11_crowd_132 6 rfl ?_
  refine j_bindp hm (fun r1 u2 hr1 hm => ?_)
  refine j_callV (cs' := (0, 0)) (As := [.int x1, .int x2, .int x3, .int (x4 - x3), .int x5, .int x6]) (rest := []) C (cM_oneMore hr1) wc_X11_oneMore wm_X11_207 wi_X11_oneMore ws_X11_oneMore wn_X11 wd_X11_oneMore ⟨by decide, by decide⟩ 0 rfl rfl rfl (Nat.le_of_ble_eq_true rfl) dX11_crowd_134 ⟨by decide, by decide⟩ rfl rfl ?_
  refine j_if_eqq (tgt := 146) C dX11_crowd_137 (by decide) hm (fun hm => ?_) (fun hm => ?_)
  · refine j_iload C dX11_crowd_146 7 rfl ?_
    cases hm
    exact j_iret C hR dX11_crowd_148
  · refine j_iinc (v := (x7 + 1)) C dX11_crowd_140 7 rfl rfl (by decide) rfl ?_
    refine j_goto (tgt := 122) C dX11_crowd_143 (by decide) ?_
    exact J.sub [1, 2, 3, 4, 5, 6, 7, 0] rfl (K122 u2 x1 x2 x3 x4 x5 x6 (x7 + 1) hm)
def mM_crowd_h122 (N : Nat) : Nat → MSt → Int32 → Int32 → Int32 → Int32 → Int32 → Int32 → Int32 → Option (Int32 × MSt)
  | 0, _, _, _, _, _, _, _, _ => none
  | n + 1, u, x1, x2, x3, x4, x5, x6, x7 => mM_crowd_122 N (mM_crowd_h122 N n) u x1 x2 x3 x4 x5 x6 x7
theorem kM_crowd_h122 {l : Launch} {D : va_G} {cI : ClassId} {o : Nat} {q : Nat → Nat} {G : Gx} {N : Nat} {rr : (Int32 × MSt)} (C : jC l rmM_crowd D [(cI, .int)] G cX11_crowd 8 RX11) (hR : jR D [(cI, .int)] G (0, 0) (some .int) (some (.int rr.1)) (wM cI o q rr.2))  : ∀ (n : Nat) (u : MSt) (x1 : Int32) (x2 : Int32) (x3 : Int32) (x4 : Int32) (x5 : Int32) (x6 : Int32) (x7 : Int32), mM_crowd_h122 N n u x1 x2 x3 x4 x5 x6 x7 = some rr → J l rmM_crowd D G (0, 0) (wM cI o q u) [(0, .ref o), (1, .int x1), (2, .int x2), (3, .int x3), (4, .int x4), (5, .int x5), (6, .int x6), (7, .int x7)] [] 122 := by
  intro n
  induction n with
  | zero =>
    intro u x1 x2 x3 x4 x5 x6 x7 hm
    have hm : (none : Option (Int32 × MSt)) = some rr := hm
    cases hm
  | succ n ih =>
    intro u x1 x2 x3 x4 x5 x6 x7 hm
    exact kM_crowd_122 C hR _ ih u x1 x2 x3 x4 x5 x6 x7 hm
def mM_crowd_89 (N : Nat) (k89 : MSt → Int32 → Int32 → Int32 → Int32 → Int32 → Int32 → Int32 → Option (Int32 × MSt)) (u : MSt) (x1 : Int32) (x2 : Int32) (x3 : Int32) (x4 : Int32) (x5 : Int32) (x6 : Int32) (x7 : Int32) : Option (Int32 × MSt) := if 610 ≤ x7 then (mM_crowd_h122 N N u x1 x2 x3 x4 x5 x6 0) else (wr 610 x7 (fun i1 => nm (saM u 14 i1 0) (fun u2 => wr 610 x7 (fun i3 => nm (saM u2 15 i3 0) (fun u4 => k89 u4 x1 x2 x3 x4 x5 x6 (x7 + 1))))))
set_option maxRecDepth 100000 in
set_option maxHeartbeats 4000000 in
theorem kM_crowd_89 {l : Launch} {D : va_G} {cI : ClassId} {o : Nat} {q : Nat → Nat} {G : Gx} {N : Nat} {rr : (Int32 × MSt)} (C : jC l rmM_crowd D [(cI, .int)] G cX11_crowd 8 RX11) (hR : jR D [(cI, .int)] G (0, 0) (some .int) (some (.int rr.1)) (wM cI o q rr.2)) (k89 : MSt → Int32 → Int32 → Int32 → Int32 → Int32 → Int32 → Int32 → Option (Int32 × MSt)) (K89 : ∀ (u : MSt) (x1 : Int32) (x2 : Int32) (x3 : Int32) (x4 : Int32) (x5 : Int32) (x6 : Int32) (x7 : Int32), k89 u x1 x2 x3 x4 x5 x6 x7 = some rr → J l rmM_crowd D G (0, 0) (wM cI o q u) [(0, .ref o), (1, .int x1), (2, .int x2), (3, .int x3), (4, .int x4), (5, .int x5), (6, .int x6), (7, .int x7)] [] 89) (u : MSt) (x1 : Int32) (x2 : Int32) (x3 : Int32) (x4 : Int32) (x5 : Int32) (x6 : Int32) (x7 : Int32) (hm : mM_crowd_89 N k89 u x1 x2 x3 x4 x5 x6 x7 = some rr) : J l rmM_crowd D G (0, 0) (wM cI o q u) [(0, .ref o), (1, .int x1), (2, .int x2), (3, .int x3), (4, .int x4), (5, .int x5), (6, .int x6), (7, .int x7)] [] 89 := by
  unfold mM_crowd_89 at hm
  refine j_iload C dX11_crowd_89 7 rfl ?_
  refine j_sipush (v := 610) C dX11_crowd_91 (by decide) ?_
  refine j_icmp_geq (tgt := 119) C dX11_crowd_94 (by decide) hm (fun hm => ?_) (fun hm => ?_)
  · refine j_iconst (v := 0) C dX11_crowd_119 (by decide) ?_
    refine j_istore C dX11_crowd_120 (by decide) rfl ?_
    exact J.sub [1, 2, 3, 4, 5, 6, 7, 0] rfl (kM_crowd_h122 C hR N u x1 x2 x3 x4 x5 x6 0 hm)
  · refine j_aload_n C dX11_crowd_97 rfl 0 rfl ?_
    refine jM_g14 C dX11_crowd_98 ?_
    refine j_iload C dX11_crowd_101 7 rfl ?_
    refine j_iconst (v := 0) C dX11_crowd_103 (by decide) ?_
    refine jM_S14 C dX11_crowd_104 hm (fun u2 hm => ?_)
    refine j_aload_n C dX11_crowd_105 rfl 0 rfl ?_
    refine jM_g15 C dX11_crowd_106 ?_
    refine j_iload C dX11_crowd_109 7 rfl ?_
    refine j_iconst (v := 0) C dX11_crowd_111 (by decide) ?_
    refine jM_S15 C dX11_crowd_112 hm (fun u4 hm => ?_)
    refine j_iinc (v := (x7 + 1)) C dX11_crowd_113 7 rfl rfl (by decide) rfl ?_
    refine j_goto (tgt := 89) C dX11_crowd_116 (by decide) ?_
    exact J.sub [1, 2, 3, 4, 5, 6, 7, 0] rfl (K89 u4 x1 x2 x3 x4 x5 x6 (x7 + 1) hm)
def mM_crowd_h89 (N : Nat) : Nat → MSt → Int32 → Int32 → Int32 → Int32 → Int32 → Int32 → Int32 → Option (Int32 × MSt)
  | 0, _, _, _, _, _, _, _, _ => none
  | n + 1, u, x1, x2, x3, x4, x5, x6, x7 => mM_crowd_89 N (mM_crowd_h89 N n) u x1 x2 x3 x4 x5 x6 x7
theorem kM_crowd_h89 {l : Launch} {D : va_G} {cI : ClassId} {o : Nat} {q : Nat → Nat} {G : Gx} {N : Nat} {rr : (Int32 × MSt)} (C : jC l rmM_crowd D [(cI, .int)] G cX11_crowd 8 RX11) (hR : jR D [(cI, .int)] G (0, 0) (some .int) (some (.int rr.1)) (wM cI o q rr.2))  : ∀ (n : Nat) (u : MSt) (x1 : Int32) (x2 : Int32) (x3 : Int32) (x4 : Int32) (x5 : Int32) (x6 : Int32) (x7 : Int32), mM_crowd_h89 N n u x1 x2 x3 x4 x5 x6 x7 = some rr → J l rmM_crowd D G (0, 0) (wM cI o q u) [(0, .ref o), (1, .int x1), (2, .int x2), (3, .int x3), (4, .int x4), (5, .int x5), (6, .int x6), (7, .int x7)] [] 89 := by
  intro n
  induction n with
  | zero =>
    intro u x1 x2 x3 x4 x5 x6 x7 hm
    have hm : (none : Option (Int32 × MSt)) = some rr := hm
    cases hm
  | succ n ih =>
    intro u x1 x2 x3 x4 x5 x6 x7 hm
    exact kM_crowd_89 C hR _ ih u x1 x2 x3 x4 x5 x6 x7 hm
def mM_crowd_64 (N : Nat) (k64 : MSt → Int32 → Int32 → Int32 → Int32 → Int32 → Int32 → Int32 → Option (Int32 × MSt)) (u : MSt) (x1 : Int32) (x2 : Int32) (x3 : Int32) (x4 : Int32) (x5 : Int32) (x6 : Int32) (x7 : Int32) : Option (Int32 × MSt) := if 488 ≤ x7 then (mM_crowd_h89 N N u x1 x2 x3 x4 x5 x6 0) else (wr 488 x7 (fun i1 => nm (saM u 13 i1 0) (fun u2 => k64 u2 x1 x2 x3 x4 x5 x6 (x7 + 1))))
set_option maxRecDepth 100000 in
set_option maxHeartbeats 4000000 in
theorem kM_crowd_64 {l : Launch} {D : va_G} {cI : ClassId} {o : Nat} {q : Nat → Nat} {G : Gx} {N : Nat} {rr : (Int32 × MSt)} (C : jC l rmM_crowd D [(cI, .int)] G cX11_crowd 8 RX11) (hR : jR D [(cI, .int)] G (0, 0) (some .int) (some (.int rr.1)) (wM cI o q rr.2)) (k64 : MSt → Int32 → Int32 → Int32 → Int32 → Int32 → Int32 → Int32 → Option (Int32 × MSt)) (K64 : ∀ (u : MSt) (x1 : Int32) (x2 : Int32) (x3 : Int32) (x4 : Int32) (x5 : Int32) (x6 : Int32) (x7 : Int32), k64 u x1 x2 x3 x4 x5 x6 x7 = some rr → J l rmM_crowd D G (0, 0) (wM cI o q u) [(0, .ref o), (1, .int x1), (2, .int x2), (3, .int x3), (4, .int x4), (5, .int x5), (6, .int x6), (7, .int x7)] [] 64) (u : MSt) (x1 : Int32) (x2 : Int32) (x3 : Int32) (x4 : Int32) (x5 : Int32) (x6 : Int32) (x7 : Int32) (hm : mM_crowd_64 N k64 u x1 x2 x3 x4 x5 x6 x7 = some rr) : J l rmM_crowd D G (0, 0) (wM cI o q u) [(0, .ref o), (1, .int x1), (2, .int x2), (3, .int x3), (4, .int x4), (5, .int x5), (6, .int x6), (7, .int x7)] [] 64 := by
  unfold mM_crowd_64 at hm
  refine j_iload C dX11_crowd_64 7 rfl ?_
  refine j_sipush (v := 488) C dX11_crowd_66 (by decide) ?_
  refine j_icmp_geq (tgt := 86) C dX11_crowd_69 (by decide) hm (fun hm => ?_) (fun hm => ?_)
  · refine j_iconst (v := 0) C dX11_crowd_86 (by decide) ?_
    refine j_istore C dX11_crowd_87 (by decide) rfl ?_
    exact J.sub [1, 2, 3, 4, 5, 6, 7, 0] rfl (kM_crowd_h89 C hR N u x1 x2 x3 x4 x5 x6 0 hm)
  · refine j_aload_n C dX11_crowd_72 rfl 0 rfl ?_
    refine jM_g13 C dX11_crowd_73 ?_
    refine j_iload C dX11_crowd_76 7 rfl ?_
    refine j_iconst (v := 0) C dX11_crowd_78 (by decide) ?_
    refine jM_S13 C dX11_crowd_79 hm (fun u2 hm => ?_)
    refine j_iinc (v := (x7 + 1)) C dX11_crowd_80 7 rfl rfl (by decide) rfl ?_
    refine j_goto (tgt := 64) C dX11_crowd_83 (by decide) ?_
    exact J.sub [1, 2, 3, 4, 5, 6, 7, 0] rfl (K64 u2 x1 x2 x3 x4 x5 x6 (x7 + 1) hm)
def mM_crowd_h64 (N : Nat) : Nat → MSt → Int32 → Int32 → Int32 → Int32 → Int32 → Int32 → Int32 → Option (Int32 × MSt)
  | 0, _, _, _, _, _, _, _, _ => none
  | n + 1, u, x1, x2, x3, x4, x5, x6, x7 => mM_crowd_64 N (mM_crowd_h64 N n) u x1 x2 x3 x4 x5 x6 x7
theorem kM_crowd_h64 {l : Launch} {D : va_G} {cI : ClassId} {o : Nat} {q : Nat → Nat} {G : Gx} {N : Nat} {rr : (Int32 × MSt)} (C : jC l rmM_crowd D [(cI, .int)] G cX11_crowd 8 RX11) (hR : jR D [(cI, .int)] G (0, 0) (some .int) (some (.int rr.1)) (wM cI o q rr.2))  : ∀ (n : Nat) (u : MSt) (x1 : Int32) (x2 : Int32) (x3 : Int32) (x4 : Int32) (x5 : Int32) (x6 : Int32) (x7 : Int32), mM_crowd_h64 N n u x1 x2 x3 x4 x5 x6 x7 = some rr → J l rmM_crowd D G (0, 0) (wM cI o q u) [(0, .ref o), (1, .int x1), (2, .int x2), (3, .int x3), (4, .int x4), (5, .int x5), (6, .int x6), (7, .int x7)] [] 64 := by
  intro n
  induction n with
  | zero =>
    intro u x1 x2 x3 x4 x5 x6 x7 hm
    have hm : (none : Option (Int32 × MSt)) = some rr := hm
    cases hm
  | succ n ih =>
    intro u x1 x2 x3 x4 x5 x6 x7 hm
    exact kM_crowd_64 C hR _ ih u x1 x2 x3 x4 x5 x6 x7 hm
def mM_crowd (N : Nat) (u : MSt) (x1 : Int32) (x2 : Int32) (x3 : Int32) (x4 : Int32) (x5 : Int32) (x6 : Int32) : Option (Int32 × MSt) := (mM_isIslet N x1).bind (fun r1 => if r1 = 0 then (mM_crowd_14 N u) else ((mM_isIslet N x2).bind (fun r2 => if ¬ r2 = 0 then ((mM_isMinute N x3).bind (fun r3 => if r3 = 0 then (mM_crowd_50 N u) else ((mM_in N (Int32.toInt64 x4) (Int32.toInt64 x3) (Int32.toInt64 (x3 + 60))).bind (fun r4 => if r4 = 0 then (mM_crowd_50 N u) else ((mM_isCarrier N x5 x6).bind (fun r5 => if ¬ r5 = 0 then (if ¬ x1 = x2 then (mM_crowd_h64 N N u x1 x2 x3 x4 x5 x6 0) else (some ((-103), u))) else (mM_crowd_50 N u))))))) else (mM_crowd_14 N u))))
set_option maxRecDepth 100000 in
set_option maxHeartbeats 4000000 in
theorem cM_crowd {l : Launch} {D : va_G} {cI : ClassId} {o : Nat} {q : Nat → Nat} {u : MSt} {N : Nat} {x1 : Int32} {x2 : Int32} {x3 : Int32} {x4 : Int32} {x5 : Int32} {x6 : Int32} {rr : (Int32 × MSt)} (hm : mM_crowd N u x1 x2 x3 x4 x5 x6 = some rr) : Con l D [(cI, .int)] yX11_crowd (wS yX11_crowd cX11_crowd 8 (some .int)) rmM_crowd [.ref o, .int x1, .int x2, .int x3, .int x4, .int x5, .int x6] (wM cI o q u) (some (.int rr.1)) (wM cI o q rr.2) := by
  refine Con.of (by decide +kernel) (Nat.le_of_ble_eq_true rfl) (fun G C hR => ?_)
  unfold mM_crowd at hm
  show J l rmM_crowd D G (0, 0) (wM cI o q u) [(0, .ref o), (1, .int x1), (2, .int x2), (3, .int x3), (4, .int x4), (5, .int x5), (6, .int x6)] [] 0
  refine j_iload_n C dX11_crowd_0 rfl 1 rfl ?_
  refine j_bind hm (fun r1 hr1 hm => ?_)
  refine j_callS (cs' := (0, 0)) (As := [.int x1]) (rest := []) C (cM_isIslet hr1) wc_X11_isIslet wm_X11_153 wt_X11_isIslet wn_X11 wd_X11_isIslet ⟨by decide, by decide⟩ rfl (Nat.le_of_ble_eq_true rfl) dX11_crowd_1 ⟨by decide, by decide⟩ rfl rfl ?_
  refine j_if_eqq (tgt := 14) C dX11_crowd_4 (by decide) hm (fun hm => ?_) (fun hm => ?_)
  · exact J.sub [] rfl (kM_crowd_14 C hR u hm)
  · refine j_iload_n C dX11_crowd_7 rfl 2 rfl ?_
    refine j_bind hm (fun r2 hr2 hm => ?_)
    refine j_callS (cs' := (0, 0)) (As := [.int x2]) (rest := []) C (cM_isIslet hr2) wc_X11_isIslet wm_X11_153 wt_X11_isIslet wn_X11 wd_X11_isIslet ⟨by decide, by decide⟩ rfl (Nat.le_of_ble_eq_true rfl) dX11_crowd_8 ⟨by decide, by decide⟩ rfl rfl ?_
    refine j_if_neq (tgt := 17) C dX11_crowd_11 (by decide) hm (fun hm => ?_) (fun hm => ?_)
    · refine j_iload_n C dX11_crowd_17 rfl 3 rfl ?_
      refine j_bind hm (fun r3 hr3 hm => ?_)
      refine j_callS (cs' := (0, 0)) (As := [.int x3]) (rest := []) C (cM_isMinute hr3) wc_X11_isMinute wm_X11_156 wt_X11_isMinute wn_X11 wd_X11_isMinute ⟨by decide, by decide⟩ rfl (Nat.le_of_ble_eq_true rfl) dX11_crowd_18 ⟨by decide, by decide⟩ rfl rfl ?_
      refine j_if_eqq (tgt := 50) C dX11_crowd_21 (by decide) hm (fun hm => ?_) (fun hm => ?_)
      · exact J.sub [] rfl (kM_crowd_50 C hR u hm)
      · refine j_iload C dX11_crowd_24 4 rfl ?_
        refine j_i2l C dX11_crowd_26 ?_
        refine j_iload_n C dX11_crowd_27 rfl 3 rfl ?_
        refine j_i2l C dX11_crowd_28 ?_
        refine j_iload_n C dX11_crowd_29 rfl 3 rfl ?_
        refine j_bipush (v := 60) C dX11_crowd_30 (by decide) ?_
        refine j_iadd C dX11_crowd_32 ?_
        refine j_i2l C dX11_crowd_33 ?_
        refine j_bind hm (fun r4 hr4 hm => ?_)
        refine j_callS (cs' := (0, 0)) (As := [.long (Int32.toInt64 x4), .long (Int32.toInt64 x3), .long (Int32.toInt64 (x3 + 60))]) (rest := []) C (cM_in hr4) wc_X11_in wm_X11_69 wt_X11_in wn_X11 wd_X11_in ⟨by decide, by decide⟩ rfl (Nat.le_of_ble_eq_true rfl) dX11_crowd_34 ⟨by decide, by decide⟩ rfl rfl ?_
        refine j_if_eqq (tgt := 50) C dX11_crowd_37 (by decide) hm (fun hm => ?_) (fun hm => ?_)
        · exact J.sub [] rfl (kM_crowd_50 C hR u hm)
        · refine j_iload C dX11_crowd_40 5 rfl ?_
          refine j_iload C dX11_crowd_42 6 rfl ?_
          refine j_bind hm (fun r5 hr5 hm => ?_)
          refine j_callS (cs' := (0, 0)) (As := [.int x5, .int x6]) (rest := []) C (cM_isCarrier hr5) wc_X11_isCarrier wm_X11_159 wt_X11_isCarrier wn_X11 wd_X11_isCarrier ⟨by decide, by decide⟩ rfl (Nat.le_of_ble_eq_true rfl) dX11_crowd_44 ⟨by decide, by decide⟩ rfl rfl ?_
          refine j_if_neq (tgt := 53) C dX11_crowd_47 (by decide) hm (fun hm => ?_) (fun hm => ?_)
          · refine j_iload_n C dX11_crowd_53 rfl 1 rfl ?_
            refine j_iload_n C dX11_crowd_54 rfl 2 rfl ?_
            refine j_icmp_neq (tgt := 61) C dX11_crowd_55 (by decide) hm (fun hm => ?_) (fun hm => ?_)
            · refine j_iconst (v := 0) C dX11_crowd_61 (by decide) ?_
              refine j_istore C dX11_crowd_62 (by decide) rfl ?_
              exact J.sub [1, 2, 3, 4, 5, 6, 7, 0] rfl (kM_crowd_h64 C hR N u x1 x2 x3 x4 x5 x6 0 hm)
            · refine j_bipush (v := (-103)) C dX11_crowd_58 (by decide) ?_
              cases hm
              exact j_iret C hR dX11_crowd_60
          · exact J.sub [] rfl (kM_crowd_50 C hR u hm)
    · exact J.sub [] rfl (kM_crowd_14 C hR u hm)
def rmM_stranded : Room := { frames := 7, cells := 0, slots := 0, locals := 170 }
theorem wd_X11_stranded : yX11_stranded.cls ≠ "java/lang/invoke/MethodHandle" ∧ yX11_stranded.cls ≠ "java/lang/invoke/VarHandle" ∧ (parseMethodDescriptor yX11_stranded.desc).map (fun d => d.parameters.length) = some 3 := by decide +kernel
def mM_stranded_15 (N : Nat) (u : MSt) : Option (Int32 × MSt) := some ((-101), u)
set_option maxRecDepth 100000 in
set_option maxHeartbeats 4000000 in
theorem kM_stranded_15 {l : Launch} {D : va_G} {cI : ClassId} {o : Nat} {q : Nat → Nat} {G : Gx} {N : Nat} {rr : (Int32 × MSt)} (C : jC l rmM_stranded D [(cI, .int)] G cX11_stranded 6 RX11) (hR : jR D [(cI, .int)] G (0, 0) (some .int) (some (.int rr.1)) (wM cI o q rr.2))  (u : MSt)  (hm : mM_stranded_15 N u = some rr) : J l rmM_stranded D G (0, 0) (wM cI o q u) [] [] 15 := by
  unfold mM_stranded_15 at hm
  refine j_bipush (v := (-101)) C dX11_stranded_15 (by decide) ?_
  cases hm
  exact j_iret C hR dX11_stranded_17
def mM_stranded_102 (N : Nat) (k73 : MSt → Int32 → Int32 → Option (Int32 × MSt)) (u : MSt) (x5 : Int32) (s0 : Int32) (s1 : Int32) : Option (Int32 × MSt) := nm (s1 ||| s0) (fun v1 => k73 u v1 (x5 + 1))
set_option maxRecDepth 100000 in
set_option maxHeartbeats 4000000 in
theorem kM_stranded_102 {l : Launch} {D : va_G} {cI : ClassId} {o : Nat} {q : Nat → Nat} {G : Gx} {N : Nat} {rr : (Int32 × MSt)} (C : jC l rmM_stranded D [(cI, .int)] G cX11_stranded 6 RX11) (hR : jR D [(cI, .int)] G (0, 0) (some .int) (some (.int rr.1)) (wM cI o q rr.2)) (k73 : MSt → Int32 → Int32 → Option (Int32 × MSt)) (K73 : ∀ (u : MSt) (x4 : Int32) (x5 : Int32), k73 u x4 x5 = some rr → J l rmM_stranded D G (0, 0) (wM cI o q u) [(0, .ref o), (4, .int x4), (5, .int x5)] [] 73) (u : MSt) (x5 : Int32) (s0 : Int32) (s1 : Int32) (hm : mM_stranded_102 N k73 u x5 s0 s1 = some rr) : J l rmM_stranded D G (0, 0) (wM cI o q u) [(0, .ref o), (5, .int x5)] [.int s0, .int s1] 102 := by
  unfold mM_stranded_102 at hm
  refine j_ior C dX11_stranded_102 ?_
  refine j_nmi hm (fun v1 hm => ?_)
  refine j_istore C dX11_stranded_103 (by decide) rfl ?_
  refine j_iinc (v := (x5 + 1)) C dX11_stranded_105 2 rfl rfl (by decide) rfl ?_
  refine j_goto (tgt := 73) C dX11_stranded_108 (by decide) ?_
  exact J.sub [2, 1, 0] rfl (K73 u v1 (x5 + 1) hm)
def mM_stranded_73 (N : Nat) (k73 : MSt → Int32 → Int32 → Option (Int32 × MSt)) (u : MSt) (x4 : Int32) (x5 : Int32) : Option (Int32 × MSt) := if 8 ≤ x5 then (some (x4, u)) else (rd (u.2.1 10) 8 x5 (fun a1 => if ¬ a1 = 100000 then (mM_stranded_102 N k73 u x5 0 x4) else (mM_stranded_102 N k73 u x5 (1 <<< (x5 &&& 31)) x4)))
set_option maxRecDepth 100000 in
set_option maxHeartbeats 4000000 in
theorem kM_stranded_73 {l : Launch} {D : va_G} {cI : ClassId} {o : Nat} {q : Nat → Nat} {G : Gx} {N : Nat} {rr : (Int32 × MSt)} (C : jC l rmM_stranded D [(cI, .int)] G cX11_stranded 6 RX11) (hR : jR D [(cI, .int)] G (0, 0) (some .int) (some (.int rr.1)) (wM cI o q rr.2)) (k73 : MSt → Int32 → Int32 → Option (Int32 × MSt)) (K73 : ∀ (u : MSt) (x4 : Int32) (x5 : Int32), k73 u x4 x5 = some rr → J l rmM_stranded D G (0, 0) (wM cI o q u) [(0, .ref o), (4, .int x4), (5, .int x5)] [] 73) (u : MSt) (x4 : Int32) (x5 : Int32) (hm : mM_stranded_73 N k73 u x4 x5 = some rr) : J l rmM_stranded D G (0, 0) (wM cI o q u) [(0, .ref o), (4, .int x4), (5, .int x5)] [] 73 := by
  unfold mM_stranded_73 at hm
  refine j_iload C dX11_stranded_73 2 rfl ?_
  refine j_bipush (v := 8) C dX11_stranded_75 (by decide) ?_
  refine j_icmp_geq (tgt := 111) C dX11_stranded_77 (by decide) hm (fun hm => ?_) (fun hm => ?_)
  · refine j_iload C dX11_stranded_111 1 rfl ?_
    cases hm
    exact j_iret C hR dX11_stranded_113
  · refine j_iload C dX11_stranded_80 1 rfl ?_
    refine j_aload_n C dX11_stranded_82 rfl 0 rfl ?_
    refine jM_g10 C dX11_stranded_83 ?_
    refine j_iload C dX11_stranded_86 2 rfl ?_
    refine jM_L10 C dX11_stranded_88 hm (fun a1 hm => ?_)
    refine j_ldc C dX11_stranded_89 wk_X11_142 ?_
    refine j_icmp_neq (tgt := 101) C dX11_stranded_91 (by decide) hm (fun hm => ?_) (fun hm => ?_)
    · refine j_iconst (v := 0) C dX11_stranded_101 (by decide) ?_
      exact J.sub [0, 2] rfl (kM_stranded_102 C hR k73 K73 u x5 0 x4 hm)
    · refine j_iconst (v := 1) C dX11_stranded_94 (by decide) ?_
      refine j_iload C dX11_stranded_95 2 rfl ?_
      refine j_ishl C dX11_stranded_97 ?_
      refine j_goto (tgt := 102) C dX11_stranded_98 (by decide) ?_
      exact J.sub [0, 2] rfl (kM_stranded_102 C hR k73 K73 u x5 (1 <<< (x5 &&& 31)) x4 hm)
def mM_stranded_h73 (N : Nat) : Nat → MSt → Int32 → Int32 → Option (Int32 × MSt)
  | 0, _, _, _ => none
  | n + 1, u, x4, x5 => mM_stranded_73 N (mM_stranded_h73 N n) u x4 x5
theorem kM_stranded_h73 {l : Launch} {D : va_G} {cI : ClassId} {o : Nat} {q : Nat → Nat} {G : Gx} {N : Nat} {rr : (Int32 × MSt)} (C : jC l rmM_stranded D [(cI, .int)] G cX11_stranded 6 RX11) (hR : jR D [(cI, .int)] G (0, 0) (some .int) (some (.int rr.1)) (wM cI o q rr.2))  : ∀ (n : Nat) (u : MSt) (x4 : Int32) (x5 : Int32), mM_stranded_h73 N n u x4 x5 = some rr → J l rmM_stranded D G (0, 0) (wM cI o q u) [(0, .ref o), (4, .int x4), (5, .int x5)] [] 73 := by
  intro n
  induction n with
  | zero =>
    intro u x4 x5 hm
    have hm : (none : Option (Int32 × MSt)) = some rr := hm
    cases hm
  | succ n ih =>
    intro u x4 x5 hm
    exact kM_stranded_73 C hR _ ih u x4 x5 hm
def mM_stranded (N : Nat) (u : MSt) (x1 : Int32) (x2 : Int32) (x3 : Int32) : Option (Int32 × MSt) := (mM_isBridge N u x1).bind (fun r1 => if r1 = 0 then (mM_stranded_15 N u) else ((mM_isIslet N x3).bind (fun r2 => if ¬ r2 = 0 then (rd (u.2.1 5) 100 ((10 * x1) + 2) (fun a3 => (mM_in N (Int32.toInt64 x2) 0 (Int32.toInt64 (a3 - 1))).bind (fun r4 => if ¬ r4 = 0 then (nm (siM u 8 x1) (fun u5 => nm (siM u5 9 x2) (fun u6 => (mM_layThere N u6 x3 0 1 1).bind (fun r7 => nm (siM r7 8 (-1)) (fun u8 => mM_stranded_h73 N N u8 0 0))))) else (some ((-102), u))))) else (mM_stranded_15 N u))))
set_option maxRecDepth 100000 in
set_option maxHeartbeats 4000000 in
theorem cM_stranded {l : Launch} {D : va_G} {cI : ClassId} {o : Nat} {q : Nat → Nat} {u : MSt} {N : Nat} {x1 : Int32} {x2 : Int32} {x3 : Int32} {rr : (Int32 × MSt)} (hm : mM_stranded N u x1 x2 x3 = some rr) : Con l D [(cI, .int)] yX11_stranded (wS yX11_stranded cX11_stranded 6 (some .int)) rmM_stranded [.ref o, .int x1, .int x2, .int x3] (wM cI o q u) (some (.int rr.1)) (wM cI o q rr.2) := by
  refine Con.of (by decide +kernel) (Nat.le_of_ble_eq_true rfl) (fun G C hR => ?_)
  unfold mM_stranded at hm
  show J l rmM_stranded D G (0, 0) (wM cI o q u) [(0, .ref o), (1, .int x1), (2, .int x2), (3, .int x3)] [] 0
  refine j_aload_n C dX11_stranded_0 rfl 0 rfl ?_
  refine j_iload_n C dX11_stranded_1 rfl 1 rfl ?_
  refine j_bind hm (fun r1 hr1 hm => ?_)
  refine j_callV (cs' := (0, 0)) (As := [.int x1]) (rest := []) C (cM_isBridge hr1) wc_X11_isBridge wm_X11_107 wi_X11_isBridge ws_X11_isBridge wn_X11 wd_X11_isBridge ⟨by decide, by decide⟩ 0 rfl rfl rfl (Nat.le_of_ble_eq_true rfl) dX11_stranded_2 ⟨by decide, by decide⟩ rfl rfl ?_
  refine j_if_eqq (tgt := 15) C dX11_stranded_5 (by decide) hm (fun hm => ?_) (fun hm => ?_)
  · exact J.sub [] rfl (kM_stranded_15 C hR u hm)
  · refine j_iload_n C dX11_stranded_8 rfl 3 rfl ?_
    refine j_bind hm (fun r2 hr2 hm => ?_)
    refine j_callS (cs' := (0, 0)) (As := [.int x3]) (rest := []) C (cM_isIslet hr2) wc_X11_isIslet wm_X11_153 wt_X11_isIslet wn_X11 wd_X11_isIslet ⟨by decide, by decide⟩ rfl (Nat.le_of_ble_eq_true rfl) dX11_stranded_9 ⟨by decide, by decide⟩ rfl rfl ?_
    refine j_if_neq (tgt := 18) C dX11_stranded_12 (by decide) hm (fun hm => ?_) (fun hm => ?_)
    · refine j_iload_n C dX11_stranded_18 rfl 2 rfl ?_
      refine j_i2l C dX11_stranded_19 ?_
      refine j_lconst (v := 0) C dX11_stranded_20 (by decide) ?_
      refine j_aload_n C dX11_stranded_21 rfl 0 rfl ?_
      refine jM_g5 C dX11_stranded_22 ?_
      refine j_bipush (v := 10) C dX11_stranded_25 (by decide) ?_
      refine j_iload_n C dX11_stranded_27 rfl 1 rfl ?_
      refine j_imul C dX11_stranded_28 ?_
      refine j_iconst (v := 2) C dX11_stranded_29 (by decide) ?_
      refine j_iadd C dX11_stranded_30 ?_
      refine jM_L5 C dX11_stranded_31 hm (fun a3 hm => ?_)
      refine j_iconst (v := 1) C dX11_stranded_32 (by decide) ?_
      refine j_isub C dX11_stranded_33 ?_
      refine j_i2l C dX11_stranded_34 ?_
      refine j_bind hm (fun r4 hr4 hm => ?_)
      refine j_callS (cs' := (0, 0)) (As := [.long (Int32.toInt64 x2), .long 0, .long (Int32.toInt64 (a3 - 1))]) (rest := []) C (cM_in hr4) wc_X11_in wm_X11_69 wt_X11_in wn_X11 wd_X11_in ⟨by decide, by decide⟩ rfl (Nat.le_of_ble_eq_true rfl) dX11_stranded_35 ⟨by decide, by decide⟩ rfl rfl ?_
      refine j_if_neq (tgt := 44) C dX11_stranded_38 (by decide) hm (fun hm => ?_) (fun hm => ?_)
      · refine j_aload_n C dX11_stranded_44 rfl 0 rfl ?_
        refine j_iload_n C dX11_stranded_45 rfl 1 rfl ?_
        refine jM_p8 C dX11_stranded_46 ?_
        refine j_nmu hm (w := wM cI o q) (fun u5 hm => ?_)
        refine j_aload_n C dX11_stranded_49 rfl 0 rfl ?_
        refine j_iload_n C dX11_stranded_50 rfl 2 rfl ?_
        refine jM_p9 C dX11_stranded_51 ?_
        refine j_nmu hm (w := wM cI o q) (fun u6 hm => ?_)
        refine j_aload_n C dX11_stranded_54 rfl 0 rfl ?_
        refine j_iload_n C dX11_stranded_55 rfl 3 rfl ?_
        refine j_iconst (v := 0) C dX11_stranded_56 (by decide) ?_
        refine j_iconst (v := 1) C dX11_stranded_57 (by decide) ?_
        refine j_iconst (v := 1) C dX11_stranded_58 (by decide) ?_
        refine j_bind hm (fun r7 hr7 hm => ?_)
        refine j_callV (cs' := (0, 0)) (As := [.int x3, .int 0, .int 1, .int 1]) (rest := []) C (cM_layThere hr7) wc_X11_layThere wm_X11_147 wi_X11_layThere ws_X11_layThere wn_X11 wd_X11_layThere ⟨by decide, by decide⟩ 0 rfl rfl rfl (Nat.le_of_ble_eq_true rfl) dX11_stranded_59 ⟨by decide, by decide⟩ rfl rfl ?_
        refine j_aload_n C dX11_stranded_62 rfl 0 rfl ?_
        refine j_iconst (v := (-1)) C dX11_stranded_63 (by decide) ?_
        refine jM_p8 C dX11_stranded_64 ?_
        refine j_nmu hm (w := wM cI o q) (fun u8 hm => ?_)
        refine j_iconst (v := 0) C dX11_stranded_67 (by decide) ?_
        refine j_istore C dX11_stranded_68 (by decide) rfl ?_
        refine j_iconst (v := 0) C dX11_stranded_70 (by decide) ?_
        refine j_istore C dX11_stranded_71 (by decide) rfl ?_
        exact J.sub [2, 1, 0] rfl (kM_stranded_h73 C hR N u8 0 0 hm)
      · refine j_bipush (v := (-102)) C dX11_stranded_41 (by decide) ?_
        cases hm
        exact j_iret C hR dX11_stranded_43
    · exact J.sub [] rfl (kM_stranded_15 C hR u hm)
