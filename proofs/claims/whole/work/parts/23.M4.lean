def rmM_meeting : Room := { frames := 7, cells := 0, slots := 0, locals := 170 }
theorem wd_X11_meeting : yX11_meeting.cls ≠ "java/lang/invoke/MethodHandle" ∧ yX11_meeting.cls ≠ "java/lang/invoke/VarHandle" ∧ (parseMethodDescriptor yX11_meeting.desc).map (fun d => d.parameters.length) = some 6 := by decide +kernel
def mM_meeting_14 (N : Nat) (u : MSt) : Option (Int32 × MSt) := some ((-101), u)
set_option maxRecDepth 100000 in
set_option maxHeartbeats 4000000 in
theorem kM_meeting_14 {l : Launch} {D : va_G} {cI : ClassId} {o : Nat} {q : Nat → Nat} {G : Gx} {N : Nat} {rr : (Int32 × MSt)} (C : jC l rmM_meeting D [(cI, .int)] G cX11_meeting 11 RX11) (hR : jR D [(cI, .int)] G (0, 0) (some .int) (some (.int rr.1)) (wM cI o q rr.2))  (u : MSt)  (hm : mM_meeting_14 N u = some rr) : J l rmM_meeting D G (0, 0) (wM cI o q u) [] [] 14 := by
  unfold mM_meeting_14 at hm
  refine j_bipush (v := (-101)) C dX11_meeting_14 (by decide) ?_
  cases hm
  exact j_iret C hR dX11_meeting_16
def mM_meeting_45 (N : Nat) (u : MSt) : Option (Int32 × MSt) := some ((-102), u)
set_option maxRecDepth 100000 in
set_option maxHeartbeats 4000000 in
theorem kM_meeting_45 {l : Launch} {D : va_G} {cI : ClassId} {o : Nat} {q : Nat → Nat} {G : Gx} {N : Nat} {rr : (Int32 × MSt)} (C : jC l rmM_meeting D [(cI, .int)] G cX11_meeting 11 RX11) (hR : jR D [(cI, .int)] G (0, 0) (some .int) (some (.int rr.1)) (wM cI o q rr.2))  (u : MSt)  (hm : mM_meeting_45 N u = some rr) : J l rmM_meeting D G (0, 0) (wM cI o q u) [] [] 45 := by
  unfold mM_meeting_45 at hm
  refine j_bipush (v := (-102)) C dX11_meeting_45 (by decide) ?_
  cases hm
  exact j_iret C hR dX11_meeting_47
def mM_meeting_181 (N : Nat) (k108 : MSt → Int32 → Int32 → Int32 → Int32 → Option (Int32 × MSt)) (u : MSt) (x6 : Int32) (x7 : Int32) (x9 : Int32) (s0 : Int32) : Option (Int32 × MSt) := k108 u x6 x7 s0 (x9 + 1)
set_option maxRecDepth 100000 in
set_option maxHeartbeats 4000000 in
theorem kM_meeting_181 {l : Launch} {D : va_G} {cI : ClassId} {o : Nat} {q : Nat → Nat} {G : Gx} {N : Nat} {rr : (Int32 × MSt)} (C : jC l rmM_meeting D [(cI, .int)] G cX11_meeting 11 RX11) (hR : jR D [(cI, .int)] G (0, 0) (some .int) (some (.int rr.1)) (wM cI o q rr.2)) (k108 : MSt → Int32 → Int32 → Int32 → Int32 → Option (Int32 × MSt)) (K108 : ∀ (u : MSt) (x6 : Int32) (x7 : Int32) (x8 : Int32) (x9 : Int32), k108 u x6 x7 x8 x9 = some rr → J l rmM_meeting D G (0, 0) (wM cI o q u) [(0, .ref o), (6, .int x6), (7, .int x7), (8, .int x8), (9, .int x9)] [] 108) (u : MSt) (x6 : Int32) (x7 : Int32) (x9 : Int32) (s0 : Int32) (hm : mM_meeting_181 N k108 u x6 x7 x9 s0 = some rr) : J l rmM_meeting D G (0, 0) (wM cI o q u) [(0, .ref o), (6, .int x6), (7, .int x7), (9, .int x9)] [.int s0] 181 := by
  unfold mM_meeting_181 at hm
  refine j_istore C dX11_meeting_181 (by decide) rfl ?_
  refine j_iinc (v := (x9 + 1)) C dX11_meeting_183 4 rfl rfl (by decide) rfl ?_
  refine j_goto (tgt := 108) C dX11_meeting_186 (by decide) ?_
  exact J.sub [2, 3, 4, 1, 0] rfl (K108 u x6 x7 s0 (x9 + 1) hm)
def mM_meeting_165 (N : Nat) (k108 : MSt → Int32 → Int32 → Int32 → Int32 → Option (Int32 × MSt)) (u : MSt) (x6 : Int32) (x8 : Int32) (x9 : Int32) (x10 : Int32) (s0 : Int32) : Option (Int32 × MSt) := if x8 ≤ x10 then (mM_meeting_181 N k108 u x6 s0 x9 x8) else (mM_meeting_181 N k108 u x6 s0 x9 x10)
set_option maxRecDepth 100000 in
set_option maxHeartbeats 4000000 in
theorem kM_meeting_165 {l : Launch} {D : va_G} {cI : ClassId} {o : Nat} {q : Nat → Nat} {G : Gx} {N : Nat} {rr : (Int32 × MSt)} (C : jC l rmM_meeting D [(cI, .int)] G cX11_meeting 11 RX11) (hR : jR D [(cI, .int)] G (0, 0) (some .int) (some (.int rr.1)) (wM cI o q rr.2)) (k108 : MSt → Int32 → Int32 → Int32 → Int32 → Option (Int32 × MSt)) (K108 : ∀ (u : MSt) (x6 : Int32) (x7 : Int32) (x8 : Int32) (x9 : Int32), k108 u x6 x7 x8 x9 = some rr → J l rmM_meeting D G (0, 0) (wM cI o q u) [(0, .ref o), (6, .int x6), (7, .int x7), (8, .int x8), (9, .int x9)] [] 108) (u : MSt) (x6 : Int32) (x8 : Int32) (x9 : Int32) (x10 : Int32) (s0 : Int32) (hm : mM_meeting_165 N k108 u x6 x8 x9 x10 s0 = some rr) : J l rmM_meeting D G (0, 0) (wM cI o q u) [(0, .ref o), (6, .int x6), (8, .int x8), (9, .int x9), (10, .int x10)] [.int s0] 165 := by
  unfold mM_meeting_165 at hm
  refine j_istore C dX11_meeting_165 (by decide) rfl ?_
  refine j_iload C dX11_meeting_167 5 rfl ?_
  refine j_iload C dX11_meeting_169 3 rfl ?_
  refine j_icmp_geq (tgt := 179) C dX11_meeting_171 (by decide) hm (fun hm => ?_) (fun hm => ?_)
  · refine j_iload C dX11_meeting_179 3 rfl ?_
    exact J.sub [1, 2, 0, 4] rfl (kM_meeting_181 C hR k108 K108 u x6 s0 x9 x8 hm)
  · refine j_iload C dX11_meeting_174 5 rfl ?_
    refine j_goto (tgt := 181) C dX11_meeting_176 (by decide) ?_
    exact J.sub [1, 2, 0, 4] rfl (kM_meeting_181 C hR k108 K108 u x6 s0 x9 x10 hm)
def mM_meeting_149 (N : Nat) (k108 : MSt → Int32 → Int32 → Int32 → Int32 → Option (Int32 × MSt)) (u : MSt) (x6 : Int32) (x7 : Int32) (x8 : Int32) (x9 : Int32) (s0 : Int32) : Option (Int32 × MSt) := if x8 ≤ s0 then (mM_meeting_165 N k108 u x6 x8 x9 s0 x7) else (mM_meeting_165 N k108 u x6 x8 x9 s0 x9)
set_option maxRecDepth 100000 in
set_option maxHeartbeats 4000000 in
theorem kM_meeting_149 {l : Launch} {D : va_G} {cI : ClassId} {o : Nat} {q : Nat → Nat} {G : Gx} {N : Nat} {rr : (Int32 × MSt)} (C : jC l rmM_meeting D [(cI, .int)] G cX11_meeting 11 RX11) (hR : jR D [(cI, .int)] G (0, 0) (some .int) (some (.int rr.1)) (wM cI o q rr.2)) (k108 : MSt → Int32 → Int32 → Int32 → Int32 → Option (Int32 × MSt)) (K108 : ∀ (u : MSt) (x6 : Int32) (x7 : Int32) (x8 : Int32) (x9 : Int32), k108 u x6 x7 x8 x9 = some rr → J l rmM_meeting D G (0, 0) (wM cI o q u) [(0, .ref o), (6, .int x6), (7, .int x7), (8, .int x8), (9, .int x9)] [] 108) (u : MSt) (x6 : Int32) (x7 : Int32) (x8 : Int32) (x9 : Int32) (s0 : Int32) (hm : mM_meeting_149 N k108 u x6 x7 x8 x9 s0 = some rr) : J l rmM_meeting D G (0, 0) (wM cI o q u) [(0, .ref o), (6, .int x6), (7, .int x7), (8, .int x8), (9, .int x9)] [.int s0] 149 := by
  unfold mM_meeting_149 at hm
  refine j_istore C dX11_meeting_149 (by decide) rfl ?_
  refine j_iload C dX11_meeting_151 0 rfl ?_
  refine j_iload C dX11_meeting_153 4 rfl ?_
  refine j_icmp_geq (tgt := 163) C dX11_meeting_155 (by decide) hm (fun hm => ?_) (fun hm => ?_)
  · refine j_iload C dX11_meeting_163 3 rfl ?_
    exact J.sub [1, 2, 4, 5, 0] rfl (kM_meeting_165 C hR k108 K108 u x6 x8 x9 s0 x7 hm)
  · refine j_iload C dX11_meeting_158 5 rfl ?_
    refine j_goto (tgt := 165) C dX11_meeting_160 (by decide) ?_
    exact J.sub [1, 2, 4, 5, 0] rfl (kM_meeting_165 C hR k108 K108 u x6 x8 x9 s0 x9 hm)
def mM_meeting_207 (N : Nat) (u : MSt) (s0 : Int32) : Option (Int32 × MSt) := some (s0, u)
set_option maxRecDepth 100000 in
set_option maxHeartbeats 4000000 in
theorem kM_meeting_207 {l : Launch} {D : va_G} {cI : ClassId} {o : Nat} {q : Nat → Nat} {G : Gx} {N : Nat} {rr : (Int32 × MSt)} (C : jC l rmM_meeting D [(cI, .int)] G cX11_meeting 11 RX11) (hR : jR D [(cI, .int)] G (0, 0) (some .int) (some (.int rr.1)) (wM cI o q rr.2))  (u : MSt) (s0 : Int32) (hm : mM_meeting_207 N u s0 = some rr) : J l rmM_meeting D G (0, 0) (wM cI o q u) [] [.int s0] 207 := by
  unfold mM_meeting_207 at hm
  cases hm
  exact j_iret C hR dX11_meeting_207
def mM_meeting_200 (N : Nat) (u : MSt) (x7 : Int32) : Option (Int32 × MSt) := mM_meeting_207 N u x7
set_option maxRecDepth 100000 in
set_option maxHeartbeats 4000000 in
theorem kM_meeting_200 {l : Launch} {D : va_G} {cI : ClassId} {o : Nat} {q : Nat → Nat} {G : Gx} {N : Nat} {rr : (Int32 × MSt)} (C : jC l rmM_meeting D [(cI, .int)] G cX11_meeting 11 RX11) (hR : jR D [(cI, .int)] G (0, 0) (some .int) (some (.int rr.1)) (wM cI o q rr.2))  (u : MSt) (x7 : Int32) (hm : mM_meeting_200 N u x7 = some rr) : J l rmM_meeting D G (0, 0) (wM cI o q u) [(7, .int x7)] [] 200 := by
  unfold mM_meeting_200 at hm
  refine j_iload C dX11_meeting_200 0 rfl ?_
  refine j_goto (tgt := 207) C dX11_meeting_202 (by decide) ?_
  exact J.sub [] rfl (kM_meeting_207 C hR u x7 hm)
def mM_meeting_108 (N : Nat) (k108 : MSt → Int32 → Int32 → Int32 → Int32 → Option (Int32 × MSt)) (u : MSt) (x6 : Int32) (x7 : Int32) (x8 : Int32) (x9 : Int32) : Option (Int32 × MSt) := if 8 ≤ x9 then (if x7 = (-1) then (mM_meeting_200 N u x7) else (if ¬ x6 = 0 then (mM_meeting_207 N u x8) else (mM_meeting_200 N u x7))) else (rd (u.2.1 10) 8 x9 (fun a1 => rd (u.2.1 20) 8 x9 (fun a2 => if a1 ≤ a2 then (rd (u.2.1 20) 8 x9 (fun a3 => mM_meeting_149 N k108 u x6 x7 x8 x9 a3)) else (rd (u.2.1 10) 8 x9 (fun a4 => mM_meeting_149 N k108 u x6 x7 x8 x9 a4)))))
set_option maxRecDepth 100000 in
set_option maxHeartbeats 4000000 in
theorem kM_meeting_108 {l : Launch} {D : va_G} {cI : ClassId} {o : Nat} {q : Nat → Nat} {G : Gx} {N : Nat} {rr : (Int32 × MSt)} (C : jC l rmM_meeting D [(cI, .int)] G cX11_meeting 11 RX11) (hR : jR D [(cI, .int)] G (0, 0) (some .int) (some (.int rr.1)) (wM cI o q rr.2)) (k108 : MSt → Int32 → Int32 → Int32 → Int32 → Option (Int32 × MSt)) (K108 : ∀ (u : MSt) (x6 : Int32) (x7 : Int32) (x8 : Int32) (x9 : Int32), k108 u x6 x7 x8 x9 = some rr → J l rmM_meeting D G (0, 0) (wM cI o q u) [(0, .ref o), (6, .int x6), (7, .int x7), (8, .int x8), (9, .int x9)] [] 108) (u : MSt) (x6 : Int32) (x7 : Int32) (x8 : Int32) (x9 : Int32) (hm : mM_meeting_108 N k108 u x6 x7 x8 x9 = some rr) : J l rmM_meeting D G (0, 0) (wM cI o q u) [(0, .ref o), (6, .int x6), (7, .int x7), (8, .int x8), (9, .int x9)] [] 108 := by
  unfold mM_meeting_108 at hm
  refine j_iload C dX11_meeting_108 4 rfl ?_
  refine j_bipush (v := 8) C dX11_meeting_110 (by decide) ?_
  refine j_icmp_geq (tgt := 189) C dX11_meeting_112 (by decide) hm (fun hm => ?_) (fun hm => ?_)
  · refine j_iload C dX11_meeting_189 2 rfl ?_
    refine j_iconst (v := (-1)) C dX11_meeting_191 (by decide) ?_
    refine j_icmp_eqq (tgt := 200) C dX11_meeting_192 (by decide) hm (fun hm => ?_) (fun hm => ?_)
    · exact J.sub [2] rfl (kM_meeting_200 C hR u x7 hm)
    · refine j_iload C dX11_meeting_195 1 rfl ?_
      refine j_if_neq (tgt := 205) C dX11_meeting_197 (by decide) hm (fun hm => ?_) (fun hm => ?_)
      · refine j_iload C dX11_meeting_205 3 rfl ?_
        exact J.sub [] rfl (kM_meeting_207 C hR u x8 hm)
      · exact J.sub [2] rfl (kM_meeting_200 C hR u x7 hm)
  · refine j_aload_n C dX11_meeting_115 rfl 0 rfl ?_
    refine jM_g10 C dX11_meeting_116 ?_
    refine j_iload C dX11_meeting_119 4 rfl ?_
    refine jM_L10 C dX11_meeting_121 hm (fun a1 hm => ?_)
    refine j_aload_n C dX11_meeting_122 rfl 0 rfl ?_
    refine jM_g20 C dX11_meeting_123 ?_
    refine j_iload C dX11_meeting_126 4 rfl ?_
    refine jM_L20 C dX11_meeting_128 hm (fun a2 hm => ?_)
    refine j_icmp_leq (tgt := 142) C dX11_meeting_129 (by decide) hm (fun hm => ?_) (fun hm => ?_)
    · refine j_aload_n C dX11_meeting_142 rfl 0 rfl ?_
      refine jM_g20 C dX11_meeting_143 ?_
      refine j_iload C dX11_meeting_146 4 rfl ?_
      refine jM_L20 C dX11_meeting_148 hm (fun a3 hm => ?_)
      exact kM_meeting_149 C hR k108 K108 u x6 x7 x8 x9 a3 hm
    · refine j_aload_n C dX11_meeting_132 rfl 0 rfl ?_
      refine jM_g10 C dX11_meeting_133 ?_
      refine j_iload C dX11_meeting_136 4 rfl ?_
      refine jM_L10 C dX11_meeting_138 hm (fun a4 hm => ?_)
      refine j_goto (tgt := 149) C dX11_meeting_139 (by decide) ?_
      exact kM_meeting_149 C hR k108 K108 u x6 x7 x8 x9 a4 hm
def mM_meeting_h108 (N : Nat) : Nat → MSt → Int32 → Int32 → Int32 → Int32 → Option (Int32 × MSt)
  | 0, _, _, _, _, _ => none
  | n + 1, u, x6, x7, x8, x9 => mM_meeting_108 N (mM_meeting_h108 N n) u x6 x7 x8 x9
theorem kM_meeting_h108 {l : Launch} {D : va_G} {cI : ClassId} {o : Nat} {q : Nat → Nat} {G : Gx} {N : Nat} {rr : (Int32 × MSt)} (C : jC l rmM_meeting D [(cI, .int)] G cX11_meeting 11 RX11) (hR : jR D [(cI, .int)] G (0, 0) (some .int) (some (.int rr.1)) (wM cI o q rr.2))  : ∀ (n : Nat) (u : MSt) (x6 : Int32) (x7 : Int32) (x8 : Int32) (x9 : Int32), mM_meeting_h108 N n u x6 x7 x8 x9 = some rr → J l rmM_meeting D G (0, 0) (wM cI o q u) [(0, .ref o), (6, .int x6), (7, .int x7), (8, .int x8), (9, .int x9)] [] 108 := by
  intro n
  induction n with
  | zero =>
    intro u x6 x7 x8 x9 hm
    have hm : (none : Option (Int32 × MSt)) = some rr := hm
    cases hm
  | succ n ih =>
    intro u x6 x7 x8 x9 hm
    exact kM_meeting_108 C hR _ ih u x6 x7 x8 x9 hm
def mM_meeting_61 (N : Nat) (k61 : MSt → Int32 → Int32 → Int32 → Int32 → Int32 → Int32 → Option (Int32 × MSt)) (u : MSt) (x2 : Int32) (x3 : Int32) (x4 : Int32) (x5 : Int32) (x6 : Int32) (x7 : Int32) : Option (Int32 × MSt) := if 8 ≤ x7 then ((mM_layThere N u x2 x3 x4 x5).bind (fun r1 => mM_meeting_h108 N N r1 x6 (-1) 100000 0)) else (rd (u.2.1 10) 8 x7 (fun a2 => wr 8 x7 (fun i3 => nm (saM u 20 i3 a2) (fun u4 => k61 u4 x2 x3 x4 x5 x6 (x7 + 1)))))
set_option maxRecDepth 100000 in
set_option maxHeartbeats 4000000 in
theorem kM_meeting_61 {l : Launch} {D : va_G} {cI : ClassId} {o : Nat} {q : Nat → Nat} {G : Gx} {N : Nat} {rr : (Int32 × MSt)} (C : jC l rmM_meeting D [(cI, .int)] G cX11_meeting 11 RX11) (hR : jR D [(cI, .int)] G (0, 0) (some .int) (some (.int rr.1)) (wM cI o q rr.2)) (k61 : MSt → Int32 → Int32 → Int32 → Int32 → Int32 → Int32 → Option (Int32 × MSt)) (K61 : ∀ (u : MSt) (x2 : Int32) (x3 : Int32) (x4 : Int32) (x5 : Int32) (x6 : Int32) (x7 : Int32), k61 u x2 x3 x4 x5 x6 x7 = some rr → J l rmM_meeting D G (0, 0) (wM cI o q u) [(0, .ref o), (2, .int x2), (3, .int x3), (4, .int x4), (5, .int x5), (6, .int x6), (7, .int x7)] [] 61) (u : MSt) (x2 : Int32) (x3 : Int32) (x4 : Int32) (x5 : Int32) (x6 : Int32) (x7 : Int32) (hm : mM_meeting_61 N k61 u x2 x3 x4 x5 x6 x7 = some rr) : J l rmM_meeting D G (0, 0) (wM cI o q u) [(0, .ref o), (2, .int x2), (3, .int x3), (4, .int x4), (5, .int x5), (6, .int x6), (7, .int x7)] [] 61 := by
  unfold mM_meeting_61 at hm
  refine j_iload C dX11_meeting_61 6 rfl ?_
  refine j_bipush (v := 8) C dX11_meeting_63 (by decide) ?_
  refine j_icmp_geq (tgt := 88) C dX11_meeting_65 (by decide) hm (fun hm => ?_) (fun hm => ?_)
  · refine j_aload_n C dX11_meeting_88 rfl 0 rfl ?_
    refine j_iload_n C dX11_meeting_89 rfl 1 rfl ?_
    refine j_iload_n C dX11_meeting_90 rfl 2 rfl ?_
    refine j_iload C dX11_meeting_91 3 rfl ?_
    refine j_iload C dX11_meeting_93 4 rfl ?_
    refine j_bind hm (fun r1 hr1 hm => ?_)
    refine j_callV (cs' := (0, 0)) (As := [.int x2, .int x3, .int x4, .int x5]) (rest := []) C (cM_layThere hr1) wc_X11_layThere wm_X11_147 wi_X11_layThere ws_X11_layThere wn_X11 wd_X11_layThere ⟨by decide, by decide⟩ 0 rfl rfl rfl (Nat.le_of_ble_eq_true rfl) dX11_meeting_95 ⟨by decide, by decide⟩ rfl rfl ?_
    refine j_iconst (v := (-1)) C dX11_meeting_98 (by decide) ?_
    refine j_istore C dX11_meeting_99 (by decide) rfl ?_
    refine j_ldc C dX11_meeting_101 wk_X11_142 ?_
    refine j_istore C dX11_meeting_103 (by decide) rfl ?_
    refine j_iconst (v := 0) C dX11_meeting_105 (by decide) ?_
    refine j_istore C dX11_meeting_106 (by decide) rfl ?_
    exact J.sub [3, 8, 2, 1, 0] rfl (kM_meeting_h108 C hR N r1 x6 (-1) 100000 0 hm)
  · refine j_aload_n C dX11_meeting_68 rfl 0 rfl ?_
    refine jM_g20 C dX11_meeting_69 ?_
    refine j_iload C dX11_meeting_72 6 rfl ?_
    refine j_aload_n C dX11_meeting_74 rfl 0 rfl ?_
    refine jM_g10 C dX11_meeting_75 ?_
    refine j_iload C dX11_meeting_78 6 rfl ?_
    refine jM_L10 C dX11_meeting_80 hm (fun a2 hm => ?_)
    refine jM_S20 C dX11_meeting_81 hm (fun u4 hm => ?_)
    refine j_iinc (v := (x7 + 1)) C dX11_meeting_82 6 rfl rfl (by decide) rfl ?_
    refine j_goto (tgt := 61) C dX11_meeting_85 (by decide) ?_
    exact J.sub [1, 2, 3, 4, 5, 6, 0] rfl (K61 u4 x2 x3 x4 x5 x6 (x7 + 1) hm)
def mM_meeting_h61 (N : Nat) : Nat → MSt → Int32 → Int32 → Int32 → Int32 → Int32 → Int32 → Option (Int32 × MSt)
  | 0, _, _, _, _, _, _, _ => none
  | n + 1, u, x2, x3, x4, x5, x6, x7 => mM_meeting_61 N (mM_meeting_h61 N n) u x2 x3 x4 x5 x6 x7
theorem kM_meeting_h61 {l : Launch} {D : va_G} {cI : ClassId} {o : Nat} {q : Nat → Nat} {G : Gx} {N : Nat} {rr : (Int32 × MSt)} (C : jC l rmM_meeting D [(cI, .int)] G cX11_meeting 11 RX11) (hR : jR D [(cI, .int)] G (0, 0) (some .int) (some (.int rr.1)) (wM cI o q rr.2))  : ∀ (n : Nat) (u : MSt) (x2 : Int32) (x3 : Int32) (x4 : Int32) (x5 : Int32) (x6 : Int32) (x7 : Int32), mM_meeting_h61 N n u x2 x3 x4 x5 x6 x7 = some rr → J l rmM_meeting D G (0, 0) (wM cI o q u) [(0, .ref o), (2, .int x2), (3, .int x3), (4, .int x4), (5, .int x5), (6, .int x6), (7, .int x7)] [] 61 := by
  intro n
  induction n with
  | zero =>
    intro u x2 x3 x4 x5 x6 x7 hm
    have hm : (none : Option (Int32 × MSt)) = some rr := hm
    cases hm
  | succ n ih =>
    intro u x2 x3 x4 x5 x6 x7 hm
    exact kM_meeting_61 C hR _ ih u x2 x3 x4 x5 x6 x7 hm
def mM_meeting (N : Nat) (u : MSt) (x1 : Int32) (x2 : Int32) (x3 : Int32) (x4 : Int32) (x5 : Int32) (x6 : Int32) : Option (Int32 × MSt) := (mM_isIslet N x1).bind (fun r1 => if r1 = 0 then (mM_meeting_14 N u) else ((mM_isIslet N x2).bind (fun r2 => if ¬ r2 = 0 then ((mM_isMinute N x3).bind (fun r3 => if r3 = 0 then (mM_meeting_45 N u) else ((mM_isCarrier N x4 x5).bind (fun r4 => if r4 = 0 then (mM_meeting_45 N u) else ((mM_in N (Int32.toInt64 x6) 0 1).bind (fun r5 => if ¬ r5 = 0 then ((mM_layThere N u x1 x3 x4 x5).bind (fun r6 => mM_meeting_h61 N N r6 x2 x3 x4 x5 x6 0)) else (mM_meeting_45 N u))))))) else (mM_meeting_14 N u))))
set_option maxRecDepth 100000 in
set_option maxHeartbeats 4000000 in
theorem cM_meeting {l : Launch} {D : va_G} {cI : ClassId} {o : Nat} {q : Nat → Nat} {u : MSt} {N : Nat} {x1 : Int32} {x2 : Int32} {x3 : Int32} {x4 : Int32} {x5 : Int32} {x6 : Int32} {rr : (Int32 × MSt)} (hm : mM_meeting N u x1 x2 x3 x4 x5 x6 = some rr) : Con l D [(cI, .int)] yX11_meeting (wS yX11_meeting cX11_meeting 11 (some .int)) rmM_meeting [.ref o, .int x1, .int x2, .int x3, .int x4, .int x5, .int x6] (wM cI o q u) (some (.int rr.1)) (wM cI o q rr.2) := by
  refine Con.of (by decide +kernel) (Nat.le_of_ble_eq_true rfl) (fun G C hR => ?_)
  unfold mM_meeting at hm
  show J l rmM_meeting D G (0, 0) (wM cI o q u) [(0, .ref o), (1, .int x1), (2, .int x2), (3, .int x3), (4, .int x4), (5, .int x5), (6, .int x6)] [] 0
  refine j_iload_n C dX11_meeting_0 rfl 1 rfl ?_
  refine j_bind hm (fun r1 hr1 hm => ?_)
  refine j_callS (cs' := (0, 0)) (As := [.int x1]) (rest := []) C (cM_isIslet hr1) wc_X11_isIslet wm_X11_153 wt_X11_isIslet wn_X11 wd_X11_isIslet ⟨by decide, by decide⟩ rfl (Nat.le_of_ble_eq_true rfl) dX11_meeting_1 ⟨by decide, by decide⟩ rfl rfl ?_
  refine j_if_eqq (tgt := 14) C dX11_meeting_4 (by decide) hm (fun hm => ?_) (fun hm => ?_)
  · exact J.sub [] rfl (kM_meeting_14 C hR u hm)
  · refine j_iload_n C dX11_meeting_7 rfl 2 rfl ?_
    refine j_bind hm (fun r2 hr2 hm => ?_)
    refine j_callS (cs' := (0, 0)) (As := [.int x2]) (rest := []) C (cM_isIslet hr2) wc_X11_isIslet wm_X11_153 wt_X11_isIslet wn_X11 wd_X11_isIslet ⟨by decide, by decide⟩ rfl (Nat.le_of_ble_eq_true rfl) dX11_meeting_8 ⟨by decide, by decide⟩ rfl rfl ?_
    refine j_if_neq (tgt := 17) C dX11_meeting_11 (by decide) hm (fun hm => ?_) (fun hm => ?_)
    · refine j_iload_n C dX11_meeting_17 rfl 3 rfl ?_
      refine j_bind hm (fun r3 hr3 hm => ?_)
      refine j_callS (cs' := (0, 0)) (As := [.int x3]) (rest := []) C (cM_isMinute hr3) wc_X11_isMinute wm_X11_156 wt_X11_isMinute wn_X11 wd_X11_isMinute ⟨by decide, by decide⟩ rfl (Nat.le_of_ble_eq_true rfl) dX11_meeting_18 ⟨by decide, by decide⟩ rfl rfl ?_
      refine j_if_eqq (tgt := 45) C dX11_meeting_21 (by decide) hm (fun hm => ?_) (fun hm => ?_)
      · exact J.sub [] rfl (kM_meeting_45 C hR u hm)
      · refine j_iload C dX11_meeting_24 4 rfl ?_
        refine j_iload C dX11_meeting_26 5 rfl ?_
        refine j_bind hm (fun r4 hr4 hm => ?_)
        refine j_callS (cs' := (0, 0)) (As := [.int x4, .int x5]) (rest := []) C (cM_isCarrier hr4) wc_X11_isCarrier wm_X11_159 wt_X11_isCarrier wn_X11 wd_X11_isCarrier ⟨by decide, by decide⟩ rfl (Nat.le_of_ble_eq_true rfl) dX11_meeting_28 ⟨by decide, by decide⟩ rfl rfl ?_
        refine j_if_eqq (tgt := 45) C dX11_meeting_31 (by decide) hm (fun hm => ?_) (fun hm => ?_)
        · exact J.sub [] rfl (kM_meeting_45 C hR u hm)
        · refine j_iload C dX11_meeting_34 6 rfl ?_
          refine j_i2l C dX11_meeting_36 ?_
          refine j_lconst (v := 0) C dX11_meeting_37 (by decide) ?_
          refine j_lconst (v := 1) C dX11_meeting_38 (by decide) ?_
          refine j_bind hm (fun r5 hr5 hm => ?_)
          refine j_callS (cs' := (0, 0)) (As := [.long (Int32.toInt64 x6), .long 0, .long 1]) (rest := []) C (cM_in hr5) wc_X11_in wm_X11_69 wt_X11_in wn_X11 wd_X11_in ⟨by decide, by decide⟩ rfl (Nat.le_of_ble_eq_true rfl) dX11_meeting_39 ⟨by decide, by decide⟩ rfl rfl ?_
          refine j_if_neq (tgt := 48) C dX11_meeting_42 (by decide) hm (fun hm => ?_) (fun hm => ?_)
          · refine j_aload_n C dX11_meeting_48 rfl 0 rfl ?_
            refine j_iload_n C dX11_meeting_49 rfl 1 rfl ?_
            refine j_iload_n C dX11_meeting_50 rfl 3 rfl ?_
            refine j_iload C dX11_meeting_51 4 rfl ?_
            refine j_iload C dX11_meeting_53 5 rfl ?_
            refine j_bind hm (fun r6 hr6 hm => ?_)
            refine j_callV (cs' := (0, 0)) (As := [.int x1, .int x3, .int x4, .int x5]) (rest := []) C (cM_layThere hr6) wc_X11_layThere wm_X11_147 wi_X11_layThere ws_X11_layThere wn_X11 wd_X11_layThere ⟨by decide, by decide⟩ 0 rfl rfl rfl (Nat.le_of_ble_eq_true rfl) dX11_meeting_55 ⟨by decide, by decide⟩ rfl rfl ?_
            refine j_iconst (v := 0) C dX11_meeting_58 (by decide) ?_
            refine j_istore C dX11_meeting_59 (by decide) rfl ?_
            exact J.sub [1, 3, 4, 5, 6, 7, 0] rfl (kM_meeting_h61 C hR N r6 x2 x3 x4 x5 x6 0 hm)
          · exact J.sub [] rfl (kM_meeting_45 C hR u hm)
    · exact J.sub [] rfl (kM_meeting_14 C hR u hm)
def rmM_note : Room := { frames := 2, cells := 0, slots := 0, locals := 45 }
theorem wd_X11_note : yX11_note.cls ≠ "java/lang/invoke/MethodHandle" ∧ yX11_note.cls ≠ "java/lang/invoke/VarHandle" ∧ (parseMethodDescriptor yX11_note.desc).map (fun d => d.parameters.length) = some 4 := by decide +kernel
def mM_note_14 (N : Nat) (u : MSt) : Option (Int32 × MSt) := some ((-101), u)
set_option maxRecDepth 100000 in
set_option maxHeartbeats 4000000 in
theorem kM_note_14 {l : Launch} {D : va_G} {cI : ClassId} {o : Nat} {q : Nat → Nat} {G : Gx} {N : Nat} {rr : (Int32 × MSt)} (C : jC l rmM_note D [(cI, .int)] G cX11_note 5 RX11) (hR : jR D [(cI, .int)] G (0, 0) (some .int) (some (.int rr.1)) (wM cI o q rr.2))  (u : MSt)  (hm : mM_note_14 N u = some rr) : J l rmM_note D G (0, 0) (wM cI o q u) [] [] 14 := by
  unfold mM_note_14 at hm
  refine j_bipush (v := (-101)) C dX11_note_14 (by decide) ?_
  cases hm
  exact j_iret C hR dX11_note_16
def mM_note_46 (N : Nat) (u : MSt) : Option (Int32 × MSt) := some ((-102), u)
set_option maxRecDepth 100000 in
set_option maxHeartbeats 4000000 in
theorem kM_note_46 {l : Launch} {D : va_G} {cI : ClassId} {o : Nat} {q : Nat → Nat} {G : Gx} {N : Nat} {rr : (Int32 × MSt)} (C : jC l rmM_note D [(cI, .int)] G cX11_note 5 RX11) (hR : jR D [(cI, .int)] G (0, 0) (some .int) (some (.int rr.1)) (wM cI o q rr.2))  (u : MSt)  (hm : mM_note_46 N u = some rr) : J l rmM_note D G (0, 0) (wM cI o q u) [] [] 46 := by
  unfold mM_note_46 at hm
  refine j_bipush (v := (-102)) C dX11_note_46 (by decide) ?_
  cases hm
  exact j_iret C hR dX11_note_48
def mM_note (N : Nat) (u : MSt) (x1 : Int32) (x2 : Int32) (x3 : Int32) (x4 : Int32) : Option (Int32 × MSt) := (mM_isIslet N x1).bind (fun r1 => if r1 = 0 then (mM_note_14 N u) else ((mM_isIslet N x3).bind (fun r2 => if ¬ r2 = 0 then ((mM_in N (Int32.toInt64 x2) 0 99).bind (fun r3 => if r3 = 0 then (mM_note_46 N u) else ((mM_in N (Int32.toInt64 x4) (Int32.toInt64 x2) (Int32.toInt64 (x2 + 400))).bind (fun r4 => if ¬ r4 = 0 then (if ¬ (u.1 21) = 6 then (wr 24 (4 * (u.1 21)) (fun i5 => nm (saM u 22 i5 x1) (fun u6 => nm (u6.1 21) (fun f7 => wr 24 ((4 * f7) + 1) (fun i8 => nm (saM u6 22 i8 x2) (fun u9 => nm (u9.1 21) (fun f10 => wr 24 ((4 * f10) + 2) (fun i11 => nm (saM u9 22 i11 x3) (fun u12 => nm (u12.1 21) (fun f13 => wr 24 ((4 * f13) + 3) (fun i14 => nm (saM u12 22 i14 x4) (fun u15 => nm (u15.1 21) (fun f16 => nm (siM u15 21 (f16 + 1)) (fun u17 => nm (u17.1 21) (fun f18 => some (f18, u17)))))))))))))))) else (some ((-104), u))) else (mM_note_46 N u))))) else (mM_note_14 N u))))
set_option maxRecDepth 100000 in
set_option maxHeartbeats 4000000 in
theorem cM_note {l : Launch} {D : va_G} {cI : ClassId} {o : Nat} {q : Nat → Nat} {u : MSt} {N : Nat} {x1 : Int32} {x2 : Int32} {x3 : Int32} {x4 : Int32} {rr : (Int32 × MSt)} (hm : mM_note N u x1 x2 x3 x4 = some rr) : Con l D [(cI, .int)] yX11_note (wS yX11_note cX11_note 5 (some .int)) rmM_note [.ref o, .int x1, .int x2, .int x3, .int x4] (wM cI o q u) (some (.int rr.1)) (wM cI o q rr.2) := by
  refine Con.of (by decide +kernel) (Nat.le_of_ble_eq_true rfl) (fun G C hR => ?_)
  unfold mM_note at hm
  show J l rmM_note D G (0, 0) (wM cI o q u) [(0, .ref o), (1, .int x1), (2, .int x2), (3, .int x3), (4, .int x4)] [] 0
  refine j_iload_n C dX11_note_0 rfl 1 rfl ?_
  refine j_bind hm (fun r1 hr1 hm => ?_)
  refine j_callS (cs' := (0, 0)) (As := [.int x1]) (rest := []) C (cM_isIslet hr1) wc_X11_isIslet wm_X11_153 wt_X11_isIslet wn_X11 wd_X11_isIslet ⟨by decide, by decide⟩ rfl (Nat.le_of_ble_eq_true rfl) dX11_note_1 ⟨by decide, by decide⟩ rfl rfl ?_
  refine j_if_eqq (tgt := 14) C dX11_note_4 (by decide) hm (fun hm => ?_) (fun hm => ?_)
  · exact J.sub [] rfl (kM_note_14 C hR u hm)
  · refine j_iload_n C dX11_note_7 rfl 3 rfl ?_
    refine j_bind hm (fun r2 hr2 hm => ?_)
    refine j_callS (cs' := (0, 0)) (As := [.int x3]) (rest := []) C (cM_isIslet hr2) wc_X11_isIslet wm_X11_153 wt_X11_isIslet wn_X11 wd_X11_isIslet ⟨by decide, by decide⟩ rfl (Nat.le_of_ble_eq_true rfl) dX11_note_8 ⟨by decide, by decide⟩ rfl rfl ?_
    refine j_if_neq (tgt := 17) C dX11_note_11 (by decide) hm (fun hm => ?_) (fun hm => ?_)
    · refine j_iload_n C dX11_note_17 rfl 2 rfl ?_
      refine j_i2l C dX11_note_18 ?_
      refine j_lconst (v := 0) C dX11_note_19 (by decide) ?_
      refine j_ldc2 C dX11_note_20 wk_X11_211 ?_
      refine j_bind hm (fun r3 hr3 hm => ?_)
      refine j_callS (cs' := (0, 0)) (As := [.long (Int32.toInt64 x2), .long 0, .long 99]) (rest := []) C (cM_in hr3) wc_X11_in wm_X11_69 wt_X11_in wn_X11 wd_X11_in ⟨by decide, by decide⟩ rfl (Nat.le_of_ble_eq_true rfl) dX11_note_23 ⟨by decide, by decide⟩ rfl rfl ?_
      refine j_if_eqq (tgt := 46) C dX11_note_26 (by decide) hm (fun hm => ?_) (fun hm => ?_)
      · exact J.sub [] rfl (kM_note_46 C hR u hm)
      · refine j_iload C dX11_note_29 4 rfl ?_
        refine j_i2l C dX11_note_31 ?_
        refine j_iload_n C dX11_note_32 rfl 2 rfl ?_
        refine j_i2l C dX11_note_33 ?_
        refine j_iload_n C dX11_note_34 rfl 2 rfl ?_
        refine j_sipush (v := 400) C dX11_note_35 (by decide) ?_
        refine j_iadd C dX11_note_38 ?_
        refine j_i2l C dX11_note_39 ?_
        refine j_bind hm (fun r4 hr4 hm => ?_)
        refine j_callS (cs' := (0, 0)) (As := [.long (Int32.toInt64 x4), .long (Int32.toInt64 x2), .long (Int32.toInt64 (x2 + 400))]) (rest := []) C (cM_in hr4) wc_X11_in wm_X11_69 wt_X11_in wn_X11 wd_X11_in ⟨by decide, by decide⟩ rfl (Nat.le_of_ble_eq_true rfl) dX11_note_40 ⟨by decide, by decide⟩ rfl rfl ?_
        refine j_if_neq (tgt := 49) C dX11_note_43 (by decide) hm (fun hm => ?_) (fun hm => ?_)
        · refine j_aload_n C dX11_note_49 rfl 0 rfl ?_
          refine jM_g21 C dX11_note_50 ?_
          refine j_bipush (v := 6) C dX11_note_53 (by decide) ?_
          refine j_icmp_neq (tgt := 61) C dX11_note_55 (by decide) hm (fun hm => ?_) (fun hm => ?_)
          · refine j_aload_n C dX11_note_61 rfl 0 rfl ?_
            refine jM_g22 C dX11_note_62 ?_
            refine j_iconst (v := 4) C dX11_note_65 (by decide) ?_
            refine j_aload_n C dX11_note_66 rfl 0 rfl ?_
            refine jM_g21 C dX11_note_67 ?_
            refine j_imul C dX11_note_70 ?_
            refine j_iload_n C dX11_note_71 rfl 1 rfl ?_
            refine jM_S22 C dX11_note_72 hm (fun u6 hm => ?_)
            refine j_aload_n C dX11_note_73 rfl 0 rfl ?_
            refine jM_g22 C dX11_note_74 ?_
            refine j_iconst (v := 4) C dX11_note_77 (by decide) ?_
            refine j_aload_n C dX11_note_78 rfl 0 rfl ?_
            refine jM_g21 C dX11_note_79 ?_
            refine j_nmi hm (fun f7 hm => ?_)
            refine j_imul C dX11_note_82 ?_
            refine j_iconst (v := 1) C dX11_note_83 (by decide) ?_
            refine j_iadd C dX11_note_84 ?_
            refine j_iload_n C dX11_note_85 rfl 2 rfl ?_
            refine jM_S22 C dX11_note_86 hm (fun u9 hm => ?_)
            refine j_aload_n C dX11_note_87 rfl 0 rfl ?_
            refine jM_g22 C dX11_note_88 ?_
            refine j_iconst (v := 4) C dX11_note_91 (by decide) ?_
            refine j_aload_n C dX11_note_92 rfl 0 rfl ?_
            refine jM_g21 C dX11_note_93 ?_
            refine j_nmi hm (fun f10 hm => ?_)
            refine j_imul C dX11_note_96 ?_
            refine j_iconst (v := 2) C dX11_note_97 (by decide) ?_
            refine j_iadd C dX11_note_98 ?_
            refine j_iload_n C dX11_note_99 rfl 3 rfl ?_
            refine jM_S22 C dX11_note_100 hm (fun u12 hm => ?_)
            refine j_aload_n C dX11_note_101 rfl 0 rfl ?_
            refine jM_g22 C dX11_note_102 ?_
            refine j_iconst (v := 4) C dX11_note_105 (by decide) ?_
            refine j_aload_n C dX11_note_106 rfl 0 rfl ?_
            refine jM_g21 C dX11_note_107 ?_
            refine j_nmi hm (fun f13 hm => ?_)
            refine j_imul C dX11_note_110 ?_
            refine j_iconst (v := 3) C dX11_note_111 (by decide) ?_
            refine j_iadd C dX11_note_112 ?_
            refine j_iload C dX11_note_113 4 rfl ?_
            refine jM_S22 C dX11_note_115 hm (fun u15 hm => ?_)
            refine j_aload_n C dX11_note_116 rfl 0 rfl ?_
            refine j_dup C dX11_note_117 rfl ?_
            refine jM_g21 C dX11_note_118 ?_
            refine j_nmi hm (fun f16 hm => ?_)
            refine j_iconst (v := 1) C dX11_note_121 (by decide) ?_
            refine j_iadd C dX11_note_122 ?_
            refine jM_p21 C dX11_note_123 ?_
            refine j_nmu hm (w := wM cI o q) (fun u17 hm => ?_)
            refine j_aload_n C dX11_note_126 rfl 0 rfl ?_
            refine jM_g21 C dX11_note_127 ?_
            refine j_nmi hm (fun f18 hm => ?_)
            cases hm
            exact j_iret C hR dX11_note_130
          · refine j_bipush (v := (-104)) C dX11_note_58 (by decide) ?_
            cases hm
            exact j_iret C hR dX11_note_60
        · exact J.sub [] rfl (kM_note_46 C hR u hm)
    · exact J.sub [] rfl (kM_note_14 C hR u hm)
def rmM_forget : Room := { frames := 0, cells := 0, slots := 0, locals := 0 }
theorem wd_X11_forget : yX11_forget.cls ≠ "java/lang/invoke/MethodHandle" ∧ yX11_forget.cls ≠ "java/lang/invoke/VarHandle" ∧ (parseMethodDescriptor yX11_forget.desc).map (fun d => d.parameters.length) = some 0 := by decide +kernel
def mM_forget (N : Nat) (u : MSt) : Option (Int32 × MSt) := nm (u.1 21) (fun v1 => nm (siM u 21 0) (fun u2 => some (v1, u2)))
set_option maxRecDepth 100000 in
set_option maxHeartbeats 4000000 in
theorem cM_forget {l : Launch} {D : va_G} {cI : ClassId} {o : Nat} {q : Nat → Nat} {u : MSt} {N : Nat}  {rr : (Int32 × MSt)} (hm : mM_forget N u = some rr) : Con l D [(cI, .int)] yX11_forget (wS yX11_forget cX11_forget 2 (some .int)) rmM_forget [.ref o] (wM cI o q u) (some (.int rr.1)) (wM cI o q rr.2) := by
  refine Con.of (by decide +kernel) (Nat.le_of_ble_eq_true rfl) (fun G C hR => ?_)
  unfold mM_forget at hm
  show J l rmM_forget D G (0, 0) (wM cI o q u) [(0, .ref o)] [] 0
  refine j_aload_n C dX11_forget_0 rfl 0 rfl ?_
  refine jM_g21 C dX11_forget_1 ?_
  refine j_nmi hm (fun v1 hm => ?_)
  refine j_istore_n C dX11_forget_4 rfl (by decide) rfl ?_
  refine j_aload_n C dX11_forget_5 rfl 1 rfl ?_
  refine j_iconst (v := 0) C dX11_forget_6 (by decide) ?_
  refine jM_p21 C dX11_forget_7 ?_
  refine j_nmu hm (w := wM cI o q) (fun u2 hm => ?_)
  refine j_iload_n C dX11_forget_10 rfl 0 rfl ?_
  cases hm
  exact j_iret C hR dX11_forget_11
def rmM_areSo : Room := { frames := 8, cells := 0, slots := 0, locals := 195 }
theorem wd_X11_areSo : yX11_areSo.cls ≠ "java/lang/invoke/MethodHandle" ∧ yX11_areSo.cls ≠ "java/lang/invoke/VarHandle" ∧ (parseMethodDescriptor yX11_areSo.desc).map (fun d => d.parameters.length) = some 0 := by decide +kernel
def mM_areSo_68 (N : Nat) (k4 : MSt → Int32 → Int32 → Option (Int32 × MSt)) (u : MSt) (x2 : Int32) (s0 : Int32) : Option (Int32 × MSt) := k4 u s0 (x2 + 1)
set_option maxRecDepth 100000 in
set_option maxHeartbeats 4000000 in
theorem kM_areSo_68 {l : Launch} {D : va_G} {cI : ClassId} {o : Nat} {q : Nat → Nat} {G : Gx} {N : Nat} {rr : (Int32 × MSt)} (C : jC l rmM_areSo D [(cI, .int)] G cX11_areSo 3 RX11) (hR : jR D [(cI, .int)] G (0, 0) (some .boolean) (some (.int rr.1)) (wM cI o q rr.2)) (k4 : MSt → Int32 → Int32 → Option (Int32 × MSt)) (K4 : ∀ (u : MSt) (x1 : Int32) (x2 : Int32), k4 u x1 x2 = some rr → J l rmM_areSo D G (0, 0) (wM cI o q u) [(0, .ref o), (1, .int x1), (2, .int x2)] [] 4) (u : MSt) (x2 : Int32) (s0 : Int32) (hm : mM_areSo_68 N k4 u x2 s0 = some rr) : J l rmM_areSo D G (0, 0) (wM cI o q u) [(0, .ref o), (2, .int x2)] [.int s0] 68 := by
  unfold mM_areSo_68 at hm
  refine j_istore_n C dX11_areSo_68 rfl (by decide) rfl ?_
  refine j_iinc (v := (x2 + 1)) C dX11_areSo_69 2 rfl rfl (by decide) rfl ?_
  refine j_goto (tgt := 4) C dX11_areSo_72 (by decide) ?_
  exact J.sub [2, 1, 0] rfl (K4 u s0 (x2 + 1) hm)
def mM_areSo_75 (N : Nat) (u : MSt) (x1 : Int32) : Option (Int32 × MSt) := gd (x1 = 0 ∨ x1 = 1) (some (x1, u))
set_option maxRecDepth 100000 in
set_option maxHeartbeats 4000000 in
theorem kM_areSo_75 {l : Launch} {D : va_G} {cI : ClassId} {o : Nat} {q : Nat → Nat} {G : Gx} {N : Nat} {rr : (Int32 × MSt)} (C : jC l rmM_areSo D [(cI, .int)] G cX11_areSo 3 RX11) (hR : jR D [(cI, .int)] G (0, 0) (some .boolean) (some (.int rr.1)) (wM cI o q rr.2))  (u : MSt) (x1 : Int32) (hm : mM_areSo_75 N u x1 = some rr) : J l rmM_areSo D G (0, 0) (wM cI o q u) [(1, .int x1)] [] 75 := by
  unfold mM_areSo_75 at hm
  refine j_iload_n C dX11_areSo_75 rfl 0 rfl ?_
  obtain ⟨g, hm⟩ := gd_some hm
  cases hm
  exact j_zret C hR (jz01 g) dX11_areSo_76
def mM_areSo_4 (N : Nat) (k4 : MSt → Int32 → Int32 → Option (Int32 × MSt)) (u : MSt) (x1 : Int32) (x2 : Int32) : Option (Int32 × MSt) := if (u.1 21) ≤ x2 then (mM_areSo_75 N u x1) else (if x1 = 0 then (mM_areSo_75 N u x1) else (rd (u.2.1 22) 24 (4 * x2) (fun a1 => rd (u.2.1 22) 24 ((4 * x2) + 2) (fun a2 => rd (u.2.1 22) 24 ((4 * x2) + 1) (fun a3 => bp (mM_soonestOf N u a1 a2 a3 1 1) (fun r4 u5 => rd (u5.2.1 22) 24 ((4 * x2) + 3) (fun a6 => if ¬ r4 = a6 then (mM_areSo_68 N k4 u5 x2 0) else (mM_areSo_68 N k4 u5 x2 1))))))))
set_option maxRecDepth 100000 in
set_option maxHeartbeats 4000000 in
theorem kM_areSo_4 {l : Launch} {D : va_G} {cI : ClassId} {o : Nat} {q : Nat → Nat} {G : Gx} {N : Nat} {rr : (Int32 × MSt)} (C : jC l rmM_areSo D [(cI, .int)] G cX11_areSo 3 RX11) (hR : jR D [(cI, .int)] G (0, 0) (some .boolean) (some (.int rr.1)) (wM cI o q rr.2)) (k4 : MSt → Int32 → Int32 → Option (Int32 × MSt)) (K4 : ∀ (u : MSt) (x1 : Int32) (x2 : Int32), k4 u x1 x2 = some rr → J l rmM_areSo D G (0, 0) (wM cI o q u) [(0, .ref o), (1, .int x1), (2, .int x2)] [] 4) (u : MSt) (x1 : Int32) (x2 : Int32) (hm : mM_areSo_4 N k4 u x1 x2 = some rr) : J l rmM_areSo D G (0, 0) (wM cI o q u) [(0, .ref o), (1, .int x1), (2, .int x2)] [] 4 := by
  unfold mM_areSo_4 at hm
  refine j_iload_n C dX11_areSo_4 rfl 2 rfl ?_
  refine j_aload_n C dX11_areSo_5 rfl 0 rfl ?_
  refine jM_g21 C dX11_areSo_6 ?_
  refine j_icmp_geq (tgt := 75) C dX11_areSo_9 (by decide) hm (fun hm => ?_) (fun hm => ?_)
  · exact J.sub [1] rfl (kM_areSo_75 C hR u x1 hm)
  · refine j_iload_n C dX11_areSo_12 rfl 1 rfl ?_
    refine j_if_eqq (tgt := 75) C dX11_areSo_13 (by decide) hm (fun hm => ?_) (fun hm => ?_)
    · exact J.sub [1] rfl (kM_areSo_75 C hR u x1 hm)
    · refine j_aload_n C dX11_areSo_16 rfl 0 rfl ?_
      refine j_aload_n C dX11_areSo_17 rfl 0 rfl ?_
      refine jM_g22 C dX11_areSo_18 ?_
      refine j_iconst (v := 4) C dX11_areSo_21 (by decide) ?_
      refine j_iload_n C dX11_areSo_22 rfl 2 rfl ?_
      refine j_imul C dX11_areSo_23 ?_
      refine jM_L22 C dX11_areSo_24 hm (fun a1 hm => ?_)
      refine j_aload_n C dX11_areSo_25 rfl 0 rfl ?_
      refine jM_g22 C dX11_areSo_26 ?_
      refine j_iconst (v := 4) C dX11_areSo_29 (by decide) ?_
      refine j_iload_n C dX11_areSo_30 rfl 2 rfl ?_
      refine j_imul C dX11_areSo_31 ?_
      refine j_iconst (v := 2) C dX11_areSo_32 (by decide) ?_
      refine j_iadd C dX11_areSo_33 ?_
      refine jM_L22 C dX11_areSo_34 hm (fun a2 hm => ?_)
      refine j_aload_n C dX11_areSo_35 rfl 0 rfl ?_
      refine jM_g22 C dX11_areSo_36 ?_
      refine j_iconst (v := 4) C dX11_areSo_39 (by decide) ?_
      refine j_iload_n C dX11_areSo_40 rfl 2 rfl ?_
      refine j_imul C dX11_areSo_41 ?_
      refine j_iconst (v := 1) C dX11_areSo_42 (by decide) ?_
      refine j_iadd C dX11_areSo_43 ?_
      refine jM_L22 C dX11_areSo_44 hm (fun a3 hm => ?_)
      refine j_iconst (v := 1) C dX11_areSo_45 (by decide) ?_
      refine j_iconst (v := 1) C dX11_areSo_46 (by decide) ?_
      refine j_bindp hm (fun r4 u5 hr4 hm => ?_)
      refine j_callV (cs' := (0, 0)) (As := [.int a1, .int a2, .int a3, .int 1, .int 1]) (rest := []) C (cM_soonestOf hr4) wc_X11_soonestOf wm_X11_163 wi_X11_soonestOf ws_X11_soonestOf wn_X11 wd_X11_soonestOf ⟨by decide, by decide⟩ 0 rfl rfl rfl (Nat.le_of_ble_eq_true rfl) dX11_areSo_47 ⟨by decide, by decide⟩ rfl rfl ?_
      refine j_aload_n C dX11_areSo_50 rfl 0 rfl ?_
      refine jM_g22 C dX11_areSo_51 ?_
      refine j_iconst (v := 4) C dX11_areSo_54 (by decide) ?_
      refine j_iload_n C dX11_areSo_55 rfl 2 rfl ?_
      refine j_imul C dX11_areSo_56 ?_
      refine j_iconst (v := 3) C dX11_areSo_57 (by decide) ?_
      refine j_iadd C dX11_areSo_58 ?_
      refine jM_L22 C dX11_areSo_59 hm (fun a6 hm => ?_)
      refine j_icmp_neq (tgt := 67) C dX11_areSo_60 (by decide) hm (fun hm => ?_) (fun hm => ?_)
      · refine j_iconst (v := 0) C dX11_areSo_67 (by decide) ?_
        exact J.sub [0, 2] rfl (kM_areSo_68 C hR k4 K4 u5 x2 0 hm)
      · refine j_iconst (v := 1) C dX11_areSo_63 (by decide) ?_
        refine j_goto (tgt := 68) C dX11_areSo_64 (by decide) ?_
        exact J.sub [0, 2] rfl (kM_areSo_68 C hR k4 K4 u5 x2 1 hm)
def mM_areSo_h4 (N : Nat) : Nat → MSt → Int32 → Int32 → Option (Int32 × MSt)
  | 0, _, _, _ => none
  | n + 1, u, x1, x2 => mM_areSo_4 N (mM_areSo_h4 N n) u x1 x2
theorem kM_areSo_h4 {l : Launch} {D : va_G} {cI : ClassId} {o : Nat} {q : Nat → Nat} {G : Gx} {N : Nat} {rr : (Int32 × MSt)} (C : jC l rmM_areSo D [(cI, .int)] G cX11_areSo 3 RX11) (hR : jR D [(cI, .int)] G (0, 0) (some .boolean) (some (.int rr.1)) (wM cI o q rr.2))  : ∀ (n : Nat) (u : MSt) (x1 : Int32) (x2 : Int32), mM_areSo_h4 N n u x1 x2 = some rr → J l rmM_areSo D G (0, 0) (wM cI o q u) [(0, .ref o), (1, .int x1), (2, .int x2)] [] 4 := by
  intro n
  induction n with
  | zero =>
    intro u x1 x2 hm
    have hm : (none : Option (Int32 × MSt)) = some rr := hm
    cases hm
  | succ n ih =>
    intro u x1 x2 hm
    exact kM_areSo_4 C hR _ ih u x1 x2 hm
def mM_areSo (N : Nat) (u : MSt) : Option (Int32 × MSt) := mM_areSo_h4 N N u 1 0
set_option maxRecDepth 100000 in
set_option maxHeartbeats 4000000 in
theorem cM_areSo {l : Launch} {D : va_G} {cI : ClassId} {o : Nat} {q : Nat → Nat} {u : MSt} {N : Nat}  {rr : (Int32 × MSt)} (hm : mM_areSo N u = some rr) : Con l D [(cI, .int)] yX11_areSo (wS yX11_areSo cX11_areSo 3 (some .boolean)) rmM_areSo [.ref o] (wM cI o q u) (some (.int rr.1)) (wM cI o q rr.2) := by
  refine Con.of (by decide +kernel) (Nat.le_of_ble_eq_true rfl) (fun G C hR => ?_)
  unfold mM_areSo at hm
  show J l rmM_areSo D G (0, 0) (wM cI o q u) [(0, .ref o)] [] 0
  refine j_iconst (v := 1) C dX11_areSo_0 (by decide) ?_
  refine j_istore_n C dX11_areSo_1 rfl (by decide) rfl ?_
  refine j_iconst (v := 0) C dX11_areSo_2 (by decide) ?_
  refine j_istore_n C dX11_areSo_3 rfl (by decide) rfl ?_
  exact J.sub [2, 1, 0] rfl (kM_areSo_h4 C hR N u 1 0 hm)
def rmM_lost : Room := { frames := 9, cells := 0, slots := 0, locals := 217 }
theorem wd_X11_lost : yX11_lost.cls ≠ "java/lang/invoke/MethodHandle" ∧ yX11_lost.cls ≠ "java/lang/invoke/VarHandle" ∧ (parseMethodDescriptor yX11_lost.desc).map (fun d => d.parameters.length) = some 1 := by decide +kernel
def mM_lost_86 (N : Nat) (k29 : MSt → Int32 → Int32 → Int32 → Int32 → Option (Int32 × MSt)) (u : MSt) (x1 : Int32) (x2 : Int32) (x4 : Int32) (s0 : Int32) (s1 : Int32) : Option (Int32 × MSt) := nm (s1 ||| s0) (fun v1 => k29 u x1 x2 v1 (x4 + 1))
set_option maxRecDepth 100000 in
set_option maxHeartbeats 4000000 in
theorem kM_lost_86 {l : Launch} {D : va_G} {cI : ClassId} {o : Nat} {q : Nat → Nat} {G : Gx} {N : Nat} {rr : (Int32 × MSt)} (C : jC l rmM_lost D [(cI, .int)] G cX11_lost 5 RX11) (hR : jR D [(cI, .int)] G (0, 0) (some .int) (some (.int rr.1)) (wM cI o q rr.2)) (k29 : MSt → Int32 → Int32 → Int32 → Int32 → Option (Int32 × MSt)) (K29 : ∀ (u : MSt) (x1 : Int32) (x2 : Int32) (x3 : Int32) (x4 : Int32), k29 u x1 x2 x3 x4 = some rr → J l rmM_lost D G (0, 0) (wM cI o q u) [(0, .ref o), (1, .int x1), (2, .int x2), (3, .int x3), (4, .int x4)] [] 29) (u : MSt) (x1 : Int32) (x2 : Int32) (x4 : Int32) (s0 : Int32) (s1 : Int32) (hm : mM_lost_86 N k29 u x1 x2 x4 s0 s1 = some rr) : J l rmM_lost D G (0, 0) (wM cI o q u) [(0, .ref o), (1, .int x1), (2, .int x2), (4, .int x4)] [.int s0, .int s1] 86 := by
  unfold mM_lost_86 at hm
  refine j_ior C dX11_lost_86 ?_
  refine j_nmi hm (fun v1 hm => ?_)
  refine j_istore_n C dX11_lost_87 rfl (by decide) rfl ?_
  refine j_iinc (v := (x4 + 1)) C dX11_lost_88 4 rfl rfl (by decide) rfl ?_
  refine j_goto (tgt := 29) C dX11_lost_91 (by decide) ?_
  exact J.sub [2, 3, 4, 1, 0] rfl (K29 u x1 x2 v1 (x4 + 1) hm)
def mM_lost_54 (N : Nat) (k29 : MSt → Int32 → Int32 → Int32 → Int32 → Option (Int32 × MSt)) (u : MSt) (x1 : Int32) (x2 : Int32) (x3 : Int32) (x4 : Int32) : Option (Int32 × MSt) := wr 100 ((10 * x1) + 8) (fun i1 => nm (saM u 5 i1 (x2 - x4)) (fun u2 => bp (mM_areSo N u2) (fun r3 u4 => if r3 = 0 then (mM_lost_86 N k29 u4 x1 x2 x4 0 x3) else (mM_lost_86 N k29 u4 x1 x2 x4 (1 <<< (x4 &&& 31)) x3))))
set_option maxRecDepth 100000 in
set_option maxHeartbeats 4000000 in
theorem kM_lost_54 {l : Launch} {D : va_G} {cI : ClassId} {o : Nat} {q : Nat → Nat} {G : Gx} {N : Nat} {rr : (Int32 × MSt)} (C : jC l rmM_lost D [(cI, .int)] G cX11_lost 5 RX11) (hR : jR D [(cI, .int)] G (0, 0) (some .int) (some (.int rr.1)) (wM cI o q rr.2)) (k29 : MSt → Int32 → Int32 → Int32 → Int32 → Option (Int32 × MSt)) (K29 : ∀ (u : MSt) (x1 : Int32) (x2 : Int32) (x3 : Int32) (x4 : Int32), k29 u x1 x2 x3 x4 = some rr → J l rmM_lost D G (0, 0) (wM cI o q u) [(0, .ref o), (1, .int x1), (2, .int x2), (3, .int x3), (4, .int x4)] [] 29) (u : MSt) (x1 : Int32) (x2 : Int32) (x3 : Int32) (x4 : Int32) (hm : mM_lost_54 N k29 u x1 x2 x3 x4 = some rr) : J l rmM_lost D G (0, 0) (wM cI o q u) [(0, .ref o), (1, .int x1), (2, .int x2), (3, .int x3), (4, .int x4)] [] 54 := by
  unfold mM_lost_54 at hm
  refine j_aload_n C dX11_lost_54 rfl 0 rfl ?_
  refine jM_g5 C dX11_lost_55 ?_
  refine j_bipush (v := 10) C dX11_lost_58 (by decide) ?_
  refine j_iload_n C dX11_lost_60 rfl 1 rfl ?_
  refine j_imul C dX11_lost_61 ?_
  refine j_bipush (v := 8) C dX11_lost_62 (by decide) ?_
  refine j_iadd C dX11_lost_64 ?_
  refine j_iload_n C dX11_lost_65 rfl 2 rfl ?_
  refine j_iload C dX11_lost_66 4 rfl ?_
  refine j_isub C dX11_lost_68 ?_
  refine jM_S5 C dX11_lost_69 hm (fun u2 hm => ?_)
  refine j_iload_n C dX11_lost_70 rfl 3 rfl ?_
  refine j_aload_n C dX11_lost_71 rfl 0 rfl ?_
  refine j_bindp hm (fun r3 u4 hr3 hm => ?_)
  refine j_callV (cs' := (0, 0)) (As := []) (rest := [.int x3]) C (cM_areSo hr3) wc_X11_areSo wm_X11_216 wi_X11_areSo ws_X11_areSo wn_X11 wd_X11_areSo ⟨by decide, by decide⟩ 0 rfl rfl rfl (Nat.le_of_ble_eq_true rfl) dX11_lost_72 ⟨by decide, by decide⟩ rfl rfl ?_
  refine j_if_eqq (tgt := 85) C dX11_lost_75 (by decide) hm (fun hm => ?_) (fun hm => ?_)
  · refine j_iconst (v := 0) C dX11_lost_85 (by decide) ?_
    exact J.sub [0, 1, 2, 4] rfl (kM_lost_86 C hR k29 K29 u4 x1 x2 x4 0 x3 hm)
  · refine j_iconst (v := 1) C dX11_lost_78 (by decide) ?_
    refine j_iload C dX11_lost_79 4 rfl ?_
    refine j_ishl C dX11_lost_81 ?_
    refine j_goto (tgt := 86) C dX11_lost_82 (by decide) ?_
    exact J.sub [0, 1, 2, 4] rfl (kM_lost_86 C hR k29 K29 u4 x1 x2 x4 (1 <<< (x4 &&& 31)) x3 hm)
def mM_lost_94 (N : Nat) (u : MSt) (x1 : Int32) (x2 : Int32) (x3 : Int32) : Option (Int32 × MSt) := wr 100 ((10 * x1) + 8) (fun i1 => nm (saM u 5 i1 x2) (fun u2 => some (x3, u2)))
set_option maxRecDepth 100000 in
set_option maxHeartbeats 4000000 in
theorem kM_lost_94 {l : Launch} {D : va_G} {cI : ClassId} {o : Nat} {q : Nat → Nat} {G : Gx} {N : Nat} {rr : (Int32 × MSt)} (C : jC l rmM_lost D [(cI, .int)] G cX11_lost 5 RX11) (hR : jR D [(cI, .int)] G (0, 0) (some .int) (some (.int rr.1)) (wM cI o q rr.2))  (u : MSt) (x1 : Int32) (x2 : Int32) (x3 : Int32) (hm : mM_lost_94 N u x1 x2 x3 = some rr) : J l rmM_lost D G (0, 0) (wM cI o q u) [(0, .ref o), (1, .int x1), (2, .int x2), (3, .int x3)] [] 94 := by
  unfold mM_lost_94 at hm
  refine j_aload_n C dX11_lost_94 rfl 0 rfl ?_
  refine jM_g5 C dX11_lost_95 ?_
  refine j_bipush (v := 10) C dX11_lost_98 (by decide) ?_
  refine j_iload_n C dX11_lost_100 rfl 1 rfl ?_
  refine j_imul C dX11_lost_101 ?_
  refine j_bipush (v := 8) C dX11_lost_102 (by decide) ?_
  refine j_iadd C dX11_lost_104 ?_
  refine j_iload_n C dX11_lost_105 rfl 2 rfl ?_
  refine jM_S5 C dX11_lost_106 hm (fun u2 hm => ?_)
  refine j_iload_n C dX11_lost_107 rfl 3 rfl ?_
  cases hm
  exact j_iret C hR dX11_lost_108
def mM_lost_29 (N : Nat) (k29 : MSt → Int32 → Int32 → Int32 → Int32 → Option (Int32 × MSt)) (u : MSt) (x1 : Int32) (x2 : Int32) (x3 : Int32) (x4 : Int32) : Option (Int32 × MSt) := if 10 ≤ x4 then (mM_lost_94 N u x1 x2 x3) else (if x4 = 0 then (mM_lost_54 N k29 u x1 x2 x3 x4) else (rd (u.2.1 5) 100 (10 * x1) (fun a1 => if a1 = 3 then (mM_lost_94 N u x1 x2 x3) else (mM_lost_54 N k29 u x1 x2 x3 x4))))
set_option maxRecDepth 100000 in
set_option maxHeartbeats 4000000 in
theorem kM_lost_29 {l : Launch} {D : va_G} {cI : ClassId} {o : Nat} {q : Nat → Nat} {G : Gx} {N : Nat} {rr : (Int32 × MSt)} (C : jC l rmM_lost D [(cI, .int)] G cX11_lost 5 RX11) (hR : jR D [(cI, .int)] G (0, 0) (some .int) (some (.int rr.1)) (wM cI o q rr.2)) (k29 : MSt → Int32 → Int32 → Int32 → Int32 → Option (Int32 × MSt)) (K29 : ∀ (u : MSt) (x1 : Int32) (x2 : Int32) (x3 : Int32) (x4 : Int32), k29 u x1 x2 x3 x4 = some rr → J l rmM_lost D G (0, 0) (wM cI o q u) [(0, .ref o), (1, .int x1), (2, .int x2), (3, .int x3), (4, .int x4)] [] 29) (u : MSt) (x1 : Int32) (x2 : Int32) (x3 : Int32) (x4 : Int32) (hm : mM_lost_29 N k29 u x1 x2 x3 x4 = some rr) : J l rmM_lost D G (0, 0) (wM cI o q u) [(0, .ref o), (1, .int x1), (2, .int x2), (3, .int x3), (4, .int x4)] [] 29 := by
  unfold mM_lost_29 at hm
  refine j_iload C dX11_lost_29 4 rfl ?_
  refine j_bipush (v := 10) C dX11_lost_31 (by decide) ?_
  refine j_icmp_geq (tgt := 94) C dX11_lost_33 (by decide) hm (fun hm => ?_) (fun hm => ?_)
  · exact J.sub [0, 1, 2, 3] rfl (kM_lost_94 C hR u x1 x2 x3 hm)
  · refine j_iload C dX11_lost_36 4 rfl ?_
    refine j_if_eqq (tgt := 54) C dX11_lost_38 (by decide) hm (fun hm => ?_) (fun hm => ?_)
    · exact kM_lost_54 C hR k29 K29 u x1 x2 x3 x4 hm
    · refine j_aload_n C dX11_lost_41 rfl 0 rfl ?_
      refine jM_g5 C dX11_lost_42 ?_
      refine j_bipush (v := 10) C dX11_lost_45 (by decide) ?_
      refine j_iload_n C dX11_lost_47 rfl 1 rfl ?_
      refine j_imul C dX11_lost_48 ?_
      refine jM_L5 C dX11_lost_49 hm (fun a1 hm => ?_)
      refine j_iconst (v := 3) C dX11_lost_50 (by decide) ?_
      refine j_icmp_eqq (tgt := 94) C dX11_lost_51 (by decide) hm (fun hm => ?_) (fun hm => ?_)
      · exact J.sub [0, 1, 2, 3] rfl (kM_lost_94 C hR u x1 x2 x3 hm)
      · exact kM_lost_54 C hR k29 K29 u x1 x2 x3 x4 hm
def mM_lost_h29 (N : Nat) : Nat → MSt → Int32 → Int32 → Int32 → Int32 → Option (Int32 × MSt)
  | 0, _, _, _, _, _ => none
  | n + 1, u, x1, x2, x3, x4 => mM_lost_29 N (mM_lost_h29 N n) u x1 x2 x3 x4
theorem kM_lost_h29 {l : Launch} {D : va_G} {cI : ClassId} {o : Nat} {q : Nat → Nat} {G : Gx} {N : Nat} {rr : (Int32 × MSt)} (C : jC l rmM_lost D [(cI, .int)] G cX11_lost 5 RX11) (hR : jR D [(cI, .int)] G (0, 0) (some .int) (some (.int rr.1)) (wM cI o q rr.2))  : ∀ (n : Nat) (u : MSt) (x1 : Int32) (x2 : Int32) (x3 : Int32) (x4 : Int32), mM_lost_h29 N n u x1 x2 x3 x4 = some rr → J l rmM_lost D G (0, 0) (wM cI o q u) [(0, .ref o), (1, .int x1), (2, .int x2), (3, .int x3), (4, .int x4)] [] 29 := by
  intro n
  induction n with
  | zero =>
    intro u x1 x2 x3 x4 hm
    have hm : (none : Option (Int32 × MSt)) = some rr := hm
    cases hm
  | succ n ih =>
    intro u x1 x2 x3 x4 hm
    exact kM_lost_29 C hR _ ih u x1 x2 x3 x4 hm
def mM_lost (N : Nat) (u : MSt) (x1 : Int32) : Option (Int32 × MSt) := (mM_isBridge N u x1).bind (fun r1 => if ¬ r1 = 0 then (rd (u.2.1 5) 100 ((10 * x1) + 8) (fun a2 => mM_lost_h29 N N u x1 a2 0 0)) else (some ((-101), u)))
set_option maxRecDepth 100000 in
set_option maxHeartbeats 4000000 in
theorem cM_lost {l : Launch} {D : va_G} {cI : ClassId} {o : Nat} {q : Nat → Nat} {u : MSt} {N : Nat} {x1 : Int32} {rr : (Int32 × MSt)} (hm : mM_lost N u x1 = some rr) : Con l D [(cI, .int)] yX11_lost (wS yX11_lost cX11_lost 5 (some .int)) rmM_lost [.ref o, .int x1] (wM cI o q u) (some (.int rr.1)) (wM cI o q rr.2) := by
  refine Con.of (by decide +kernel) (Nat.le_of_ble_eq_true rfl) (fun G C hR => ?_)
  unfold mM_lost at hm
  show J l rmM_lost D G (0, 0) (wM cI o q u) [(0, .ref o), (1, .int x1)] [] 0
  refine j_aload_n C dX11_lost_0 rfl 0 rfl ?_
  refine j_iload_n C dX11_lost_1 rfl 1 rfl ?_
  refine j_bind hm (fun r1 hr1 hm => ?_)
  refine j_callV (cs' := (0, 0)) (As := [.int x1]) (rest := []) C (cM_isBridge hr1) wc_X11_isBridge wm_X11_107 wi_X11_isBridge ws_X11_isBridge wn_X11 wd_X11_isBridge ⟨by decide, by decide⟩ 0 rfl rfl rfl (Nat.le_of_ble_eq_true rfl) dX11_lost_2 ⟨by decide, by decide⟩ rfl rfl ?_
  refine j_if_neq (tgt := 11) C dX11_lost_5 (by decide) hm (fun hm => ?_) (fun hm => ?_)
  · refine j_aload_n C dX11_lost_11 rfl 0 rfl ?_
    refine jM_g5 C dX11_lost_12 ?_
    refine j_bipush (v := 10) C dX11_lost_15 (by decide) ?_
    refine j_iload_n C dX11_lost_17 rfl 1 rfl ?_
    refine j_imul C dX11_lost_18 ?_
    refine j_bipush (v := 8) C dX11_lost_19 (by decide) ?_
    refine j_iadd C dX11_lost_21 ?_
    refine jM_L5 C dX11_lost_22 hm (fun a2 hm => ?_)
    refine j_istore_n C dX11_lost_23 rfl (by decide) rfl ?_
    refine j_iconst (v := 0) C dX11_lost_24 (by decide) ?_
    refine j_istore_n C dX11_lost_25 rfl (by decide) rfl ?_
    refine j_iconst (v := 0) C dX11_lost_26 (by decide) ?_
    refine j_istore C dX11_lost_27 (by decide) rfl ?_
    exact J.sub [3, 4, 2, 1, 0] rfl (kM_lost_h29 C hR N u x1 a2 0 0 hm)
  · refine j_bipush (v := (-101)) C dX11_lost_8 (by decide) ?_
    cases hm
    exact j_iret C hR dX11_lost_10
def rmM_allSoonest : Room := { frames := 7, cells := 0, slots := 0, locals := 170 }
theorem wd_X11_allSoonest : yX11_allSoonest.cls ≠ "java/lang/invoke/MethodHandle" ∧ yX11_allSoonest.cls ≠ "java/lang/invoke/VarHandle" ∧ (parseMethodDescriptor yX11_allSoonest.desc).map (fun d => d.parameters.length) = some 2 := by decide +kernel
def mM_allSoonest_57 (N : Nat) (k5 : MSt → Int32 → Int32 → Int32 → Int32 → Option (Int32 × MSt)) (k24 : MSt → Int32 → Int32 → Int32 → Int32 → Int32 → Option (Int32 × MSt)) (u : MSt) (x1 : Int32) (x2 : Int32) (x4 : Int32) (x5 : Int32) (s0 : Int32) (s1 : Int32) : Option (Int32 × MSt) := nm (s1 + s0) (fun v1 => k24 u x1 x2 v1 x4 (x5 + 1))
set_option maxRecDepth 100000 in
set_option maxHeartbeats 4000000 in
theorem kM_allSoonest_57 {l : Launch} {D : va_G} {cI : ClassId} {o : Nat} {q : Nat → Nat} {G : Gx} {N : Nat} {rr : (Int32 × MSt)} (C : jC l rmM_allSoonest D [(cI, .int)] G cX11_allSoonest 6 RX11) (hR : jR D [(cI, .int)] G (0, 0) (some .int) (some (.int rr.1)) (wM cI o q rr.2)) (k5 : MSt → Int32 → Int32 → Int32 → Int32 → Option (Int32 × MSt)) (K5 : ∀ (u : MSt) (x1 : Int32) (x2 : Int32) (x3 : Int32) (x4 : Int32), k5 u x1 x2 x3 x4 = some rr → J l rmM_allSoonest D G (0, 0) (wM cI o q u) [(0, .ref o), (1, .int x1), (2, .int x2), (3, .int x3), (4, .int x4)] [] 5) (k24 : MSt → Int32 → Int32 → Int32 → Int32 → Int32 → Option (Int32 × MSt)) (K24 : ∀ (u : MSt) (x1 : Int32) (x2 : Int32) (x3 : Int32) (x4 : Int32) (x5 : Int32), k24 u x1 x2 x3 x4 x5 = some rr → J l rmM_allSoonest D G (0, 0) (wM cI o q u) [(0, .ref o), (1, .int x1), (2, .int x2), (3, .int x3), (4, .int x4), (5, .int x5)] [] 24) (u : MSt) (x1 : Int32) (x2 : Int32) (x4 : Int32) (x5 : Int32) (s0 : Int32) (s1 : Int32) (hm : mM_allSoonest_57 N k5 k24 u x1 x2 x4 x5 s0 s1 = some rr) : J l rmM_allSoonest D G (0, 0) (wM cI o q u) [(0, .ref o), (1, .int x1), (2, .int x2), (4, .int x4), (5, .int x5)] [.int s0, .int s1] 57 := by
  unfold mM_allSoonest_57 at hm
  refine j_iadd C dX11_allSoonest_57 ?_
  refine j_nmi hm (fun v1 hm => ?_)
  refine j_istore_n C dX11_allSoonest_58 rfl (by decide) rfl ?_
  refine j_iinc (v := (x5 + 1)) C dX11_allSoonest_59 5 rfl rfl (by decide) rfl ?_
  refine j_goto (tgt := 24) C dX11_allSoonest_62 (by decide) ?_
  exact J.sub [2, 3, 4, 1, 5, 0] rfl (K24 u x1 x2 v1 x4 (x5 + 1) hm)
def mM_allSoonest_24 (N : Nat) (k5 : MSt → Int32 → Int32 → Int32 → Int32 → Option (Int32 × MSt)) (k24 : MSt → Int32 → Int32 → Int32 → Int32 → Int32 → Option (Int32 × MSt)) (u : MSt) (x1 : Int32) (x2 : Int32) (x3 : Int32) (x4 : Int32) (x5 : Int32) : Option (Int32 × MSt) := if 8 ≤ x5 then (k5 u x1 x2 x3 (x4 + 1)) else (rd (u.2.1 10) 8 x5 (fun a1 => if ¬ a1 = 100000 then (rd (u.2.1 10) 8 x5 (fun a2 => mM_allSoonest_57 N k5 k24 u x1 x2 x4 x5 a2 x3)) else (mM_allSoonest_57 N k5 k24 u x1 x2 x4 x5 1000 x3)))
set_option maxRecDepth 100000 in
set_option maxHeartbeats 4000000 in
theorem kM_allSoonest_24 {l : Launch} {D : va_G} {cI : ClassId} {o : Nat} {q : Nat → Nat} {G : Gx} {N : Nat} {rr : (Int32 × MSt)} (C : jC l rmM_allSoonest D [(cI, .int)] G cX11_allSoonest 6 RX11) (hR : jR D [(cI, .int)] G (0, 0) (some .int) (some (.int rr.1)) (wM cI o q rr.2)) (k5 : MSt → Int32 → Int32 → Int32 → Int32 → Option (Int32 × MSt)) (K5 : ∀ (u : MSt) (x1 : Int32) (x2 : Int32) (x3 : Int32) (x4 : Int32), k5 u x1 x2 x3 x4 = some rr → J l rmM_allSoonest D G (0, 0) (wM cI o q u) [(0, .ref o), (1, .int x1), (2, .int x2), (3, .int x3), (4, .int x4)] [] 5) (k24 : MSt → Int32 → Int32 → Int32 → Int32 → Int32 → Option (Int32 × MSt)) (K24 : ∀ (u : MSt) (x1 : Int32) (x2 : Int32) (x3 : Int32) (x4 : Int32) (x5 : Int32), k24 u x1 x2 x3 x4 x5 = some rr → J l rmM_allSoonest D G (0, 0) (wM cI o q u) [(0, .ref o), (1, .int x1), (2, .int x2), (3, .int x3), (4, .int x4), (5, .int x5)] [] 24) (u : MSt) (x1 : Int32) (x2 : Int32) (x3 : Int32) (x4 : Int32) (x5 : Int32) (hm : mM_allSoonest_24 N k5 k24 u x1 x2 x3 x4 x5 = some rr) : J l rmM_allSoonest D G (0, 0) (wM cI o q u) [(0, .ref o), (1, .int x1), (2, .int x2), (3, .int x3), (4, .int x4), (5, .int x5)] [] 24 := by
  unfold mM_allSoonest_24 at hm
  refine j_iload C dX11_allSoonest_24 5 rfl ?_
  refine j_bipush (v := 8) C dX11_allSoonest_26 (by decide) ?_
  refine j_icmp_geq (tgt := 65) C dX11_allSoonest_28 (by decide) hm (fun hm => ?_) (fun hm => ?_)
  · refine j_iinc (v := (x4 + 1)) C dX11_allSoonest_65 4 rfl rfl (by decide) rfl ?_
    refine j_goto (tgt := 5) C dX11_allSoonest_68 (by decide) ?_
    exact J.sub [1, 2, 3, 4, 0] rfl (K5 u x1 x2 x3 (x4 + 1) hm)
  · refine j_iload_n C dX11_allSoonest_31 rfl 3 rfl ?_
    refine j_aload_n C dX11_allSoonest_32 rfl 0 rfl ?_
    refine jM_g10 C dX11_allSoonest_33 ?_
    refine j_iload C dX11_allSoonest_36 5 rfl ?_
    refine jM_L10 C dX11_allSoonest_38 hm (fun a1 hm => ?_)
    refine j_ldc C dX11_allSoonest_39 wk_X11_142 ?_
    refine j_icmp_neq (tgt := 50) C dX11_allSoonest_41 (by decide) hm (fun hm => ?_) (fun hm => ?_)
    · refine j_aload_n C dX11_allSoonest_50 rfl 0 rfl ?_
      refine jM_g10 C dX11_allSoonest_51 ?_
      refine j_iload C dX11_allSoonest_54 5 rfl ?_
      refine jM_L10 C dX11_allSoonest_56 hm (fun a2 hm => ?_)
      exact J.sub [0, 1, 2, 4, 5] rfl (kM_allSoonest_57 C hR k5 K5 k24 K24 u x1 x2 x4 x5 a2 x3 hm)
    · refine j_sipush (v := 1000) C dX11_allSoonest_44 (by decide) ?_
      refine j_goto (tgt := 57) C dX11_allSoonest_47 (by decide) ?_
      exact J.sub [0, 1, 2, 4, 5] rfl (kM_allSoonest_57 C hR k5 K5 k24 K24 u x1 x2 x4 x5 1000 x3 hm)
def mM_allSoonest_h24 (N : Nat) (k5 : MSt → Int32 → Int32 → Int32 → Int32 → Option (Int32 × MSt)) : Nat → MSt → Int32 → Int32 → Int32 → Int32 → Int32 → Option (Int32 × MSt)
  | 0, _, _, _, _, _, _ => none
  | n + 1, u, x1, x2, x3, x4, x5 => mM_allSoonest_24 N k5 (mM_allSoonest_h24 N k5 n) u x1 x2 x3 x4 x5
theorem kM_allSoonest_h24 {l : Launch} {D : va_G} {cI : ClassId} {o : Nat} {q : Nat → Nat} {G : Gx} {N : Nat} {rr : (Int32 × MSt)} (C : jC l rmM_allSoonest D [(cI, .int)] G cX11_allSoonest 6 RX11) (hR : jR D [(cI, .int)] G (0, 0) (some .int) (some (.int rr.1)) (wM cI o q rr.2)) (k5 : MSt → Int32 → Int32 → Int32 → Int32 → Option (Int32 × MSt)) (K5 : ∀ (u : MSt) (x1 : Int32) (x2 : Int32) (x3 : Int32) (x4 : Int32), k5 u x1 x2 x3 x4 = some rr → J l rmM_allSoonest D G (0, 0) (wM cI o q u) [(0, .ref o), (1, .int x1), (2, .int x2), (3, .int x3), (4, .int x4)] [] 5) : ∀ (n : Nat) (u : MSt) (x1 : Int32) (x2 : Int32) (x3 : Int32) (x4 : Int32) (x5 : Int32), mM_allSoonest_h24 N k5 n u x1 x2 x3 x4 x5 = some rr → J l rmM_allSoonest D G (0, 0) (wM cI o q u) [(0, .ref o), (1, .int x1), (2, .int x2), (3, .int x3), (4, .int x4), (5, .int x5)] [] 24 := by
  intro n
  induction n with
  | zero =>
    intro u x1 x2 x3 x4 x5 hm
    have hm : (none : Option (Int32 × MSt)) = some rr := hm
    cases hm
  | succ n ih =>
    intro u x1 x2 x3 x4 x5 hm
    exact kM_allSoonest_24 C hR k5 K5 _ ih u x1 x2 x3 x4 x5 hm
def mM_allSoonest_5 (N : Nat) (k5 : MSt → Int32 → Int32 → Int32 → Int32 → Option (Int32 × MSt)) (u : MSt) (x1 : Int32) (x2 : Int32) (x3 : Int32) (x4 : Int32) : Option (Int32 × MSt) := if 8 ≤ x4 then (some (x3, u)) else ((mM_layThere N u x4 0 x1 x2).bind (fun r1 => mM_allSoonest_h24 N k5 N r1 x1 x2 x3 x4 0))
set_option maxRecDepth 100000 in
set_option maxHeartbeats 4000000 in
theorem kM_allSoonest_5 {l : Launch} {D : va_G} {cI : ClassId} {o : Nat} {q : Nat → Nat} {G : Gx} {N : Nat} {rr : (Int32 × MSt)} (C : jC l rmM_allSoonest D [(cI, .int)] G cX11_allSoonest 6 RX11) (hR : jR D [(cI, .int)] G (0, 0) (some .int) (some (.int rr.1)) (wM cI o q rr.2)) (k5 : MSt → Int32 → Int32 → Int32 → Int32 → Option (Int32 × MSt)) (K5 : ∀ (u : MSt) (x1 : Int32) (x2 : Int32) (x3 : Int32) (x4 : Int32), k5 u x1 x2 x3 x4 = some rr → J l rmM_allSoonest D G (0, 0) (wM cI o q u) [(0, .ref o), (1, .int x1), (2, .int x2), (3, .int x3), (4, .int x4)] [] 5) (u : MSt) (x1 : Int32) (x2 : Int32) (x3 : Int32) (x4 : Int32) (hm : mM_allSoonest_5 N k5 u x1 x2 x3 x4 = some rr) : J l rmM_allSoonest D G (0, 0) (wM cI o q u) [(0, .ref o), (1, .int x1), (2, .int x2), (3, .int x3), (4, .int x4)] [] 5 := by
  unfold mM_allSoonest_5 at hm
  refine j_iload C dX11_allSoonest_5 4 rfl ?_
  refine j_bipush (v := 8) C dX11_allSoonest_7 (by decide) ?_
  refine j_icmp_geq (tgt := 71) C dX11_allSoonest_9 (by decide) hm (fun hm => ?_) (fun hm => ?_)
  · refine j_iload_n C dX11_allSoonest_71 rfl 3 rfl ?_
    cases hm
    exact j_iret C hR dX11_allSoonest_72
  · refine j_aload_n C dX11_allSoonest_12 rfl 0 rfl ?_
    refine j_iload C dX11_allSoonest_13 4 rfl ?_
    refine j_iconst (v := 0) C dX11_allSoonest_15 (by decide) ?_
    refine j_iload_n C dX11_allSoonest_16 rfl 1 rfl ?_
    refine j_iload_n C dX11_allSoonest_17 rfl 2 rfl ?_
    refine j_bind hm (fun r1 hr1 hm => ?_)
    refine j_callV (cs' := (0, 0)) (As := [.int x4, .int 0, .int x1, .int x2]) (rest := []) C (cM_layThere hr1) wc_X11_layThere wm_X11_147 wi_X11_layThere ws_X11_layThere wn_X11 wd_X11_layThere ⟨by decide, by decide⟩ 0 rfl rfl rfl (Nat.le_of_ble_eq_true rfl) dX11_allSoonest_18 ⟨by decide, by decide⟩ rfl rfl ?_
    refine j_iconst (v := 0) C dX11_allSoonest_21 (by decide) ?_
    refine j_istore C dX11_allSoonest_22 (by decide) rfl ?_
    exact J.sub [1, 2, 3, 4, 5, 0] rfl (kM_allSoonest_h24 C hR k5 K5 N r1 x1 x2 x3 x4 0 hm)
def mM_allSoonest_h5 (N : Nat) : Nat → MSt → Int32 → Int32 → Int32 → Int32 → Option (Int32 × MSt)
  | 0, _, _, _, _, _ => none
  | n + 1, u, x1, x2, x3, x4 => mM_allSoonest_5 N (mM_allSoonest_h5 N n) u x1 x2 x3 x4
theorem kM_allSoonest_h5 {l : Launch} {D : va_G} {cI : ClassId} {o : Nat} {q : Nat → Nat} {G : Gx} {N : Nat} {rr : (Int32 × MSt)} (C : jC l rmM_allSoonest D [(cI, .int)] G cX11_allSoonest 6 RX11) (hR : jR D [(cI, .int)] G (0, 0) (some .int) (some (.int rr.1)) (wM cI o q rr.2))  : ∀ (n : Nat) (u : MSt) (x1 : Int32) (x2 : Int32) (x3 : Int32) (x4 : Int32), mM_allSoonest_h5 N n u x1 x2 x3 x4 = some rr → J l rmM_allSoonest D G (0, 0) (wM cI o q u) [(0, .ref o), (1, .int x1), (2, .int x2), (3, .int x3), (4, .int x4)] [] 5 := by
  intro n
  induction n with
  | zero =>
    intro u x1 x2 x3 x4 hm
    have hm : (none : Option (Int32 × MSt)) = some rr := hm
    cases hm
  | succ n ih =>
    intro u x1 x2 x3 x4 hm
    exact kM_allSoonest_5 C hR _ ih u x1 x2 x3 x4 hm
def mM_allSoonest (N : Nat) (u : MSt) (x1 : Int32) (x2 : Int32) : Option (Int32 × MSt) := mM_allSoonest_h5 N N u x1 x2 0 0
set_option maxRecDepth 100000 in
set_option maxHeartbeats 4000000 in
theorem cM_allSoonest {l : Launch} {D : va_G} {cI : ClassId} {o : Nat} {q : Nat → Nat} {u : MSt} {N : Nat} {x1 : Int32} {x2 : Int32} {rr : (Int32 × MSt)} (hm : mM_allSoonest N u x1 x2 = some rr) : Con l D [(cI, .int)] yX11_allSoonest (wS yX11_allSoonest cX11_allSoonest 6 (some .int)) rmM_allSoonest [.ref o, .int x1, .int x2] (wM cI o q u) (some (.int rr.1)) (wM cI o q rr.2) := by
  refine Con.of (by decide +kernel) (Nat.le_of_ble_eq_true rfl) (fun G C hR => ?_)
  unfold mM_allSoonest at hm
  show J l rmM_allSoonest D G (0, 0) (wM cI o q u) [(0, .ref o), (1, .int x1), (2, .int x2)] [] 0
  refine j_iconst (v := 0) C dX11_allSoonest_0 (by decide) ?_
  refine j_istore_n C dX11_allSoonest_1 rfl (by decide) rfl ?_
  refine j_iconst (v := 0) C dX11_allSoonest_2 (by decide) ?_
  refine j_istore C dX11_allSoonest_3 (by decide) rfl ?_
  exact J.sub [2, 3, 4, 1, 0] rfl (kM_allSoonest_h5 C hR N u x1 x2 0 0 hm)
def rmM_worth : Room := { frames := 8, cells := 0, slots := 0, locals := 195 }
theorem wd_X11_worth : yX11_worth.cls ≠ "java/lang/invoke/MethodHandle" ∧ yX11_worth.cls ≠ "java/lang/invoke/VarHandle" ∧ (parseMethodDescriptor yX11_worth.desc).map (fun d => d.parameters.length) = some 3 := by decide +kernel
def mM_worth (N : Nat) (u : MSt) (x1 : Int32) (x2 : Int32) (x3 : Int32) : Option (Int32 × MSt) := (mM_isBridge N u x1).bind (fun r1 => if ¬ r1 = 0 then ((mM_isCarrier N x2 x3).bind (fun r2 => if ¬ r2 = 0 then (bp (mM_allSoonest N u x2 x3) (fun r3 u4 => nm (siM u4 7 x1) (fun u5 => bp (mM_allSoonest N u5 x2 x3) (fun r6 u7 => nm (siM u7 7 (-1)) (fun u8 => some ((r6 - r3), u8)))))) else (some ((-102), u)))) else (some ((-101), u)))
set_option maxRecDepth 100000 in
set_option maxHeartbeats 4000000 in
theorem cM_worth {l : Launch} {D : va_G} {cI : ClassId} {o : Nat} {q : Nat → Nat} {u : MSt} {N : Nat} {x1 : Int32} {x2 : Int32} {x3 : Int32} {rr : (Int32 × MSt)} (hm : mM_worth N u x1 x2 x3 = some rr) : Con l D [(cI, .int)] yX11_worth (wS yX11_worth cX11_worth 6 (some .int)) rmM_worth [.ref o, .int x1, .int x2, .int x3] (wM cI o q u) (some (.int rr.1)) (wM cI o q rr.2) := by
  refine Con.of (by decide +kernel) (Nat.le_of_ble_eq_true rfl) (fun G C hR => ?_)
  unfold mM_worth at hm
  show J l rmM_worth D G (0, 0) (wM cI o q u) [(0, .ref o), (1, .int x1), (2, .int x2), (3, .int x3)] [] 0
  refine j_aload_n C dX11_worth_0 rfl 0 rfl ?_
  refine j_iload_n C dX11_worth_1 rfl 1 rfl ?_
  refine j_bind hm (fun r1 hr1 hm => ?_)
  refine j_callV (cs' := (0, 0)) (As := [.int x1]) (rest := []) C (cM_isBridge hr1) wc_X11_isBridge wm_X11_107 wi_X11_isBridge ws_X11_isBridge wn_X11 wd_X11_isBridge ⟨by decide, by decide⟩ 0 rfl rfl rfl (Nat.le_of_ble_eq_true rfl) dX11_worth_2 ⟨by decide, by decide⟩ rfl rfl ?_
  refine j_if_neq (tgt := 11) C dX11_worth_5 (by decide) hm (fun hm => ?_) (fun hm => ?_)
  · refine j_iload_n C dX11_worth_11 rfl 2 rfl ?_
    refine j_iload_n C dX11_worth_12 rfl 3 rfl ?_
    refine j_bind hm (fun r2 hr2 hm => ?_)
    refine j_callS (cs' := (0, 0)) (As := [.int x2, .int x3]) (rest := []) C (cM_isCarrier hr2) wc_X11_isCarrier wm_X11_159 wt_X11_isCarrier wn_X11 wd_X11_isCarrier ⟨by decide, by decide⟩ rfl (Nat.le_of_ble_eq_true rfl) dX11_worth_13 ⟨by decide, by decide⟩ rfl rfl ?_
    refine j_if_neq (tgt := 22) C dX11_worth_16 (by decide) hm (fun hm => ?_) (fun hm => ?_)
    · refine j_aload_n C dX11_worth_22 rfl 0 rfl ?_
      refine j_iload_n C dX11_worth_23 rfl 2 rfl ?_
      refine j_iload_n C dX11_worth_24 rfl 3 rfl ?_
      refine j_bindp hm (fun r3 u4 hr3 hm => ?_)
      refine j_callV (cs' := (0, 0)) (As := [.int x2, .int x3]) (rest := []) C (cM_allSoonest hr3) wc_X11_allSoonest wm_X11_220 wi_X11_allSoonest ws_X11_allSoonest wn_X11 wd_X11_allSoonest ⟨by decide, by decide⟩ 0 rfl rfl rfl (Nat.le_of_ble_eq_true rfl) dX11_worth_25 ⟨by decide, by decide⟩ rfl rfl ?_
      refine j_istore C dX11_worth_28 (by decide) rfl ?_
      refine j_aload_n C dX11_worth_30 rfl 1 rfl ?_
      refine j_iload_n C dX11_worth_31 rfl 2 rfl ?_
      refine jM_p7 C dX11_worth_32 ?_
      refine j_nmu hm (w := wM cI o q) (fun u5 hm => ?_)
      refine j_aload_n C dX11_worth_35 rfl 1 rfl ?_
      refine j_iload_n C dX11_worth_36 rfl 3 rfl ?_
      refine j_iload_n C dX11_worth_37 rfl 4 rfl ?_
      refine j_bindp hm (fun r6 u7 hr6 hm => ?_)
      refine j_callV (cs' := (0, 0)) (As := [.int x2, .int x3]) (rest := []) C (cM_allSoonest hr6) wc_X11_allSoonest wm_X11_220 wi_X11_allSoonest ws_X11_allSoonest wn_X11 wd_X11_allSoonest ⟨by decide, by decide⟩ 0 rfl rfl rfl (Nat.le_of_ble_eq_true rfl) dX11_worth_38 ⟨by decide, by decide⟩ rfl rfl ?_
      refine j_istore C dX11_worth_41 (by decide) rfl ?_
      refine j_aload_n C dX11_worth_43 rfl 2 rfl ?_
      refine j_iconst (v := (-1)) C dX11_worth_44 (by decide) ?_
      refine jM_p7 C dX11_worth_45 ?_
      refine j_nmu hm (w := wM cI o q) (fun u8 hm => ?_)
      refine j_iload C dX11_worth_48 0 rfl ?_
      refine j_iload C dX11_worth_50 1 rfl ?_
      refine j_isub C dX11_worth_52 ?_
      cases hm
      exact j_iret C hR dX11_worth_53
    · refine j_bipush (v := (-102)) C dX11_worth_19 (by decide) ?_
      cases hm
      exact j_iret C hR dX11_worth_21
  · refine j_bipush (v := (-101)) C dX11_worth_8 (by decide) ?_
    cases hm
    exact j_iret C hR dX11_worth_10
def rmM_image : Room := { frames := 0, cells := 0, slots := 0, locals := 0 }
theorem wd_X11_image : yX11_image.cls ≠ "java/lang/invoke/MethodHandle" ∧ yX11_image.cls ≠ "java/lang/invoke/VarHandle" ∧ (parseMethodDescriptor yX11_image.desc).map (fun d => d.parameters.length) = some 0 := by decide +kernel
def mM_image_36 (N : Nat) (k36 : MSt → Int32 → Option (Int32 × MSt)) (u : MSt) (x1 : Int32) : Option (Int32 × MSt) := if 24 ≤ x1 then (nm (siM u 23 (u.1 4)) (fun u1 => nm (u1.1 6) (fun f2 => nm (siM u1 24 f2) (fun u3 => nm (u3.1 21) (fun f4 => nm (siM u3 25 f4) (fun u5 => nm (u5.1 4) (fun f6 => some (f6, u5)))))))) else (rd (u.2.1 22) 24 x1 (fun a7 => wr 24 x1 (fun i8 => nm (saM u 27 i8 a7) (fun u9 => k36 u9 (x1 + 1)))))
set_option maxRecDepth 100000 in
set_option maxHeartbeats 4000000 in
theorem kM_image_36 {l : Launch} {D : va_G} {cI : ClassId} {o : Nat} {q : Nat → Nat} {G : Gx} {N : Nat} {rr : (Int32 × MSt)} (C : jC l rmM_image D [(cI, .int)] G cX11_image 2 RX11) (hR : jR D [(cI, .int)] G (0, 0) (some .int) (some (.int rr.1)) (wM cI o q rr.2)) (k36 : MSt → Int32 → Option (Int32 × MSt)) (K36 : ∀ (u : MSt) (x1 : Int32), k36 u x1 = some rr → J l rmM_image D G (0, 0) (wM cI o q u) [(0, .ref o), (1, .int x1)] [] 36) (u : MSt) (x1 : Int32) (hm : mM_image_36 N k36 u x1 = some rr) : J l rmM_image D G (0, 0) (wM cI o q u) [(0, .ref o), (1, .int x1)] [] 36 := by
  unfold mM_image_36 at hm
  refine j_iload_n C dX11_image_36 rfl 1 rfl ?_
  refine j_bipush (v := 24) C dX11_image_37 (by decide) ?_
  refine j_icmp_geq (tgt := 60) C dX11_image_39 (by decide) hm (fun hm => ?_) (fun hm => ?_)
  · refine j_aload_n C dX11_image_60 rfl 0 rfl ?_
    refine j_aload_n C dX11_image_61 rfl 0 rfl ?_
    refine jM_g4 C dX11_image_62 ?_
    refine jM_p23 C dX11_image_65 ?_
    refine j_nmu hm (w := wM cI o q) (fun u1 hm => ?_)
    refine j_aload_n C dX11_image_68 rfl 0 rfl ?_
    refine j_aload_n C dX11_image_69 rfl 0 rfl ?_
    refine jM_g6 C dX11_image_70 ?_
    refine j_nmi hm (fun f2 hm => ?_)
    refine jM_p24 C dX11_image_73 ?_
    refine j_nmu hm (w := wM cI o q) (fun u3 hm => ?_)
    refine j_aload_n C dX11_image_76 rfl 0 rfl ?_
    refine j_aload_n C dX11_image_77 rfl 0 rfl ?_
    refine jM_g21 C dX11_image_78 ?_
    refine j_nmi hm (fun f4 hm => ?_)
    refine jM_p25 C dX11_image_81 ?_
    refine j_nmu hm (w := wM cI o q) (fun u5 hm => ?_)
    refine j_aload_n C dX11_image_84 rfl 0 rfl ?_
    refine jM_g4 C dX11_image_85 ?_
    refine j_nmi hm (fun f6 hm => ?_)
    cases hm
    exact j_iret C hR dX11_image_88
  · refine j_aload_n C dX11_image_42 rfl 0 rfl ?_
    refine jM_g27 C dX11_image_43 ?_
    refine j_iload_n C dX11_image_46 rfl 1 rfl ?_
    refine j_aload_n C dX11_image_47 rfl 0 rfl ?_
    refine jM_g22 C dX11_image_48 ?_
    refine j_iload_n C dX11_image_51 rfl 1 rfl ?_
    refine jM_L22 C dX11_image_52 hm (fun a7 hm => ?_)
    refine jM_S27 C dX11_image_53 hm (fun u9 hm => ?_)
    refine j_iinc (v := (x1 + 1)) C dX11_image_54 1 rfl rfl (by decide) rfl ?_
    refine j_goto (tgt := 36) C dX11_image_57 (by decide) ?_
    exact J.sub [1, 0] rfl (K36 u9 (x1 + 1) hm)
def mM_image_h36 (N : Nat) : Nat → MSt → Int32 → Option (Int32 × MSt)
  | 0, _, _ => none
  | n + 1, u, x1 => mM_image_36 N (mM_image_h36 N n) u x1
theorem kM_image_h36 {l : Launch} {D : va_G} {cI : ClassId} {o : Nat} {q : Nat → Nat} {G : Gx} {N : Nat} {rr : (Int32 × MSt)} (C : jC l rmM_image D [(cI, .int)] G cX11_image 2 RX11) (hR : jR D [(cI, .int)] G (0, 0) (some .int) (some (.int rr.1)) (wM cI o q rr.2))  : ∀ (n : Nat) (u : MSt) (x1 : Int32), mM_image_h36 N n u x1 = some rr → J l rmM_image D G (0, 0) (wM cI o q u) [(0, .ref o), (1, .int x1)] [] 36 := by
  intro n
  induction n with
  | zero =>
    intro u x1 hm
    have hm : (none : Option (Int32 × MSt)) = some rr := hm
    cases hm
  | succ n ih =>
    intro u x1 hm
    exact kM_image_36 C hR _ ih u x1 hm
def mM_image_2 (N : Nat) (k2 : MSt → Int32 → Option (Int32 × MSt)) (u : MSt) (x1 : Int32) : Option (Int32 × MSt) := if (u.1 4) ≤ x1 then (mM_image_h36 N N u 0) else (rd (u.2.1 5) 100 ((10 * x1) + 8) (fun a1 => wr 10 x1 (fun i2 => nm (saM u 26 i2 a1) (fun u3 => k2 u3 (x1 + 1)))))
set_option maxRecDepth 100000 in
set_option maxHeartbeats 4000000 in
theorem kM_image_2 {l : Launch} {D : va_G} {cI : ClassId} {o : Nat} {q : Nat → Nat} {G : Gx} {N : Nat} {rr : (Int32 × MSt)} (C : jC l rmM_image D [(cI, .int)] G cX11_image 2 RX11) (hR : jR D [(cI, .int)] G (0, 0) (some .int) (some (.int rr.1)) (wM cI o q rr.2)) (k2 : MSt → Int32 → Option (Int32 × MSt)) (K2 : ∀ (u : MSt) (x1 : Int32), k2 u x1 = some rr → J l rmM_image D G (0, 0) (wM cI o q u) [(0, .ref o), (1, .int x1)] [] 2) (u : MSt) (x1 : Int32) (hm : mM_image_2 N k2 u x1 = some rr) : J l rmM_image D G (0, 0) (wM cI o q u) [(0, .ref o), (1, .int x1)] [] 2 := by
  unfold mM_image_2 at hm
  refine j_iload_n C dX11_image_2 rfl 1 rfl ?_
  refine j_aload_n C dX11_image_3 rfl 0 rfl ?_
  refine jM_g4 C dX11_image_4 ?_
  refine j_icmp_geq (tgt := 34) C dX11_image_7 (by decide) hm (fun hm => ?_) (fun hm => ?_)
  · refine j_iconst (v := 0) C dX11_image_34 (by decide) ?_
    refine j_istore_n C dX11_image_35 rfl (by decide) rfl ?_
    exact J.sub [1, 0] rfl (kM_image_h36 C hR N u 0 hm)
  · refine j_aload_n C dX11_image_10 rfl 0 rfl ?_
    refine jM_g26 C dX11_image_11 ?_
    refine j_iload_n C dX11_image_14 rfl 1 rfl ?_
    refine j_aload_n C dX11_image_15 rfl 0 rfl ?_
    refine jM_g5 C dX11_image_16 ?_
    refine j_bipush (v := 10) C dX11_image_19 (by decide) ?_
    refine j_iload_n C dX11_image_21 rfl 1 rfl ?_
    refine j_imul C dX11_image_22 ?_
    refine j_bipush (v := 8) C dX11_image_23 (by decide) ?_
    refine j_iadd C dX11_image_25 ?_
    refine jM_L5 C dX11_image_26 hm (fun a1 hm => ?_)
    refine jM_S26 C dX11_image_27 hm (fun u3 hm => ?_)
    refine j_iinc (v := (x1 + 1)) C dX11_image_28 1 rfl rfl (by decide) rfl ?_
    refine j_goto (tgt := 2) C dX11_image_31 (by decide) ?_
    exact J.sub [1, 0] rfl (K2 u3 (x1 + 1) hm)
def mM_image_h2 (N : Nat) : Nat → MSt → Int32 → Option (Int32 × MSt)
  | 0, _, _ => none
  | n + 1, u, x1 => mM_image_2 N (mM_image_h2 N n) u x1
theorem kM_image_h2 {l : Launch} {D : va_G} {cI : ClassId} {o : Nat} {q : Nat → Nat} {G : Gx} {N : Nat} {rr : (Int32 × MSt)} (C : jC l rmM_image D [(cI, .int)] G cX11_image 2 RX11) (hR : jR D [(cI, .int)] G (0, 0) (some .int) (some (.int rr.1)) (wM cI o q rr.2))  : ∀ (n : Nat) (u : MSt) (x1 : Int32), mM_image_h2 N n u x1 = some rr → J l rmM_image D G (0, 0) (wM cI o q u) [(0, .ref o), (1, .int x1)] [] 2 := by
  intro n
  induction n with
  | zero =>
    intro u x1 hm
    have hm : (none : Option (Int32 × MSt)) = some rr := hm
    cases hm
  | succ n ih =>
    intro u x1 hm
    exact kM_image_2 C hR _ ih u x1 hm
def mM_image (N : Nat) (u : MSt) : Option (Int32 × MSt) := mM_image_h2 N N u 0
set_option maxRecDepth 100000 in
set_option maxHeartbeats 4000000 in
theorem cM_image {l : Launch} {D : va_G} {cI : ClassId} {o : Nat} {q : Nat → Nat} {u : MSt} {N : Nat}  {rr : (Int32 × MSt)} (hm : mM_image N u = some rr) : Con l D [(cI, .int)] yX11_image (wS yX11_image cX11_image 2 (some .int)) rmM_image [.ref o] (wM cI o q u) (some (.int rr.1)) (wM cI o q rr.2) := by
  refine Con.of (by decide +kernel) (Nat.le_of_ble_eq_true rfl) (fun G C hR => ?_)
  unfold mM_image at hm
  show J l rmM_image D G (0, 0) (wM cI o q u) [(0, .ref o)] [] 0
  refine j_iconst (v := 0) C dX11_image_0 (by decide) ?_
  refine j_istore_n C dX11_image_1 rfl (by decide) rfl ?_
  exact J.sub [1, 0] rfl (kM_image_h2 C hR N u 0 hm)
def rmM_restore : Room := { frames := 0, cells := 0, slots := 0, locals := 0 }
theorem wd_X11_restore : yX11_restore.cls ≠ "java/lang/invoke/MethodHandle" ∧ yX11_restore.cls ≠ "java/lang/invoke/VarHandle" ∧ (parseMethodDescriptor yX11_restore.desc).map (fun d => d.parameters.length) = some 0 := by decide +kernel
def mM_restore_55 (N : Nat) (k55 : MSt → Int32 → Option (Int32 × MSt)) (u : MSt) (x1 : Int32) : Option (Int32 × MSt) := if 24 ≤ x1 then (nm (siM u 6 (u.1 24)) (fun u1 => nm (u1.1 25) (fun f2 => nm (siM u1 21 f2) (fun u3 => nm (u3.1 4) (fun f4 => some (f4, u3)))))) else (rd (u.2.1 27) 24 x1 (fun a5 => wr 24 x1 (fun i6 => nm (saM u 22 i6 a5) (fun u7 => k55 u7 (x1 + 1)))))
set_option maxRecDepth 100000 in
set_option maxHeartbeats 4000000 in
theorem kM_restore_55 {l : Launch} {D : va_G} {cI : ClassId} {o : Nat} {q : Nat → Nat} {G : Gx} {N : Nat} {rr : (Int32 × MSt)} (C : jC l rmM_restore D [(cI, .int)] G cX11_restore 2 RX11) (hR : jR D [(cI, .int)] G (0, 0) (some .int) (some (.int rr.1)) (wM cI o q rr.2)) (k55 : MSt → Int32 → Option (Int32 × MSt)) (K55 : ∀ (u : MSt) (x1 : Int32), k55 u x1 = some rr → J l rmM_restore D G (0, 0) (wM cI o q u) [(0, .ref o), (1, .int x1)] [] 55) (u : MSt) (x1 : Int32) (hm : mM_restore_55 N k55 u x1 = some rr) : J l rmM_restore D G (0, 0) (wM cI o q u) [(0, .ref o), (1, .int x1)] [] 55 := by
  unfold mM_restore_55 at hm
  refine j_iload_n C dX11_restore_55 rfl 1 rfl ?_
  refine j_bipush (v := 24) C dX11_restore_56 (by decide) ?_
  refine j_icmp_geq (tgt := 79) C dX11_restore_58 (by decide) hm (fun hm => ?_) (fun hm => ?_)
  · refine j_aload_n C dX11_restore_79 rfl 0 rfl ?_
    refine j_aload_n C dX11_restore_80 rfl 0 rfl ?_
    refine jM_g24 C dX11_restore_81 ?_
    refine jM_p6 C dX11_restore_84 ?_
    refine j_nmu hm (w := wM cI o q) (fun u1 hm => ?_)
    refine j_aload_n C dX11_restore_87 rfl 0 rfl ?_
    refine j_aload_n C dX11_restore_88 rfl 0 rfl ?_
    refine jM_g25 C dX11_restore_89 ?_
    refine j_nmi hm (fun f2 hm => ?_)
    refine jM_p21 C dX11_restore_92 ?_
    refine j_nmu hm (w := wM cI o q) (fun u3 hm => ?_)
    refine j_aload_n C dX11_restore_95 rfl 0 rfl ?_
    refine jM_g4 C dX11_restore_96 ?_
    refine j_nmi hm (fun f4 hm => ?_)
    cases hm
    exact j_iret C hR dX11_restore_99
  · refine j_aload_n C dX11_restore_61 rfl 0 rfl ?_
    refine jM_g22 C dX11_restore_62 ?_
    refine j_iload_n C dX11_restore_65 rfl 1 rfl ?_
    refine j_aload_n C dX11_restore_66 rfl 0 rfl ?_
    refine jM_g27 C dX11_restore_67 ?_
    refine j_iload_n C dX11_restore_70 rfl 1 rfl ?_
    refine jM_L27 C dX11_restore_71 hm (fun a5 hm => ?_)
    refine jM_S22 C dX11_restore_72 hm (fun u7 hm => ?_)
    refine j_iinc (v := (x1 + 1)) C dX11_restore_73 1 rfl rfl (by decide) rfl ?_
    refine j_goto (tgt := 55) C dX11_restore_76 (by decide) ?_
    exact J.sub [1, 0] rfl (K55 u7 (x1 + 1) hm)
def mM_restore_h55 (N : Nat) : Nat → MSt → Int32 → Option (Int32 × MSt)
  | 0, _, _ => none
  | n + 1, u, x1 => mM_restore_55 N (mM_restore_h55 N n) u x1
theorem kM_restore_h55 {l : Launch} {D : va_G} {cI : ClassId} {o : Nat} {q : Nat → Nat} {G : Gx} {N : Nat} {rr : (Int32 × MSt)} (C : jC l rmM_restore D [(cI, .int)] G cX11_restore 2 RX11) (hR : jR D [(cI, .int)] G (0, 0) (some .int) (some (.int rr.1)) (wM cI o q rr.2))  : ∀ (n : Nat) (u : MSt) (x1 : Int32), mM_restore_h55 N n u x1 = some rr → J l rmM_restore D G (0, 0) (wM cI o q u) [(0, .ref o), (1, .int x1)] [] 55 := by
  intro n
  induction n with
  | zero =>
    intro u x1 hm
    have hm : (none : Option (Int32 × MSt)) = some rr := hm
    cases hm
  | succ n ih =>
    intro u x1 hm
    exact kM_restore_55 C hR _ ih u x1 hm
def mM_restore_21 (N : Nat) (k21 : MSt → Int32 → Option (Int32 × MSt)) (u : MSt) (x1 : Int32) : Option (Int32 × MSt) := if (u.1 4) ≤ x1 then (mM_restore_h55 N N u 0) else (rd (u.2.1 26) 10 x1 (fun a1 => wr 100 ((10 * x1) + 8) (fun i2 => nm (saM u 5 i2 a1) (fun u3 => k21 u3 (x1 + 1)))))
set_option maxRecDepth 100000 in
set_option maxHeartbeats 4000000 in
theorem kM_restore_21 {l : Launch} {D : va_G} {cI : ClassId} {o : Nat} {q : Nat → Nat} {G : Gx} {N : Nat} {rr : (Int32 × MSt)} (C : jC l rmM_restore D [(cI, .int)] G cX11_restore 2 RX11) (hR : jR D [(cI, .int)] G (0, 0) (some .int) (some (.int rr.1)) (wM cI o q rr.2)) (k21 : MSt → Int32 → Option (Int32 × MSt)) (K21 : ∀ (u : MSt) (x1 : Int32), k21 u x1 = some rr → J l rmM_restore D G (0, 0) (wM cI o q u) [(0, .ref o), (1, .int x1)] [] 21) (u : MSt) (x1 : Int32) (hm : mM_restore_21 N k21 u x1 = some rr) : J l rmM_restore D G (0, 0) (wM cI o q u) [(0, .ref o), (1, .int x1)] [] 21 := by
  unfold mM_restore_21 at hm
  refine j_iload_n C dX11_restore_21 rfl 1 rfl ?_
  refine j_aload_n C dX11_restore_22 rfl 0 rfl ?_
  refine jM_g4 C dX11_restore_23 ?_
  refine j_icmp_geq (tgt := 53) C dX11_restore_26 (by decide) hm (fun hm => ?_) (fun hm => ?_)
  · refine j_iconst (v := 0) C dX11_restore_53 (by decide) ?_
    refine j_istore_n C dX11_restore_54 rfl (by decide) rfl ?_
    exact J.sub [1, 0] rfl (kM_restore_h55 C hR N u 0 hm)
  · refine j_aload_n C dX11_restore_29 rfl 0 rfl ?_
    refine jM_g5 C dX11_restore_30 ?_
    refine j_bipush (v := 10) C dX11_restore_33 (by decide) ?_
    refine j_iload_n C dX11_restore_35 rfl 1 rfl ?_
    refine j_imul C dX11_restore_36 ?_
    refine j_bipush (v := 8) C dX11_restore_37 (by decide) ?_
    refine j_iadd C dX11_restore_39 ?_
    refine j_aload_n C dX11_restore_40 rfl 0 rfl ?_
    refine jM_g26 C dX11_restore_41 ?_
    refine j_iload_n C dX11_restore_44 rfl 1 rfl ?_
    refine jM_L26 C dX11_restore_45 hm (fun a1 hm => ?_)
    refine jM_S5 C dX11_restore_46 hm (fun u3 hm => ?_)
    refine j_iinc (v := (x1 + 1)) C dX11_restore_47 1 rfl rfl (by decide) rfl ?_
    refine j_goto (tgt := 21) C dX11_restore_50 (by decide) ?_
    exact J.sub [1, 0] rfl (K21 u3 (x1 + 1) hm)
def mM_restore_h21 (N : Nat) : Nat → MSt → Int32 → Option (Int32 × MSt)
  | 0, _, _ => none
  | n + 1, u, x1 => mM_restore_21 N (mM_restore_h21 N n) u x1
theorem kM_restore_h21 {l : Launch} {D : va_G} {cI : ClassId} {o : Nat} {q : Nat → Nat} {G : Gx} {N : Nat} {rr : (Int32 × MSt)} (C : jC l rmM_restore D [(cI, .int)] G cX11_restore 2 RX11) (hR : jR D [(cI, .int)] G (0, 0) (some .int) (some (.int rr.1)) (wM cI o q rr.2))  : ∀ (n : Nat) (u : MSt) (x1 : Int32), mM_restore_h21 N n u x1 = some rr → J l rmM_restore D G (0, 0) (wM cI o q u) [(0, .ref o), (1, .int x1)] [] 21 := by
  intro n
  induction n with
  | zero =>
    intro u x1 hm
    have hm : (none : Option (Int32 × MSt)) = some rr := hm
    cases hm
  | succ n ih =>
    intro u x1 hm
    exact kM_restore_21 C hR _ ih u x1 hm
def mM_restore (N : Nat) (u : MSt) : Option (Int32 × MSt) := if ¬ (u.1 23) = (-1) then (nm (siM u 4 (u.1 23)) (fun u1 => mM_restore_h21 N N u1 0)) else (some ((-103), u))
set_option maxRecDepth 100000 in
set_option maxHeartbeats 4000000 in
theorem cM_restore {l : Launch} {D : va_G} {cI : ClassId} {o : Nat} {q : Nat → Nat} {u : MSt} {N : Nat}  {rr : (Int32 × MSt)} (hm : mM_restore N u = some rr) : Con l D [(cI, .int)] yX11_restore (wS yX11_restore cX11_restore 2 (some .int)) rmM_restore [.ref o] (wM cI o q u) (some (.int rr.1)) (wM cI o q rr.2) := by
  refine Con.of (by decide +kernel) (Nat.le_of_ble_eq_true rfl) (fun G C hR => ?_)
  unfold mM_restore at hm
  show J l rmM_restore D G (0, 0) (wM cI o q u) [(0, .ref o)] [] 0
  refine j_aload_n C dX11_restore_0 rfl 0 rfl ?_
  refine jM_g23 C dX11_restore_1 ?_
  refine j_iconst (v := (-1)) C dX11_restore_4 (by decide) ?_
  refine j_icmp_neq (tgt := 11) C dX11_restore_5 (by decide) hm (fun hm => ?_) (fun hm => ?_)
  · refine j_aload_n C dX11_restore_11 rfl 0 rfl ?_
    refine j_aload_n C dX11_restore_12 rfl 0 rfl ?_
    refine jM_g23 C dX11_restore_13 ?_
    refine jM_p4 C dX11_restore_16 ?_
    refine j_nmu hm (w := wM cI o q) (fun u1 hm => ?_)
    refine j_iconst (v := 0) C dX11_restore_19 (by decide) ?_
    refine j_istore_n C dX11_restore_20 rfl (by decide) rfl ?_
    exact J.sub [1, 0] rfl (kM_restore_h21 C hR N u1 0 hm)
  · refine j_bipush (v := (-103)) C dX11_restore_8 (by decide) ?_
    cases hm
    exact j_iret C hR dX11_restore_10
def rmM_turning : Room := { frames := 0, cells := 0, slots := 0, locals := 0 }
theorem wd_X11_turning : yX11_turning.cls ≠ "java/lang/invoke/MethodHandle" ∧ yX11_turning.cls ≠ "java/lang/invoke/VarHandle" ∧ (parseMethodDescriptor yX11_turning.desc).map (fun d => d.parameters.length) = some 0 := by decide +kernel
def mM_turning_31 (N : Nat) (u : MSt) (k4 : Int32 → Int32 → Option Int32) (x2 : Int32) (s0 : Int32) (s1 : Int32) : Option Int32 := nm (s1 + s0) (fun v1 => k4 v1 (x2 + 1))
set_option maxRecDepth 100000 in
set_option maxHeartbeats 4000000 in
theorem kM_turning_31 {l : Launch} {D : va_G} {cI : ClassId} {o : Nat} {q : Nat → Nat} {u : MSt} {G : Gx} {N : Nat} {rr : Int32} (C : jC l rmM_turning D [(cI, .int)] G cX11_turning 3 RX11) (hR : jR D [(cI, .int)] G (0, 0) (some .int) (some (.int rr)) (wM cI o q u)) (k4 : Int32 → Int32 → Option Int32) (K4 : ∀ (x1 : Int32) (x2 : Int32), k4 x1 x2 = some rr → J l rmM_turning D G (0, 0) (wM cI o q u) [(0, .ref o), (1, .int x1), (2, .int x2)] [] 4) (x2 : Int32) (s0 : Int32) (s1 : Int32) (hm : mM_turning_31 N u k4 x2 s0 s1 = some rr) : J l rmM_turning D G (0, 0) (wM cI o q u) [(0, .ref o), (2, .int x2)] [.int s0, .int s1] 31 := by
  unfold mM_turning_31 at hm
  refine j_iadd C dX11_turning_31 ?_
  refine j_nmi hm (fun v1 hm => ?_)
  refine j_istore_n C dX11_turning_32 rfl (by decide) rfl ?_
  refine j_iinc (v := (x2 + 1)) C dX11_turning_33 2 rfl rfl (by decide) rfl ?_
  refine j_goto (tgt := 4) C dX11_turning_36 (by decide) ?_
  exact J.sub [2, 1, 0] rfl (K4 v1 (x2 + 1) hm)
def mM_turning_4 (N : Nat) (u : MSt) (k4 : Int32 → Int32 → Option Int32) (x1 : Int32) (x2 : Int32) : Option Int32 := if (u.1 4) ≤ x2 then (some x1) else (rd (u.2.1 5) 100 (10 * x2) (fun a1 => if ¬ a1 = 3 then (mM_turning_31 N u k4 x2 1 x1) else (mM_turning_31 N u k4 x2 0 x1)))
set_option maxRecDepth 100000 in
set_option maxHeartbeats 4000000 in
theorem kM_turning_4 {l : Launch} {D : va_G} {cI : ClassId} {o : Nat} {q : Nat → Nat} {u : MSt} {G : Gx} {N : Nat} {rr : Int32} (C : jC l rmM_turning D [(cI, .int)] G cX11_turning 3 RX11) (hR : jR D [(cI, .int)] G (0, 0) (some .int) (some (.int rr)) (wM cI o q u)) (k4 : Int32 → Int32 → Option Int32) (K4 : ∀ (x1 : Int32) (x2 : Int32), k4 x1 x2 = some rr → J l rmM_turning D G (0, 0) (wM cI o q u) [(0, .ref o), (1, .int x1), (2, .int x2)] [] 4) (x1 : Int32) (x2 : Int32) (hm : mM_turning_4 N u k4 x1 x2 = some rr) : J l rmM_turning D G (0, 0) (wM cI o q u) [(0, .ref o), (1, .int x1), (2, .int x2)] [] 4 := by
  unfold mM_turning_4 at hm
  refine j_iload_n C dX11_turning_4 rfl 2 rfl ?_
  refine j_aload_n C dX11_turning_5 rfl 0 rfl ?_
  refine jM_g4 C dX11_turning_6 ?_
  refine j_icmp_geq (tgt := 39) C dX11_turning_9 (by decide) hm (fun hm => ?_) (fun hm => ?_)
  · refine j_iload_n C dX11_turning_39 rfl 1 rfl ?_
    cases hm
    exact j_iret C hR dX11_turning_40
  · refine j_iload_n C dX11_turning_12 rfl 1 rfl ?_
    refine j_aload_n C dX11_turning_13 rfl 0 rfl ?_
    refine jM_g5 C dX11_turning_14 ?_
    refine j_bipush (v := 10) C dX11_turning_17 (by decide) ?_
    refine j_iload_n C dX11_turning_19 rfl 2 rfl ?_
    refine j_imul C dX11_turning_20 ?_
    refine jM_L5 C dX11_turning_21 hm (fun a1 hm => ?_)
    refine j_iconst (v := 3) C dX11_turning_22 (by decide) ?_
    refine j_icmp_neq (tgt := 30) C dX11_turning_23 (by decide) hm (fun hm => ?_) (fun hm => ?_)
    · refine j_iconst (v := 1) C dX11_turning_30 (by decide) ?_
      exact J.sub [0, 2] rfl (kM_turning_31 C hR k4 K4 x2 1 x1 hm)
    · refine j_iconst (v := 0) C dX11_turning_26 (by decide) ?_
      refine j_goto (tgt := 31) C dX11_turning_27 (by decide) ?_
      exact J.sub [0, 2] rfl (kM_turning_31 C hR k4 K4 x2 0 x1 hm)
def mM_turning_h4 (N : Nat) (u : MSt) : Nat → Int32 → Int32 → Option Int32
  | 0, _, _ => none
  | n + 1, x1, x2 => mM_turning_4 N u (mM_turning_h4 N u n) x1 x2
theorem kM_turning_h4 {l : Launch} {D : va_G} {cI : ClassId} {o : Nat} {q : Nat → Nat} {u : MSt} {G : Gx} {N : Nat} {rr : Int32} (C : jC l rmM_turning D [(cI, .int)] G cX11_turning 3 RX11) (hR : jR D [(cI, .int)] G (0, 0) (some .int) (some (.int rr)) (wM cI o q u))  : ∀ (n : Nat) (x1 : Int32) (x2 : Int32), mM_turning_h4 N u n x1 x2 = some rr → J l rmM_turning D G (0, 0) (wM cI o q u) [(0, .ref o), (1, .int x1), (2, .int x2)] [] 4 := by
  intro n
  induction n with
  | zero =>
    intro x1 x2 hm
    have hm : (none : Option Int32) = some rr := hm
    cases hm
  | succ n ih =>
    intro x1 x2 hm
    exact kM_turning_4 C hR _ ih x1 x2 hm
def mM_turning (N : Nat) (u : MSt) : Option Int32 := mM_turning_h4 N u N 0 0
set_option maxRecDepth 100000 in
set_option maxHeartbeats 4000000 in
theorem cM_turning {l : Launch} {D : va_G} {cI : ClassId} {o : Nat} {q : Nat → Nat} {u : MSt} {N : Nat}  {rr : Int32} (hm : mM_turning N u = some rr) : Con l D [(cI, .int)] yX11_turning (wS yX11_turning cX11_turning 3 (some .int)) rmM_turning [.ref o] (wM cI o q u) (some (.int rr)) (wM cI o q u) := by
  refine Con.of (by decide +kernel) (Nat.le_of_ble_eq_true rfl) (fun G C hR => ?_)
  unfold mM_turning at hm
  show J l rmM_turning D G (0, 0) (wM cI o q u) [(0, .ref o)] [] 0
  refine j_iconst (v := 0) C dX11_turning_0 (by decide) ?_
  refine j_istore_n C dX11_turning_1 rfl (by decide) rfl ?_
  refine j_iconst (v := 0) C dX11_turning_2 (by decide) ?_
  refine j_istore_n C dX11_turning_3 rfl (by decide) rfl ?_
  exact J.sub [2, 1, 0] rfl (kM_turning_h4 C hR N 0 0 hm)
def rmM_countOf : Room := { frames := 1, cells := 0, slots := 0, locals := 22 }
theorem wd_X11_countOf : yX11_countOf.cls ≠ "java/lang/invoke/MethodHandle" ∧ yX11_countOf.cls ≠ "java/lang/invoke/VarHandle" ∧ (parseMethodDescriptor yX11_countOf.desc).map (fun d => d.parameters.length) = some 1 := by decide +kernel
def mM_countOf (N : Nat) (u : MSt) (x1 : Int32) : Option Int32 := if x1.toInt < 0 ∨ 4 < x1.toInt then (some (-102)) else if x1 = 0 then (some (u.1 4)) else if x1 = 1 then (some (u.1 6)) else if x1 = 2 then (some (u.1 21)) else if x1 = 3 then (some (u.1 1)) else if x1 = 4 then ((mM_turning N u).bind (fun r1 => some r1)) else none
set_option maxRecDepth 100000 in
set_option maxHeartbeats 4000000 in
theorem cM_countOf {l : Launch} {D : va_G} {cI : ClassId} {o : Nat} {q : Nat → Nat} {u : MSt} {N : Nat} {x1 : Int32} {rr : Int32} (hm : mM_countOf N u x1 = some rr) : Con l D [(cI, .int)] yX11_countOf (wS yX11_countOf cX11_countOf 2 (some .int)) rmM_countOf [.ref o, .int x1] (wM cI o q u) (some (.int rr)) (wM cI o q u) := by
  refine Con.of (by decide +kernel) (Nat.le_of_ble_eq_true rfl) (fun G C hR => ?_)
  unfold mM_countOf at hm
  show J l rmM_countOf D G (0, 0) (wM cI o q u) [(0, .ref o), (1, .int x1)] [] 0
  refine j_iload_n C dX11_countOf_0 rfl 1 rfl ?_
  refine j_tswD (tgt := 61) C dX11_countOf_1 (by decide) hm (fun hm => ?_) (fun hm => ?_)
  · refine j_bipush (v := (-102)) C dX11_countOf_61 (by decide) ?_
    cases hm
    exact j_iret C hR dX11_countOf_63
  refine j_tswK (k := 0) (tgt := 36) C dX11_countOf_1 (by decide) (by decide) rfl (by decide) hm (fun hm => ?_) (fun hm => ?_)
  · refine j_aload_n C dX11_countOf_36 rfl 0 rfl ?_
    refine jM_g4 C dX11_countOf_37 ?_
    cases hm
    exact j_iret C hR dX11_countOf_40
  refine j_tswK (k := 1) (tgt := 41) C dX11_countOf_1 (by decide) (by decide) rfl (by decide) hm (fun hm => ?_) (fun hm => ?_)
  · refine j_aload_n C dX11_countOf_41 rfl 0 rfl ?_
    refine jM_g6 C dX11_countOf_42 ?_
    cases hm
    exact j_iret C hR dX11_countOf_45
  refine j_tswK (k := 2) (tgt := 46) C dX11_countOf_1 (by decide) (by decide) rfl (by decide) hm (fun hm => ?_) (fun hm => ?_)
  · refine j_aload_n C dX11_countOf_46 rfl 0 rfl ?_
    refine jM_g21 C dX11_countOf_47 ?_
    cases hm
    exact j_iret C hR dX11_countOf_50
  refine j_tswK (k := 3) (tgt := 51) C dX11_countOf_1 (by decide) (by decide) rfl (by decide) hm (fun hm => ?_) (fun hm => ?_)
  · refine j_aload_n C dX11_countOf_51 rfl 0 rfl ?_
    refine jM_g1 C dX11_countOf_52 ?_
    cases hm
    exact j_iret C hR dX11_countOf_55
  refine j_tswK (k := 4) (tgt := 56) C dX11_countOf_1 (by decide) (by decide) rfl (by decide) hm (fun hm => ?_) (fun hm => ?_)
  · refine j_aload_n C dX11_countOf_56 rfl 0 rfl ?_
    refine j_bind hm (fun r1 hr1 hm => ?_)
    refine j_callV (cs' := (0, 0)) (As := []) (rest := []) C (cM_turning hr1) wc_X11_turning wm_X11_229 wi_X11_turning ws_X11_turning wn_X11 wd_X11_turning ⟨by decide, by decide⟩ 0 rfl rfl rfl (Nat.le_of_ble_eq_true rfl) dX11_countOf_57 ⟨by decide, by decide⟩ rfl rfl ?_
    cases hm
    exact j_iret C hR dX11_countOf_60
  cases hm
def rmM_count : Room := { frames := 2, cells := 0, slots := 0, locals := 43 }
theorem wd_X11_count : yX11_count.cls ≠ "java/lang/invoke/MethodHandle" ∧ yX11_count.cls ≠ "java/lang/invoke/VarHandle" ∧ (parseMethodDescriptor yX11_count.desc).map (fun d => d.parameters.length) = some 1 := by decide +kernel
def mM_count (N : Nat) (u : MSt) (x1 : Int32) : Option Int32 := (mM_countOf N u x1).bind (fun r1 => some r1)
set_option maxRecDepth 100000 in
set_option maxHeartbeats 4000000 in
theorem cM_count {l : Launch} {D : va_G} {cI : ClassId} {o : Nat} {q : Nat → Nat} {u : MSt} {N : Nat} {x1 : Int32} {rr : Int32} (hm : mM_count N u x1 = some rr) : Con l D [(cI, .int)] yX11_count (wS yX11_count cX11_count 2 (some .int)) rmM_count [.ref o, .int x1] (wM cI o q u) (some (.int rr)) (wM cI o q u) := by
  refine Con.of (by decide +kernel) (Nat.le_of_ble_eq_true rfl) (fun G C hR => ?_)
  unfold mM_count at hm
  show J l rmM_count D G (0, 0) (wM cI o q u) [(0, .ref o), (1, .int x1)] [] 0
  refine j_aload_n C dX11_count_0 rfl 0 rfl ?_
  refine j_iload_n C dX11_count_1 rfl 1 rfl ?_
  refine j_bind hm (fun r1 hr1 hm => ?_)
  refine j_callV (cs' := (0, 0)) (As := [.int x1]) (rest := []) C (cM_countOf hr1) wc_X11_countOf wm_X11_232 wi_X11_countOf ws_X11_countOf wn_X11 wd_X11_countOf ⟨by decide, by decide⟩ 0 rfl rfl rfl (Nat.le_of_ble_eq_true rfl) dX11_count_2 ⟨by decide, by decide⟩ rfl rfl ?_
  cases hm
  exact j_iret C hR dX11_count_5
def rmM_say : Room := { frames := 0, cells := 0, slots := 0, locals := 0 }
theorem wd_X11_say : yX11_say.cls ≠ "java/lang/invoke/MethodHandle" ∧ yX11_say.cls ≠ "java/lang/invoke/VarHandle" ∧ (parseMethodDescriptor yX11_say.desc).map (fun d => d.parameters.length) = some 1 := by decide +kernel
def mM_say (N : Nat) (u : MSt) (x1 : Int64) : Option MSt := nm (shM u ((31 * u.2.2) + x1)) (fun u1 => some u1)
set_option maxRecDepth 100000 in
set_option maxHeartbeats 4000000 in
theorem cM_say {l : Launch} {D : va_G} {cI : ClassId} {o : Nat} {q : Nat → Nat} {u : MSt} {N : Nat} {x1 : Int64} {rr : MSt} (hm : mM_say N u x1 = some rr) : Con l D [(cI, .int)] yX11_say (wS yX11_say cX11_say 3 none) rmM_say [.ref o, .long x1] (wM cI o q u) none (wM cI o q rr) := by
  refine Con.of (by decide +kernel) (Nat.le_of_ble_eq_true rfl) (fun G C hR => ?_)
  unfold mM_say at hm
  show J l rmM_say D G (0, 0) (wM cI o q u) [(0, .ref o), (1, .long x1)] [] 0
  refine j_aload_n C dX11_say_0 rfl 0 rfl ?_
  refine j_ldc2 C dX11_say_1 wk_X11_235 ?_
  refine j_aload_n C dX11_say_4 rfl 0 rfl ?_
  refine jM_g28 C dX11_say_5 ?_
  refine j_lmul C dX11_say_8 ?_
  refine j_lload_n C dX11_say_9 rfl 1 rfl ?_
  refine j_ladd C dX11_say_10 ?_
  refine jM_p28 C dX11_say_11 ?_
  refine j_nmu hm (w := wM cI o q) (fun u1 hm => ?_)
  cases hm
  exact j_vret C hR dX11_say_14
def rmM_sayBridge : Room := { frames := 5, cells := 0, slots := 0, locals := 115 }
theorem wd_X11_sayBridge : yX11_sayBridge.cls ≠ "java/lang/invoke/MethodHandle" ∧ yX11_sayBridge.cls ≠ "java/lang/invoke/VarHandle" ∧ (parseMethodDescriptor yX11_sayBridge.desc).map (fun d => d.parameters.length) = some 1 := by decide +kernel
def mM_sayBridge_31 (N : Nat) (k2 : MSt → Int32 → Int32 → Option MSt) (u : MSt) (x1 : Int32) (x2 : Int32) : Option MSt := k2 u x1 (x2 + 1)
set_option maxRecDepth 100000 in
set_option maxHeartbeats 4000000 in
theorem kM_sayBridge_31 {l : Launch} {D : va_G} {cI : ClassId} {o : Nat} {q : Nat → Nat} {G : Gx} {N : Nat} {rr : MSt} (C : jC l rmM_sayBridge D [(cI, .int)] G cX11_sayBridge 3 RX11) (hR : jR D [(cI, .int)] G (0, 0) none none (wM cI o q rr)) (k2 : MSt → Int32 → Int32 → Option MSt) (K2 : ∀ (u : MSt) (x1 : Int32) (x2 : Int32), k2 u x1 x2 = some rr → J l rmM_sayBridge D G (0, 0) (wM cI o q u) [(0, .ref o), (1, .int x1), (2, .int x2)] [] 2) (u : MSt) (x1 : Int32) (x2 : Int32) (hm : mM_sayBridge_31 N k2 u x1 x2 = some rr) : J l rmM_sayBridge D G (0, 0) (wM cI o q u) [(0, .ref o), (1, .int x1), (2, .int x2)] [] 31 := by
  unfold mM_sayBridge_31 at hm
  refine j_iinc (v := (x2 + 1)) C dX11_sayBridge_31 2 rfl rfl (by decide) rfl ?_
  refine j_goto (tgt := 2) C dX11_sayBridge_34 (by decide) ?_
  exact J.sub [1, 2, 0] rfl (K2 u x1 (x2 + 1) hm)
def mM_sayBridge_20 (N : Nat) (k2 : MSt → Int32 → Int32 → Option MSt) (u : MSt) (x1 : Int32) (x2 : Int32) : Option MSt := (mM_tellAbout N u x1 x2).bind (fun r1 => (mM_say N u (Int32.toInt64 r1)).bind (fun r2 => mM_sayBridge_31 N k2 r2 x1 x2))
set_option maxRecDepth 100000 in
set_option maxHeartbeats 4000000 in
theorem kM_sayBridge_20 {l : Launch} {D : va_G} {cI : ClassId} {o : Nat} {q : Nat → Nat} {G : Gx} {N : Nat} {rr : MSt} (C : jC l rmM_sayBridge D [(cI, .int)] G cX11_sayBridge 3 RX11) (hR : jR D [(cI, .int)] G (0, 0) none none (wM cI o q rr)) (k2 : MSt → Int32 → Int32 → Option MSt) (K2 : ∀ (u : MSt) (x1 : Int32) (x2 : Int32), k2 u x1 x2 = some rr → J l rmM_sayBridge D G (0, 0) (wM cI o q u) [(0, .ref o), (1, .int x1), (2, .int x2)] [] 2) (u : MSt) (x1 : Int32) (x2 : Int32) (hm : mM_sayBridge_20 N k2 u x1 x2 = some rr) : J l rmM_sayBridge D G (0, 0) (wM cI o q u) [(0, .ref o), (1, .int x1), (2, .int x2)] [] 20 := by
  unfold mM_sayBridge_20 at hm
  refine j_aload_n C dX11_sayBridge_20 rfl 0 rfl ?_
  refine j_aload_n C dX11_sayBridge_21 rfl 0 rfl ?_
  refine j_iload_n C dX11_sayBridge_22 rfl 1 rfl ?_
  refine j_iload_n C dX11_sayBridge_23 rfl 2 rfl ?_
  refine j_bind hm (fun r1 hr1 hm => ?_)
  refine j_callV (cs' := (0, 0)) (As := [.int x1, .int x2]) (rest := [.ref o]) C (cM_tellAbout hr1) wc_X11_tellAbout wm_X11_124 wi_X11_tellAbout ws_X11_tellAbout wn_X11 wd_X11_tellAbout ⟨by decide, by decide⟩ 0 rfl rfl rfl (Nat.le_of_ble_eq_true rfl) dX11_sayBridge_24 ⟨by decide, by decide⟩ rfl rfl ?_
  refine j_i2l C dX11_sayBridge_27 ?_
  refine j_bind hm (fun r2 hr2 hm => ?_)
  refine j_callV (cs' := (0, 0)) (As := [.long (Int32.toInt64 r1)]) (rest := []) C (cM_say hr2) wc_X11_say wm_X11_241 wi_X11_say ws_X11_say wn_X11 wd_X11_say ⟨by decide, by decide⟩ 0 rfl rfl rfl (Nat.le_of_ble_eq_true rfl) dX11_sayBridge_28 ⟨by decide, by decide⟩ rfl rfl ?_
  exact kM_sayBridge_31 C hR k2 K2 r2 x1 x2 hm
def mM_sayBridge_39 (N : Nat) (k39 : MSt → Int32 → Int32 → Option MSt) (u : MSt) (x1 : Int32) (x2 : Int32) : Option MSt := if 8 ≤ x2 then (some u) else ((mM_joinsNow N u x1 x2).bind (fun r1 => (mM_say N u (Int32.toInt64 r1)).bind (fun r2 => (mM_lastsNow N r2 x1 x2).bind (fun r3 => (mM_say N r2 (Int32.toInt64 r3)).bind (fun r4 => k39 r4 x1 (x2 + 7))))))
set_option maxRecDepth 100000 in
set_option maxHeartbeats 4000000 in
theorem kM_sayBridge_39 {l : Launch} {D : va_G} {cI : ClassId} {o : Nat} {q : Nat → Nat} {G : Gx} {N : Nat} {rr : MSt} (C : jC l rmM_sayBridge D [(cI, .int)] G cX11_sayBridge 3 RX11) (hR : jR D [(cI, .int)] G (0, 0) none none (wM cI o q rr)) (k39 : MSt → Int32 → Int32 → Option MSt) (K39 : ∀ (u : MSt) (x1 : Int32) (x2 : Int32), k39 u x1 x2 = some rr → J l rmM_sayBridge D G (0, 0) (wM cI o q u) [(0, .ref o), (1, .int x1), (2, .int x2)] [] 39) (u : MSt) (x1 : Int32) (x2 : Int32) (hm : mM_sayBridge_39 N k39 u x1 x2 = some rr) : J l rmM_sayBridge D G (0, 0) (wM cI o q u) [(0, .ref o), (1, .int x1), (2, .int x2)] [] 39 := by
  unfold mM_sayBridge_39 at hm
  refine j_iload_n C dX11_sayBridge_39 rfl 2 rfl ?_
  refine j_bipush (v := 8) C dX11_sayBridge_40 (by decide) ?_
  refine j_icmp_geq (tgt := 73) C dX11_sayBridge_42 (by decide) hm (fun hm => ?_) (fun hm => ?_)
  · cases hm
    exact j_vret C hR dX11_sayBridge_73
  · refine j_aload_n C dX11_sayBridge_45 rfl 0 rfl ?_
    refine j_aload_n C dX11_sayBridge_46 rfl 0 rfl ?_
    refine j_iload_n C dX11_sayBridge_47 rfl 1 rfl ?_
    refine j_iload_n C dX11_sayBridge_48 rfl 2 rfl ?_
    refine j_bind hm (fun r1 hr1 hm => ?_)
    refine j_callV (cs' := (0, 0)) (As := [.int x1, .int x2]) (rest := [.ref o]) C (cM_joinsNow hr1) wc_X11_joinsNow wm_X11_134 wi_X11_joinsNow ws_X11_joinsNow wn_X11 wd_X11_joinsNow ⟨by decide, by decide⟩ 0 rfl rfl rfl (Nat.le_of_ble_eq_true rfl) dX11_sayBridge_49 ⟨by decide, by decide⟩ rfl rfl ?_
    refine j_i2l C dX11_sayBridge_52 ?_
    refine j_bind hm (fun r2 hr2 hm => ?_)
    refine j_callV (cs' := (0, 0)) (As := [.long (Int32.toInt64 r1)]) (rest := []) C (cM_say hr2) wc_X11_say wm_X11_241 wi_X11_say ws_X11_say wn_X11 wd_X11_say ⟨by decide, by decide⟩ 0 rfl rfl rfl (Nat.le_of_ble_eq_true rfl) dX11_sayBridge_53 ⟨by decide, by decide⟩ rfl rfl ?_
    refine j_aload_n C dX11_sayBridge_56 rfl 0 rfl ?_
    refine j_aload_n C dX11_sayBridge_57 rfl 0 rfl ?_
    refine j_iload_n C dX11_sayBridge_58 rfl 1 rfl ?_
    refine j_iload_n C dX11_sayBridge_59 rfl 2 rfl ?_
    refine j_bind hm (fun r3 hr3 hm => ?_)
    refine j_callV (cs' := (0, 0)) (As := [.int x1, .int x2]) (rest := [.ref o]) C (cM_lastsNow hr3) wc_X11_lastsNow wm_X11_139 wi_X11_lastsNow ws_X11_lastsNow wn_X11 wd_X11_lastsNow ⟨by decide, by decide⟩ 0 rfl rfl rfl (Nat.le_of_ble_eq_true rfl) dX11_sayBridge_60 ⟨by decide, by decide⟩ rfl rfl ?_
    refine j_i2l C dX11_sayBridge_63 ?_
    refine j_bind hm (fun r4 hr4 hm => ?_)
    refine j_callV (cs' := (0, 0)) (As := [.long (Int32.toInt64 r3)]) (rest := []) C (cM_say hr4) wc_X11_say wm_X11_241 wi_X11_say ws_X11_say wn_X11 wd_X11_say ⟨by decide, by decide⟩ 0 rfl rfl rfl (Nat.le_of_ble_eq_true rfl) dX11_sayBridge_64 ⟨by decide, by decide⟩ rfl rfl ?_
    refine j_iinc (v := (x2 + 7)) C dX11_sayBridge_67 2 rfl rfl (by decide) rfl ?_
    refine j_goto (tgt := 39) C dX11_sayBridge_70 (by decide) ?_
    exact J.sub [1, 2, 0] rfl (K39 r4 x1 (x2 + 7) hm)
def mM_sayBridge_h39 (N : Nat) : Nat → MSt → Int32 → Int32 → Option MSt
  | 0, _, _, _ => none
  | n + 1, u, x1, x2 => mM_sayBridge_39 N (mM_sayBridge_h39 N n) u x1 x2
theorem kM_sayBridge_h39 {l : Launch} {D : va_G} {cI : ClassId} {o : Nat} {q : Nat → Nat} {G : Gx} {N : Nat} {rr : MSt} (C : jC l rmM_sayBridge D [(cI, .int)] G cX11_sayBridge 3 RX11) (hR : jR D [(cI, .int)] G (0, 0) none none (wM cI o q rr))  : ∀ (n : Nat) (u : MSt) (x1 : Int32) (x2 : Int32), mM_sayBridge_h39 N n u x1 x2 = some rr → J l rmM_sayBridge D G (0, 0) (wM cI o q u) [(0, .ref o), (1, .int x1), (2, .int x2)] [] 39 := by
  intro n
  induction n with
  | zero =>
    intro u x1 x2 hm
    have hm : (none : Option MSt) = some rr := hm
    cases hm
  | succ n ih =>
    intro u x1 x2 hm
    exact kM_sayBridge_39 C hR _ ih u x1 x2 hm
def mM_sayBridge_2 (N : Nat) (k2 : MSt → Int32 → Int32 → Option MSt) (u : MSt) (x1 : Int32) (x2 : Int32) : Option MSt := if 13 ≤ x2 then (mM_sayBridge_h39 N N u x1 0) else (if x2 < 8 then (mM_sayBridge_20 N k2 u x1 x2) else (if x2 ≤ 9 then (mM_sayBridge_31 N k2 u x1 x2) else (mM_sayBridge_20 N k2 u x1 x2)))
set_option maxRecDepth 100000 in
set_option maxHeartbeats 4000000 in
theorem kM_sayBridge_2 {l : Launch} {D : va_G} {cI : ClassId} {o : Nat} {q : Nat → Nat} {G : Gx} {N : Nat} {rr : MSt} (C : jC l rmM_sayBridge D [(cI, .int)] G cX11_sayBridge 3 RX11) (hR : jR D [(cI, .int)] G (0, 0) none none (wM cI o q rr)) (k2 : MSt → Int32 → Int32 → Option MSt) (K2 : ∀ (u : MSt) (x1 : Int32) (x2 : Int32), k2 u x1 x2 = some rr → J l rmM_sayBridge D G (0, 0) (wM cI o q u) [(0, .ref o), (1, .int x1), (2, .int x2)] [] 2) (u : MSt) (x1 : Int32) (x2 : Int32) (hm : mM_sayBridge_2 N k2 u x1 x2 = some rr) : J l rmM_sayBridge D G (0, 0) (wM cI o q u) [(0, .ref o), (1, .int x1), (2, .int x2)] [] 2 := by
  unfold mM_sayBridge_2 at hm
  refine j_iload_n C dX11_sayBridge_2 rfl 2 rfl ?_
  refine j_bipush (v := 13) C dX11_sayBridge_3 (by decide) ?_
  refine j_icmp_geq (tgt := 37) C dX11_sayBridge_5 (by decide) hm (fun hm => ?_) (fun hm => ?_)
  · refine j_iconst (v := 0) C dX11_sayBridge_37 (by decide) ?_
    refine j_istore_n C dX11_sayBridge_38 rfl (by decide) rfl ?_
    exact J.sub [1, 2, 0] rfl (kM_sayBridge_h39 C hR N u x1 0 hm)
  · refine j_iload_n C dX11_sayBridge_8 rfl 2 rfl ?_
    refine j_bipush (v := 8) C dX11_sayBridge_9 (by decide) ?_
    refine j_icmp_ltq (tgt := 20) C dX11_sayBridge_11 (by decide) hm (fun hm => ?_) (fun hm => ?_)
    · exact kM_sayBridge_20 C hR k2 K2 u x1 x2 hm
    · refine j_iload_n C dX11_sayBridge_14 rfl 2 rfl ?_
      refine j_bipush (v := 9) C dX11_sayBridge_15 (by decide) ?_
      refine j_icmp_leq (tgt := 31) C dX11_sayBridge_17 (by decide) hm (fun hm => ?_) (fun hm => ?_)
      · exact kM_sayBridge_31 C hR k2 K2 u x1 x2 hm
      · exact kM_sayBridge_20 C hR k2 K2 u x1 x2 hm
def mM_sayBridge_h2 (N : Nat) : Nat → MSt → Int32 → Int32 → Option MSt
  | 0, _, _, _ => none
  | n + 1, u, x1, x2 => mM_sayBridge_2 N (mM_sayBridge_h2 N n) u x1 x2
theorem kM_sayBridge_h2 {l : Launch} {D : va_G} {cI : ClassId} {o : Nat} {q : Nat → Nat} {G : Gx} {N : Nat} {rr : MSt} (C : jC l rmM_sayBridge D [(cI, .int)] G cX11_sayBridge 3 RX11) (hR : jR D [(cI, .int)] G (0, 0) none none (wM cI o q rr))  : ∀ (n : Nat) (u : MSt) (x1 : Int32) (x2 : Int32), mM_sayBridge_h2 N n u x1 x2 = some rr → J l rmM_sayBridge D G (0, 0) (wM cI o q u) [(0, .ref o), (1, .int x1), (2, .int x2)] [] 2 := by
  intro n
  induction n with
  | zero =>
    intro u x1 x2 hm
    have hm : (none : Option MSt) = some rr := hm
    cases hm
  | succ n ih =>
    intro u x1 x2 hm
    exact kM_sayBridge_2 C hR _ ih u x1 x2 hm
def mM_sayBridge (N : Nat) (u : MSt) (x1 : Int32) : Option MSt := mM_sayBridge_h2 N N u x1 0
set_option maxRecDepth 100000 in
set_option maxHeartbeats 4000000 in
theorem cM_sayBridge {l : Launch} {D : va_G} {cI : ClassId} {o : Nat} {q : Nat → Nat} {u : MSt} {N : Nat} {x1 : Int32} {rr : MSt} (hm : mM_sayBridge N u x1 = some rr) : Con l D [(cI, .int)] yX11_sayBridge (wS yX11_sayBridge cX11_sayBridge 3 none) rmM_sayBridge [.ref o, .int x1] (wM cI o q u) none (wM cI o q rr) := by
  refine Con.of (by decide +kernel) (Nat.le_of_ble_eq_true rfl) (fun G C hR => ?_)
  unfold mM_sayBridge at hm
  show J l rmM_sayBridge D G (0, 0) (wM cI o q u) [(0, .ref o), (1, .int x1)] [] 0
  refine j_iconst (v := 0) C dX11_sayBridge_0 (by decide) ?_
  refine j_istore_n C dX11_sayBridge_1 rfl (by decide) rfl ?_
  exact J.sub [1, 2, 0] rfl (kM_sayBridge_h2 C hR N u x1 0 hm)
def rmM_digest : Room := { frames := 8, cells := 0, slots := 0, locals := 195 }
theorem wd_X11_digest : yX11_digest.cls ≠ "java/lang/invoke/MethodHandle" ∧ yX11_digest.cls ≠ "java/lang/invoke/VarHandle" ∧ (parseMethodDescriptor yX11_digest.desc).map (fun d => d.parameters.length) = some 0 := by decide +kernel
def mM_digest_135 (N : Nat) (k135 : MSt → Int32 → Option (Int64 × MSt)) (u : MSt) (x1 : Int32) : Option (Int64 × MSt) := if 5 ≤ x1 then (some (u.2.2, u)) else ((mM_countOf N u x1).bind (fun r1 => (mM_say N u (Int32.toInt64 r1)).bind (fun r2 => k135 r2 (x1 + 1))))
set_option maxRecDepth 100000 in
set_option maxHeartbeats 4000000 in
theorem kM_digest_135 {l : Launch} {D : va_G} {cI : ClassId} {o : Nat} {q : Nat → Nat} {G : Gx} {N : Nat} {rr : (Int64 × MSt)} (C : jC l rmM_digest D [(cI, .int)] G cX11_digest 2 RX11) (hR : jR D [(cI, .int)] G (0, 0) (some .long) (some (.long rr.1)) (wM cI o q rr.2)) (k135 : MSt → Int32 → Option (Int64 × MSt)) (K135 : ∀ (u : MSt) (x1 : Int32), k135 u x1 = some rr → J l rmM_digest D G (0, 0) (wM cI o q u) [(0, .ref o), (1, .int x1)] [] 135) (u : MSt) (x1 : Int32) (hm : mM_digest_135 N k135 u x1 = some rr) : J l rmM_digest D G (0, 0) (wM cI o q u) [(0, .ref o), (1, .int x1)] [] 135 := by
  unfold mM_digest_135 at hm
  refine j_iload_n C dX11_digest_135 rfl 1 rfl ?_
  refine j_iconst (v := 5) C dX11_digest_136 (by decide) ?_
  refine j_icmp_geq (tgt := 156) C dX11_digest_137 (by decide) hm (fun hm => ?_) (fun hm => ?_)
  · refine j_aload_n C dX11_digest_156 rfl 0 rfl ?_
    refine jM_g28 C dX11_digest_157 ?_
    cases hm
    exact j_lret C hR dX11_digest_160
  · refine j_aload_n C dX11_digest_140 rfl 0 rfl ?_
    refine j_aload_n C dX11_digest_141 rfl 0 rfl ?_
    refine j_iload_n C dX11_digest_142 rfl 1 rfl ?_
    refine j_bind hm (fun r1 hr1 hm => ?_)
    refine j_callV (cs' := (0, 0)) (As := [.int x1]) (rest := [.ref o]) C (cM_countOf hr1) wc_X11_countOf wm_X11_232 wi_X11_countOf ws_X11_countOf wn_X11 wd_X11_countOf ⟨by decide, by decide⟩ 0 rfl rfl rfl (Nat.le_of_ble_eq_true rfl) dX11_digest_143 ⟨by decide, by decide⟩ rfl rfl ?_
    refine j_i2l C dX11_digest_146 ?_
    refine j_bind hm (fun r2 hr2 hm => ?_)
    refine j_callV (cs' := (0, 0)) (As := [.long (Int32.toInt64 r1)]) (rest := []) C (cM_say hr2) wc_X11_say wm_X11_241 wi_X11_say ws_X11_say wn_X11 wd_X11_say ⟨by decide, by decide⟩ 0 rfl rfl rfl (Nat.le_of_ble_eq_true rfl) dX11_digest_147 ⟨by decide, by decide⟩ rfl rfl ?_
    refine j_iinc (v := (x1 + 1)) C dX11_digest_150 1 rfl rfl (by decide) rfl ?_
    refine j_goto (tgt := 135) C dX11_digest_153 (by decide) ?_
    exact J.sub [1, 0] rfl (K135 r2 (x1 + 1) hm)
def mM_digest_h135 (N : Nat) : Nat → MSt → Int32 → Option (Int64 × MSt)
  | 0, _, _ => none
  | n + 1, u, x1 => mM_digest_135 N (mM_digest_h135 N n) u x1
theorem kM_digest_h135 {l : Launch} {D : va_G} {cI : ClassId} {o : Nat} {q : Nat → Nat} {G : Gx} {N : Nat} {rr : (Int64 × MSt)} (C : jC l rmM_digest D [(cI, .int)] G cX11_digest 2 RX11) (hR : jR D [(cI, .int)] G (0, 0) (some .long) (some (.long rr.1)) (wM cI o q rr.2))  : ∀ (n : Nat) (u : MSt) (x1 : Int32), mM_digest_h135 N n u x1 = some rr → J l rmM_digest D G (0, 0) (wM cI o q u) [(0, .ref o), (1, .int x1)] [] 135 := by
  intro n
  induction n with
  | zero =>
    intro u x1 hm
    have hm : (none : Option (Int64 × MSt)) = some rr := hm
    cases hm
  | succ n ih =>
    intro u x1 hm
    exact kM_digest_135 C hR _ ih u x1 hm
def mM_digest_108 (N : Nat) (k108 : MSt → Int32 → Option (Int64 × MSt)) (u : MSt) (x1 : Int32) : Option (Int64 × MSt) := if (u.1 1) ≤ x1 then (mM_digest_h135 N N u 0) else (rd (u.2.1 0) 20 x1 (fun a1 => (mM_say N u (Int32.toInt64 a1)).bind (fun r2 => k108 r2 (x1 + 1))))
set_option maxRecDepth 100000 in
set_option maxHeartbeats 4000000 in
theorem kM_digest_108 {l : Launch} {D : va_G} {cI : ClassId} {o : Nat} {q : Nat → Nat} {G : Gx} {N : Nat} {rr : (Int64 × MSt)} (C : jC l rmM_digest D [(cI, .int)] G cX11_digest 2 RX11) (hR : jR D [(cI, .int)] G (0, 0) (some .long) (some (.long rr.1)) (wM cI o q rr.2)) (k108 : MSt → Int32 → Option (Int64 × MSt)) (K108 : ∀ (u : MSt) (x1 : Int32), k108 u x1 = some rr → J l rmM_digest D G (0, 0) (wM cI o q u) [(0, .ref o), (1, .int x1)] [] 108) (u : MSt) (x1 : Int32) (hm : mM_digest_108 N k108 u x1 = some rr) : J l rmM_digest D G (0, 0) (wM cI o q u) [(0, .ref o), (1, .int x1)] [] 108 := by
  unfold mM_digest_108 at hm
  refine j_iload_n C dX11_digest_108 rfl 1 rfl ?_
  refine j_aload_n C dX11_digest_109 rfl 0 rfl ?_
  refine jM_g1 C dX11_digest_110 ?_
  refine j_icmp_geq (tgt := 133) C dX11_digest_113 (by decide) hm (fun hm => ?_) (fun hm => ?_)
  · refine j_iconst (v := 0) C dX11_digest_133 (by decide) ?_
    refine j_istore_n C dX11_digest_134 rfl (by decide) rfl ?_
    exact J.sub [1, 0] rfl (kM_digest_h135 C hR N u 0 hm)
  · refine j_aload_n C dX11_digest_116 rfl 0 rfl ?_
    refine j_aload_n C dX11_digest_117 rfl 0 rfl ?_
    refine jM_g0 C dX11_digest_118 ?_
    refine j_iload_n C dX11_digest_121 rfl 1 rfl ?_
    refine jM_L0 C dX11_digest_122 hm (fun a1 hm => ?_)
    refine j_i2l C dX11_digest_123 ?_
    refine j_bind hm (fun r2 hr2 hm => ?_)
    refine j_callV (cs' := (0, 0)) (As := [.long (Int32.toInt64 a1)]) (rest := []) C (cM_say hr2) wc_X11_say wm_X11_241 wi_X11_say ws_X11_say wn_X11 wd_X11_say ⟨by decide, by decide⟩ 0 rfl rfl rfl (Nat.le_of_ble_eq_true rfl) dX11_digest_124 ⟨by decide, by decide⟩ rfl rfl ?_
    refine j_iinc (v := (x1 + 1)) C dX11_digest_127 1 rfl rfl (by decide) rfl ?_
    refine j_goto (tgt := 108) C dX11_digest_130 (by decide) ?_
    exact J.sub [1, 0] rfl (K108 r2 (x1 + 1) hm)
def mM_digest_h108 (N : Nat) : Nat → MSt → Int32 → Option (Int64 × MSt)
  | 0, _, _ => none
  | n + 1, u, x1 => mM_digest_108 N (mM_digest_h108 N n) u x1
theorem kM_digest_h108 {l : Launch} {D : va_G} {cI : ClassId} {o : Nat} {q : Nat → Nat} {G : Gx} {N : Nat} {rr : (Int64 × MSt)} (C : jC l rmM_digest D [(cI, .int)] G cX11_digest 2 RX11) (hR : jR D [(cI, .int)] G (0, 0) (some .long) (some (.long rr.1)) (wM cI o q rr.2))  : ∀ (n : Nat) (u : MSt) (x1 : Int32), mM_digest_h108 N n u x1 = some rr → J l rmM_digest D G (0, 0) (wM cI o q u) [(0, .ref o), (1, .int x1)] [] 108 := by
  intro n
  induction n with
  | zero =>
    intro u x1 hm
    have hm : (none : Option (Int64 × MSt)) = some rr := hm
    cases hm
  | succ n ih =>
    intro u x1 hm
    exact kM_digest_108 C hR _ ih u x1 hm
def mM_digest_79 (N : Nat) (k79 : MSt → Int32 → Option (Int64 × MSt)) (u : MSt) (x1 : Int32) : Option (Int64 × MSt) := if (4 * (u.1 21)) ≤ x1 then (mM_digest_h108 N N u 0) else (rd (u.2.1 22) 24 x1 (fun a1 => (mM_say N u (Int32.toInt64 a1)).bind (fun r2 => k79 r2 (x1 + 1))))
set_option maxRecDepth 100000 in
set_option maxHeartbeats 4000000 in
theorem kM_digest_79 {l : Launch} {D : va_G} {cI : ClassId} {o : Nat} {q : Nat → Nat} {G : Gx} {N : Nat} {rr : (Int64 × MSt)} (C : jC l rmM_digest D [(cI, .int)] G cX11_digest 2 RX11) (hR : jR D [(cI, .int)] G (0, 0) (some .long) (some (.long rr.1)) (wM cI o q rr.2)) (k79 : MSt → Int32 → Option (Int64 × MSt)) (K79 : ∀ (u : MSt) (x1 : Int32), k79 u x1 = some rr → J l rmM_digest D G (0, 0) (wM cI o q u) [(0, .ref o), (1, .int x1)] [] 79) (u : MSt) (x1 : Int32) (hm : mM_digest_79 N k79 u x1 = some rr) : J l rmM_digest D G (0, 0) (wM cI o q u) [(0, .ref o), (1, .int x1)] [] 79 := by
  unfold mM_digest_79 at hm
  refine j_iload_n C dX11_digest_79 rfl 1 rfl ?_
  refine j_iconst (v := 4) C dX11_digest_80 (by decide) ?_
  refine j_aload_n C dX11_digest_81 rfl 0 rfl ?_
  refine jM_g21 C dX11_digest_82 ?_
  refine j_imul C dX11_digest_85 ?_
  refine j_icmp_geq (tgt := 106) C dX11_digest_86 (by decide) hm (fun hm => ?_) (fun hm => ?_)
  · refine j_iconst (v := 0) C dX11_digest_106 (by decide) ?_
    refine j_istore_n C dX11_digest_107 rfl (by decide) rfl ?_
    exact J.sub [1, 0] rfl (kM_digest_h108 C hR N u 0 hm)
  · refine j_aload_n C dX11_digest_89 rfl 0 rfl ?_
    refine j_aload_n C dX11_digest_90 rfl 0 rfl ?_
    refine jM_g22 C dX11_digest_91 ?_
    refine j_iload_n C dX11_digest_94 rfl 1 rfl ?_
    refine jM_L22 C dX11_digest_95 hm (fun a1 hm => ?_)
    refine j_i2l C dX11_digest_96 ?_
    refine j_bind hm (fun r2 hr2 hm => ?_)
    refine j_callV (cs' := (0, 0)) (As := [.long (Int32.toInt64 a1)]) (rest := []) C (cM_say hr2) wc_X11_say wm_X11_241 wi_X11_say ws_X11_say wn_X11 wd_X11_say ⟨by decide, by decide⟩ 0 rfl rfl rfl (Nat.le_of_ble_eq_true rfl) dX11_digest_97 ⟨by decide, by decide⟩ rfl rfl ?_
    refine j_iinc (v := (x1 + 1)) C dX11_digest_100 1 rfl rfl (by decide) rfl ?_
    refine j_goto (tgt := 79) C dX11_digest_103 (by decide) ?_
    exact J.sub [1, 0] rfl (K79 r2 (x1 + 1) hm)
def mM_digest_h79 (N : Nat) : Nat → MSt → Int32 → Option (Int64 × MSt)
  | 0, _, _ => none
  | n + 1, u, x1 => mM_digest_79 N (mM_digest_h79 N n) u x1
theorem kM_digest_h79 {l : Launch} {D : va_G} {cI : ClassId} {o : Nat} {q : Nat → Nat} {G : Gx} {N : Nat} {rr : (Int64 × MSt)} (C : jC l rmM_digest D [(cI, .int)] G cX11_digest 2 RX11) (hR : jR D [(cI, .int)] G (0, 0) (some .long) (some (.long rr.1)) (wM cI o q rr.2))  : ∀ (n : Nat) (u : MSt) (x1 : Int32), mM_digest_h79 N n u x1 = some rr → J l rmM_digest D G (0, 0) (wM cI o q u) [(0, .ref o), (1, .int x1)] [] 79 := by
  intro n
  induction n with
  | zero =>
    intro u x1 hm
    have hm : (none : Option (Int64 × MSt)) = some rr := hm
    cases hm
  | succ n ih =>
    intro u x1 hm
    exact kM_digest_79 C hR _ ih u x1 hm
def mM_digest_38 (N : Nat) (k38 : MSt → Int32 → Option (Int64 × MSt)) (u : MSt) (x1 : Int32) : Option (Int64 × MSt) := if 8 ≤ x1 then (mM_digest_h79 N N u 0) else (bp (mM_soonestOf N u 0 x1 0 1 1) (fun r1 u2 => (mM_say N u2 (Int32.toInt64 r1)).bind (fun r3 => (mM_cutOf N r3 x1 0 60).bind (fun r4 => (mM_say N r3 (Int32.toInt64 r4)).bind (fun r5 => k38 r5 (x1 + 1))))))
set_option maxRecDepth 100000 in
set_option maxHeartbeats 4000000 in
theorem kM_digest_38 {l : Launch} {D : va_G} {cI : ClassId} {o : Nat} {q : Nat → Nat} {G : Gx} {N : Nat} {rr : (Int64 × MSt)} (C : jC l rmM_digest D [(cI, .int)] G cX11_digest 2 RX11) (hR : jR D [(cI, .int)] G (0, 0) (some .long) (some (.long rr.1)) (wM cI o q rr.2)) (k38 : MSt → Int32 → Option (Int64 × MSt)) (K38 : ∀ (u : MSt) (x1 : Int32), k38 u x1 = some rr → J l rmM_digest D G (0, 0) (wM cI o q u) [(0, .ref o), (1, .int x1)] [] 38) (u : MSt) (x1 : Int32) (hm : mM_digest_38 N k38 u x1 = some rr) : J l rmM_digest D G (0, 0) (wM cI o q u) [(0, .ref o), (1, .int x1)] [] 38 := by
  unfold mM_digest_38 at hm
  refine j_iload_n C dX11_digest_38 rfl 1 rfl ?_
  refine j_bipush (v := 8) C dX11_digest_39 (by decide) ?_
  refine j_icmp_geq (tgt := 77) C dX11_digest_41 (by decide) hm (fun hm => ?_) (fun hm => ?_)
  · refine j_iconst (v := 0) C dX11_digest_77 (by decide) ?_
    refine j_istore_n C dX11_digest_78 rfl (by decide) rfl ?_
    exact J.sub [1, 0] rfl (kM_digest_h79 C hR N u 0 hm)
  · refine j_aload_n C dX11_digest_44 rfl 0 rfl ?_
    refine j_aload_n C dX11_digest_45 rfl 0 rfl ?_
    refine j_iconst (v := 0) C dX11_digest_46 (by decide) ?_
    refine j_iload_n C dX11_digest_47 rfl 1 rfl ?_
    refine j_iconst (v := 0) C dX11_digest_48 (by decide) ?_
    refine j_iconst (v := 1) C dX11_digest_49 (by decide) ?_
    refine j_iconst (v := 1) C dX11_digest_50 (by decide) ?_
    refine j_bindp hm (fun r1 u2 hr1 hm => ?_)
    refine j_callV (cs' := (0, 0)) (As := [.int 0, .int x1, .int 0, .int 1, .int 1]) (rest := [.ref o]) C (cM_soonestOf hr1) wc_X11_soonestOf wm_X11_163 wi_X11_soonestOf ws_X11_soonestOf wn_X11 wd_X11_soonestOf ⟨by decide, by decide⟩ 0 rfl rfl rfl (Nat.le_of_ble_eq_true rfl) dX11_digest_51 ⟨by decide, by decide⟩ rfl rfl ?_
    refine j_i2l C dX11_digest_54 ?_
    refine j_bind hm (fun r3 hr3 hm => ?_)
    refine j_callV (cs' := (0, 0)) (As := [.long (Int32.toInt64 r1)]) (rest := []) C (cM_say hr3) wc_X11_say wm_X11_241 wi_X11_say ws_X11_say wn_X11 wd_X11_say ⟨by decide, by decide⟩ 0 rfl rfl rfl (Nat.le_of_ble_eq_true rfl) dX11_digest_55 ⟨by decide, by decide⟩ rfl rfl ?_
    refine j_aload_n C dX11_digest_58 rfl 0 rfl ?_
    refine j_aload_n C dX11_digest_59 rfl 0 rfl ?_
    refine j_iload_n C dX11_digest_60 rfl 1 rfl ?_
    refine j_iconst (v := 0) C dX11_digest_61 (by decide) ?_
    refine j_bipush (v := 60) C dX11_digest_62 (by decide) ?_
    refine j_bind hm (fun r4 hr4 hm => ?_)
    refine j_callV (cs' := (0, 0)) (As := [.int x1, .int 0, .int 60]) (rest := [.ref o]) C (cM_cutOf hr4) wc_X11_cutOf wm_X11_177 wi_X11_cutOf ws_X11_cutOf wn_X11 wd_X11_cutOf ⟨by decide, by decide⟩ 0 rfl rfl rfl (Nat.le_of_ble_eq_true rfl) dX11_digest_64 ⟨by decide, by decide⟩ rfl rfl ?_
    refine j_i2l C dX11_digest_67 ?_
    refine j_bind hm (fun r5 hr5 hm => ?_)
    refine j_callV (cs' := (0, 0)) (As := [.long (Int32.toInt64 r4)]) (rest := []) C (cM_say hr5) wc_X11_say wm_X11_241 wi_X11_say ws_X11_say wn_X11 wd_X11_say ⟨by decide, by decide⟩ 0 rfl rfl rfl (Nat.le_of_ble_eq_true rfl) dX11_digest_68 ⟨by decide, by decide⟩ rfl rfl ?_
    refine j_iinc (v := (x1 + 1)) C dX11_digest_71 1 rfl rfl (by decide) rfl ?_
    refine j_goto (tgt := 38) C dX11_digest_74 (by decide) ?_
    exact J.sub [1, 0] rfl (K38 r5 (x1 + 1) hm)
def mM_digest_h38 (N : Nat) : Nat → MSt → Int32 → Option (Int64 × MSt)
  | 0, _, _ => none
  | n + 1, u, x1 => mM_digest_38 N (mM_digest_h38 N n) u x1
theorem kM_digest_h38 {l : Launch} {D : va_G} {cI : ClassId} {o : Nat} {q : Nat → Nat} {G : Gx} {N : Nat} {rr : (Int64 × MSt)} (C : jC l rmM_digest D [(cI, .int)] G cX11_digest 2 RX11) (hR : jR D [(cI, .int)] G (0, 0) (some .long) (some (.long rr.1)) (wM cI o q rr.2))  : ∀ (n : Nat) (u : MSt) (x1 : Int32), mM_digest_h38 N n u x1 = some rr → J l rmM_digest D G (0, 0) (wM cI o q u) [(0, .ref o), (1, .int x1)] [] 38 := by
  intro n
  induction n with
  | zero =>
    intro u x1 hm
    have hm : (none : Option (Int64 × MSt)) = some rr := hm
    cases hm
  | succ n ih =>
    intro u x1 hm
    exact kM_digest_38 C hR _ ih u x1 hm
def mM_digest_9 (N : Nat) (k9 : MSt → Int32 → Option (Int64 × MSt)) (u : MSt) (x1 : Int32) : Option (Int64 × MSt) := if (u.1 4) ≤ x1 then ((mM_againOf N u).bind (fun r1 => (mM_say N u r1).bind (fun r2 => mM_digest_h38 N N r2 0))) else ((mM_sayBridge N u x1).bind (fun r3 => k9 r3 (x1 + 1)))
set_option maxRecDepth 100000 in
set_option maxHeartbeats 4000000 in
theorem kM_digest_9 {l : Launch} {D : va_G} {cI : ClassId} {o : Nat} {q : Nat → Nat} {G : Gx} {N : Nat} {rr : (Int64 × MSt)} (C : jC l rmM_digest D [(cI, .int)] G cX11_digest 2 RX11) (hR : jR D [(cI, .int)] G (0, 0) (some .long) (some (.long rr.1)) (wM cI o q rr.2)) (k9 : MSt → Int32 → Option (Int64 × MSt)) (K9 : ∀ (u : MSt) (x1 : Int32), k9 u x1 = some rr → J l rmM_digest D G (0, 0) (wM cI o q u) [(0, .ref o), (1, .int x1)] [] 9) (u : MSt) (x1 : Int32) (hm : mM_digest_9 N k9 u x1 = some rr) : J l rmM_digest D G (0, 0) (wM cI o q u) [(0, .ref o), (1, .int x1)] [] 9 := by
  unfold mM_digest_9 at hm
  refine j_iload_n C dX11_digest_9 rfl 1 rfl ?_
  refine j_aload_n C dX11_digest_10 rfl 0 rfl ?_
  refine jM_g4 C dX11_digest_11 ?_
  refine j_icmp_geq (tgt := 28) C dX11_digest_14 (by decide) hm (fun hm => ?_) (fun hm => ?_)
  · refine j_aload_n C dX11_digest_28 rfl 0 rfl ?_
    refine j_aload_n C dX11_digest_29 rfl 0 rfl ?_
    refine j_bind hm (fun r1 hr1 hm => ?_)
    refine j_callV (cs' := (0, 0)) (As := []) (rest := [.ref o]) C (cM_againOf hr1) wc_X11_againOf wm_X11_171 wi_X11_againOf ws_X11_againOf wn_X11 wd_X11_againOf ⟨by decide, by decide⟩ 0 rfl rfl rfl (Nat.le_of_ble_eq_true rfl) dX11_digest_30 ⟨by decide, by decide⟩ rfl rfl ?_
    refine j_bind hm (fun r2 hr2 hm => ?_)
    refine j_callV (cs' := (0, 0)) (As := [.long r1]) (rest := []) C (cM_say hr2) wc_X11_say wm_X11_241 wi_X11_say ws_X11_say wn_X11 wd_X11_say ⟨by decide, by decide⟩ 0 rfl rfl rfl (Nat.le_of_ble_eq_true rfl) dX11_digest_33 ⟨by decide, by decide⟩ rfl rfl ?_
    refine j_iconst (v := 0) C dX11_digest_36 (by decide) ?_
    refine j_istore_n C dX11_digest_37 rfl (by decide) rfl ?_
    exact J.sub [1, 0] rfl (kM_digest_h38 C hR N r2 0 hm)
  · refine j_aload_n C dX11_digest_17 rfl 0 rfl ?_
    refine j_iload_n C dX11_digest_18 rfl 1 rfl ?_
    refine j_bind hm (fun r3 hr3 hm => ?_)
    refine j_callV (cs' := (0, 0)) (As := [.int x1]) (rest := []) C (cM_sayBridge hr3) wc_X11_sayBridge wm_X11_247 wi_X11_sayBridge ws_X11_sayBridge wn_X11 wd_X11_sayBridge ⟨by decide, by decide⟩ 0 rfl rfl rfl (Nat.le_of_ble_eq_true rfl) dX11_digest_19 ⟨by decide, by decide⟩ rfl rfl ?_
    refine j_iinc (v := (x1 + 1)) C dX11_digest_22 1 rfl rfl (by decide) rfl ?_
    refine j_goto (tgt := 9) C dX11_digest_25 (by decide) ?_
    exact J.sub [1, 0] rfl (K9 r3 (x1 + 1) hm)
def mM_digest_h9 (N : Nat) : Nat → MSt → Int32 → Option (Int64 × MSt)
  | 0, _, _ => none
  | n + 1, u, x1 => mM_digest_9 N (mM_digest_h9 N n) u x1
theorem kM_digest_h9 {l : Launch} {D : va_G} {cI : ClassId} {o : Nat} {q : Nat → Nat} {G : Gx} {N : Nat} {rr : (Int64 × MSt)} (C : jC l rmM_digest D [(cI, .int)] G cX11_digest 2 RX11) (hR : jR D [(cI, .int)] G (0, 0) (some .long) (some (.long rr.1)) (wM cI o q rr.2))  : ∀ (n : Nat) (u : MSt) (x1 : Int32), mM_digest_h9 N n u x1 = some rr → J l rmM_digest D G (0, 0) (wM cI o q u) [(0, .ref o), (1, .int x1)] [] 9 := by
  intro n
  induction n with
  | zero =>
    intro u x1 hm
    have hm : (none : Option (Int64 × MSt)) = some rr := hm
    cases hm
  | succ n ih =>
    intro u x1 hm
    exact kM_digest_9 C hR _ ih u x1 hm
def mM_digest (N : Nat) (u : MSt) : Option (Int64 × MSt) := nm (shM u 557) (fun u1 => mM_digest_h9 N N u1 0)
set_option maxRecDepth 100000 in
set_option maxHeartbeats 4000000 in
theorem cM_digest {l : Launch} {D : va_G} {cI : ClassId} {o : Nat} {q : Nat → Nat} {u : MSt} {N : Nat}  {rr : (Int64 × MSt)} (hm : mM_digest N u = some rr) : Con l D [(cI, .int)] yX11_digest (wS yX11_digest cX11_digest 2 (some .long)) rmM_digest [.ref o] (wM cI o q u) (some (.long rr.1)) (wM cI o q rr.2) := by
  refine Con.of (by decide +kernel) (Nat.le_of_ble_eq_true rfl) (fun G C hR => ?_)
  unfold mM_digest at hm
  show J l rmM_digest D G (0, 0) (wM cI o q u) [(0, .ref o)] [] 0
  refine j_aload_n C dX11_digest_0 rfl 0 rfl ?_
  refine j_ldc2 C dX11_digest_1 wk_X11_245 ?_
  refine jM_p28 C dX11_digest_4 ?_
  refine j_nmu hm (w := wM cI o q) (fun u1 hm => ?_)
  refine j_iconst (v := 0) C dX11_digest_7 (by decide) ?_
  refine j_istore_n C dX11_digest_8 rfl (by decide) rfl ?_
  exact J.sub [1, 0] rfl (kM_digest_h9 C hR N u1 0 hm)
