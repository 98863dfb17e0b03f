def rmM_in : Room := { frames := 0, cells := 0, slots := 0, locals := 0 }
theorem wd_X11_in : yX11_in.cls ≠ "java/lang/invoke/MethodHandle" ∧ yX11_in.cls ≠ "java/lang/invoke/VarHandle" ∧ (parseMethodDescriptor yX11_in.desc).map (fun d => d.parameters.length) = some 3 := by decide +kernel
def mM_in_18 (N : Nat) (s0 : Int32) : Option Int32 := gd (s0 = 0 ∨ s0 = 1) (some s0)
set_option maxRecDepth 100000 in
set_option maxHeartbeats 4000000 in
theorem kM_in_18 {l : Launch} {D : va_G} {tys : List (ClassId × FieldType)} {G : Gx} {N : Nat} {rr : Int32} (C : jC l rmM_in D tys G cX11_in 6 RX11) (hR : jR D tys G (0, 0) (some .boolean) (some (.int rr)) [])  (s0 : Int32) (hm : mM_in_18 N s0 = some rr) : J l rmM_in D G (0, 0) [] [] [.int s0] 18 := by
  unfold mM_in_18 at hm
  obtain ⟨g, hm⟩ := gd_some hm
  cases hm
  exact j_zret C hR (jz01 g) dX11_in_18
def mM_in_17 (N : Nat)  : Option Int32 := mM_in_18 N 0
set_option maxRecDepth 100000 in
set_option maxHeartbeats 4000000 in
theorem kM_in_17 {l : Launch} {D : va_G} {tys : List (ClassId × FieldType)} {G : Gx} {N : Nat} {rr : Int32} (C : jC l rmM_in D tys G cX11_in 6 RX11) (hR : jR D tys G (0, 0) (some .boolean) (some (.int rr)) [])   (hm : mM_in_17 N = some rr) : J l rmM_in D G (0, 0) [] [] [] 17 := by
  unfold mM_in_17 at hm
  refine j_iconst (v := 0) C dX11_in_17 (by decide) ?_
  exact kM_in_18 C hR 0 hm
def mM_in (N : Nat) (x0 : Int64) (x2 : Int64) (x4 : Int64) : Option Int32 := if (lg_cmp x0 x2) < 0 then (mM_in_17 N) else (if 0 < (lg_cmp x0 x4) then (mM_in_17 N) else (mM_in_18 N 1))
set_option maxRecDepth 100000 in
set_option maxHeartbeats 4000000 in
theorem cM_in {l : Launch} {D : va_G} {tys : List (ClassId × FieldType)} {N : Nat} {x0 : Int64} {x2 : Int64} {x4 : Int64} {rr : Int32} (hm : mM_in N x0 x2 x4 = some rr) : Con l D tys yX11_in (wS yX11_in cX11_in 6 (some .boolean)) rmM_in [.long x0, .long x2, .long x4] [] (some (.int rr)) [] := by
  refine Con.of (by decide +kernel) (Nat.le_of_ble_eq_true rfl) (fun G C hR => ?_)
  unfold mM_in at hm
  show J l rmM_in D G (0, 0) [] [(0, .long x0), (2, .long x2), (4, .long x4)] [] 0
  refine j_lload_n C dX11_in_0 rfl 0 rfl ?_
  refine j_lload_n C dX11_in_1 rfl 1 rfl ?_
  refine j_lcmp C dX11_in_2 ?_
  refine j_if_ltq (tgt := 17) C dX11_in_3 (by decide) hm (fun hm => ?_) (fun hm => ?_)
  · exact J.sub [] rfl (kM_in_17 C hR hm)
  · refine j_lload_n C dX11_in_6 rfl 0 rfl ?_
    refine j_lload C dX11_in_7 2 rfl ?_
    refine j_lcmp C dX11_in_9 ?_
    refine j_if_gtq (tgt := 17) C dX11_in_10 (by decide) hm (fun hm => ?_) (fun hm => ?_)
    · exact J.sub [] rfl (kM_in_17 C hR hm)
    · refine j_iconst (v := 1) C dX11_in_13 (by decide) ?_
      refine j_goto (tgt := 18) C dX11_in_14 (by decide) ?_
      exact J.sub [] rfl (kM_in_18 C hR 1 hm)
def rmM_letters : Room := { frames := 0, cells := 0, slots := 0, locals := 0 }
theorem wd_X11_letters : yX11_letters.cls ≠ "java/lang/invoke/MethodHandle" ∧ yX11_letters.cls ≠ "java/lang/invoke/VarHandle" ∧ (parseMethodDescriptor yX11_letters.desc).map (fun d => d.parameters.length) = some 1 := by decide +kernel
def mM_letters_75 (N : Nat) (k11 : MSt → Int64 → Int32 → Int32 → Int64 → Int32 → Option (Int32 × MSt)) (u : MSt) (x1 : Int64) (x4 : Int32) (x5 : Int64) (x7 : Int32) (s0 : Int32) (s1 : Int32) : Option (Int32 × MSt) := nm (s1 + s0) (fun v1 => k11 u x1 v1 x4 x5 (x7 + 1))
set_option maxRecDepth 100000 in
set_option maxHeartbeats 4000000 in
theorem kM_letters_75 {l : Launch} {D : va_G} {cI : ClassId} {o : Nat} {q : Nat → Nat} {G : Gx} {N : Nat} {rr : (Int32 × MSt)} (C : jC l rmM_letters D [(cI, .int)] G cX11_letters 9 RX11) (hR : jR D [(cI, .int)] G (0, 0) (some .int) (some (.int rr.1)) (wM cI o q rr.2)) (k11 : MSt → Int64 → Int32 → Int32 → Int64 → Int32 → Option (Int32 × MSt)) (K11 : ∀ (u : MSt) (x1 : Int64) (x3 : Int32) (x4 : Int32) (x5 : Int64) (x7 : Int32), k11 u x1 x3 x4 x5 x7 = some rr → J l rmM_letters D G (0, 0) (wM cI o q u) [(0, .ref o), (1, .long x1), (3, .int x3), (4, .int x4), (5, .long x5), (7, .int x7)] [] 11) (u : MSt) (x1 : Int64) (x4 : Int32) (x5 : Int64) (x7 : Int32) (s0 : Int32) (s1 : Int32) (hm : mM_letters_75 N k11 u x1 x4 x5 x7 s0 s1 = some rr) : J l rmM_letters D G (0, 0) (wM cI o q u) [(0, .ref o), (1, .long x1), (4, .int x4), (5, .long x5), (7, .int x7)] [.int s0, .int s1] 75 := by
  unfold mM_letters_75 at hm
  refine j_iadd C dX11_letters_75 ?_
  refine j_nmi hm (fun v1 hm => ?_)
  refine j_istore_n C dX11_letters_76 rfl (by decide) rfl ?_
  refine j_iinc (v := (x7 + 1)) C dX11_letters_77 5 rfl rfl (by decide) rfl ?_
  refine j_goto (tgt := 11) C dX11_letters_80 (by decide) ?_
  exact J.sub [2, 3, 1, 4, 5, 0] rfl (K11 u x1 v1 x4 x5 (x7 + 1) hm)
def mM_letters_62 (N : Nat) (k11 : MSt → Int64 → Int32 → Int32 → Int64 → Int32 → Option (Int32 × MSt)) (u : MSt) (x1 : Int64) (x3 : Int32) (x5 : Int64) (x7 : Int32) (x8 : Int32) (s0 : Int32) : Option (Int32 × MSt) := if x8 ≤ 0 then (mM_letters_75 N k11 u x1 s0 x5 x7 0 x3) else (mM_letters_75 N k11 u x1 s0 x5 x7 1 x3)
set_option maxRecDepth 100000 in
set_option maxHeartbeats 4000000 in
theorem kM_letters_62 {l : Launch} {D : va_G} {cI : ClassId} {o : Nat} {q : Nat → Nat} {G : Gx} {N : Nat} {rr : (Int32 × MSt)} (C : jC l rmM_letters D [(cI, .int)] G cX11_letters 9 RX11) (hR : jR D [(cI, .int)] G (0, 0) (some .int) (some (.int rr.1)) (wM cI o q rr.2)) (k11 : MSt → Int64 → Int32 → Int32 → Int64 → Int32 → Option (Int32 × MSt)) (K11 : ∀ (u : MSt) (x1 : Int64) (x3 : Int32) (x4 : Int32) (x5 : Int64) (x7 : Int32), k11 u x1 x3 x4 x5 x7 = some rr → J l rmM_letters D G (0, 0) (wM cI o q u) [(0, .ref o), (1, .long x1), (3, .int x3), (4, .int x4), (5, .long x5), (7, .int x7)] [] 11) (u : MSt) (x1 : Int64) (x3 : Int32) (x5 : Int64) (x7 : Int32) (x8 : Int32) (s0 : Int32) (hm : mM_letters_62 N k11 u x1 x3 x5 x7 x8 s0 = some rr) : J l rmM_letters D G (0, 0) (wM cI o q u) [(0, .ref o), (1, .long x1), (3, .int x3), (5, .long x5), (7, .int x7), (8, .int x8)] [.int s0] 62 := by
  unfold mM_letters_62 at hm
  refine j_istore C dX11_letters_62 (by decide) rfl ?_
  refine j_iload_n C dX11_letters_64 rfl 3 rfl ?_
  refine j_iload C dX11_letters_65 6 rfl ?_
  refine j_if_leq (tgt := 74) C dX11_letters_67 (by decide) hm (fun hm => ?_) (fun hm => ?_)
  · refine j_iconst (v := 0) C dX11_letters_74 (by decide) ?_
    exact J.sub [1, 2, 0, 4, 5] rfl (kM_letters_75 C hR k11 K11 u x1 s0 x5 x7 0 x3 hm)
  · refine j_iconst (v := 1) C dX11_letters_70 (by decide) ?_
    refine j_goto (tgt := 75) C dX11_letters_71 (by decide) ?_
    exact J.sub [1, 2, 0, 4, 5] rfl (kM_letters_75 C hR k11 K11 u x1 s0 x5 x7 1 x3 hm)
def mM_letters_57 (N : Nat) (k11 : MSt → Int64 → Int32 → Int32 → Int64 → Int32 → Option (Int32 × MSt)) (u : MSt) (x1 : Int64) (x3 : Int32) (x5 : Int64) (x7 : Int32) (x8 : Int32) : Option (Int32 × MSt) := mM_letters_62 N k11 u x1 x3 x5 x7 x8 1
set_option maxRecDepth 100000 in
set_option maxHeartbeats 4000000 in
theorem kM_letters_57 {l : Launch} {D : va_G} {cI : ClassId} {o : Nat} {q : Nat → Nat} {G : Gx} {N : Nat} {rr : (Int32 × MSt)} (C : jC l rmM_letters D [(cI, .int)] G cX11_letters 9 RX11) (hR : jR D [(cI, .int)] G (0, 0) (some .int) (some (.int rr.1)) (wM cI o q rr.2)) (k11 : MSt → Int64 → Int32 → Int32 → Int64 → Int32 → Option (Int32 × MSt)) (K11 : ∀ (u : MSt) (x1 : Int64) (x3 : Int32) (x4 : Int32) (x5 : Int64) (x7 : Int32), k11 u x1 x3 x4 x5 x7 = some rr → J l rmM_letters D G (0, 0) (wM cI o q u) [(0, .ref o), (1, .long x1), (3, .int x3), (4, .int x4), (5, .long x5), (7, .int x7)] [] 11) (u : MSt) (x1 : Int64) (x3 : Int32) (x5 : Int64) (x7 : Int32) (x8 : Int32) (hm : mM_letters_57 N k11 u x1 x3 x5 x7 x8 = some rr) : J l rmM_letters D G (0, 0) (wM cI o q u) [(0, .ref o), (1, .long x1), (3, .int x3), (5, .long x5), (7, .int x7), (8, .int x8)] [] 57 := by
  unfold mM_letters_57 at hm
  refine j_iconst (v := 1) C dX11_letters_57 (by decide) ?_
  refine j_goto (tgt := 62) C dX11_letters_58 (by decide) ?_
  exact kM_letters_62 C hR k11 K11 u x1 x3 x5 x7 x8 1 hm
def mM_letters_61 (N : Nat) (k11 : MSt → Int64 → Int32 → Int32 → Int64 → Int32 → Option (Int32 × MSt)) (u : MSt) (x1 : Int64) (x3 : Int32) (x5 : Int64) (x7 : Int32) (x8 : Int32) : Option (Int32 × MSt) := mM_letters_62 N k11 u x1 x3 x5 x7 x8 0
set_option maxRecDepth 100000 in
set_option maxHeartbeats 4000000 in
theorem kM_letters_61 {l : Launch} {D : va_G} {cI : ClassId} {o : Nat} {q : Nat → Nat} {G : Gx} {N : Nat} {rr : (Int32 × MSt)} (C : jC l rmM_letters D [(cI, .int)] G cX11_letters 9 RX11) (hR : jR D [(cI, .int)] G (0, 0) (some .int) (some (.int rr.1)) (wM cI o q rr.2)) (k11 : MSt → Int64 → Int32 → Int32 → Int64 → Int32 → Option (Int32 × MSt)) (K11 : ∀ (u : MSt) (x1 : Int64) (x3 : Int32) (x4 : Int32) (x5 : Int64) (x7 : Int32), k11 u x1 x3 x4 x5 x7 = some rr → J l rmM_letters D G (0, 0) (wM cI o q u) [(0, .ref o), (1, .long x1), (3, .int x3), (4, .int x4), (5, .long x5), (7, .int x7)] [] 11) (u : MSt) (x1 : Int64) (x3 : Int32) (x5 : Int64) (x7 : Int32) (x8 : Int32) (hm : mM_letters_61 N k11 u x1 x3 x5 x7 x8 = some rr) : J l rmM_letters D G (0, 0) (wM cI o q u) [(0, .ref o), (1, .long x1), (3, .int x3), (5, .long x5), (7, .int x7), (8, .int x8)] [] 61 := by
  unfold mM_letters_61 at hm
  refine j_iconst (v := 0) C dX11_letters_61 (by decide) ?_
  exact kM_letters_62 C hR k11 K11 u x1 x3 x5 x7 x8 0 hm
def mM_letters_108 (N : Nat) (k108 : MSt → Int64 → Int32 → Int32 → Option (Int32 × MSt)) (u : MSt) (x1 : Int64) (x3 : Int32) (x7 : Int32) : Option (Int32 × MSt) := if x3 ≤ x7 then (some ((u.1 1), u)) else (wr 20 (u.1 1) (fun i1 => nm (saM u 0 i1 (Int64.toInt32 (((Int64.toUInt64 x1 >>> ((Int32.toInt64 (8 * x7)).toUInt64 &&& Int64.toUInt64 63)).toInt64) &&& 255))) (fun u2 => nm (u2.1 1) (fun f3 => nm (siM u2 1 (f3 + 1)) (fun u4 => k108 u4 x1 x3 (x7 + 1))))))
set_option maxRecDepth 100000 in
set_option maxHeartbeats 4000000 in
theorem kM_letters_108 {l : Launch} {D : va_G} {cI : ClassId} {o : Nat} {q : Nat → Nat} {G : Gx} {N : Nat} {rr : (Int32 × MSt)} (C : jC l rmM_letters D [(cI, .int)] G cX11_letters 9 RX11) (hR : jR D [(cI, .int)] G (0, 0) (some .int) (some (.int rr.1)) (wM cI o q rr.2)) (k108 : MSt → Int64 → Int32 → Int32 → Option (Int32 × MSt)) (K108 : ∀ (u : MSt) (x1 : Int64) (x3 : Int32) (x7 : Int32), k108 u x1 x3 x7 = some rr → J l rmM_letters D G (0, 0) (wM cI o q u) [(0, .ref o), (1, .long x1), (3, .int x3), (7, .int x7)] [] 108) (u : MSt) (x1 : Int64) (x3 : Int32) (x7 : Int32) (hm : mM_letters_108 N k108 u x1 x3 x7 = some rr) : J l rmM_letters D G (0, 0) (wM cI o q u) [(0, .ref o), (1, .long x1), (3, .int x3), (7, .int x7)] [] 108 := by
  unfold mM_letters_108 at hm
  refine j_iload C dX11_letters_108 3 rfl ?_
  refine j_iload_n C dX11_letters_110 rfl 2 rfl ?_
  refine j_icmp_geq (tgt := 151) C dX11_letters_111 (by decide) hm (fun hm => ?_) (fun hm => ?_)
  · refine j_aload_n C dX11_letters_151 rfl 0 rfl ?_
    refine jM_g1 C dX11_letters_152 ?_
    cases hm
    exact j_iret C hR dX11_letters_155
  · refine j_aload_n C dX11_letters_114 rfl 0 rfl ?_
    refine jM_g0 C dX11_letters_115 ?_
    refine j_aload_n C dX11_letters_118 rfl 0 rfl ?_
    refine jM_g1 C dX11_letters_119 ?_
    refine j_lload_n C dX11_letters_122 rfl 1 rfl ?_
    refine j_bipush (v := 8) C dX11_letters_123 (by decide) ?_
    refine j_iload C dX11_letters_125 3 rfl ?_
    refine j_imul C dX11_letters_127 ?_
    refine j_lushr C dX11_letters_128 ?_
    refine j_ldc2 C dX11_letters_129 wk_X11_62 ?_
    refine j_land C dX11_letters_132 ?_
    refine j_l2i C dX11_letters_133 ?_
    refine jM_S0 C dX11_letters_134 hm (fun u2 hm => ?_)
    refine j_aload_n C dX11_letters_135 rfl 0 rfl ?_
    refine j_dup C dX11_letters_136 rfl ?_
    refine jM_g1 C dX11_letters_137 ?_
    refine j_nmi hm (fun f3 hm => ?_)
    refine j_iconst (v := 1) C dX11_letters_140 (by decide) ?_
    refine j_iadd C dX11_letters_141 ?_
    refine jM_p1 C dX11_letters_142 ?_
    refine j_nmu hm (w := wM cI o q) (fun u4 hm => ?_)
    refine j_iinc (v := (x7 + 1)) C dX11_letters_145 3 rfl rfl (by decide) rfl ?_
    refine j_goto (tgt := 108) C dX11_letters_148 (by decide) ?_
    exact J.sub [1, 2, 3, 0] rfl (K108 u4 x1 x3 (x7 + 1) hm)
def mM_letters_h108 (N : Nat) : Nat → MSt → Int64 → Int32 → Int32 → Option (Int32 × MSt)
  | 0, _, _, _, _ => none
  | n + 1, u, x1, x3, x7 => mM_letters_108 N (mM_letters_h108 N n) u x1 x3 x7
theorem kM_letters_h108 {l : Launch} {D : va_G} {cI : ClassId} {o : Nat} {q : Nat → Nat} {G : Gx} {N : Nat} {rr : (Int32 × MSt)} (C : jC l rmM_letters D [(cI, .int)] G cX11_letters 9 RX11) (hR : jR D [(cI, .int)] G (0, 0) (some .int) (some (.int rr.1)) (wM cI o q rr.2))  : ∀ (n : Nat) (u : MSt) (x1 : Int64) (x3 : Int32) (x7 : Int32), mM_letters_h108 N n u x1 x3 x7 = some rr → J l rmM_letters D G (0, 0) (wM cI o q u) [(0, .ref o), (1, .long x1), (3, .int x3), (7, .int x7)] [] 108 := by
  intro n
  induction n with
  | zero =>
    intro u x1 x3 x7 hm
    have hm : (none : Option (Int32 × MSt)) = some rr := hm
    cases hm
  | succ n ih =>
    intro u x1 x3 x7 hm
    exact kM_letters_108 C hR _ ih u x1 x3 x7 hm
def mM_letters_11 (N : Nat) (k11 : MSt → Int64 → Int32 → Int32 → Int64 → Int32 → Option (Int32 × MSt)) (u : MSt) (x1 : Int64) (x3 : Int32) (x4 : Int32) (x5 : Int64) (x7 : Int32) : Option (Int32 × MSt) := if 8 ≤ x7 then (if ¬ x4 = 0 then (if ((u.1 1) + x3) ≤ 20 then (mM_letters_h108 N N u x1 x3 0) else (some ((-104), u))) else (some ((-102), u))) else (nm (Int64.toInt32 (x5 &&& 255)) (fun v1 => nm ((Int64.toUInt64 x5 >>> ((Int32.toInt64 8).toUInt64 &&& Int64.toUInt64 63)).toInt64) (fun v2 => if x4 = 0 then (mM_letters_61 N k11 u x1 x3 v2 x7 v1) else (if 126 < v1 then (mM_letters_61 N k11 u x1 x3 v2 x7 v1) else (if v1 = 0 then (mM_letters_57 N k11 u x1 x3 v2 x7 v1) else (if ¬ x3 = x7 then (mM_letters_61 N k11 u x1 x3 v2 x7 v1) else (mM_letters_57 N k11 u x1 x3 v2 x7 v1)))))))
set_option maxRecDepth 100000 in
set_option maxHeartbeats 4000000 in
theorem kM_letters_11 {l : Launch} {D : va_G} {cI : ClassId} {o : Nat} {q : Nat → Nat} {G : Gx} {N : Nat} {rr : (Int32 × MSt)} (C : jC l rmM_letters D [(cI, .int)] G cX11_letters 9 RX11) (hR : jR D [(cI, .int)] G (0, 0) (some .int) (some (.int rr.1)) (wM cI o q rr.2)) (k11 : MSt → Int64 → Int32 → Int32 → Int64 → Int32 → Option (Int32 × MSt)) (K11 : ∀ (u : MSt) (x1 : Int64) (x3 : Int32) (x4 : Int32) (x5 : Int64) (x7 : Int32), k11 u x1 x3 x4 x5 x7 = some rr → J l rmM_letters D G (0, 0) (wM cI o q u) [(0, .ref o), (1, .long x1), (3, .int x3), (4, .int x4), (5, .long x5), (7, .int x7)] [] 11) (u : MSt) (x1 : Int64) (x3 : Int32) (x4 : Int32) (x5 : Int64) (x7 : Int32) (hm : mM_letters_11 N k11 u x1 x3 x4 x5 x7 = some rr) : J l rmM_letters D G (0, 0) (wM cI o q u) [(0, .ref o), (1, .long x1), (3, .int x3), (4, .int x4), (5, .long x5), (7, .int x7)] [] 11 := by
  unfold mM_letters_11 at hm
  refine j_iload C dX11_letters_11 5 rfl ?_
  refine j_bipush (v := 8) C dX11_letters_13 (by decide) ?_
  refine j_icmp_geq (tgt := 83) C dX11_letters_15 (by decide) hm (fun hm => ?_) (fun hm => ?_)
  · refine j_iload C dX11_letters_83 3 rfl ?_
    refine j_if_neq (tgt := 91) C dX11_letters_85 (by decide) hm (fun hm => ?_) (fun hm => ?_)
    · refine j_aload_n C dX11_letters_91 rfl 0 rfl ?_
      refine jM_g1 C dX11_letters_92 ?_
      refine j_iload_n C dX11_letters_95 rfl 2 rfl ?_
      refine j_iadd C dX11_letters_96 ?_
      refine j_bipush (v := 20) C dX11_letters_97 (by decide) ?_
      refine j_icmp_leq (tgt := 105) C dX11_letters_99 (by decide) hm (fun hm => ?_) (fun hm => ?_)
      · refine j_iconst (v := 0) C dX11_letters_105 (by decide) ?_
        refine j_istore C dX11_letters_106 (by decide) rfl ?_
        exact J.sub [1, 2, 3, 0] rfl (kM_letters_h108 C hR N u x1 x3 0 hm)
      · refine j_bipush (v := (-104)) C dX11_letters_102 (by decide) ?_
        cases hm
        exact j_iret C hR dX11_letters_104
    · refine j_bipush (v := (-102)) C dX11_letters_88 (by decide) ?_
      cases hm
      exact j_iret C hR dX11_letters_90
  · refine j_lload C dX11_letters_18 4 rfl ?_
    refine j_ldc2 C dX11_letters_20 wk_X11_62 ?_
    refine j_land C dX11_letters_23 ?_
    refine j_l2i C dX11_letters_24 ?_
    refine j_nmi hm (fun v1 hm => ?_)
    refine j_istore C dX11_letters_25 (by decide) rfl ?_
    refine j_lload C dX11_letters_27 5 rfl ?_
    refine j_bipush (v := 8) C dX11_letters_29 (by decide) ?_
    refine j_lushr C dX11_letters_31 ?_
    refine j_nml hm (fun v2 hm => ?_)
    refine j_lstore C dX11_letters_32 (by decide) rfl ?_
    refine j_iload C dX11_letters_34 5 rfl ?_
    refine j_if_eqq (tgt := 61) C dX11_letters_36 (by decide) hm (fun hm => ?_) (fun hm => ?_)
    · exact J.sub [2, 3, 4, 0, 6, 1] rfl (kM_letters_61 C hR k11 K11 u x1 x3 v2 x7 v1 hm)
    · refine j_iload C dX11_letters_39 1 rfl ?_
      refine j_bipush (v := 126) C dX11_letters_41 (by decide) ?_
      refine j_icmp_gtq (tgt := 61) C dX11_letters_43 (by decide) hm (fun hm => ?_) (fun hm => ?_)
      · exact J.sub [2, 3, 4, 0, 6, 1] rfl (kM_letters_61 C hR k11 K11 u x1 x3 v2 x7 v1 hm)
      · refine j_iload C dX11_letters_46 1 rfl ?_
        refine j_if_eqq (tgt := 57) C dX11_letters_48 (by decide) hm (fun hm => ?_) (fun hm => ?_)
        · exact J.sub [2, 3, 4, 0, 6, 1] rfl (kM_letters_57 C hR k11 K11 u x1 x3 v2 x7 v1 hm)
        · refine j_iload_n C dX11_letters_51 rfl 4 rfl ?_
          refine j_iload C dX11_letters_52 6 rfl ?_
          refine j_icmp_neq (tgt := 61) C dX11_letters_54 (by decide) hm (fun hm => ?_) (fun hm => ?_)
          · exact J.sub [2, 3, 4, 0, 6, 1] rfl (kM_letters_61 C hR k11 K11 u x1 x3 v2 x7 v1 hm)
          · exact J.sub [2, 3, 4, 0, 6, 1] rfl (kM_letters_57 C hR k11 K11 u x1 x3 v2 x7 v1 hm)
def mM_letters_h11 (N : Nat) : Nat → MSt → Int64 → Int32 → Int32 → Int64 → Int32 → Option (Int32 × MSt)
  | 0, _, _, _, _, _, _ => none
  | n + 1, u, x1, x3, x4, x5, x7 => mM_letters_11 N (mM_letters_h11 N n) u x1 x3 x4 x5 x7
theorem kM_letters_h11 {l : Launch} {D : va_G} {cI : ClassId} {o : Nat} {q : Nat → Nat} {G : Gx} {N : Nat} {rr : (Int32 × MSt)} (C : jC l rmM_letters D [(cI, .int)] G cX11_letters 9 RX11) (hR : jR D [(cI, .int)] G (0, 0) (some .int) (some (.int rr.1)) (wM cI o q rr.2))  : ∀ (n : Nat) (u : MSt) (x1 : Int64) (x3 : Int32) (x4 : Int32) (x5 : Int64) (x7 : Int32), mM_letters_h11 N n u x1 x3 x4 x5 x7 = some rr → J l rmM_letters D G (0, 0) (wM cI o q u) [(0, .ref o), (1, .long x1), (3, .int x3), (4, .int x4), (5, .long x5), (7, .int x7)] [] 11 := by
  intro n
  induction n with
  | zero =>
    intro u x1 x3 x4 x5 x7 hm
    have hm : (none : Option (Int32 × MSt)) = some rr := hm
    cases hm
  | succ n ih =>
    intro u x1 x3 x4 x5 x7 hm
    exact kM_letters_11 C hR _ ih u x1 x3 x4 x5 x7 hm
def mM_letters (N : Nat) (u : MSt) (x1 : Int64) : Option (Int32 × MSt) := mM_letters_h11 N N u x1 0 1 x1 0
set_option maxRecDepth 100000 in
set_option maxHeartbeats 4000000 in
theorem cM_letters {l : Launch} {D : va_G} {cI : ClassId} {o : Nat} {q : Nat → Nat} {u : MSt} {N : Nat} {x1 : Int64} {rr : (Int32 × MSt)} (hm : mM_letters N u x1 = some rr) : Con l D [(cI, .int)] yX11_letters (wS yX11_letters cX11_letters 9 (some .int)) rmM_letters [.ref o, .long x1] (wM cI o q u) (some (.int rr.1)) (wM cI o q rr.2) := by
  refine Con.of (by decide +kernel) (Nat.le_of_ble_eq_true rfl) (fun G C hR => ?_)
  unfold mM_letters at hm
  show J l rmM_letters D G (0, 0) (wM cI o q u) [(0, .ref o), (1, .long x1)] [] 0
  refine j_iconst (v := 0) C dX11_letters_0 (by decide) ?_
  refine j_istore_n C dX11_letters_1 rfl (by decide) rfl ?_
  refine j_iconst (v := 1) C dX11_letters_2 (by decide) ?_
  refine j_istore C dX11_letters_3 (by decide) rfl ?_
  refine j_lload_n C dX11_letters_5 rfl 3 rfl ?_
  refine j_lstore C dX11_letters_6 (by decide) rfl ?_
  refine j_iconst (v := 0) C dX11_letters_8 (by decide) ?_
  refine j_istore C dX11_letters_9 (by decide) rfl ?_
  exact J.sub [4, 5, 3, 2, 1, 0] rfl (kM_letters_h11 C hR N u x1 0 1 x1 0 hm)
def rmM_blank : Room := { frames := 0, cells := 0, slots := 0, locals := 0 }
theorem wd_X11_blank : yX11_blank.cls ≠ "java/lang/invoke/MethodHandle" ∧ yX11_blank.cls ≠ "java/lang/invoke/VarHandle" ∧ (parseMethodDescriptor yX11_blank.desc).map (fun d => d.parameters.length) = some 0 := by decide +kernel
def mM_blank (N : Nat) (u : MSt) : Option (Int32 × MSt) := nm (u.1 1) (fun v1 => nm (siM u 1 0) (fun u2 => some (v1, u2)))
set_option maxRecDepth 100000 in
set_option maxHeartbeats 4000000 in
theorem cM_blank {l : Launch} {D : va_G} {cI : ClassId} {o : Nat} {q : Nat → Nat} {u : MSt} {N : Nat}  {rr : (Int32 × MSt)} (hm : mM_blank N u = some rr) : Con l D [(cI, .int)] yX11_blank (wS yX11_blank cX11_blank 2 (some .int)) rmM_blank [.ref o] (wM cI o q u) (some (.int rr.1)) (wM cI o q rr.2) := by
  refine Con.of (by decide +kernel) (Nat.le_of_ble_eq_true rfl) (fun G C hR => ?_)
  unfold mM_blank at hm
  show J l rmM_blank D G (0, 0) (wM cI o q u) [(0, .ref o)] [] 0
  refine j_aload_n C dX11_blank_0 rfl 0 rfl ?_
  refine jM_g1 C dX11_blank_1 ?_
  refine j_nmi hm (fun v1 hm => ?_)
  refine j_istore_n C dX11_blank_4 rfl (by decide) rfl ?_
  refine j_aload_n C dX11_blank_5 rfl 1 rfl ?_
  refine j_iconst (v := 0) C dX11_blank_6 (by decide) ?_
  refine jM_p1 C dX11_blank_7 ?_
  refine j_nmu hm (w := wM cI o q) (fun u2 hm => ?_)
  refine j_iload_n C dX11_blank_10 rfl 0 rfl ?_
  cases hm
  exact j_iret C hR dX11_blank_11
def rmM_signOf : Room := { frames := 0, cells := 0, slots := 0, locals := 0 }
theorem wd_X11_signOf : yX11_signOf.cls ≠ "java/lang/invoke/MethodHandle" ∧ yX11_signOf.cls ≠ "java/lang/invoke/VarHandle" ∧ (parseMethodDescriptor yX11_signOf.desc).map (fun d => d.parameters.length) = some 1 := by decide +kernel
def mM_signOf_31 (N : Nat) (s0 : Int32) : Option Int32 := some s0
set_option maxRecDepth 100000 in
set_option maxHeartbeats 4000000 in
theorem kM_signOf_31 {l : Launch} {D : va_G} {tys : List (ClassId × FieldType)} {G : Gx} {N : Nat} {rr : Int32} (C : jC l rmM_signOf D tys G cX11_signOf 1 RX11) (hR : jR D tys G (0, 0) (some .int) (some (.int rr)) [])  (s0 : Int32) (hm : mM_signOf_31 N s0 = some rr) : J l rmM_signOf D G (0, 0) [] [] [.int s0] 31 := by
  unfold mM_signOf_31 at hm
  cases hm
  exact j_iret C hR dX11_signOf_31
def mM_signOf (N : Nat) (x0 : Int32) : Option Int32 := if ¬ x0 = 42 then (if ¬ x0 = 126 then (if ¬ x0 = 61 then (mM_signOf_31 N 0) else (mM_signOf_31 N 3)) else (mM_signOf_31 N 2)) else (mM_signOf_31 N 1)
set_option maxRecDepth 100000 in
set_option maxHeartbeats 4000000 in
theorem cM_signOf {l : Launch} {D : va_G} {tys : List (ClassId × FieldType)} {N : Nat} {x0 : Int32} {rr : Int32} (hm : mM_signOf N x0 = some rr) : Con l D tys yX11_signOf (wS yX11_signOf cX11_signOf 1 (some .int)) rmM_signOf [.int x0] [] (some (.int rr)) [] := by
  refine Con.of (by decide +kernel) (Nat.le_of_ble_eq_true rfl) (fun G C hR => ?_)
  unfold mM_signOf at hm
  show J l rmM_signOf D G (0, 0) [] [(0, .int x0)] [] 0
  refine j_iload_n C dX11_signOf_0 rfl 0 rfl ?_
  refine j_bipush (v := 42) C dX11_signOf_1 (by decide) ?_
  refine j_icmp_neq (tgt := 10) C dX11_signOf_3 (by decide) hm (fun hm => ?_) (fun hm => ?_)
  · refine j_iload_n C dX11_signOf_10 rfl 0 rfl ?_
    refine j_bipush (v := 126) C dX11_signOf_11 (by decide) ?_
    refine j_icmp_neq (tgt := 20) C dX11_signOf_13 (by decide) hm (fun hm => ?_) (fun hm => ?_)
    · refine j_iload_n C dX11_signOf_20 rfl 0 rfl ?_
      refine j_bipush (v := 61) C dX11_signOf_21 (by decide) ?_
      refine j_icmp_neq (tgt := 30) C dX11_signOf_23 (by decide) hm (fun hm => ?_) (fun hm => ?_)
      · refine j_iconst (v := 0) C dX11_signOf_30 (by decide) ?_
        exact J.sub [] rfl (kM_signOf_31 C hR 0 hm)
      · refine j_iconst (v := 3) C dX11_signOf_26 (by decide) ?_
        refine j_goto (tgt := 31) C dX11_signOf_27 (by decide) ?_
        exact J.sub [] rfl (kM_signOf_31 C hR 3 hm)
    · refine j_iconst (v := 2) C dX11_signOf_16 (by decide) ?_
      refine j_goto (tgt := 31) C dX11_signOf_17 (by decide) ?_
      exact J.sub [] rfl (kM_signOf_31 C hR 2 hm)
  · refine j_iconst (v := 1) C dX11_signOf_6 (by decide) ?_
    refine j_goto (tgt := 31) C dX11_signOf_7 (by decide) ?_
    exact J.sub [] rfl (kM_signOf_31 C hR 1 hm)
def rmM_goDigit : Room := { frames := 1, cells := 0, slots := 0, locals := 25 }
theorem wd_X11_goDigit : yX11_goDigit.cls ≠ "java/lang/invoke/MethodHandle" ∧ yX11_goDigit.cls ≠ "java/lang/invoke/VarHandle" ∧ (parseMethodDescriptor yX11_goDigit.desc).map (fun d => d.parameters.length) = some 3 := by decide +kernel
def mM_goDigit (N : Nat) (u : MSt) (x1 : Int32) (x2 : Int32) (x3 : Int32) : Option (Int32 × MSt) := wr 10 x2 (fun i1 => nm (saM u 3 i1 (x1 - 48)) (fun u2 => (mM_in N (Int32.toInt64 (x1 - 48)) (Int32.toInt64 x3) 9).bind (fun r3 => gd (r3 = 0 ∨ r3 = 1) (some (r3, u2)))))
set_option maxRecDepth 100000 in
set_option maxHeartbeats 4000000 in
theorem cM_goDigit {l : Launch} {D : va_G} {cI : ClassId} {o : Nat} {q : Nat → Nat} {u : MSt} {N : Nat} {x1 : Int32} {x2 : Int32} {x3 : Int32} {rr : (Int32 × MSt)} (hm : mM_goDigit N u x1 x2 x3 = some rr) : Con l D [(cI, .int)] yX11_goDigit (wS yX11_goDigit cX11_goDigit 4 (some .boolean)) rmM_goDigit [.ref o, .int x1, .int x2, .int x3] (wM cI o q u) (some (.int rr.1)) (wM cI o q rr.2) := by
  refine Con.of (by decide +kernel) (Nat.le_of_ble_eq_true rfl) (fun G C hR => ?_)
  unfold mM_goDigit at hm
  show J l rmM_goDigit D G (0, 0) (wM cI o q u) [(0, .ref o), (1, .int x1), (2, .int x2), (3, .int x3)] [] 0
  refine j_aload_n C dX11_goDigit_0 rfl 0 rfl ?_
  refine jM_g3 C dX11_goDigit_1 ?_
  refine j_iload_n C dX11_goDigit_4 rfl 2 rfl ?_
  refine j_iload_n C dX11_goDigit_5 rfl 1 rfl ?_
  refine j_bipush (v := 48) C dX11_goDigit_6 (by decide) ?_
  refine j_isub C dX11_goDigit_8 ?_
  refine jM_S3 C dX11_goDigit_9 hm (fun u2 hm => ?_)
  refine j_iload_n C dX11_goDigit_10 rfl 1 rfl ?_
  refine j_bipush (v := 48) C dX11_goDigit_11 (by decide) ?_
  refine j_isub C dX11_goDigit_13 ?_
  refine j_i2l C dX11_goDigit_14 ?_
  refine j_iload_n C dX11_goDigit_15 rfl 3 rfl ?_
  refine j_i2l C dX11_goDigit_16 ?_
  refine j_ldc2 C dX11_goDigit_17 wk_X11_67 ?_
  refine j_bind hm (fun r3 hr3 hm => ?_)
  refine j_callS (cs' := (0, 0)) (As := [.long (Int32.toInt64 (x1 - 48)), .long (Int32.toInt64 x3), .long 9]) (rest := []) C (cM_in hr3) wc_X11_in wm_X11_69 wt_X11_in wn_X11 wd_X11_in ⟨by decide, by decide⟩ rfl (Nat.le_of_ble_eq_true rfl) dX11_goDigit_20 ⟨by decide, by decide⟩ rfl rfl ?_
  obtain ⟨g, hm⟩ := gd_some hm
  cases hm
  exact j_zret C hR (jz01 g) dX11_goDigit_23
def rmM_goPivot : Room := { frames := 1, cells := 0, slots := 0, locals := 25 }
theorem wd_X11_goPivot : yX11_goPivot.cls ≠ "java/lang/invoke/MethodHandle" ∧ yX11_goPivot.cls ≠ "java/lang/invoke/VarHandle" ∧ (parseMethodDescriptor yX11_goPivot.desc).map (fun d => d.parameters.length) = some 1 := by decide +kernel
def mM_goPivot (N : Nat) (u : MSt) (x1 : Int32) : Option (Int32 × MSt) := wr 10 1 (fun i1 => nm (saM u 3 i1 (x1 - 97)) (fun u2 => wr 10 2 (fun i3 => nm (saM u2 3 i3 0) (fun u4 => nm (siM u4 2 2) (fun u5 => (mM_in N (Int32.toInt64 x1) 97 104).bind (fun r6 => gd (r6 = 0 ∨ r6 = 1) (some (r6, u5))))))))
set_option maxRecDepth 100000 in
set_option maxHeartbeats 4000000 in
theorem cM_goPivot {l : Launch} {D : va_G} {cI : ClassId} {o : Nat} {q : Nat → Nat} {u : MSt} {N : Nat} {x1 : Int32} {rr : (Int32 × MSt)} (hm : mM_goPivot N u x1 = some rr) : Con l D [(cI, .int)] yX11_goPivot (wS yX11_goPivot cX11_goPivot 2 (some .boolean)) rmM_goPivot [.ref o, .int x1] (wM cI o q u) (some (.int rr.1)) (wM cI o q rr.2) := by
  refine Con.of (by decide +kernel) (Nat.le_of_ble_eq_true rfl) (fun G C hR => ?_)
  unfold mM_goPivot at hm
  show J l rmM_goPivot D G (0, 0) (wM cI o q u) [(0, .ref o), (1, .int x1)] [] 0
  refine j_aload_n C dX11_goPivot_0 rfl 0 rfl ?_
  refine jM_g3 C dX11_goPivot_1 ?_
  refine j_iconst (v := 1) C dX11_goPivot_4 (by decide) ?_
  refine j_iload_n C dX11_goPivot_5 rfl 1 rfl ?_
  refine j_bipush (v := 97) C dX11_goPivot_6 (by decide) ?_
  refine j_isub C dX11_goPivot_8 ?_
  refine jM_S3 C dX11_goPivot_9 hm (fun u2 hm => ?_)
  refine j_aload_n C dX11_goPivot_10 rfl 0 rfl ?_
  refine jM_g3 C dX11_goPivot_11 ?_
  refine j_iconst (v := 2) C dX11_goPivot_14 (by decide) ?_
  refine j_iconst (v := 0) C dX11_goPivot_15 (by decide) ?_
  refine jM_S3 C dX11_goPivot_16 hm (fun u4 hm => ?_)
  refine j_aload_n C dX11_goPivot_17 rfl 0 rfl ?_
  refine j_iconst (v := 2) C dX11_goPivot_18 (by decide) ?_
  refine jM_p2 C dX11_goPivot_19 ?_
  refine j_nmu hm (w := wM cI o q) (fun u5 hm => ?_)
  refine j_iload_n C dX11_goPivot_22 rfl 1 rfl ?_
  refine j_i2l C dX11_goPivot_23 ?_
  refine j_ldc2 C dX11_goPivot_24 wk_X11_76 ?_
  refine j_ldc2 C dX11_goPivot_27 wk_X11_78 ?_
  refine j_bind hm (fun r6 hr6 hm => ?_)
  refine j_callS (cs' := (0, 0)) (As := [.long (Int32.toInt64 x1), .long 97, .long 104]) (rest := []) C (cM_in hr6) wc_X11_in wm_X11_69 wt_X11_in wn_X11 wd_X11_in ⟨by decide, by decide⟩ rfl (Nat.le_of_ble_eq_true rfl) dX11_goPivot_30 ⟨by decide, by decide⟩ rfl rfl ?_
  obtain ⟨g, hm⟩ := gd_some hm
  cases hm
  exact j_zret C hR (jz01 g) dX11_goPivot_33
def rmM_goEnd : Room := { frames := 1, cells := 0, slots := 0, locals := 25 }
theorem wd_X11_goEnd : yX11_goEnd.cls ≠ "java/lang/invoke/MethodHandle" ∧ yX11_goEnd.cls ≠ "java/lang/invoke/VarHandle" ∧ (parseMethodDescriptor yX11_goEnd.desc).map (fun d => d.parameters.length) = some 1 := by decide +kernel
def mM_goEnd_79 (N : Nat) (k46 : MSt → Int32 → Int32 → Int32 → Option (Int32 × MSt)) (u : MSt) (x2 : Int32) (x4 : Int32) (s0 : Int32) : Option (Int32 × MSt) := k46 u x2 s0 (x4 + 1)
set_option maxRecDepth 100000 in
set_option maxHeartbeats 4000000 in
theorem kM_goEnd_79 {l : Launch} {D : va_G} {cI : ClassId} {o : Nat} {q : Nat → Nat} {G : Gx} {N : Nat} {rr : (Int32 × MSt)} (C : jC l rmM_goEnd D [(cI, .int)] G cX11_goEnd 5 RX11) (hR : jR D [(cI, .int)] G (0, 0) (some .boolean) (some (.int rr.1)) (wM cI o q rr.2)) (k46 : MSt → Int32 → Int32 → Int32 → Option (Int32 × MSt)) (K46 : ∀ (u : MSt) (x2 : Int32) (x3 : Int32) (x4 : Int32), k46 u x2 x3 x4 = some rr → J l rmM_goEnd D G (0, 0) (wM cI o q u) [(0, .ref o), (2, .int x2), (3, .int x3), (4, .int x4)] [] 46) (u : MSt) (x2 : Int32) (x4 : Int32) (s0 : Int32) (hm : mM_goEnd_79 N k46 u x2 x4 s0 = some rr) : J l rmM_goEnd D G (0, 0) (wM cI o q u) [(0, .ref o), (2, .int x2), (4, .int x4)] [.int s0] 79 := by
  unfold mM_goEnd_79 at hm
  refine j_istore_n C dX11_goEnd_79 rfl (by decide) rfl ?_
  refine j_iinc (v := (x4 + 1)) C dX11_goEnd_80 3 rfl rfl (by decide) rfl ?_
  refine j_goto (tgt := 46) C dX11_goEnd_83 (by decide) ?_
  exact J.sub [2, 3, 1, 0] rfl (K46 u x2 s0 (x4 + 1) hm)
def mM_goEnd_114 (N : Nat) (u : MSt) (x3 : Int32) : Option (Int32 × MSt) := nm (siM u 2 4) (fun u1 => gd (x3 = 0 ∨ x3 = 1) (some (x3, u1)))
set_option maxRecDepth 100000 in
set_option maxHeartbeats 4000000 in
theorem kM_goEnd_114 {l : Launch} {D : va_G} {cI : ClassId} {o : Nat} {q : Nat → Nat} {G : Gx} {N : Nat} {rr : (Int32 × MSt)} (C : jC l rmM_goEnd D [(cI, .int)] G cX11_goEnd 5 RX11) (hR : jR D [(cI, .int)] G (0, 0) (some .boolean) (some (.int rr.1)) (wM cI o q rr.2))  (u : MSt) (x3 : Int32) (hm : mM_goEnd_114 N u x3 = some rr) : J l rmM_goEnd D G (0, 0) (wM cI o q u) [(0, .ref o), (3, .int x3)] [] 114 := by
  unfold mM_goEnd_114 at hm
  refine j_aload_n C dX11_goEnd_114 rfl 0 rfl ?_
  refine j_iconst (v := 4) C dX11_goEnd_115 (by decide) ?_
  refine jM_p2 C dX11_goEnd_116 ?_
  refine j_nmu hm (w := wM cI o q) (fun u1 hm => ?_)
  refine j_iload_n C dX11_goEnd_119 rfl 1 rfl ?_
  obtain ⟨g, hm⟩ := gd_some hm
  cases hm
  exact j_zret C hR (jz01 g) dX11_goEnd_120
def mM_goEnd_86 (N : Nat) (u : MSt) (x2 : Int32) (x3 : Int32) : Option (Int32 × MSt) := if x3 = 0 then (mM_goEnd_114 N u x3) else (rd (u.2.1 3) 10 2 (fun a1 => wr 10 (3 + a1) (fun i2 => nm (saM u 3 i2 x2) (fun u3 => rd (u3.2.1 3) 10 2 (fun a4 => wr 10 2 (fun i5 => nm (saM u3 3 i5 (a4 + 1)) (fun u6 => mM_goEnd_114 N u6 x3)))))))
set_option maxRecDepth 100000 in
set_option maxHeartbeats 4000000 in
theorem kM_goEnd_86 {l : Launch} {D : va_G} {cI : ClassId} {o : Nat} {q : Nat → Nat} {G : Gx} {N : Nat} {rr : (Int32 × MSt)} (C : jC l rmM_goEnd D [(cI, .int)] G cX11_goEnd 5 RX11) (hR : jR D [(cI, .int)] G (0, 0) (some .boolean) (some (.int rr.1)) (wM cI o q rr.2))  (u : MSt) (x2 : Int32) (x3 : Int32) (hm : mM_goEnd_86 N u x2 x3 = some rr) : J l rmM_goEnd D G (0, 0) (wM cI o q u) [(0, .ref o), (2, .int x2), (3, .int x3)] [] 86 := by
  unfold mM_goEnd_86 at hm
  refine j_iload_n C dX11_goEnd_86 rfl 2 rfl ?_
  refine j_if_eqq (tgt := 114) C dX11_goEnd_87 (by decide) hm (fun hm => ?_) (fun hm => ?_)
  · exact J.sub [0, 2] rfl (kM_goEnd_114 C hR u x3 hm)
  · refine j_aload_n C dX11_goEnd_90 rfl 0 rfl ?_
    refine jM_g3 C dX11_goEnd_91 ?_
    refine j_iconst (v := 3) C dX11_goEnd_94 (by decide) ?_
    refine j_aload_n C dX11_goEnd_95 rfl 0 rfl ?_
    refine jM_g3 C dX11_goEnd_96 ?_
    refine j_iconst (v := 2) C dX11_goEnd_99 (by decide) ?_
    refine jM_L3 C dX11_goEnd_100 hm (fun a1 hm => ?_)
    refine j_iadd C dX11_goEnd_101 ?_
    refine j_iload_n C dX11_goEnd_102 rfl 1 rfl ?_
    refine jM_S3 C dX11_goEnd_103 hm (fun u3 hm => ?_)
    refine j_aload_n C dX11_goEnd_104 rfl 0 rfl ?_
    refine jM_g3 C dX11_goEnd_105 ?_
    refine j_iconst (v := 2) C dX11_goEnd_108 (by decide) ?_
    refine j_dup2_11 C dX11_goEnd_109 rfl rfl ?_
    refine jM_L3 C dX11_goEnd_110 hm (fun a4 hm => ?_)
    refine j_iconst (v := 1) C dX11_goEnd_111 (by decide) ?_
    refine j_iadd C dX11_goEnd_112 ?_
    refine jM_S3 C dX11_goEnd_113 hm (fun u6 hm => ?_)
    exact J.sub [0, 2] rfl (kM_goEnd_114 C hR u6 x3 hm)
def mM_goEnd_46 (N : Nat) (k46 : MSt → Int32 → Int32 → Int32 → Option (Int32 × MSt)) (u : MSt) (x2 : Int32) (x3 : Int32) (x4 : Int32) : Option (Int32 × MSt) := rd (u.2.1 3) 10 2 (fun a1 => if a1 ≤ x4 then (mM_goEnd_86 N u x2 x3) else (if x3 = 0 then (mM_goEnd_86 N u x2 x3) else (rd (u.2.1 3) 10 (3 + x4) (fun a2 => if a2 = x2 then (mM_goEnd_79 N k46 u x2 x4 0) else (mM_goEnd_79 N k46 u x2 x4 1)))))
set_option maxRecDepth 100000 in
set_option maxHeartbeats 4000000 in
theorem kM_goEnd_46 {l : Launch} {D : va_G} {cI : ClassId} {o : Nat} {q : Nat → Nat} {G : Gx} {N : Nat} {rr : (Int32 × MSt)} (C : jC l rmM_goEnd D [(cI, .int)] G cX11_goEnd 5 RX11) (hR : jR D [(cI, .int)] G (0, 0) (some .boolean) (some (.int rr.1)) (wM cI o q rr.2)) (k46 : MSt → Int32 → Int32 → Int32 → Option (Int32 × MSt)) (K46 : ∀ (u : MSt) (x2 : Int32) (x3 : Int32) (x4 : Int32), k46 u x2 x3 x4 = some rr → J l rmM_goEnd D G (0, 0) (wM cI o q u) [(0, .ref o), (2, .int x2), (3, .int x3), (4, .int x4)] [] 46) (u : MSt) (x2 : Int32) (x3 : Int32) (x4 : Int32) (hm : mM_goEnd_46 N k46 u x2 x3 x4 = some rr) : J l rmM_goEnd D G (0, 0) (wM cI o q u) [(0, .ref o), (2, .int x2), (3, .int x3), (4, .int x4)] [] 46 := by
  unfold mM_goEnd_46 at hm
  refine j_iload C dX11_goEnd_46 3 rfl ?_
  refine j_aload_n C dX11_goEnd_48 rfl 0 rfl ?_
  refine jM_g3 C dX11_goEnd_49 ?_
  refine j_iconst (v := 2) C dX11_goEnd_52 (by decide) ?_
  refine jM_L3 C dX11_goEnd_53 hm (fun a1 hm => ?_)
  refine j_icmp_geq (tgt := 86) C dX11_goEnd_54 (by decide) hm (fun hm => ?_) (fun hm => ?_)
  · exact J.sub [0, 1, 2] rfl (kM_goEnd_86 C hR u x2 x3 hm)
  · refine j_iload_n C dX11_goEnd_57 rfl 2 rfl ?_
    refine j_if_eqq (tgt := 86) C dX11_goEnd_58 (by decide) hm (fun hm => ?_) (fun hm => ?_)
    · exact J.sub [0, 1, 2] rfl (kM_goEnd_86 C hR u x2 x3 hm)
    · refine j_aload_n C dX11_goEnd_61 rfl 0 rfl ?_
      refine jM_g3 C dX11_goEnd_62 ?_
      refine j_iconst (v := 3) C dX11_goEnd_65 (by decide) ?_
      refine j_iload C dX11_goEnd_66 3 rfl ?_
      refine j_iadd C dX11_goEnd_68 ?_
      refine jM_L3 C dX11_goEnd_69 hm (fun a2 hm => ?_)
      refine j_iload_n C dX11_goEnd_70 rfl 1 rfl ?_
      refine j_icmp_eqq (tgt := 78) C dX11_goEnd_71 (by decide) hm (fun hm => ?_) (fun hm => ?_)
      · refine j_iconst (v := 0) C dX11_goEnd_78 (by decide) ?_
        exact J.sub [0, 1, 3] rfl (kM_goEnd_79 C hR k46 K46 u x2 x4 0 hm)
      · refine j_iconst (v := 1) C dX11_goEnd_74 (by decide) ?_
        refine j_goto (tgt := 79) C dX11_goEnd_75 (by decide) ?_
        exact J.sub [0, 1, 3] rfl (kM_goEnd_79 C hR k46 K46 u x2 x4 1 hm)
def mM_goEnd_h46 (N : Nat) : Nat → MSt → Int32 → Int32 → Int32 → Option (Int32 × MSt)
  | 0, _, _, _, _ => none
  | n + 1, u, x2, x3, x4 => mM_goEnd_46 N (mM_goEnd_h46 N n) u x2 x3 x4
theorem kM_goEnd_h46 {l : Launch} {D : va_G} {cI : ClassId} {o : Nat} {q : Nat → Nat} {G : Gx} {N : Nat} {rr : (Int32 × MSt)} (C : jC l rmM_goEnd D [(cI, .int)] G cX11_goEnd 5 RX11) (hR : jR D [(cI, .int)] G (0, 0) (some .boolean) (some (.int rr.1)) (wM cI o q rr.2))  : ∀ (n : Nat) (u : MSt) (x2 : Int32) (x3 : Int32) (x4 : Int32), mM_goEnd_h46 N n u x2 x3 x4 = some rr → J l rmM_goEnd D G (0, 0) (wM cI o q u) [(0, .ref o), (2, .int x2), (3, .int x3), (4, .int x4)] [] 46 := by
  intro n
  induction n with
  | zero =>
    intro u x2 x3 x4 hm
    have hm : (none : Option (Int32 × MSt)) = some rr := hm
    cases hm
  | succ n ih =>
    intro u x2 x3 x4 hm
    exact kM_goEnd_46 C hR _ ih u x2 x3 x4 hm
def mM_goEnd_42 (N : Nat) (u : MSt) (x2 : Int32) (s0 : Int32) : Option (Int32 × MSt) := mM_goEnd_h46 N N u x2 s0 0
set_option maxRecDepth 100000 in
set_option maxHeartbeats 4000000 in
theorem kM_goEnd_42 {l : Launch} {D : va_G} {cI : ClassId} {o : Nat} {q : Nat → Nat} {G : Gx} {N : Nat} {rr : (Int32 × MSt)} (C : jC l rmM_goEnd D [(cI, .int)] G cX11_goEnd 5 RX11) (hR : jR D [(cI, .int)] G (0, 0) (some .boolean) (some (.int rr.1)) (wM cI o q rr.2))  (u : MSt) (x2 : Int32) (s0 : Int32) (hm : mM_goEnd_42 N u x2 s0 = some rr) : J l rmM_goEnd D G (0, 0) (wM cI o q u) [(0, .ref o), (2, .int x2)] [.int s0] 42 := by
  unfold mM_goEnd_42 at hm
  refine j_istore_n C dX11_goEnd_42 rfl (by decide) rfl ?_
  refine j_iconst (v := 0) C dX11_goEnd_43 (by decide) ?_
  refine j_istore C dX11_goEnd_44 (by decide) rfl ?_
  exact J.sub [2, 3, 1, 0] rfl (kM_goEnd_h46 C hR N u x2 s0 0 hm)
def mM_goEnd_41 (N : Nat) (u : MSt) (x2 : Int32) : Option (Int32 × MSt) := mM_goEnd_42 N u x2 0
set_option maxRecDepth 100000 in
set_option maxHeartbeats 4000000 in
theorem kM_goEnd_41 {l : Launch} {D : va_G} {cI : ClassId} {o : Nat} {q : Nat → Nat} {G : Gx} {N : Nat} {rr : (Int32 × MSt)} (C : jC l rmM_goEnd D [(cI, .int)] G cX11_goEnd 5 RX11) (hR : jR D [(cI, .int)] G (0, 0) (some .boolean) (some (.int rr.1)) (wM cI o q rr.2))  (u : MSt) (x2 : Int32) (hm : mM_goEnd_41 N u x2 = some rr) : J l rmM_goEnd D G (0, 0) (wM cI o q u) [(0, .ref o), (2, .int x2)] [] 41 := by
  unfold mM_goEnd_41 at hm
  refine j_iconst (v := 0) C dX11_goEnd_41 (by decide) ?_
  exact kM_goEnd_42 C hR u x2 0 hm
def mM_goEnd (N : Nat) (u : MSt) (x1 : Int32) : Option (Int32 × MSt) := nm (x1 - 97) (fun v1 => (mM_in N (Int32.toInt64 v1) 0 7).bind (fun r2 => if r2 = 0 then (mM_goEnd_41 N u v1) else (rd (u.2.1 3) 10 1 (fun a3 => if v1 = a3 then (mM_goEnd_41 N u v1) else (rd (u.2.1 3) 10 2 (fun a4 => if 3 ≤ a4 then (mM_goEnd_41 N u v1) else (mM_goEnd_42 N u v1 1)))))))
set_option maxRecDepth 100000 in
set_option maxHeartbeats 4000000 in
theorem cM_goEnd {l : Launch} {D : va_G} {cI : ClassId} {o : Nat} {q : Nat → Nat} {u : MSt} {N : Nat} {x1 : Int32} {rr : (Int32 × MSt)} (hm : mM_goEnd N u x1 = some rr) : Con l D [(cI, .int)] yX11_goEnd (wS yX11_goEnd cX11_goEnd 5 (some .boolean)) rmM_goEnd [.ref o, .int x1] (wM cI o q u) (some (.int rr.1)) (wM cI o q rr.2) := by
  refine Con.of (by decide +kernel) (Nat.le_of_ble_eq_true rfl) (fun G C hR => ?_)
  unfold mM_goEnd at hm
  show J l rmM_goEnd D G (0, 0) (wM cI o q u) [(0, .ref o), (1, .int x1)] [] 0
  refine j_iload_n C dX11_goEnd_0 rfl 1 rfl ?_
  refine j_bipush (v := 97) C dX11_goEnd_1 (by decide) ?_
  refine j_isub C dX11_goEnd_3 ?_
  refine j_nmi hm (fun v1 hm => ?_)
  refine j_istore_n C dX11_goEnd_4 rfl (by decide) rfl ?_
  refine j_iload_n C dX11_goEnd_5 rfl 0 rfl ?_
  refine j_i2l C dX11_goEnd_6 ?_
  refine j_lconst (v := 0) C dX11_goEnd_7 (by decide) ?_
  refine j_ldc2 C dX11_goEnd_8 wk_X11_80 ?_
  refine j_bind hm (fun r2 hr2 hm => ?_)
  refine j_callS (cs' := (0, 0)) (As := [.long (Int32.toInt64 v1), .long 0, .long 7]) (rest := []) C (cM_in hr2) wc_X11_in wm_X11_69 wt_X11_in wn_X11 wd_X11_in ⟨by decide, by decide⟩ rfl (Nat.le_of_ble_eq_true rfl) dX11_goEnd_11 ⟨by decide, by decide⟩ rfl rfl ?_
  refine j_if_eqq (tgt := 41) C dX11_goEnd_14 (by decide) hm (fun hm => ?_) (fun hm => ?_)
  · exact J.sub [1, 0] rfl (kM_goEnd_41 C hR u v1 hm)
  · refine j_iload_n C dX11_goEnd_17 rfl 0 rfl ?_
    refine j_aload_n C dX11_goEnd_18 rfl 1 rfl ?_
    refine jM_g3 C dX11_goEnd_19 ?_
    refine j_iconst (v := 1) C dX11_goEnd_22 (by decide) ?_
    refine jM_L3 C dX11_goEnd_23 hm (fun a3 hm => ?_)
    refine j_icmp_eqq (tgt := 41) C dX11_goEnd_24 (by decide) hm (fun hm => ?_) (fun hm => ?_)
    · exact J.sub [1, 0] rfl (kM_goEnd_41 C hR u v1 hm)
    · refine j_aload_n C dX11_goEnd_27 rfl 1 rfl ?_
      refine jM_g3 C dX11_goEnd_28 ?_
      refine j_iconst (v := 2) C dX11_goEnd_31 (by decide) ?_
      refine jM_L3 C dX11_goEnd_32 hm (fun a4 hm => ?_)
      refine j_iconst (v := 3) C dX11_goEnd_33 (by decide) ?_
      refine j_icmp_geq (tgt := 41) C dX11_goEnd_34 (by decide) hm (fun hm => ?_) (fun hm => ?_)
      · exact J.sub [1, 0] rfl (kM_goEnd_41 C hR u v1 hm)
      · refine j_iconst (v := 1) C dX11_goEnd_37 (by decide) ?_
        refine j_goto (tgt := 42) C dX11_goEnd_38 (by decide) ?_
        exact J.sub [1, 0] rfl (kM_goEnd_42 C hR u v1 1 hm)
def rmM_go : Room := { frames := 2, cells := 0, slots := 0, locals := 49 }
theorem wd_X11_go : yX11_go.cls ≠ "java/lang/invoke/MethodHandle" ∧ yX11_go.cls ≠ "java/lang/invoke/VarHandle" ∧ (parseMethodDescriptor yX11_go.desc).map (fun d => d.parameters.length) = some 1 := by decide +kernel
def mM_go_277 (N : Nat) (u : MSt) (s0 : Int32) : Option (Int32 × MSt) := gd (s0 = 0 ∨ s0 = 1) (some (s0, u))
set_option maxRecDepth 100000 in
set_option maxHeartbeats 4000000 in
theorem kM_go_277 {l : Launch} {D : va_G} {cI : ClassId} {o : Nat} {q : Nat → Nat} {G : Gx} {N : Nat} {rr : (Int32 × MSt)} (C : jC l rmM_go D [(cI, .int)] G cX11_go 3 RX11) (hR : jR D [(cI, .int)] G (0, 0) (some .boolean) (some (.int rr.1)) (wM cI o q rr.2))  (u : MSt) (s0 : Int32) (hm : mM_go_277 N u s0 = some rr) : J l rmM_go D G (0, 0) (wM cI o q u) [] [.int s0] 277 := by
  unfold mM_go_277 at hm
  obtain ⟨g, hm⟩ := gd_some hm
  cases hm
  exact j_zret C hR (jz01 g) dX11_go_277
def mM_go_276 (N : Nat) (u : MSt) : Option (Int32 × MSt) := mM_go_277 N u 0
set_option maxRecDepth 100000 in
set_option maxHeartbeats 4000000 in
theorem kM_go_276 {l : Launch} {D : va_G} {cI : ClassId} {o : Nat} {q : Nat → Nat} {G : Gx} {N : Nat} {rr : (Int32 × MSt)} (C : jC l rmM_go D [(cI, .int)] G cX11_go 3 RX11) (hR : jR D [(cI, .int)] G (0, 0) (some .boolean) (some (.int rr.1)) (wM cI o q rr.2))  (u : MSt)  (hm : mM_go_276 N u = some rr) : J l rmM_go D G (0, 0) (wM cI o q u) [] [] 276 := by
  unfold mM_go_276 at hm
  refine j_iconst (v := 0) C dX11_go_276 (by decide) ?_
  exact kM_go_277 C hR u 0 hm
def mM_go_116 (N : Nat) (u : MSt) (x1 : Int32) (x2 : Int32) : Option (Int32 × MSt) := nm (siM u 2 ((u.1 2) + 1)) (fun u1 => if ¬ x2 = 2 then (if ¬ x2 = 5 then (if ¬ x2 = 6 then (if ¬ x2 = 7 then (if ¬ x2 = 8 then (if ¬ x2 = 9 then (if ¬ x2 = 10 then (if ¬ x2 = 11 then (mM_go_276 N u1) else (bp (mM_goDigit N u1 x1 9 1) (fun r2 u3 => if r2 = 0 then (mM_go_276 N u3) else (mM_go_277 N u3 1)))) else (if ¬ x1 = 119 then (mM_go_277 N u1 0) else (mM_go_277 N u1 1))) else (bp (mM_goDigit N u1 x1 8 0) (fun r4 u5 => mM_go_277 N u5 r4))) else (if ¬ x1 = 43 then (mM_go_277 N u1 0) else (mM_go_277 N u1 1))) else (bp (mM_goDigit N u1 x1 7 1) (fun r6 u7 => mM_go_277 N u7 r6))) else (if ¬ x1 = 47 then (mM_go_277 N u1 0) else (mM_go_277 N u1 1))) else (bp (mM_goDigit N u1 x1 6 1) (fun r8 u9 => mM_go_277 N u9 r8))) else (if ¬ x1 = 58 then (mM_go_277 N u1 0) else (mM_go_277 N u1 1)))
set_option maxRecDepth 100000 in
set_option maxHeartbeats 4000000 in
theorem kM_go_116 {l : Launch} {D : va_G} {cI : ClassId} {o : Nat} {q : Nat → Nat} {G : Gx} {N : Nat} {rr : (Int32 × MSt)} (C : jC l rmM_go D [(cI, .int)] G cX11_go 3 RX11) (hR : jR D [(cI, .int)] G (0, 0) (some .boolean) (some (.int rr.1)) (wM cI o q rr.2))  (u : MSt) (x1 : Int32) (x2 : Int32) (hm : mM_go_116 N u x1 x2 = some rr) : J l rmM_go D G (0, 0) (wM cI o q u) [(0, .ref o), (1, .int x1), (2, .int x2)] [] 116 := by
  unfold mM_go_116 at hm
  refine j_aload_n C dX11_go_116 rfl 0 rfl ?_
  refine j_dup C dX11_go_117 rfl ?_
  refine jM_g2 C dX11_go_118 ?_
  refine j_iconst (v := 1) C dX11_go_121 (by decide) ?_
  refine j_iadd C dX11_go_122 ?_
  refine jM_p2 C dX11_go_123 ?_
  refine j_nmu hm (w := wM cI o q) (fun u1 hm => ?_)
  refine j_iload_n C dX11_go_126 rfl 2 rfl ?_
  refine j_iconst (v := 2) C dX11_go_127 (by decide) ?_
  refine j_icmp_neq (tgt := 145) C dX11_go_128 (by decide) hm (fun hm => ?_) (fun hm => ?_)
  · refine j_iload_n C dX11_go_145 rfl 2 rfl ?_
    refine j_iconst (v := 5) C dX11_go_146 (by decide) ?_
    refine j_icmp_neq (tgt := 161) C dX11_go_147 (by decide) hm (fun hm => ?_) (fun hm => ?_)
    · refine j_iload_n C dX11_go_161 rfl 2 rfl ?_
      refine j_bipush (v := 6) C dX11_go_162 (by decide) ?_
      refine j_icmp_neq (tgt := 181) C dX11_go_164 (by decide) hm (fun hm => ?_) (fun hm => ?_)
      · refine j_iload_n C dX11_go_181 rfl 2 rfl ?_
        refine j_bipush (v := 7) C dX11_go_182 (by decide) ?_
        refine j_icmp_neq (tgt := 198) C dX11_go_184 (by decide) hm (fun hm => ?_) (fun hm => ?_)
        · refine j_iload_n C dX11_go_198 rfl 2 rfl ?_
          refine j_bipush (v := 8) C dX11_go_199 (by decide) ?_
          refine j_icmp_neq (tgt := 218) C dX11_go_201 (by decide) hm (fun hm => ?_) (fun hm => ?_)
          · refine j_iload_n C dX11_go_218 rfl 2 rfl ?_
            refine j_bipush (v := 9) C dX11_go_219 (by decide) ?_
            refine j_icmp_neq (tgt := 235) C dX11_go_221 (by decide) hm (fun hm => ?_) (fun hm => ?_)
            · refine j_iload_n C dX11_go_235 rfl 2 rfl ?_
              refine j_bipush (v := 10) C dX11_go_236 (by decide) ?_
              refine j_icmp_neq (tgt := 255) C dX11_go_238 (by decide) hm (fun hm => ?_) (fun hm => ?_)
              · refine j_iload_n C dX11_go_255 rfl 2 rfl ?_
                refine j_bipush (v := 11) C dX11_go_256 (by decide) ?_
                refine j_icmp_neq (tgt := 276) C dX11_go_258 (by decide) hm (fun hm => ?_) (fun hm => ?_)
                · exact J.sub [] rfl (kM_go_276 C hR u1 hm)
                · refine j_aload_n C dX11_go_261 rfl 0 rfl ?_
                  refine j_iload_n C dX11_go_262 rfl 1 rfl ?_
                  refine j_bipush (v := 9) C dX11_go_263 (by decide) ?_
                  refine j_iconst (v := 1) C dX11_go_265 (by decide) ?_
                  refine j_bindp hm (fun r2 u3 hr2 hm => ?_)
                  refine j_callV (cs' := (0, 0)) (As := [.int x1, .int 9, .int 1]) (rest := []) C (cM_goDigit hr2) wc_X11_goDigit wm_X11_93 wi_X11_goDigit ws_X11_goDigit wn_X11 wd_X11_goDigit ⟨by decide, by decide⟩ 0 rfl rfl rfl (Nat.le_of_ble_eq_true rfl) dX11_go_266 ⟨by decide, by decide⟩ rfl rfl ?_
                  refine j_if_eqq (tgt := 276) C dX11_go_269 (by decide) hm (fun hm => ?_) (fun hm => ?_)
                  · exact J.sub [] rfl (kM_go_276 C hR u3 hm)
                  · refine j_iconst (v := 1) C dX11_go_272 (by decide) ?_
                    refine j_goto (tgt := 277) C dX11_go_273 (by decide) ?_
                    exact J.sub [] rfl (kM_go_277 C hR u3 1 hm)
              · refine j_iload_n C dX11_go_241 rfl 1 rfl ?_
                refine j_bipush (v := 119) C dX11_go_242 (by decide) ?_
                refine j_icmp_neq (tgt := 251) C dX11_go_244 (by decide) hm (fun hm => ?_) (fun hm => ?_)
                · refine j_iconst (v := 0) C dX11_go_251 (by decide) ?_
                  refine j_goto (tgt := 277) C dX11_go_252 (by decide) ?_
                  exact J.sub [] rfl (kM_go_277 C hR u1 0 hm)
                · refine j_iconst (v := 1) C dX11_go_247 (by decide) ?_
                  refine j_goto (tgt := 277) C dX11_go_248 (by decide) ?_
                  exact J.sub [] rfl (kM_go_277 C hR u1 1 hm)
            · refine j_aload_n C dX11_go_224 rfl 0 rfl ?_
              refine j_iload_n C dX11_go_225 rfl 1 rfl ?_
              refine j_bipush (v := 8) C dX11_go_226 (by decide) ?_
              refine j_iconst (v := 0) C dX11_go_228 (by decide) ?_
              refine j_bindp hm (fun r4 u5 hr4 hm => ?_)
              refine j_callV (cs' := (0, 0)) (As := [.int x1, .int 8, .int 0]) (rest := []) C (cM_goDigit hr4) wc_X11_goDigit wm_X11_93 wi_X11_goDigit ws_X11_goDigit wn_X11 wd_X11_goDigit ⟨by decide, by decide⟩ 0 rfl rfl rfl (Nat.le_of_ble_eq_true rfl) dX11_go_229 ⟨by decide, by decide⟩ rfl rfl ?_
              refine j_goto (tgt := 277) C dX11_go_232 (by decide) ?_
              exact J.sub [] rfl (kM_go_277 C hR u5 r4 hm)
          · refine j_iload_n C dX11_go_204 rfl 1 rfl ?_
            refine j_bipush (v := 43) C dX11_go_205 (by decide) ?_
            refine j_icmp_neq (tgt := 214) C dX11_go_207 (by decide) hm (fun hm => ?_) (fun hm => ?_)
            · refine j_iconst (v := 0) C dX11_go_214 (by decide) ?_
              refine j_goto (tgt := 277) C dX11_go_215 (by decide) ?_
              exact J.sub [] rfl (kM_go_277 C hR u1 0 hm)
            · refine j_iconst (v := 1) C dX11_go_210 (by decide) ?_
              refine j_goto (tgt := 277) C dX11_go_211 (by decide) ?_
              exact J.sub [] rfl (kM_go_277 C hR u1 1 hm)
        · refine j_aload_n C dX11_go_187 rfl 0 rfl ?_
          refine j_iload_n C dX11_go_188 rfl 1 rfl ?_
          refine j_bipush (v := 7) C dX11_go_189 (by decide) ?_
          refine j_iconst (v := 1) C dX11_go_191 (by decide) ?_
          refine j_bindp hm (fun r6 u7 hr6 hm => ?_)
          refine j_callV (cs' := (0, 0)) (As := [.int x1, .int 7, .int 1]) (rest := []) C (cM_goDigit hr6) wc_X11_goDigit wm_X11_93 wi_X11_goDigit ws_X11_goDigit wn_X11 wd_X11_goDigit ⟨by decide, by decide⟩ 0 rfl rfl rfl (Nat.le_of_ble_eq_true rfl) dX11_go_192 ⟨by decide, by decide⟩ rfl rfl ?_
          refine j_goto (tgt := 277) C dX11_go_195 (by decide) ?_
          exact J.sub [] rfl (kM_go_277 C hR u7 r6 hm)
      · refine j_iload_n C dX11_go_167 rfl 1 rfl ?_
        refine j_bipush (v := 47) C dX11_go_168 (by decide) ?_
        refine j_icmp_neq (tgt := 177) C dX11_go_170 (by decide) hm (fun hm => ?_) (fun hm => ?_)
        · refine j_iconst (v := 0) C dX11_go_177 (by decide) ?_
          refine j_goto (tgt := 277) C dX11_go_178 (by decide) ?_
          exact J.sub [] rfl (kM_go_277 C hR u1 0 hm)
        · refine j_iconst (v := 1) C dX11_go_173 (by decide) ?_
          refine j_goto (tgt := 277) C dX11_go_174 (by decide) ?_
          exact J.sub [] rfl (kM_go_277 C hR u1 1 hm)
    · refine j_aload_n C dX11_go_150 rfl 0 rfl ?_
      refine j_iload_n C dX11_go_151 rfl 1 rfl ?_
      refine j_bipush (v := 6) C dX11_go_152 (by decide) ?_
      refine j_iconst (v := 1) C dX11_go_154 (by decide) ?_
      refine j_bindp hm (fun r8 u9 hr8 hm => ?_)
      refine j_callV (cs' := (0, 0)) (As := [.int x1, .int 6, .int 1]) (rest := []) C (cM_goDigit hr8) wc_X11_goDigit wm_X11_93 wi_X11_goDigit ws_X11_goDigit wn_X11 wd_X11_goDigit ⟨by decide, by decide⟩ 0 rfl rfl rfl (Nat.le_of_ble_eq_true rfl) dX11_go_155 ⟨by decide, by decide⟩ rfl rfl ?_
      refine j_goto (tgt := 277) C dX11_go_158 (by decide) ?_
      exact J.sub [] rfl (kM_go_277 C hR u9 r8 hm)
  · refine j_iload_n C dX11_go_131 rfl 1 rfl ?_
    refine j_bipush (v := 58) C dX11_go_132 (by decide) ?_
    refine j_icmp_neq (tgt := 141) C dX11_go_134 (by decide) hm (fun hm => ?_) (fun hm => ?_)
    · refine j_iconst (v := 0) C dX11_go_141 (by decide) ?_
      refine j_goto (tgt := 277) C dX11_go_142 (by decide) ?_
      exact J.sub [] rfl (kM_go_277 C hR u1 0 hm)
    · refine j_iconst (v := 1) C dX11_go_137 (by decide) ?_
      refine j_goto (tgt := 277) C dX11_go_138 (by decide) ?_
      exact J.sub [] rfl (kM_go_277 C hR u1 1 hm)
def mM_go_84 (N : Nat) (u : MSt) (s0 : Int32) : Option (Int32 × MSt) := gd (s0 = 0 ∨ s0 = 1) (some (s0, u))
set_option maxRecDepth 100000 in
set_option maxHeartbeats 4000000 in
theorem kM_go_84 {l : Launch} {D : va_G} {cI : ClassId} {o : Nat} {q : Nat → Nat} {G : Gx} {N : Nat} {rr : (Int32 × MSt)} (C : jC l rmM_go D [(cI, .int)] G cX11_go 3 RX11) (hR : jR D [(cI, .int)] G (0, 0) (some .boolean) (some (.int rr.1)) (wM cI o q rr.2))  (u : MSt) (s0 : Int32) (hm : mM_go_84 N u s0 = some rr) : J l rmM_go D G (0, 0) (wM cI o q u) [] [.int s0] 84 := by
  unfold mM_go_84 at hm
  obtain ⟨g, hm⟩ := gd_some hm
  cases hm
  exact j_zret C hR (jz01 g) dX11_go_84
def mM_go_79 (N : Nat) (u : MSt) : Option (Int32 × MSt) := mM_go_84 N u 1
set_option maxRecDepth 100000 in
set_option maxHeartbeats 4000000 in
theorem kM_go_79 {l : Launch} {D : va_G} {cI : ClassId} {o : Nat} {q : Nat → Nat} {G : Gx} {N : Nat} {rr : (Int32 × MSt)} (C : jC l rmM_go D [(cI, .int)] G cX11_go 3 RX11) (hR : jR D [(cI, .int)] G (0, 0) (some .boolean) (some (.int rr.1)) (wM cI o q rr.2))  (u : MSt)  (hm : mM_go_79 N u = some rr) : J l rmM_go D G (0, 0) (wM cI o q u) [] [] 79 := by
  unfold mM_go_79 at hm
  refine j_iconst (v := 1) C dX11_go_79 (by decide) ?_
  refine j_goto (tgt := 84) C dX11_go_80 (by decide) ?_
  exact kM_go_84 C hR u 1 hm
def mM_go (N : Nat) (u : MSt) (x1 : Int32) : Option (Int32 × MSt) := nm (u.1 2) (fun v1 => if v1.toInt < 0 ∨ 4 < v1.toInt then (mM_go_116 N u x1 v1) else if v1 = 0 then ((mM_signOf N x1).bind (fun r2 => wr 10 0 (fun i3 => nm (saM u 3 i3 r2) (fun u4 => wr 10 9 (fun i5 => nm (saM u4 3 i5 9) (fun u6 => nm (siM u6 2 1) (fun u7 => (mM_signOf N x1).bind (fun r8 => if 0 < r8 then (mM_go_79 N u7) else (bp (mM_goPivot N u7 x1) (fun r9 u10 => if r9 = 0 then (mM_go_84 N u10 0) else (mM_go_79 N u10))))))))))) else if v1 = 1 then (bp (mM_goPivot N u x1) (fun r11 u12 => gd (r11 = 0 ∨ r11 = 1) (some (r11, u12)))) else if v1 = 2 then (mM_go_116 N u x1 v1) else if v1 = 3 then (bp (mM_goEnd N u x1) (fun r13 u14 => gd (r13 = 0 ∨ r13 = 1) (some (r13, u14)))) else if v1 = 4 then (if ¬ x1 = 44 then (bp (mM_goEnd N u x1) (fun r15 u16 => gd (r15 = 0 ∨ r15 = 1) (some (r15, u16)))) else (nm (siM u 2 5) (fun u17 => some (1, u17)))) else none)
set_option maxRecDepth 100000 in
set_option maxHeartbeats 4000000 in
theorem cM_go {l : Launch} {D : va_G} {cI : ClassId} {o : Nat} {q : Nat → Nat} {u : MSt} {N : Nat} {x1 : Int32} {rr : (Int32 × MSt)} (hm : mM_go N u x1 = some rr) : Con l D [(cI, .int)] yX11_go (wS yX11_go cX11_go 3 (some .boolean)) rmM_go [.ref o, .int x1] (wM cI o q u) (some (.int rr.1)) (wM cI o q rr.2) := by
  refine Con.of (by decide +kernel) (Nat.le_of_ble_eq_true rfl) (fun G C hR => ?_)
  unfold mM_go at hm
  show J l rmM_go D G (0, 0) (wM cI o q u) [(0, .ref o), (1, .int x1)] [] 0
  refine j_aload_n C dX11_go_0 rfl 0 rfl ?_
  refine jM_g2 C dX11_go_1 ?_
  refine j_nmi hm (fun v1 hm => ?_)
  refine j_istore_n C dX11_go_4 rfl (by decide) rfl ?_
  refine j_iload_n C dX11_go_5 rfl 0 rfl ?_
  refine j_tswD (tgt := 116) C dX11_go_6 (by decide) hm (fun hm => ?_) (fun hm => ?_)
  · exact J.sub [1, 2, 0] rfl (kM_go_116 C hR u x1 v1 hm)
  refine j_tswK (k := 0) (tgt := 40) C dX11_go_6 (by decide) (by decide) rfl (by decide) hm (fun hm => ?_) (fun hm => ?_)
  · refine j_aload_n C dX11_go_40 rfl 1 rfl ?_
    refine jM_g3 C dX11_go_41 ?_
    refine j_iconst (v := 0) C dX11_go_44 (by decide) ?_
    refine j_iload_n C dX11_go_45 rfl 2 rfl ?_
    refine j_bind hm (fun r2 hr2 hm => ?_)
    refine j_callS (cs' := (0, 0)) (As := [.int x1]) (rest := [.int 0, .ref (q 3)]) C (cM_signOf hr2) wc_X11_signOf wm_X11_82 wt_X11_signOf wn_X11 wd_X11_signOf ⟨by decide, by decide⟩ rfl (Nat.le_of_ble_eq_true rfl) dX11_go_46 ⟨by decide, by decide⟩ rfl rfl ?_
    refine jM_S3 C dX11_go_49 hm (fun u4 hm => ?_)
    refine j_aload_n C dX11_go_50 rfl 1 rfl ?_
    refine jM_g3 C dX11_go_51 ?_
    refine j_bipush (v := 9) C dX11_go_54 (by decide) ?_
    refine j_bipush (v := 9) C dX11_go_56 (by decide) ?_
    refine jM_S3 C dX11_go_58 hm (fun u6 hm => ?_)
    refine j_aload_n C dX11_go_59 rfl 1 rfl ?_
    refine j_iconst (v := 1) C dX11_go_60 (by decide) ?_
    refine jM_p2 C dX11_go_61 ?_
    refine j_nmu hm (w := wM cI o q) (fun u7 hm => ?_)
    refine j_iload_n C dX11_go_64 rfl 2 rfl ?_
    refine j_bind hm (fun r8 hr8 hm => ?_)
    refine j_callS (cs' := (0, 0)) (As := [.int x1]) (rest := []) C (cM_signOf hr8) wc_X11_signOf wm_X11_82 wt_X11_signOf wn_X11 wd_X11_signOf ⟨by decide, by decide⟩ rfl (Nat.le_of_ble_eq_true rfl) dX11_go_65 ⟨by decide, by decide⟩ rfl rfl ?_
    refine j_if_gtq (tgt := 79) C dX11_go_68 (by decide) hm (fun hm => ?_) (fun hm => ?_)
    · exact J.sub [] rfl (kM_go_79 C hR u7 hm)
    · refine j_aload_n C dX11_go_71 rfl 1 rfl ?_
      refine j_iload_n C dX11_go_72 rfl 2 rfl ?_
      refine j_bindp hm (fun r9 u10 hr9 hm => ?_)
      refine j_callV (cs' := (0, 0)) (As := [.int x1]) (rest := []) C (cM_goPivot hr9) wc_X11_goPivot wm_X11_86 wi_X11_goPivot ws_X11_goPivot wn_X11 wd_X11_goPivot ⟨by decide, by decide⟩ 0 rfl rfl rfl (Nat.le_of_ble_eq_true rfl) dX11_go_73 ⟨by decide, by decide⟩ rfl rfl ?_
      refine j_if_eqq (tgt := 83) C dX11_go_76 (by decide) hm (fun hm => ?_) (fun hm => ?_)
      · refine j_iconst (v := 0) C dX11_go_83 (by decide) ?_
        exact J.sub [] rfl (kM_go_84 C hR u10 0 hm)
      · exact J.sub [] rfl (kM_go_79 C hR u10 hm)
  refine j_tswK (k := 1) (tgt := 85) C dX11_go_6 (by decide) (by decide) rfl (by decide) hm (fun hm => ?_) (fun hm => ?_)
  · refine j_aload_n C dX11_go_85 rfl 1 rfl ?_
    refine j_iload_n C dX11_go_86 rfl 2 rfl ?_
    refine j_bindp hm (fun r11 u12 hr11 hm => ?_)
    refine j_callV (cs' := (0, 0)) (As := [.int x1]) (rest := []) C (cM_goPivot hr11) wc_X11_goPivot wm_X11_86 wi_X11_goPivot ws_X11_goPivot wn_X11 wd_X11_goPivot ⟨by decide, by decide⟩ 0 rfl rfl rfl (Nat.le_of_ble_eq_true rfl) dX11_go_87 ⟨by decide, by decide⟩ rfl rfl ?_
    obtain ⟨g, hm⟩ := gd_some hm
    cases hm
    exact j_zret C hR (jz01 g) dX11_go_90
  refine j_tswK (k := 2) (tgt := 116) C dX11_go_6 (by decide) (by decide) rfl (by decide) hm (fun hm => ?_) (fun hm => ?_)
  · exact J.sub [1, 2, 0] rfl (kM_go_116 C hR u x1 v1 hm)
  refine j_tswK (k := 3) (tgt := 91) C dX11_go_6 (by decide) (by decide) rfl (by decide) hm (fun hm => ?_) (fun hm => ?_)
  · refine j_aload_n C dX11_go_91 rfl 1 rfl ?_
    refine j_iload_n C dX11_go_92 rfl 2 rfl ?_
    refine j_bindp hm (fun r13 u14 hr13 hm => ?_)
    refine j_callV (cs' := (0, 0)) (As := [.int x1]) (rest := []) C (cM_goEnd hr13) wc_X11_goEnd wm_X11_90 wi_X11_goEnd ws_X11_goEnd wn_X11 wd_X11_goEnd ⟨by decide, by decide⟩ 0 rfl rfl rfl (Nat.le_of_ble_eq_true rfl) dX11_go_93 ⟨by decide, by decide⟩ rfl rfl ?_
    obtain ⟨g, hm⟩ := gd_some hm
    cases hm
    exact j_zret C hR (jz01 g) dX11_go_96
  refine j_tswK (k := 4) (tgt := 97) C dX11_go_6 (by decide) (by decide) rfl (by decide) hm (fun hm => ?_) (fun hm => ?_)
  · refine j_iload_n C dX11_go_97 rfl 2 rfl ?_
    refine j_bipush (v := 44) C dX11_go_98 (by decide) ?_
    refine j_icmp_neq (tgt := 110) C dX11_go_100 (by decide) hm (fun hm => ?_) (fun hm => ?_)
    · refine j_aload_n C dX11_go_110 rfl 1 rfl ?_
      refine j_iload_n C dX11_go_111 rfl 2 rfl ?_
      refine j_bindp hm (fun r15 u16 hr15 hm => ?_)
      refine j_callV (cs' := (0, 0)) (As := [.int x1]) (rest := []) C (cM_goEnd hr15) wc_X11_goEnd wm_X11_90 wi_X11_goEnd ws_X11_goEnd wn_X11 wd_X11_goEnd ⟨by decide, by decide⟩ 0 rfl rfl rfl (Nat.le_of_ble_eq_true rfl) dX11_go_112 ⟨by decide, by decide⟩ rfl rfl ?_
      obtain ⟨g, hm⟩ := gd_some hm
      cases hm
      exact j_zret C hR (jz01 g) dX11_go_115
    · refine j_aload_n C dX11_go_103 rfl 1 rfl ?_
      refine j_iconst (v := 5) C dX11_go_104 (by decide) ?_
      refine jM_p2 C dX11_go_105 ?_
      refine j_nmu hm (w := wM cI o q) (fun u17 hm => ?_)
      refine j_iconst (v := 1) C dX11_go_108 (by decide) ?_
      cases hm
      exact j_zret C hR (by decide) dX11_go_109
  cases hm
def rmM_faultOf : Room := { frames := 3, cells := 0, slots := 0, locals := 71 }
theorem wd_X11_faultOf : yX11_faultOf.cls ≠ "java/lang/invoke/MethodHandle" ∧ yX11_faultOf.cls ≠ "java/lang/invoke/VarHandle" ∧ (parseMethodDescriptor yX11_faultOf.desc).map (fun d => d.parameters.length) = some 0 := by decide +kernel
def mM_faultOf_34 (N : Nat) (u : MSt) (x1 : Int32) : Option (Int32 × MSt) := some (x1, u)
set_option maxRecDepth 100000 in
set_option maxHeartbeats 4000000 in
theorem kM_faultOf_34 {l : Launch} {D : va_G} {cI : ClassId} {o : Nat} {q : Nat → Nat} {G : Gx} {N : Nat} {rr : (Int32 × MSt)} (C : jC l rmM_faultOf D [(cI, .int)] G cX11_faultOf 2 RX11) (hR : jR D [(cI, .int)] G (0, 0) (some .int) (some (.int rr.1)) (wM cI o q rr.2))  (u : MSt) (x1 : Int32) (hm : mM_faultOf_34 N u x1 = some rr) : J l rmM_faultOf D G (0, 0) (wM cI o q u) [(1, .int x1)] [] 34 := by
  unfold mM_faultOf_34 at hm
  refine j_iload_n C dX11_faultOf_34 rfl 0 rfl ?_
  cases hm
  exact j_iret C hR dX11_faultOf_35
def mM_faultOf_7 (N : Nat) (k7 : MSt → Int32 → Option (Int32 × MSt)) (u : MSt) (x1 : Int32) : Option (Int32 × MSt) := if (u.1 1) ≤ x1 then (mM_faultOf_34 N u x1) else (rd (u.2.1 0) 20 x1 (fun a1 => bp (mM_go N u a1) (fun r2 u3 => if r2 = 0 then (mM_faultOf_34 N u3 x1) else (k7 u3 (x1 + 1)))))
set_option maxRecDepth 100000 in
set_option maxHeartbeats 4000000 in
theorem kM_faultOf_7 {l : Launch} {D : va_G} {cI : ClassId} {o : Nat} {q : Nat → Nat} {G : Gx} {N : Nat} {rr : (Int32 × MSt)} (C : jC l rmM_faultOf D [(cI, .int)] G cX11_faultOf 2 RX11) (hR : jR D [(cI, .int)] G (0, 0) (some .int) (some (.int rr.1)) (wM cI o q rr.2)) (k7 : MSt → Int32 → Option (Int32 × MSt)) (K7 : ∀ (u : MSt) (x1 : Int32), k7 u x1 = some rr → J l rmM_faultOf D G (0, 0) (wM cI o q u) [(0, .ref o), (1, .int x1)] [] 7) (u : MSt) (x1 : Int32) (hm : mM_faultOf_7 N k7 u x1 = some rr) : J l rmM_faultOf D G (0, 0) (wM cI o q u) [(0, .ref o), (1, .int x1)] [] 7 := by
  unfold mM_faultOf_7 at hm
  refine j_iload_n C dX11_faultOf_7 rfl 1 rfl ?_
  refine j_aload_n C dX11_faultOf_8 rfl 0 rfl ?_
  refine jM_g1 C dX11_faultOf_9 ?_
  refine j_icmp_geq (tgt := 34) C dX11_faultOf_12 (by decide) hm (fun hm => ?_) (fun hm => ?_)
  · exact J.sub [1] rfl (kM_faultOf_34 C hR u x1 hm)
  · refine j_aload_n C dX11_faultOf_15 rfl 0 rfl ?_
    refine j_aload_n C dX11_faultOf_16 rfl 0 rfl ?_
    refine jM_g0 C dX11_faultOf_17 ?_
    refine j_iload_n C dX11_faultOf_20 rfl 1 rfl ?_
    refine jM_L0 C dX11_faultOf_21 hm (fun a1 hm => ?_)
    refine j_bindp hm (fun r2 u3 hr2 hm => ?_)
    refine j_callV (cs' := (0, 0)) (As := [.int a1]) (rest := []) C (cM_go hr2) wc_X11_go wm_X11_97 wi_X11_go ws_X11_go wn_X11 wd_X11_go ⟨by decide, by decide⟩ 0 rfl rfl rfl (Nat.le_of_ble_eq_true rfl) dX11_faultOf_22 ⟨by decide, by decide⟩ rfl rfl ?_
    refine j_if_eqq (tgt := 34) C dX11_faultOf_25 (by decide) hm (fun hm => ?_) (fun hm => ?_)
    · exact J.sub [1] rfl (kM_faultOf_34 C hR u3 x1 hm)
    · refine j_iinc (v := (x1 + 1)) C dX11_faultOf_28 1 rfl rfl (by decide) rfl ?_
      refine j_goto (tgt := 7) C dX11_faultOf_31 (by decide) ?_
      exact J.sub [1, 0] rfl (K7 u3 (x1 + 1) hm)
def mM_faultOf_h7 (N : Nat) : Nat → MSt → Int32 → Option (Int32 × MSt)
  | 0, _, _ => none
  | n + 1, u, x1 => mM_faultOf_7 N (mM_faultOf_h7 N n) u x1
theorem kM_faultOf_h7 {l : Launch} {D : va_G} {cI : ClassId} {o : Nat} {q : Nat → Nat} {G : Gx} {N : Nat} {rr : (Int32 × MSt)} (C : jC l rmM_faultOf D [(cI, .int)] G cX11_faultOf 2 RX11) (hR : jR D [(cI, .int)] G (0, 0) (some .int) (some (.int rr.1)) (wM cI o q rr.2))  : ∀ (n : Nat) (u : MSt) (x1 : Int32), mM_faultOf_h7 N n u x1 = some rr → J l rmM_faultOf D G (0, 0) (wM cI o q u) [(0, .ref o), (1, .int x1)] [] 7 := by
  intro n
  induction n with
  | zero =>
    intro u x1 hm
    have hm : (none : Option (Int32 × MSt)) = some rr := hm
    cases hm
  | succ n ih =>
    intro u x1 hm
    exact kM_faultOf_7 C hR _ ih u x1 hm
def mM_faultOf (N : Nat) (u : MSt) : Option (Int32 × MSt) := nm (siM u 2 0) (fun u1 => mM_faultOf_h7 N N u1 0)
set_option maxRecDepth 100000 in
set_option maxHeartbeats 4000000 in
theorem cM_faultOf {l : Launch} {D : va_G} {cI : ClassId} {o : Nat} {q : Nat → Nat} {u : MSt} {N : Nat}  {rr : (Int32 × MSt)} (hm : mM_faultOf N u = some rr) : Con l D [(cI, .int)] yX11_faultOf (wS yX11_faultOf cX11_faultOf 2 (some .int)) rmM_faultOf [.ref o] (wM cI o q u) (some (.int rr.1)) (wM cI o q rr.2) := by
  refine Con.of (by decide +kernel) (Nat.le_of_ble_eq_true rfl) (fun G C hR => ?_)
  unfold mM_faultOf at hm
  show J l rmM_faultOf D G (0, 0) (wM cI o q u) [(0, .ref o)] [] 0
  refine j_aload_n C dX11_faultOf_0 rfl 0 rfl ?_
  refine j_iconst (v := 0) C dX11_faultOf_1 (by decide) ?_
  refine jM_p2 C dX11_faultOf_2 ?_
  refine j_nmu hm (w := wM cI o q) (fun u1 hm => ?_)
  refine j_iconst (v := 0) C dX11_faultOf_5 (by decide) ?_
  refine j_istore_n C dX11_faultOf_6 rfl (by decide) rfl ?_
  exact J.sub [1, 0] rfl (kM_faultOf_h7 C hR N u1 0 hm)
def rmM_fault : Room := { frames := 4, cells := 0, slots := 0, locals := 92 }
theorem wd_X11_fault : yX11_fault.cls ≠ "java/lang/invoke/MethodHandle" ∧ yX11_fault.cls ≠ "java/lang/invoke/VarHandle" ∧ (parseMethodDescriptor yX11_fault.desc).map (fun d => d.parameters.length) = some 0 := by decide +kernel
def mM_fault (N : Nat) (u : MSt) : Option (Int32 × MSt) := bp (mM_faultOf N u) (fun r1 u2 => some (r1, u2))
set_option maxRecDepth 100000 in
set_option maxHeartbeats 4000000 in
theorem cM_fault {l : Launch} {D : va_G} {cI : ClassId} {o : Nat} {q : Nat → Nat} {u : MSt} {N : Nat}  {rr : (Int32 × MSt)} (hm : mM_fault N u = some rr) : Con l D [(cI, .int)] yX11_fault (wS yX11_fault cX11_fault 1 (some .int)) rmM_fault [.ref o] (wM cI o q u) (some (.int rr.1)) (wM cI o q rr.2) := by
  refine Con.of (by decide +kernel) (Nat.le_of_ble_eq_true rfl) (fun G C hR => ?_)
  unfold mM_fault at hm
  show J l rmM_fault D G (0, 0) (wM cI o q u) [(0, .ref o)] [] 0
  refine j_aload_n C dX11_fault_0 rfl 0 rfl ?_
  refine j_bindp hm (fun r1 u2 hr1 hm => ?_)
  refine j_callV (cs' := (0, 0)) (As := []) (rest := []) C (cM_faultOf hr1) wc_X11_faultOf wm_X11_100 wi_X11_faultOf ws_X11_faultOf wn_X11 wd_X11_faultOf ⟨by decide, by decide⟩ 0 rfl rfl rfl (Nat.le_of_ble_eq_true rfl) dX11_fault_1 ⟨by decide, by decide⟩ rfl rfl ?_
  cases hm
  exact j_iret C hR dX11_fault_4
def rmM_bridge : Room := { frames := 4, cells := 0, slots := 0, locals := 92 }
theorem wd_X11_bridge : yX11_bridge.cls ≠ "java/lang/invoke/MethodHandle" ∧ yX11_bridge.cls ≠ "java/lang/invoke/VarHandle" ∧ (parseMethodDescriptor yX11_bridge.desc).map (fun d => d.parameters.length) = some 0 := by decide +kernel
def mM_bridge_29 (N : Nat) (u : MSt) : Option (Int32 × MSt) := some ((-103), u)
set_option maxRecDepth 100000 in
set_option maxHeartbeats 4000000 in
theorem kM_bridge_29 {l : Launch} {D : va_G} {cI : ClassId} {o : Nat} {q : Nat → Nat} {G : Gx} {N : Nat} {rr : (Int32 × MSt)} (C : jC l rmM_bridge D [(cI, .int)] G cX11_bridge 2 RX11) (hR : jR D [(cI, .int)] G (0, 0) (some .int) (some (.int rr.1)) (wM cI o q rr.2))  (u : MSt)  (hm : mM_bridge_29 N u = some rr) : J l rmM_bridge D G (0, 0) (wM cI o q u) [] [] 29 := by
  unfold mM_bridge_29 at hm
  refine j_bipush (v := (-103)) C dX11_bridge_29 (by decide) ?_
  cases hm
  exact j_iret C hR dX11_bridge_31
def mM_bridge_46 (N : Nat) (k46 : MSt → Int32 → Option (Int32 × MSt)) (u : MSt) (x1 : Int32) : Option (Int32 × MSt) := if 10 ≤ x1 then (nm (siM u 4 ((u.1 4) + 1)) (fun u1 => nm (siM u1 1 0) (fun u2 => nm (u2.1 4) (fun f3 => some ((f3 - 1), u2))))) else (rd (u.2.1 3) 10 x1 (fun a4 => wr 100 ((10 * (u.1 4)) + x1) (fun i5 => nm (saM u 5 i5 a4) (fun u6 => k46 u6 (x1 + 1)))))
set_option maxRecDepth 100000 in
set_option maxHeartbeats 4000000 in
theorem kM_bridge_46 {l : Launch} {D : va_G} {cI : ClassId} {o : Nat} {q : Nat → Nat} {G : Gx} {N : Nat} {rr : (Int32 × MSt)} (C : jC l rmM_bridge D [(cI, .int)] G cX11_bridge 2 RX11) (hR : jR D [(cI, .int)] G (0, 0) (some .int) (some (.int rr.1)) (wM cI o q rr.2)) (k46 : MSt → Int32 → Option (Int32 × MSt)) (K46 : ∀ (u : MSt) (x1 : Int32), k46 u x1 = some rr → J l rmM_bridge D G (0, 0) (wM cI o q u) [(0, .ref o), (1, .int x1)] [] 46) (u : MSt) (x1 : Int32) (hm : mM_bridge_46 N k46 u x1 = some rr) : J l rmM_bridge D G (0, 0) (wM cI o q u) [(0, .ref o), (1, .int x1)] [] 46 := by
  unfold mM_bridge_46 at hm
  refine j_iload_n C dX11_bridge_46 rfl 1 rfl ?_
  refine j_bipush (v := 10) C dX11_bridge_47 (by decide) ?_
  refine j_icmp_geq (tgt := 78) C dX11_bridge_49 (by decide) hm (fun hm => ?_) (fun hm => ?_)
  · refine j_aload_n C dX11_bridge_78 rfl 0 rfl ?_
    refine j_dup C dX11_bridge_79 rfl ?_
    refine jM_g4 C dX11_bridge_80 ?_
    refine j_iconst (v := 1) C dX11_bridge_83 (by decide) ?_
    refine j_iadd C dX11_bridge_84 ?_
    refine jM_p4 C dX11_bridge_85 ?_
    refine j_nmu hm (w := wM cI o q) (fun u1 hm => ?_)
    refine j_aload_n C dX11_bridge_88 rfl 0 rfl ?_
    refine j_iconst (v := 0) C dX11_bridge_89 (by decide) ?_
    refine jM_p1 C dX11_bridge_90 ?_
    refine j_nmu hm (w := wM cI o q) (fun u2 hm => ?_)
    refine j_aload_n C dX11_bridge_93 rfl 0 rfl ?_
    refine jM_g4 C dX11_bridge_94 ?_
    refine j_nmi hm (fun f3 hm => ?_)
    refine j_iconst (v := 1) C dX11_bridge_97 (by decide) ?_
    refine j_isub C dX11_bridge_98 ?_
    cases hm
    exact j_iret C hR dX11_bridge_99
  · refine j_aload_n C dX11_bridge_52 rfl 0 rfl ?_
    refine jM_g5 C dX11_bridge_53 ?_
    refine j_bipush (v := 10) C dX11_bridge_56 (by decide) ?_
    refine j_aload_n C dX11_bridge_58 rfl 0 rfl ?_
    refine jM_g4 C dX11_bridge_59 ?_
    refine j_imul C dX11_bridge_62 ?_
    refine j_iload_n C dX11_bridge_63 rfl 1 rfl ?_
    refine j_iadd C dX11_bridge_64 ?_
    refine j_aload_n C dX11_bridge_65 rfl 0 rfl ?_
    refine jM_g3 C dX11_bridge_66 ?_
    refine j_iload_n C dX11_bridge_69 rfl 1 rfl ?_
    refine jM_L3 C dX11_bridge_70 hm (fun a4 hm => ?_)
    refine jM_S5 C dX11_bridge_71 hm (fun u6 hm => ?_)
    refine j_iinc (v := (x1 + 1)) C dX11_bridge_72 1 rfl rfl (by decide) rfl ?_
    refine j_goto (tgt := 46) C dX11_bridge_75 (by decide) ?_
    exact J.sub [1, 0] rfl (K46 u6 (x1 + 1) hm)
def mM_bridge_h46 (N : Nat) : Nat → MSt → Int32 → Option (Int32 × MSt)
  | 0, _, _ => none
  | n + 1, u, x1 => mM_bridge_46 N (mM_bridge_h46 N n) u x1
theorem kM_bridge_h46 {l : Launch} {D : va_G} {cI : ClassId} {o : Nat} {q : Nat → Nat} {G : Gx} {N : Nat} {rr : (Int32 × MSt)} (C : jC l rmM_bridge D [(cI, .int)] G cX11_bridge 2 RX11) (hR : jR D [(cI, .int)] G (0, 0) (some .int) (some (.int rr.1)) (wM cI o q rr.2))  : ∀ (n : Nat) (u : MSt) (x1 : Int32), mM_bridge_h46 N n u x1 = some rr → J l rmM_bridge D G (0, 0) (wM cI o q u) [(0, .ref o), (1, .int x1)] [] 46 := by
  intro n
  induction n with
  | zero =>
    intro u x1 hm
    have hm : (none : Option (Int32 × MSt)) = some rr := hm
    cases hm
  | succ n ih =>
    intro u x1 hm
    exact kM_bridge_46 C hR _ ih u x1 hm
def mM_bridge_32 (N : Nat) (u : MSt) : Option (Int32 × MSt) := if ¬ (u.1 4) = 10 then (mM_bridge_h46 N N u 0) else (some ((-104), u))
set_option maxRecDepth 100000 in
set_option maxHeartbeats 4000000 in
theorem kM_bridge_32 {l : Launch} {D : va_G} {cI : ClassId} {o : Nat} {q : Nat → Nat} {G : Gx} {N : Nat} {rr : (Int32 × MSt)} (C : jC l rmM_bridge D [(cI, .int)] G cX11_bridge 2 RX11) (hR : jR D [(cI, .int)] G (0, 0) (some .int) (some (.int rr.1)) (wM cI o q rr.2))  (u : MSt)  (hm : mM_bridge_32 N u = some rr) : J l rmM_bridge D G (0, 0) (wM cI o q u) [(0, .ref o)] [] 32 := by
  unfold mM_bridge_32 at hm
  refine j_aload_n C dX11_bridge_32 rfl 0 rfl ?_
  refine jM_g4 C dX11_bridge_33 ?_
  refine j_bipush (v := 10) C dX11_bridge_36 (by decide) ?_
  refine j_icmp_neq (tgt := 44) C dX11_bridge_38 (by decide) hm (fun hm => ?_) (fun hm => ?_)
  · refine j_iconst (v := 0) C dX11_bridge_44 (by decide) ?_
    refine j_istore_n C dX11_bridge_45 rfl (by decide) rfl ?_
    exact J.sub [1, 0] rfl (kM_bridge_h46 C hR N u 0 hm)
  · refine j_bipush (v := (-104)) C dX11_bridge_41 (by decide) ?_
    cases hm
    exact j_iret C hR dX11_bridge_43
def mM_bridge (N : Nat) (u : MSt) : Option (Int32 × MSt) := bp (mM_faultOf N u) (fun r1 u2 => nm (u2.1 1) (fun f3 => if r1 < f3 then (mM_bridge_29 N u2) else (nm (u2.1 2) (fun f4 => if f4 = 10 then (mM_bridge_32 N u2) else (nm (u2.1 2) (fun f5 => if f5 = 12 then (mM_bridge_32 N u2) else (mM_bridge_29 N u2)))))))
set_option maxRecDepth 100000 in
set_option maxHeartbeats 4000000 in
theorem cM_bridge {l : Launch} {D : va_G} {cI : ClassId} {o : Nat} {q : Nat → Nat} {u : MSt} {N : Nat}  {rr : (Int32 × MSt)} (hm : mM_bridge N u = some rr) : Con l D [(cI, .int)] yX11_bridge (wS yX11_bridge cX11_bridge 2 (some .int)) rmM_bridge [.ref o] (wM cI o q u) (some (.int rr.1)) (wM cI o q rr.2) := by
  refine Con.of (by decide +kernel) (Nat.le_of_ble_eq_true rfl) (fun G C hR => ?_)
  unfold mM_bridge at hm
  show J l rmM_bridge D G (0, 0) (wM cI o q u) [(0, .ref o)] [] 0
  refine j_aload_n C dX11_bridge_0 rfl 0 rfl ?_
  refine j_bindp hm (fun r1 u2 hr1 hm => ?_)
  refine j_callV (cs' := (0, 0)) (As := []) (rest := []) C (cM_faultOf hr1) wc_X11_faultOf wm_X11_100 wi_X11_faultOf ws_X11_faultOf wn_X11 wd_X11_faultOf ⟨by decide, by decide⟩ 0 rfl rfl rfl (Nat.le_of_ble_eq_true rfl) dX11_bridge_1 ⟨by decide, by decide⟩ rfl rfl ?_
  refine j_aload_n C dX11_bridge_4 rfl 0 rfl ?_
  refine jM_g1 C dX11_bridge_5 ?_
  refine j_nmi hm (fun f3 hm => ?_)
  refine j_icmp_ltq (tgt := 29) C dX11_bridge_8 (by decide) hm (fun hm => ?_) (fun hm => ?_)
  · exact J.sub [] rfl (kM_bridge_29 C hR u2 hm)
  · refine j_aload_n C dX11_bridge_11 rfl 0 rfl ?_
    refine jM_g2 C dX11_bridge_12 ?_
    refine j_nmi hm (fun f4 hm => ?_)
    refine j_bipush (v := 10) C dX11_bridge_15 (by decide) ?_
    refine j_icmp_eqq (tgt := 32) C dX11_bridge_17 (by decide) hm (fun hm => ?_) (fun hm => ?_)
    · exact kM_bridge_32 C hR u2 hm
    · refine j_aload_n C dX11_bridge_20 rfl 0 rfl ?_
      refine jM_g2 C dX11_bridge_21 ?_
      refine j_nmi hm (fun f5 hm => ?_)
      refine j_bipush (v := 12) C dX11_bridge_24 (by decide) ?_
      refine j_icmp_eqq (tgt := 32) C dX11_bridge_26 (by decide) hm (fun hm => ?_) (fun hm => ?_)
      · exact kM_bridge_32 C hR u2 hm
      · exact J.sub [] rfl (kM_bridge_29 C hR u2 hm)
def rmM_isBridge : Room := { frames := 1, cells := 0, slots := 0, locals := 25 }
theorem wd_X11_isBridge : yX11_isBridge.cls ≠ "java/lang/invoke/MethodHandle" ∧ yX11_isBridge.cls ≠ "java/lang/invoke/VarHandle" ∧ (parseMethodDescriptor yX11_isBridge.desc).map (fun d => d.parameters.length) = some 1 := by decide +kernel
def mM_isBridge (N : Nat) (u : MSt) (x1 : Int32) : Option Int32 := (mM_in N (Int32.toInt64 x1) 0 (Int32.toInt64 ((u.1 4) - 1))).bind (fun r1 => gd (r1 = 0 ∨ r1 = 1) (some r1))
set_option maxRecDepth 100000 in
set_option maxHeartbeats 4000000 in
theorem cM_isBridge {l : Launch} {D : va_G} {cI : ClassId} {o : Nat} {q : Nat → Nat} {u : MSt} {N : Nat} {x1 : Int32} {rr : Int32} (hm : mM_isBridge N u x1 = some rr) : Con l D [(cI, .int)] yX11_isBridge (wS yX11_isBridge cX11_isBridge 2 (some .boolean)) rmM_isBridge [.ref o, .int x1] (wM cI o q u) (some (.int rr)) (wM cI o q u) := by
  refine Con.of (by decide +kernel) (Nat.le_of_ble_eq_true rfl) (fun G C hR => ?_)
  unfold mM_isBridge at hm
  show J l rmM_isBridge D G (0, 0) (wM cI o q u) [(0, .ref o), (1, .int x1)] [] 0
  refine j_iload_n C dX11_isBridge_0 rfl 1 rfl ?_
  refine j_i2l C dX11_isBridge_1 ?_
  refine j_lconst (v := 0) C dX11_isBridge_2 (by decide) ?_
  refine j_aload_n C dX11_isBridge_3 rfl 0 rfl ?_
  refine jM_g4 C dX11_isBridge_4 ?_
  refine j_iconst (v := 1) C dX11_isBridge_7 (by decide) ?_
  refine j_isub C dX11_isBridge_8 ?_
  refine j_i2l C dX11_isBridge_9 ?_
  refine j_bind hm (fun r1 hr1 hm => ?_)
  refine j_callS (cs' := (0, 0)) (As := [.long (Int32.toInt64 x1), .long 0, .long (Int32.toInt64 ((u.1 4) - 1))]) (rest := []) C (cM_in hr1) wc_X11_in wm_X11_69 wt_X11_in wn_X11 wd_X11_in ⟨by decide, by decide⟩ rfl (Nat.le_of_ble_eq_true rfl) dX11_isBridge_10 ⟨by decide, by decide⟩ rfl rfl ?_
  obtain ⟨g, hm⟩ := gd_some hm
  cases hm
  exact j_zret C hR (jz01 g) dX11_isBridge_13
def rmM_isIslet : Room := { frames := 1, cells := 0, slots := 0, locals := 25 }
theorem wd_X11_isIslet : yX11_isIslet.cls ≠ "java/lang/invoke/MethodHandle" ∧ yX11_isIslet.cls ≠ "java/lang/invoke/VarHandle" ∧ (parseMethodDescriptor yX11_isIslet.desc).map (fun d => d.parameters.length) = some 1 := by decide +kernel
def mM_isIslet (N : Nat) (x0 : Int32) : Option Int32 := (mM_in N (Int32.toInt64 x0) 0 7).bind (fun r1 => gd (r1 = 0 ∨ r1 = 1) (some r1))
set_option maxRecDepth 100000 in
set_option maxHeartbeats 4000000 in
theorem cM_isIslet {l : Launch} {D : va_G} {tys : List (ClassId × FieldType)} {N : Nat} {x0 : Int32} {rr : Int32} (hm : mM_isIslet N x0 = some rr) : Con l D tys yX11_isIslet (wS yX11_isIslet cX11_isIslet 1 (some .boolean)) rmM_isIslet [.int x0] [] (some (.int rr)) [] := by
  refine Con.of (by decide +kernel) (Nat.le_of_ble_eq_true rfl) (fun G C hR => ?_)
  unfold mM_isIslet at hm
  show J l rmM_isIslet D G (0, 0) [] [(0, .int x0)] [] 0
  refine j_iload_n C dX11_isIslet_0 rfl 0 rfl ?_
  refine j_i2l C dX11_isIslet_1 ?_
  refine j_lconst (v := 0) C dX11_isIslet_2 (by decide) ?_
  refine j_ldc2 C dX11_isIslet_3 wk_X11_80 ?_
  refine j_bind hm (fun r1 hr1 hm => ?_)
  refine j_callS (cs' := (0, 0)) (As := [.long (Int32.toInt64 x0), .long 0, .long 7]) (rest := []) C (cM_in hr1) wc_X11_in wm_X11_69 wt_X11_in wn_X11 wd_X11_in ⟨by decide, by decide⟩ rfl (Nat.le_of_ble_eq_true rfl) dX11_isIslet_6 ⟨by decide, by decide⟩ rfl rfl ?_
  obtain ⟨g, hm⟩ := gd_some hm
  cases hm
  exact j_zret C hR (jz01 g) dX11_isIslet_9
def rmM_as : Room := { frames := 2, cells := 0, slots := 0, locals := 46 }
theorem wd_X11_as : yX11_as.cls ≠ "java/lang/invoke/MethodHandle" ∧ yX11_as.cls ≠ "java/lang/invoke/VarHandle" ∧ (parseMethodDescriptor yX11_as.desc).map (fun d => d.parameters.length) = some 2 := by decide +kernel
def mM_as_72 (N : Nat) (u : MSt) (s0 : Int32) : Option Int32 := some s0
set_option maxRecDepth 100000 in
set_option maxHeartbeats 4000000 in
theorem kM_as_72 {l : Launch} {D : va_G} {cI : ClassId} {o : Nat} {q : Nat → Nat} {u : MSt} {G : Gx} {N : Nat} {rr : Int32} (C : jC l rmM_as D [(cI, .int)] G cX11_as 5 RX11) (hR : jR D [(cI, .int)] G (0, 0) (some .int) (some (.int rr)) (wM cI o q u))  (s0 : Int32) (hm : mM_as_72 N u s0 = some rr) : J l rmM_as D G (0, 0) (wM cI o q u) [] [.int s0] 72 := by
  unfold mM_as_72 at hm
  cases hm
  exact j_iret C hR dX11_as_72
def mM_as_60 (N : Nat) (u : MSt) (x1 : Int32) (s0 : Int32) : Option Int32 := if s0 = 0 then (mM_as_72 N u (-1)) else (mM_as_72 N u x1)
set_option maxRecDepth 100000 in
set_option maxHeartbeats 4000000 in
theorem kM_as_60 {l : Launch} {D : va_G} {cI : ClassId} {o : Nat} {q : Nat → Nat} {u : MSt} {G : Gx} {N : Nat} {rr : Int32} (C : jC l rmM_as D [(cI, .int)] G cX11_as 5 RX11) (hR : jR D [(cI, .int)] G (0, 0) (some .int) (some (.int rr)) (wM cI o q u))  (x1 : Int32) (s0 : Int32) (hm : mM_as_60 N u x1 s0 = some rr) : J l rmM_as D G (0, 0) (wM cI o q u) [(1, .int x1)] [.int s0] 60 := by
  unfold mM_as_60 at hm
  refine j_istore C dX11_as_60 (by decide) rfl ?_
  refine j_iload C dX11_as_62 0 rfl ?_
  refine j_if_eqq (tgt := 71) C dX11_as_64 (by decide) hm (fun hm => ?_) (fun hm => ?_)
  · refine j_iconst (v := (-1)) C dX11_as_71 (by decide) ?_
    exact J.sub [] rfl (kM_as_72 C hR (-1) hm)
  · refine j_iload_n C dX11_as_67 rfl 1 rfl ?_
    refine j_goto (tgt := 72) C dX11_as_68 (by decide) ?_
    exact J.sub [] rfl (kM_as_72 C hR x1 hm)
def mM_as_55 (N : Nat) (u : MSt) (x1 : Int32) : Option Int32 := mM_as_60 N u x1 1
set_option maxRecDepth 100000 in
set_option maxHeartbeats 4000000 in
theorem kM_as_55 {l : Launch} {D : va_G} {cI : ClassId} {o : Nat} {q : Nat → Nat} {u : MSt} {G : Gx} {N : Nat} {rr : Int32} (C : jC l rmM_as D [(cI, .int)] G cX11_as 5 RX11) (hR : jR D [(cI, .int)] G (0, 0) (some .int) (some (.int rr)) (wM cI o q u))  (x1 : Int32) (hm : mM_as_55 N u x1 = some rr) : J l rmM_as D G (0, 0) (wM cI o q u) [(1, .int x1)] [] 55 := by
  unfold mM_as_55 at hm
  refine j_iconst (v := 1) C dX11_as_55 (by decide) ?_
  refine j_goto (tgt := 60) C dX11_as_56 (by decide) ?_
  exact kM_as_60 C hR x1 1 hm
def mM_as_59 (N : Nat) (u : MSt) (x1 : Int32) : Option Int32 := mM_as_60 N u x1 0
set_option maxRecDepth 100000 in
set_option maxHeartbeats 4000000 in
theorem kM_as_59 {l : Launch} {D : va_G} {cI : ClassId} {o : Nat} {q : Nat → Nat} {u : MSt} {G : Gx} {N : Nat} {rr : Int32} (C : jC l rmM_as D [(cI, .int)] G cX11_as 5 RX11) (hR : jR D [(cI, .int)] G (0, 0) (some .int) (some (.int rr)) (wM cI o q u))  (x1 : Int32) (hm : mM_as_59 N u x1 = some rr) : J l rmM_as D G (0, 0) (wM cI o q u) [(1, .int x1)] [] 59 := by
  unfold mM_as_59 at hm
  refine j_iconst (v := 0) C dX11_as_59 (by decide) ?_
  exact kM_as_60 C hR x1 0 hm
def mM_as (N : Nat) (u : MSt) (x1 : Int32) (x2 : Int32) : Option Int32 := (mM_isBridge N u x1).bind (fun r1 => if ¬ r1 = 0 then ((mM_in N (Int32.toInt64 x2) 0 3).bind (fun r2 => if ¬ r2 = 0 then (rd (u.2.1 5) 100 (10 * x1) (fun a3 => if x2 = 0 then (mM_as_55 N u x1) else (if x2 = a3 then (mM_as_55 N u x1) else (if ¬ x2 = 1 then (mM_as_59 N u x1) else (if ¬ a3 = 2 then (mM_as_59 N u x1) else (mM_as_55 N u x1)))))) else (some (-102)))) else (some (-101)))
set_option maxRecDepth 100000 in
set_option maxHeartbeats 4000000 in
theorem cM_as {l : Launch} {D : va_G} {cI : ClassId} {o : Nat} {q : Nat → Nat} {u : MSt} {N : Nat} {x1 : Int32} {x2 : Int32} {rr : Int32} (hm : mM_as N u x1 x2 = some rr) : Con l D [(cI, .int)] yX11_as (wS yX11_as cX11_as 5 (some .int)) rmM_as [.ref o, .int x1, .int x2] (wM cI o q u) (some (.int rr)) (wM cI o q u) := by
  refine Con.of (by decide +kernel) (Nat.le_of_ble_eq_true rfl) (fun G C hR => ?_)
  unfold mM_as at hm
  show J l rmM_as D G (0, 0) (wM cI o q u) [(0, .ref o), (1, .int x1), (2, .int x2)] [] 0
  refine j_aload_n C dX11_as_0 rfl 0 rfl ?_
  refine j_iload_n C dX11_as_1 rfl 1 rfl ?_
  refine j_bind hm (fun r1 hr1 hm => ?_)
  refine j_callV (cs' := (0, 0)) (As := [.int x1]) (rest := []) C (cM_isBridge hr1) wc_X11_isBridge wm_X11_107 wi_X11_isBridge ws_X11_isBridge wn_X11 wd_X11_isBridge ⟨by decide, by decide⟩ 0 rfl rfl rfl (Nat.le_of_ble_eq_true rfl) dX11_as_2 ⟨by decide, by decide⟩ rfl rfl ?_
  refine j_if_neq (tgt := 11) C dX11_as_5 (by decide) hm (fun hm => ?_) (fun hm => ?_)
  · refine j_iload_n C dX11_as_11 rfl 2 rfl ?_
    refine j_i2l C dX11_as_12 ?_
    refine j_lconst (v := 0) C dX11_as_13 (by decide) ?_
    refine j_ldc2 C dX11_as_14 wk_X11_110 ?_
    refine j_bind hm (fun r2 hr2 hm => ?_)
    refine j_callS (cs' := (0, 0)) (As := [.long (Int32.toInt64 x2), .long 0, .long 3]) (rest := []) C (cM_in hr2) wc_X11_in wm_X11_69 wt_X11_in wn_X11 wd_X11_in ⟨by decide, by decide⟩ rfl (Nat.le_of_ble_eq_true rfl) dX11_as_17 ⟨by decide, by decide⟩ rfl rfl ?_
    refine j_if_neq (tgt := 26) C dX11_as_20 (by decide) hm (fun hm => ?_) (fun hm => ?_)
    · refine j_aload_n C dX11_as_26 rfl 0 rfl ?_
      refine jM_g5 C dX11_as_27 ?_
      refine j_bipush (v := 10) C dX11_as_30 (by decide) ?_
      refine j_iload_n C dX11_as_32 rfl 1 rfl ?_
      refine j_imul C dX11_as_33 ?_
      refine jM_L5 C dX11_as_34 hm (fun a3 hm => ?_)
      refine j_istore_n C dX11_as_35 rfl (by decide) rfl ?_
      refine j_iload_n C dX11_as_36 rfl 3 rfl ?_
      refine j_if_eqq (tgt := 55) C dX11_as_37 (by decide) hm (fun hm => ?_) (fun hm => ?_)
      · exact J.sub [2] rfl (kM_as_55 C hR x1 hm)
      · refine j_iload_n C dX11_as_40 rfl 3 rfl ?_
        refine j_iload_n C dX11_as_41 rfl 0 rfl ?_
        refine j_icmp_eqq (tgt := 55) C dX11_as_42 (by decide) hm (fun hm => ?_) (fun hm => ?_)
        · exact J.sub [2] rfl (kM_as_55 C hR x1 hm)
        · refine j_iload_n C dX11_as_45 rfl 3 rfl ?_
          refine j_iconst (v := 1) C dX11_as_46 (by decide) ?_
          refine j_icmp_neq (tgt := 59) C dX11_as_47 (by decide) hm (fun hm => ?_) (fun hm => ?_)
          · exact J.sub [2] rfl (kM_as_59 C hR x1 hm)
          · refine j_iload_n C dX11_as_50 rfl 0 rfl ?_
            refine j_iconst (v := 2) C dX11_as_51 (by decide) ?_
            refine j_icmp_neq (tgt := 59) C dX11_as_52 (by decide) hm (fun hm => ?_) (fun hm => ?_)
            · exact J.sub [2] rfl (kM_as_59 C hR x1 hm)
            · exact J.sub [2] rfl (kM_as_55 C hR x1 hm)
    · refine j_bipush (v := (-102)) C dX11_as_23 (by decide) ?_
      cases hm
      exact j_iret C hR dX11_as_25
  · refine j_bipush (v := (-101)) C dX11_as_8 (by decide) ?_
    cases hm
    exact j_iret C hR dX11_as_10
def rmM_placeOf : Room := { frames := 0, cells := 0, slots := 0, locals := 0 }
theorem wd_X11_placeOf : yX11_placeOf.cls ≠ "java/lang/invoke/MethodHandle" ∧ yX11_placeOf.cls ≠ "java/lang/invoke/VarHandle" ∧ (parseMethodDescriptor yX11_placeOf.desc).map (fun d => d.parameters.length) = some 1 := by decide +kernel
def mM_placeOf_60 (N : Nat) (u : MSt) (s0 : Int32) (s1 : Int32) : Option Int32 := some (s1 + s0)
set_option maxRecDepth 100000 in
set_option maxHeartbeats 4000000 in
theorem kM_placeOf_60 {l : Launch} {D : va_G} {cI : ClassId} {o : Nat} {q : Nat → Nat} {u : MSt} {G : Gx} {N : Nat} {rr : Int32} (C : jC l rmM_placeOf D [(cI, .int)] G cX11_placeOf 4 RX11) (hR : jR D [(cI, .int)] G (0, 0) (some .int) (some (.int rr)) (wM cI o q u))  (s0 : Int32) (s1 : Int32) (hm : mM_placeOf_60 N u s0 s1 = some rr) : J l rmM_placeOf D G (0, 0) (wM cI o q u) [] [.int s0, .int s1] 60 := by
  unfold mM_placeOf_60 at hm
  refine j_iadd C dX11_placeOf_60 ?_
  cases hm
  exact j_iret C hR dX11_placeOf_61
def mM_placeOf_53 (N : Nat) (u : MSt) (x3 : Int32) (s0 : Int32) : Option Int32 := mM_placeOf_60 N u (2 * x3) s0
set_option maxRecDepth 100000 in
set_option maxHeartbeats 4000000 in
theorem kM_placeOf_53 {l : Launch} {D : va_G} {cI : ClassId} {o : Nat} {q : Nat → Nat} {u : MSt} {G : Gx} {N : Nat} {rr : Int32} (C : jC l rmM_placeOf D [(cI, .int)] G cX11_placeOf 4 RX11) (hR : jR D [(cI, .int)] G (0, 0) (some .int) (some (.int rr)) (wM cI o q u))  (x3 : Int32) (s0 : Int32) (hm : mM_placeOf_53 N u x3 s0 = some rr) : J l rmM_placeOf D G (0, 0) (wM cI o q u) [(3, .int x3)] [.int s0] 53 := by
  unfold mM_placeOf_53 at hm
  refine j_iconst (v := 2) C dX11_placeOf_53 (by decide) ?_
  refine j_iload_n C dX11_placeOf_54 rfl 0 rfl ?_
  refine j_imul C dX11_placeOf_55 ?_
  refine j_goto (tgt := 60) C dX11_placeOf_56 (by decide) ?_
  exact J.sub [] rfl (kM_placeOf_60 C hR (2 * x3) s0 hm)
def mM_placeOf_59 (N : Nat) (u : MSt) (x3 : Int32) (s0 : Int32) : Option Int32 := mM_placeOf_60 N u x3 s0
set_option maxRecDepth 100000 in
set_option maxHeartbeats 4000000 in
theorem kM_placeOf_59 {l : Launch} {D : va_G} {cI : ClassId} {o : Nat} {q : Nat → Nat} {u : MSt} {G : Gx} {N : Nat} {rr : Int32} (C : jC l rmM_placeOf D [(cI, .int)] G cX11_placeOf 4 RX11) (hR : jR D [(cI, .int)] G (0, 0) (some .int) (some (.int rr)) (wM cI o q u))  (x3 : Int32) (s0 : Int32) (hm : mM_placeOf_59 N u x3 s0 = some rr) : J l rmM_placeOf D G (0, 0) (wM cI o q u) [(3, .int x3)] [.int s0] 59 := by
  unfold mM_placeOf_59 at hm
  refine j_iload_n C dX11_placeOf_59 rfl 0 rfl ?_
  exact J.sub [] rfl (kM_placeOf_60 C hR x3 s0 hm)
def mM_placeOf (N : Nat) (u : MSt) (x1 : Int32) : Option Int32 := rd (u.2.1 5) 100 (10 * x1) (fun a1 => rd (u.2.1 5) 100 ((10 * x1) + 7) (fun a2 => rd (u.2.1 5) 100 ((10 * x1) + 6) (fun a3 => if ¬ (u.1 6) = 1 then (mM_placeOf_59 N u a2 a3) else (if a1 = 1 then (mM_placeOf_53 N u a2 a3) else (if ¬ a1 = 2 then (mM_placeOf_59 N u a2 a3) else (mM_placeOf_53 N u a2 a3))))))
set_option maxRecDepth 100000 in
set_option maxHeartbeats 4000000 in
theorem cM_placeOf {l : Launch} {D : va_G} {cI : ClassId} {o : Nat} {q : Nat → Nat} {u : MSt} {N : Nat} {x1 : Int32} {rr : Int32} (hm : mM_placeOf N u x1 = some rr) : Con l D [(cI, .int)] yX11_placeOf (wS yX11_placeOf cX11_placeOf 4 (some .int)) rmM_placeOf [.ref o, .int x1] (wM cI o q u) (some (.int rr)) (wM cI o q u) := by
  refine Con.of (by decide +kernel) (Nat.le_of_ble_eq_true rfl) (fun G C hR => ?_)
  unfold mM_placeOf at hm
  show J l rmM_placeOf D G (0, 0) (wM cI o q u) [(0, .ref o), (1, .int x1)] [] 0
  refine j_aload_n C dX11_placeOf_0 rfl 0 rfl ?_
  refine jM_g5 C dX11_placeOf_1 ?_
  refine j_bipush (v := 10) C dX11_placeOf_4 (by decide) ?_
  refine j_iload_n C dX11_placeOf_6 rfl 1 rfl ?_
  refine j_imul C dX11_placeOf_7 ?_
  refine jM_L5 C dX11_placeOf_8 hm (fun a1 hm => ?_)
  refine j_istore_n C dX11_placeOf_9 rfl (by decide) rfl ?_
  refine j_aload_n C dX11_placeOf_10 rfl 1 rfl ?_
  refine jM_g5 C dX11_placeOf_11 ?_
  refine j_bipush (v := 10) C dX11_placeOf_14 (by decide) ?_
  refine j_iload_n C dX11_placeOf_16 rfl 2 rfl ?_
  refine j_imul C dX11_placeOf_17 ?_
  refine j_bipush (v := 7) C dX11_placeOf_18 (by decide) ?_
  refine j_iadd C dX11_placeOf_20 ?_
  refine jM_L5 C dX11_placeOf_21 hm (fun a2 hm => ?_)
  refine j_istore_n C dX11_placeOf_22 rfl (by decide) rfl ?_
  refine j_aload_n C dX11_placeOf_23 rfl 2 rfl ?_
  refine jM_g5 C dX11_placeOf_24 ?_
  refine j_bipush (v := 10) C dX11_placeOf_27 (by decide) ?_
  refine j_iload_n C dX11_placeOf_29 rfl 3 rfl ?_
  refine j_imul C dX11_placeOf_30 ?_
  refine j_bipush (v := 6) C dX11_placeOf_31 (by decide) ?_
  refine j_iadd C dX11_placeOf_33 ?_
  refine jM_L5 C dX11_placeOf_34 hm (fun a3 hm => ?_)
  refine j_aload_n C dX11_placeOf_35 rfl 2 rfl ?_
  refine jM_g6 C dX11_placeOf_36 ?_
  refine j_iconst (v := 1) C dX11_placeOf_39 (by decide) ?_
  refine j_icmp_neq (tgt := 59) C dX11_placeOf_40 (by decide) hm (fun hm => ?_) (fun hm => ?_)
  · exact J.sub [0] rfl (kM_placeOf_59 C hR a2 a3 hm)
  · refine j_iload_n C dX11_placeOf_43 rfl 1 rfl ?_
    refine j_iconst (v := 1) C dX11_placeOf_44 (by decide) ?_
    refine j_icmp_eqq (tgt := 53) C dX11_placeOf_45 (by decide) hm (fun hm => ?_) (fun hm => ?_)
    · exact J.sub [0] rfl (kM_placeOf_53 C hR a2 a3 hm)
    · refine j_iload_n C dX11_placeOf_48 rfl 1 rfl ?_
      refine j_iconst (v := 2) C dX11_placeOf_49 (by decide) ?_
      refine j_icmp_neq (tgt := 59) C dX11_placeOf_50 (by decide) hm (fun hm => ?_) (fun hm => ?_)
      · exact J.sub [0] rfl (kM_placeOf_59 C hR a2 a3 hm)
      · exact J.sub [0] rfl (kM_placeOf_53 C hR a2 a3 hm)
def rmM_placesOf : Room := { frames := 0, cells := 0, slots := 0, locals := 0 }
theorem wd_X11_placesOf : yX11_placesOf.cls ≠ "java/lang/invoke/MethodHandle" ∧ yX11_placesOf.cls ≠ "java/lang/invoke/VarHandle" ∧ (parseMethodDescriptor yX11_placesOf.desc).map (fun d => d.parameters.length) = some 1 := by decide +kernel
def mM_placesOf_39 (N : Nat) (u : MSt) (s0 : Int32) : Option Int32 := some s0
set_option maxRecDepth 100000 in
set_option maxHeartbeats 4000000 in
theorem kM_placesOf_39 {l : Launch} {D : va_G} {cI : ClassId} {o : Nat} {q : Nat → Nat} {u : MSt} {G : Gx} {N : Nat} {rr : Int32} (C : jC l rmM_placesOf D [(cI, .int)] G cX11_placesOf 3 RX11) (hR : jR D [(cI, .int)] G (0, 0) (some .int) (some (.int rr)) (wM cI o q u))  (s0 : Int32) (hm : mM_placesOf_39 N u s0 = some rr) : J l rmM_placesOf D G (0, 0) (wM cI o q u) [] [.int s0] 39 := by
  unfold mM_placesOf_39 at hm
  cases hm
  exact j_iret C hR dX11_placesOf_39
def mM_placesOf_38 (N : Nat) (u : MSt) (x2 : Int32) : Option Int32 := mM_placesOf_39 N u x2
set_option maxRecDepth 100000 in
set_option maxHeartbeats 4000000 in
theorem kM_placesOf_38 {l : Launch} {D : va_G} {cI : ClassId} {o : Nat} {q : Nat → Nat} {u : MSt} {G : Gx} {N : Nat} {rr : Int32} (C : jC l rmM_placesOf D [(cI, .int)] G cX11_placesOf 3 RX11) (hR : jR D [(cI, .int)] G (0, 0) (some .int) (some (.int rr)) (wM cI o q u))  (x2 : Int32) (hm : mM_placesOf_38 N u x2 = some rr) : J l rmM_placesOf D G (0, 0) (wM cI o q u) [(2, .int x2)] [] 38 := by
  unfold mM_placesOf_38 at hm
  refine j_iload_n C dX11_placesOf_38 rfl 0 rfl ?_
  exact J.sub [] rfl (kM_placesOf_39 C hR x2 hm)
def mM_placesOf (N : Nat) (u : MSt) (x1 : Int32) : Option Int32 := rd (u.2.1 5) 100 ((10 * x1) + 2) (fun a1 => rd (u.2.1 5) 100 (10 * x1) (fun a2 => if ¬ a2 = 2 then (mM_placesOf_38 N u a1) else (if a1 ≤ 1 then (mM_placesOf_38 N u a1) else (mM_placesOf_39 N u ((2 * a1) - 2)))))
set_option maxRecDepth 100000 in
set_option maxHeartbeats 4000000 in
theorem cM_placesOf {l : Launch} {D : va_G} {cI : ClassId} {o : Nat} {q : Nat → Nat} {u : MSt} {N : Nat} {x1 : Int32} {rr : Int32} (hm : mM_placesOf N u x1 = some rr) : Con l D [(cI, .int)] yX11_placesOf (wS yX11_placesOf cX11_placesOf 3 (some .int)) rmM_placesOf [.ref o, .int x1] (wM cI o q u) (some (.int rr)) (wM cI o q u) := by
  refine Con.of (by decide +kernel) (Nat.le_of_ble_eq_true rfl) (fun G C hR => ?_)
  unfold mM_placesOf at hm
  show J l rmM_placesOf D G (0, 0) (wM cI o q u) [(0, .ref o), (1, .int x1)] [] 0
  refine j_aload_n C dX11_placesOf_0 rfl 0 rfl ?_
  refine jM_g5 C dX11_placesOf_1 ?_
  refine j_bipush (v := 10) C dX11_placesOf_4 (by decide) ?_
  refine j_iload_n C dX11_placesOf_6 rfl 1 rfl ?_
  refine j_imul C dX11_placesOf_7 ?_
  refine j_iconst (v := 2) C dX11_placesOf_8 (by decide) ?_
  refine j_iadd C dX11_placesOf_9 ?_
  refine jM_L5 C dX11_placesOf_10 hm (fun a1 hm => ?_)
  refine j_istore_n C dX11_placesOf_11 rfl (by decide) rfl ?_
  refine j_aload_n C dX11_placesOf_12 rfl 1 rfl ?_
  refine jM_g5 C dX11_placesOf_13 ?_
  refine j_bipush (v := 10) C dX11_placesOf_16 (by decide) ?_
  refine j_iload_n C dX11_placesOf_18 rfl 2 rfl ?_
  refine j_imul C dX11_placesOf_19 ?_
  refine jM_L5 C dX11_placesOf_20 hm (fun a2 hm => ?_)
  refine j_iconst (v := 2) C dX11_placesOf_21 (by decide) ?_
  refine j_icmp_neq (tgt := 38) C dX11_placesOf_22 (by decide) hm (fun hm => ?_) (fun hm => ?_)
  · exact J.sub [0] rfl (kM_placesOf_38 C hR a1 hm)
  · refine j_iload_n C dX11_placesOf_25 rfl 0 rfl ?_
    refine j_iconst (v := 1) C dX11_placesOf_26 (by decide) ?_
    refine j_icmp_leq (tgt := 38) C dX11_placesOf_27 (by decide) hm (fun hm => ?_) (fun hm => ?_)
    · exact J.sub [0] rfl (kM_placesOf_38 C hR a1 hm)
    · refine j_iconst (v := 2) C dX11_placesOf_30 (by decide) ?_
      refine j_iload_n C dX11_placesOf_31 rfl 0 rfl ?_
      refine j_imul C dX11_placesOf_32 ?_
      refine j_iconst (v := 2) C dX11_placesOf_33 (by decide) ?_
      refine j_isub C dX11_placesOf_34 ?_
      refine j_goto (tgt := 39) C dX11_placesOf_35 (by decide) ?_
      exact J.sub [] rfl (kM_placesOf_39 C hR ((2 * a1) - 2) hm)
def rmM_roundOf : Room := { frames := 1, cells := 0, slots := 0, locals := 23 }
theorem wd_X11_roundOf : yX11_roundOf.cls ≠ "java/lang/invoke/MethodHandle" ∧ yX11_roundOf.cls ≠ "java/lang/invoke/VarHandle" ∧ (parseMethodDescriptor yX11_roundOf.desc).map (fun d => d.parameters.length) = some 1 := by decide +kernel
def mM_roundOf_28 (N : Nat) (u : MSt) (s0 : Int32) : Option Int32 := some s0
set_option maxRecDepth 100000 in
set_option maxHeartbeats 4000000 in
theorem kM_roundOf_28 {l : Launch} {D : va_G} {cI : ClassId} {o : Nat} {q : Nat → Nat} {u : MSt} {G : Gx} {N : Nat} {rr : Int32} (C : jC l rmM_roundOf D [(cI, .int)] G cX11_roundOf 2 RX11) (hR : jR D [(cI, .int)] G (0, 0) (some .int) (some (.int rr)) (wM cI o q u))  (s0 : Int32) (hm : mM_roundOf_28 N u s0 = some rr) : J l rmM_roundOf D G (0, 0) (wM cI o q u) [] [.int s0] 28 := by
  unfold mM_roundOf_28 at hm
  cases hm
  exact j_iret C hR dX11_roundOf_28
def mM_roundOf (N : Nat) (u : MSt) (x1 : Int32) : Option Int32 := rd (u.2.1 5) 100 (10 * x1) (fun a1 => if ¬ a1 = 3 then ((mM_placesOf N u x1).bind (fun r2 => (mM_placeOf N u x1).bind (fun r3 => mM_roundOf_28 N u (r2 * r3)))) else (mM_roundOf_28 N u 1))
set_option maxRecDepth 100000 in
set_option maxHeartbeats 4000000 in
theorem cM_roundOf {l : Launch} {D : va_G} {cI : ClassId} {o : Nat} {q : Nat → Nat} {u : MSt} {N : Nat} {x1 : Int32} {rr : Int32} (hm : mM_roundOf N u x1 = some rr) : Con l D [(cI, .int)] yX11_roundOf (wS yX11_roundOf cX11_roundOf 2 (some .int)) rmM_roundOf [.ref o, .int x1] (wM cI o q u) (some (.int rr)) (wM cI o q u) := by
  refine Con.of (by decide +kernel) (Nat.le_of_ble_eq_true rfl) (fun G C hR => ?_)
  unfold mM_roundOf at hm
  show J l rmM_roundOf D G (0, 0) (wM cI o q u) [(0, .ref o), (1, .int x1)] [] 0
  refine j_aload_n C dX11_roundOf_0 rfl 0 rfl ?_
  refine jM_g5 C dX11_roundOf_1 ?_
  refine j_bipush (v := 10) C dX11_roundOf_4 (by decide) ?_
  refine j_iload_n C dX11_roundOf_6 rfl 1 rfl ?_
  refine j_imul C dX11_roundOf_7 ?_
  refine jM_L5 C dX11_roundOf_8 hm (fun a1 hm => ?_)
  refine j_iconst (v := 3) C dX11_roundOf_9 (by decide) ?_
  refine j_icmp_neq (tgt := 17) C dX11_roundOf_10 (by decide) hm (fun hm => ?_) (fun hm => ?_)
  · refine j_aload_n C dX11_roundOf_17 rfl 0 rfl ?_
    refine j_iload_n C dX11_roundOf_18 rfl 1 rfl ?_
    refine j_bind hm (fun r2 hr2 hm => ?_)
    refine j_callV (cs' := (0, 0)) (As := [.int x1]) (rest := []) C (cM_placesOf hr2) wc_X11_placesOf wm_X11_115 wi_X11_placesOf ws_X11_placesOf wn_X11 wd_X11_placesOf ⟨by decide, by decide⟩ 0 rfl rfl rfl (Nat.le_of_ble_eq_true rfl) dX11_roundOf_19 ⟨by decide, by decide⟩ rfl rfl ?_
    refine j_aload_n C dX11_roundOf_22 rfl 0 rfl ?_
    refine j_iload_n C dX11_roundOf_23 rfl 1 rfl ?_
    refine j_bind hm (fun r3 hr3 hm => ?_)
    refine j_callV (cs' := (0, 0)) (As := [.int x1]) (rest := [.int r2]) C (cM_placeOf hr3) wc_X11_placeOf wm_X11_118 wi_X11_placeOf ws_X11_placeOf wn_X11 wd_X11_placeOf ⟨by decide, by decide⟩ 0 rfl rfl rfl (Nat.le_of_ble_eq_true rfl) dX11_roundOf_24 ⟨by decide, by decide⟩ rfl rfl ?_
    refine j_imul C dX11_roundOf_27 ?_
    exact J.sub [] rfl (kM_roundOf_28 C hR (r2 * r3) hm)
  · refine j_iconst (v := 1) C dX11_roundOf_13 (by decide) ?_
    refine j_goto (tgt := 28) C dX11_roundOf_14 (by decide) ?_
    exact J.sub [] rfl (kM_roundOf_28 C hR 1 hm)
def rmM_tellAbout : Room := { frames := 2, cells := 0, slots := 0, locals := 44 }
theorem wd_X11_tellAbout : yX11_tellAbout.cls ≠ "java/lang/invoke/MethodHandle" ∧ yX11_tellAbout.cls ≠ "java/lang/invoke/VarHandle" ∧ (parseMethodDescriptor yX11_tellAbout.desc).map (fun d => d.parameters.length) = some 2 := by decide +kernel
def mM_tellAbout_136 (N : Nat) (u : MSt) (s0 : Int32) : Option Int32 := some s0
set_option maxRecDepth 100000 in
set_option maxHeartbeats 4000000 in
theorem kM_tellAbout_136 {l : Launch} {D : va_G} {cI : ClassId} {o : Nat} {q : Nat → Nat} {u : MSt} {G : Gx} {N : Nat} {rr : Int32} (C : jC l rmM_tellAbout D [(cI, .int)] G cX11_tellAbout 3 RX11) (hR : jR D [(cI, .int)] G (0, 0) (some .int) (some (.int rr)) (wM cI o q u))  (s0 : Int32) (hm : mM_tellAbout_136 N u s0 = some rr) : J l rmM_tellAbout D G (0, 0) (wM cI o q u) [] [.int s0] 136 := by
  unfold mM_tellAbout_136 at hm
  cases hm
  exact j_iret C hR dX11_tellAbout_136
def mM_tellAbout_100 (N : Nat) (u : MSt) (x1 : Int32) (x2 : Int32) : Option Int32 := rd (u.2.1 5) 100 ((10 * x1) + 2) (fun a1 => if a1 ≤ (x2 - 10) then (mM_tellAbout_136 N u (-1)) else (rd (u.2.1 5) 100 (((10 * x1) + x2) - 7) (fun a2 => mM_tellAbout_136 N u a2)))
set_option maxRecDepth 100000 in
set_option maxHeartbeats 4000000 in
theorem kM_tellAbout_100 {l : Launch} {D : va_G} {cI : ClassId} {o : Nat} {q : Nat → Nat} {u : MSt} {G : Gx} {N : Nat} {rr : Int32} (C : jC l rmM_tellAbout D [(cI, .int)] G cX11_tellAbout 3 RX11) (hR : jR D [(cI, .int)] G (0, 0) (some .int) (some (.int rr)) (wM cI o q u))  (x1 : Int32) (x2 : Int32) (hm : mM_tellAbout_100 N u x1 x2 = some rr) : J l rmM_tellAbout D G (0, 0) (wM cI o q u) [(0, .ref o), (1, .int x1), (2, .int x2)] [] 100 := by
  unfold mM_tellAbout_100 at hm
  refine j_iload_n C dX11_tellAbout_100 rfl 2 rfl ?_
  refine j_bipush (v := 10) C dX11_tellAbout_101 (by decide) ?_
  refine j_isub C dX11_tellAbout_103 ?_
  refine j_aload_n C dX11_tellAbout_104 rfl 0 rfl ?_
  refine jM_g5 C dX11_tellAbout_105 ?_
  refine j_bipush (v := 10) C dX11_tellAbout_108 (by decide) ?_
  refine j_iload_n C dX11_tellAbout_110 rfl 1 rfl ?_
  refine j_imul C dX11_tellAbout_111 ?_
  refine j_iconst (v := 2) C dX11_tellAbout_112 (by decide) ?_
  refine j_iadd C dX11_tellAbout_113 ?_
  refine jM_L5 C dX11_tellAbout_114 hm (fun a1 hm => ?_)
  refine j_icmp_geq (tgt := 135) C dX11_tellAbout_115 (by decide) hm (fun hm => ?_) (fun hm => ?_)
  · refine j_iconst (v := (-1)) C dX11_tellAbout_135 (by decide) ?_
    exact J.sub [] rfl (kM_tellAbout_136 C hR (-1) hm)
  · refine j_aload_n C dX11_tellAbout_118 rfl 0 rfl ?_
    refine jM_g5 C dX11_tellAbout_119 ?_
    refine j_bipush (v := 10) C dX11_tellAbout_122 (by decide) ?_
    refine j_iload_n C dX11_tellAbout_124 rfl 1 rfl ?_
    refine j_imul C dX11_tellAbout_125 ?_
    refine j_iload_n C dX11_tellAbout_126 rfl 2 rfl ?_
    refine j_iadd C dX11_tellAbout_127 ?_
    refine j_bipush (v := 7) C dX11_tellAbout_128 (by decide) ?_
    refine j_isub C dX11_tellAbout_130 ?_
    refine jM_L5 C dX11_tellAbout_131 hm (fun a2 hm => ?_)
    refine j_goto (tgt := 136) C dX11_tellAbout_132 (by decide) ?_
    exact J.sub [] rfl (kM_tellAbout_136 C hR a2 hm)
def mM_tellAbout_137 (N : Nat) (u : MSt)  : Option Int32 := some (-102)
set_option maxRecDepth 100000 in
set_option maxHeartbeats 4000000 in
theorem kM_tellAbout_137 {l : Launch} {D : va_G} {cI : ClassId} {o : Nat} {q : Nat → Nat} {u : MSt} {G : Gx} {N : Nat} {rr : Int32} (C : jC l rmM_tellAbout D [(cI, .int)] G cX11_tellAbout 3 RX11) (hR : jR D [(cI, .int)] G (0, 0) (some .int) (some (.int rr)) (wM cI o q u))   (hm : mM_tellAbout_137 N u = some rr) : J l rmM_tellAbout D G (0, 0) (wM cI o q u) [] [] 137 := by
  unfold mM_tellAbout_137 at hm
  refine j_bipush (v := (-102)) C dX11_tellAbout_137 (by decide) ?_
  cases hm
  exact j_iret C hR dX11_tellAbout_139
def mM_tellAbout_68 (N : Nat) (u : MSt) (x1 : Int32) (x2 : Int32) : Option Int32 := rd (u.2.1 5) 100 ((10 * x1) + x2) (fun a1 => some a1)
set_option maxRecDepth 100000 in
set_option maxHeartbeats 4000000 in
theorem kM_tellAbout_68 {l : Launch} {D : va_G} {cI : ClassId} {o : Nat} {q : Nat → Nat} {u : MSt} {G : Gx} {N : Nat} {rr : Int32} (C : jC l rmM_tellAbout D [(cI, .int)] G cX11_tellAbout 3 RX11) (hR : jR D [(cI, .int)] G (0, 0) (some .int) (some (.int rr)) (wM cI o q u))  (x1 : Int32) (x2 : Int32) (hm : mM_tellAbout_68 N u x1 x2 = some rr) : J l rmM_tellAbout D G (0, 0) (wM cI o q u) [(0, .ref o), (1, .int x1), (2, .int x2)] [] 68 := by
  unfold mM_tellAbout_68 at hm
  refine j_aload_n C dX11_tellAbout_68 rfl 0 rfl ?_
  refine jM_g5 C dX11_tellAbout_69 ?_
  refine j_bipush (v := 10) C dX11_tellAbout_72 (by decide) ?_
  refine j_iload_n C dX11_tellAbout_74 rfl 1 rfl ?_
  refine j_imul C dX11_tellAbout_75 ?_
  refine j_iload_n C dX11_tellAbout_76 rfl 2 rfl ?_
  refine j_iadd C dX11_tellAbout_77 ?_
  refine jM_L5 C dX11_tellAbout_78 hm (fun a1 hm => ?_)
  cases hm
  exact j_iret C hR dX11_tellAbout_79
def mM_tellAbout_80 (N : Nat) (u : MSt) (x1 : Int32) (x2 : Int32) : Option Int32 := rd (u.2.1 5) 100 (((10 * x1) + x2) + 3) (fun a1 => some a1)
set_option maxRecDepth 100000 in
set_option maxHeartbeats 4000000 in
theorem kM_tellAbout_80 {l : Launch} {D : va_G} {cI : ClassId} {o : Nat} {q : Nat → Nat} {u : MSt} {G : Gx} {N : Nat} {rr : Int32} (C : jC l rmM_tellAbout D [(cI, .int)] G cX11_tellAbout 3 RX11) (hR : jR D [(cI, .int)] G (0, 0) (some .int) (some (.int rr)) (wM cI o q u))  (x1 : Int32) (x2 : Int32) (hm : mM_tellAbout_80 N u x1 x2 = some rr) : J l rmM_tellAbout D G (0, 0) (wM cI o q u) [(0, .ref o), (1, .int x1), (2, .int x2)] [] 80 := by
  unfold mM_tellAbout_80 at hm
  refine j_aload_n C dX11_tellAbout_80 rfl 0 rfl ?_
  refine jM_g5 C dX11_tellAbout_81 ?_
  refine j_bipush (v := 10) C dX11_tellAbout_84 (by decide) ?_
  refine j_iload_n C dX11_tellAbout_86 rfl 1 rfl ?_
  refine j_imul C dX11_tellAbout_87 ?_
  refine j_iload_n C dX11_tellAbout_88 rfl 2 rfl ?_
  refine j_iadd C dX11_tellAbout_89 ?_
  refine j_iconst (v := 3) C dX11_tellAbout_90 (by decide) ?_
  refine j_iadd C dX11_tellAbout_91 ?_
  refine jM_L5 C dX11_tellAbout_92 hm (fun a1 hm => ?_)
  cases hm
  exact j_iret C hR dX11_tellAbout_93
def mM_tellAbout (N : Nat) (u : MSt) (x1 : Int32) (x2 : Int32) : Option Int32 := if x2.toInt < 0 ∨ 12 < x2.toInt then (mM_tellAbout_137 N u) else if x2 = 0 then (mM_tellAbout_68 N u x1 x2) else if x2 = 1 then (mM_tellAbout_68 N u x1 x2) else if x2 = 2 then (mM_tellAbout_68 N u x1 x2) else if x2 = 3 then (mM_tellAbout_80 N u x1 x2) else if x2 = 4 then (mM_tellAbout_80 N u x1 x2) else if x2 = 5 then (mM_tellAbout_80 N u x1 x2) else if x2 = 6 then (mM_tellAbout_80 N u x1 x2) else if x2 = 7 then ((mM_roundOf N u x1).bind (fun r1 => some r1)) else if x2 = 8 then (mM_tellAbout_137 N u) else if x2 = 9 then (mM_tellAbout_137 N u) else if x2 = 10 then (mM_tellAbout_100 N u x1 x2) else if x2 = 11 then (mM_tellAbout_100 N u x1 x2) else if x2 = 12 then (mM_tellAbout_100 N u x1 x2) else none
set_option maxRecDepth 100000 in
set_option maxHeartbeats 4000000 in
theorem cM_tellAbout {l : Launch} {D : va_G} {cI : ClassId} {o : Nat} {q : Nat → Nat} {u : MSt} {N : Nat} {x1 : Int32} {x2 : Int32} {rr : Int32} (hm : mM_tellAbout N u x1 x2 = some rr) : Con l D [(cI, .int)] yX11_tellAbout (wS yX11_tellAbout cX11_tellAbout 3 (some .int)) rmM_tellAbout [.ref o, .int x1, .int x2] (wM cI o q u) (some (.int rr)) (wM cI o q u) := by
  refine Con.of (by decide +kernel) (Nat.le_of_ble_eq_true rfl) (fun G C hR => ?_)
  unfold mM_tellAbout at hm
  show J l rmM_tellAbout D G (0, 0) (wM cI o q u) [(0, .ref o), (1, .int x1), (2, .int x2)] [] 0
  refine j_iload_n C dX11_tellAbout_0 rfl 2 rfl ?_
  refine j_tswD (tgt := 137) C dX11_tellAbout_1 (by decide) hm (fun hm => ?_) (fun hm => ?_)
  · exact J.sub [] rfl (kM_tellAbout_137 C hR hm)
  refine j_tswK (k := 0) (tgt := 68) C dX11_tellAbout_1 (by decide) (by decide) rfl (by decide) hm (fun hm => ?_) (fun hm => ?_)
  · exact kM_tellAbout_68 C hR x1 x2 hm
  refine j_tswK (k := 1) (tgt := 68) C dX11_tellAbout_1 (by decide) (by decide) rfl (by decide) hm (fun hm => ?_) (fun hm => ?_)
  · exact kM_tellAbout_68 C hR x1 x2 hm
  refine j_tswK (k := 2) (tgt := 68) C dX11_tellAbout_1 (by decide) (by decide) rfl (by decide) hm (fun hm => ?_) (fun hm => ?_)
  · exact kM_tellAbout_68 C hR x1 x2 hm
  refine j_tswK (k := 3) (tgt := 80) C dX11_tellAbout_1 (by decide) (by decide) rfl (by decide) hm (fun hm => ?_) (fun hm => ?_)
  · exact kM_tellAbout_80 C hR x1 x2 hm
  refine j_tswK (k := 4) (tgt := 80) C dX11_tellAbout_1 (by decide) (by decide) rfl (by decide) hm (fun hm => ?_) (fun hm => ?_)
  · exact kM_tellAbout_80 C hR x1 x2 hm
  refine j_tswK (k := 5) (tgt := 80) C dX11_tellAbout_1 (by decide) (by decide) rfl (by decide) hm (fun hm => ?_) (fun hm => ?_)
  · exact kM_tellAbout_80 C hR x1 x2 hm
  refine j_tswK (k := 6) (tgt := 80) C dX11_tellAbout_1 (by decide) (by decide) rfl (by decide) hm (fun hm => ?_) (fun hm => ?_)
  · exact kM_tellAbout_80 C hR x1 x2 hm
  refine j_tswK (k := 7) (tgt := 94) C dX11_tellAbout_1 (by decide) (by decide) rfl (by decide) hm (fun hm => ?_) (fun hm => ?_)
  · refine j_aload_n C dX11_tellAbout_94 rfl 0 rfl ?_
    refine j_iload_n C dX11_tellAbout_95 rfl 1 rfl ?_
    refine j_bind hm (fun r1 hr1 hm => ?_)
    refine j_callV (cs' := (0, 0)) (As := [.int x1]) (rest := []) C (cM_roundOf hr1) wc_X11_roundOf wm_X11_121 wi_X11_roundOf ws_X11_roundOf wn_X11 wd_X11_roundOf ⟨by decide, by decide⟩ 0 rfl rfl rfl (Nat.le_of_ble_eq_true rfl) dX11_tellAbout_96 ⟨by decide, by decide⟩ rfl rfl ?_
    cases hm
    exact j_iret C hR dX11_tellAbout_99
  refine j_tswK (k := 8) (tgt := 137) C dX11_tellAbout_1 (by decide) (by decide) rfl (by decide) hm (fun hm => ?_) (fun hm => ?_)
  · exact J.sub [] rfl (kM_tellAbout_137 C hR hm)
  refine j_tswK (k := 9) (tgt := 137) C dX11_tellAbout_1 (by decide) (by decide) rfl (by decide) hm (fun hm => ?_) (fun hm => ?_)
  · exact J.sub [] rfl (kM_tellAbout_137 C hR hm)
  refine j_tswK (k := 10) (tgt := 100) C dX11_tellAbout_1 (by decide) (by decide) rfl (by decide) hm (fun hm => ?_) (fun hm => ?_)
  · exact kM_tellAbout_100 C hR x1 x2 hm
  refine j_tswK (k := 11) (tgt := 100) C dX11_tellAbout_1 (by decide) (by decide) rfl (by decide) hm (fun hm => ?_) (fun hm => ?_)
  · exact kM_tellAbout_100 C hR x1 x2 hm
  refine j_tswK (k := 12) (tgt := 100) C dX11_tellAbout_1 (by decide) (by decide) rfl (by decide) hm (fun hm => ?_) (fun hm => ?_)
  · exact kM_tellAbout_100 C hR x1 x2 hm
  cases hm
def rmM_about : Room := { frames := 3, cells := 0, slots := 0, locals := 66 }
theorem wd_X11_about : yX11_about.cls ≠ "java/lang/invoke/MethodHandle" ∧ yX11_about.cls ≠ "java/lang/invoke/VarHandle" ∧ (parseMethodDescriptor yX11_about.desc).map (fun d => d.parameters.length) = some 2 := by decide +kernel
def mM_about_19 (N : Nat) (u : MSt) (s0 : Int32) : Option Int32 := some s0
set_option maxRecDepth 100000 in
set_option maxHeartbeats 4000000 in
theorem kM_about_19 {l : Launch} {D : va_G} {cI : ClassId} {o : Nat} {q : Nat → Nat} {u : MSt} {G : Gx} {N : Nat} {rr : Int32} (C : jC l rmM_about D [(cI, .int)] G cX11_about 3 RX11) (hR : jR D [(cI, .int)] G (0, 0) (some .int) (some (.int rr)) (wM cI o q u))  (s0 : Int32) (hm : mM_about_19 N u s0 = some rr) : J l rmM_about D G (0, 0) (wM cI o q u) [] [.int s0] 19 := by
  unfold mM_about_19 at hm
  cases hm
  exact j_iret C hR dX11_about_19
def mM_about (N : Nat) (u : MSt) (x1 : Int32) (x2 : Int32) : Option Int32 := (mM_isBridge N u x1).bind (fun r1 => if r1 = 0 then (mM_about_19 N u (-101)) else ((mM_tellAbout N u x1 x2).bind (fun r2 => mM_about_19 N u r2)))
set_option maxRecDepth 100000 in
set_option maxHeartbeats 4000000 in
theorem cM_about {l : Launch} {D : va_G} {cI : ClassId} {o : Nat} {q : Nat → Nat} {u : MSt} {N : Nat} {x1 : Int32} {x2 : Int32} {rr : Int32} (hm : mM_about N u x1 x2 = some rr) : Con l D [(cI, .int)] yX11_about (wS yX11_about cX11_about 3 (some .int)) rmM_about [.ref o, .int x1, .int x2] (wM cI o q u) (some (.int rr)) (wM cI o q u) := by
  refine Con.of (by decide +kernel) (Nat.le_of_ble_eq_true rfl) (fun G C hR => ?_)
  unfold mM_about at hm
  show J l rmM_about D G (0, 0) (wM cI o q u) [(0, .ref o), (1, .int x1), (2, .int x2)] [] 0
  refine j_aload_n C dX11_about_0 rfl 0 rfl ?_
  refine j_iload_n C dX11_about_1 rfl 1 rfl ?_
  refine j_bind hm (fun r1 hr1 hm => ?_)
  refine j_callV (cs' := (0, 0)) (As := [.int x1]) (rest := []) C (cM_isBridge hr1) wc_X11_isBridge wm_X11_107 wi_X11_isBridge ws_X11_isBridge wn_X11 wd_X11_isBridge ⟨by decide, by decide⟩ 0 rfl rfl rfl (Nat.le_of_ble_eq_true rfl) dX11_about_2 ⟨by decide, by decide⟩ rfl rfl ?_
  refine j_if_eqq (tgt := 17) C dX11_about_5 (by decide) hm (fun hm => ?_) (fun hm => ?_)
  · refine j_bipush (v := (-101)) C dX11_about_17 (by decide) ?_
    exact J.sub [] rfl (kM_about_19 C hR (-101) hm)
  · refine j_aload_n C dX11_about_8 rfl 0 rfl ?_
    refine j_iload_n C dX11_about_9 rfl 1 rfl ?_
    refine j_iload_n C dX11_about_10 rfl 2 rfl ?_
    refine j_bind hm (fun r2 hr2 hm => ?_)
    refine j_callV (cs' := (0, 0)) (As := [.int x1, .int x2]) (rest := []) C (cM_tellAbout hr2) wc_X11_tellAbout wm_X11_124 wi_X11_tellAbout ws_X11_tellAbout wn_X11 wd_X11_tellAbout ⟨by decide, by decide⟩ 0 rfl rfl rfl (Nat.le_of_ble_eq_true rfl) dX11_about_11 ⟨by decide, by decide⟩ rfl rfl ?_
    refine j_goto (tgt := 19) C dX11_about_14 (by decide) ?_
    exact J.sub [] rfl (kM_about_19 C hR r2 hm)
def rmM_offset : Room := { frames := 2, cells := 0, slots := 0, locals := 46 }
theorem wd_X11_offset : yX11_offset.cls ≠ "java/lang/invoke/MethodHandle" ∧ yX11_offset.cls ≠ "java/lang/invoke/VarHandle" ∧ (parseMethodDescriptor yX11_offset.desc).map (fun d => d.parameters.length) = some 2 := by decide +kernel
def mM_offset (N : Nat) (u : MSt) (x1 : Int32) (x2 : Int32) : Option (Int32 × MSt) := (mM_isBridge N u x1).bind (fun r1 => if ¬ r1 = 0 then ((mM_in N (Int32.toInt64 x2) 0 9).bind (fun r2 => if ¬ r2 = 0 then (rd (u.2.1 5) 100 ((10 * x1) + 8) (fun a3 => wr 100 ((10 * x1) + 8) (fun i4 => nm (saM u 5 i4 x2) (fun u5 => some (a3, u5))))) else (some ((-102), u)))) else (some ((-101), u)))
set_option maxRecDepth 100000 in
set_option maxHeartbeats 4000000 in
theorem cM_offset {l : Launch} {D : va_G} {cI : ClassId} {o : Nat} {q : Nat → Nat} {u : MSt} {N : Nat} {x1 : Int32} {x2 : Int32} {rr : (Int32 × MSt)} (hm : mM_offset N u x1 x2 = some rr) : Con l D [(cI, .int)] yX11_offset (wS yX11_offset cX11_offset 4 (some .int)) rmM_offset [.ref o, .int x1, .int x2] (wM cI o q u) (some (.int rr.1)) (wM cI o q rr.2) := by
  refine Con.of (by decide +kernel) (Nat.le_of_ble_eq_true rfl) (fun G C hR => ?_)
  unfold mM_offset at hm
  show J l rmM_offset D G (0, 0) (wM cI o q u) [(0, .ref o), (1, .int x1), (2, .int x2)] [] 0
  refine j_aload_n C dX11_offset_0 rfl 0 rfl ?_
  refine j_iload_n C dX11_offset_1 rfl 1 rfl ?_
  refine j_bind hm (fun r1 hr1 hm => ?_)
  refine j_callV (cs' := (0, 0)) (As := [.int x1]) (rest := []) C (cM_isBridge hr1) wc_X11_isBridge wm_X11_107 wi_X11_isBridge ws_X11_isBridge wn_X11 wd_X11_isBridge ⟨by decide, by decide⟩ 0 rfl rfl rfl (Nat.le_of_ble_eq_true rfl) dX11_offset_2 ⟨by decide, by decide⟩ rfl rfl ?_
  refine j_if_neq (tgt := 11) C dX11_offset_5 (by decide) hm (fun hm => ?_) (fun hm => ?_)
  · refine j_iload_n C dX11_offset_11 rfl 2 rfl ?_
    refine j_i2l C dX11_offset_12 ?_
    refine j_lconst (v := 0) C dX11_offset_13 (by decide) ?_
    refine j_ldc2 C dX11_offset_14 wk_X11_67 ?_
    refine j_bind hm (fun r2 hr2 hm => ?_)
    refine j_callS (cs' := (0, 0)) (As := [.long (Int32.toInt64 x2), .long 0, .long 9]) (rest := []) C (cM_in hr2) wc_X11_in wm_X11_69 wt_X11_in wn_X11 wd_X11_in ⟨by decide, by decide⟩ rfl (Nat.le_of_ble_eq_true rfl) dX11_offset_17 ⟨by decide, by decide⟩ rfl rfl ?_
    refine j_if_neq (tgt := 26) C dX11_offset_20 (by decide) hm (fun hm => ?_) (fun hm => ?_)
    · refine j_aload_n C dX11_offset_26 rfl 0 rfl ?_
      refine jM_g5 C dX11_offset_27 ?_
      refine j_bipush (v := 10) C dX11_offset_30 (by decide) ?_
      refine j_iload_n C dX11_offset_32 rfl 1 rfl ?_
      refine j_imul C dX11_offset_33 ?_
      refine j_bipush (v := 8) C dX11_offset_34 (by decide) ?_
      refine j_iadd C dX11_offset_36 ?_
      refine jM_L5 C dX11_offset_37 hm (fun a3 hm => ?_)
      refine j_istore_n C dX11_offset_38 rfl (by decide) rfl ?_
      refine j_aload_n C dX11_offset_39 rfl 1 rfl ?_
      refine jM_g5 C dX11_offset_40 ?_
      refine j_bipush (v := 10) C dX11_offset_43 (by decide) ?_
      refine j_iload_n C dX11_offset_45 rfl 2 rfl ?_
      refine j_imul C dX11_offset_46 ?_
      refine j_bipush (v := 8) C dX11_offset_47 (by decide) ?_
      refine j_iadd C dX11_offset_49 ?_
      refine j_iload_n C dX11_offset_50 rfl 3 rfl ?_
      refine jM_S5 C dX11_offset_51 hm (fun u5 hm => ?_)
      refine j_iload_n C dX11_offset_52 rfl 0 rfl ?_
      cases hm
      exact j_iret C hR dX11_offset_53
    · refine j_bipush (v := (-102)) C dX11_offset_23 (by decide) ?_
      cases hm
      exact j_iret C hR dX11_offset_25
  · refine j_bipush (v := (-101)) C dX11_offset_8 (by decide) ?_
    cases hm
    exact j_iret C hR dX11_offset_10
def rmM_frost : Room := { frames := 0, cells := 0, slots := 0, locals := 0 }
theorem wd_X11_frost : yX11_frost.cls ≠ "java/lang/invoke/MethodHandle" ∧ yX11_frost.cls ≠ "java/lang/invoke/VarHandle" ∧ (parseMethodDescriptor yX11_frost.desc).map (fun d => d.parameters.length) = some 1 := by decide +kernel
def mM_frost_15 (N : Nat) (u : MSt) (x2 : Int32) (s0 : Int32) : Option (Int32 × MSt) := nm (siM u 6 s0) (fun u1 => some (x2, u1))
set_option maxRecDepth 100000 in
set_option maxHeartbeats 4000000 in
theorem kM_frost_15 {l : Launch} {D : va_G} {cI : ClassId} {o : Nat} {q : Nat → Nat} {G : Gx} {N : Nat} {rr : (Int32 × MSt)} (C : jC l rmM_frost D [(cI, .int)] G cX11_frost 3 RX11) (hR : jR D [(cI, .int)] G (0, 0) (some .int) (some (.int rr.1)) (wM cI o q rr.2))  (u : MSt) (x2 : Int32) (s0 : Int32) (hm : mM_frost_15 N u x2 s0 = some rr) : J l rmM_frost D G (0, 0) (wM cI o q u) [(2, .int x2)] [.int s0, .ref o] 15 := by
  unfold mM_frost_15 at hm
  refine jM_p6 C dX11_frost_15 ?_
  refine j_nmu hm (w := wM cI o q) (fun u1 hm => ?_)
  refine j_iload_n C dX11_frost_18 rfl 0 rfl ?_
  cases hm
  exact j_iret C hR dX11_frost_19
def mM_frost (N : Nat) (u : MSt) (x1 : Int32) : Option (Int32 × MSt) := nm (u.1 6) (fun v1 => if x1 = 0 then (mM_frost_15 N u v1 0) else (mM_frost_15 N u v1 1))
set_option maxRecDepth 100000 in
set_option maxHeartbeats 4000000 in
theorem cM_frost {l : Launch} {D : va_G} {cI : ClassId} {o : Nat} {q : Nat → Nat} {u : MSt} {N : Nat} {x1 : Int32} {rr : (Int32 × MSt)} (hm : mM_frost N u x1 = some rr) : Con l D [(cI, .int)] yX11_frost (wS yX11_frost cX11_frost 3 (some .int)) rmM_frost [.ref o, .int x1] (wM cI o q u) (some (.int rr.1)) (wM cI o q rr.2) := by
  refine Con.of (by decide +kernel) (Nat.le_of_ble_eq_true rfl) (fun G C hR => ?_)
  unfold mM_frost at hm
  show J l rmM_frost D G (0, 0) (wM cI o q u) [(0, .ref o), (1, .int x1)] [] 0
  refine j_aload_n C dX11_frost_0 rfl 0 rfl ?_
  refine jM_g6 C dX11_frost_1 ?_
  refine j_nmi hm (fun v1 hm => ?_)
  refine j_istore_n C dX11_frost_4 rfl (by decide) rfl ?_
  refine j_aload_n C dX11_frost_5 rfl 1 rfl ?_
  refine j_iload_n C dX11_frost_6 rfl 2 rfl ?_
  refine j_if_eqq (tgt := 14) C dX11_frost_7 (by decide) hm (fun hm => ?_) (fun hm => ?_)
  · refine j_iconst (v := 0) C dX11_frost_14 (by decide) ?_
    exact J.sub [0] rfl (kM_frost_15 C hR u v1 0 hm)
  · refine j_iconst (v := 1) C dX11_frost_10 (by decide) ?_
    refine j_goto (tgt := 15) C dX11_frost_11 (by decide) ?_
    exact J.sub [0] rfl (kM_frost_15 C hR u v1 1 hm)
