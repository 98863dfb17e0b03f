section JX
variable {l : Launch} {R : Room} {D : va_G} {tys : List (ClassId × FieldType)} {G : Gx} {cc : ByteArray} {nL : Nat} {own : String} {cs : Nat × Nat} {ws : va_W} {lv : List (Nat × Value)} {st : List Value} {pc : Nat}
theorem j_getS {ref : String} {Cn : String} {T : u_T} {N ci index a : Nat} {fs : List Value} {v : Value} (C : jC l R D tys G cc nL own) (hin : ∀ w ∈ u_ws Cn T N, w ∈ gW) (q0 : Nat) (he : ws[q0]? = some (a, .inr (ci, fs))) (hc : vwCl[ci]? = some (Cn, T, N)) (k : Nat) (hk : k < N) (hlink : Cond.fieldLink own index ref (T k).2.1 (T k).2.2.1 ∈ gW) (hsame : Cond.sameField ref (T k).1 (T k).2.1 (T k).2.2.1 ∈ gW) (hv : fs[k]? = some v) (d : decode cc pc = .ok (.getfield index, 3)) (kk : J l R D G cs ws lv (v :: st) (pc + 3)) : J l R D G cs ws lv (.ref a :: st) pc := by
  obtain ⟨p, e, s, m, args, below, meth, c, A, nL', Q⟩ := G
  obtain ⟨a1, a2, a3, a4, a5, a6, a7, a8⟩ := C
  exact fun H locs ls g1 g2 g3 g4 => va_get a1 a2 a6 hin a5 a7.1 g1 q0 he hc k hk (a6 _ hlink) (fun x h => u_same (a6 _ hsame) x h) hv d (kk H locs ls g1 g2 g3 g4)
theorem j_putS {ref : String} {Cn : String} {T : u_T} {N ci index a : Nat} {fs : List Value} {v : Value} {ws' : va_W} {ty : FieldType} (C : jC l R D tys G cc nL own) (hin : ∀ w ∈ u_ws Cn T N, w ∈ gW) (ty0 : Nat → FieldType) (hty : ∀ k, k < N → parseFieldDescriptor (T k).2.2.1 = some (ty0 k)) (hnm : ∀ a, a < N → ∀ b, b < N → a ≠ b → (T a).2.1 ≠ (T b).2.1) (q0 : Nat) (he : ws[q0]? = some (a, .inr (ci, fs))) (hc : vwCl[ci]? = some (Cn, T, N)) (k : Nat) (hk : k < N) (hlink : Cond.fieldLink own index ref (T k).2.1 (T k).2.2.1 ∈ gW) (hsame : Cond.sameField ref (T k).1 (T k).2.1 (T k).2.2.1 ∈ gW) (hfin : (T k).2.2.2 = false) (hd : parseFieldDescriptor (T k).2.2.1 = some ty) (hn : narrow ty v = v) (hfit : fits ty v = true) (hl : k < fs.length) (hw : ws.set q0 (a, .inr (ci, fs.set k v)) = ws') (d : decode cc pc = .ok (.putfield index, 3)) (kk : J l R D G cs ws' lv st (pc + 3)) : J l R D G cs ws lv (v :: .ref a :: st) pc := by
  obtain ⟨p, e, s, m, args, below, meth, c, A, nL', Q⟩ := G
  obtain ⟨a1, a2, a3, a4, a5, a6, a7, a8⟩ := C
  subst hw
  exact fun H locs ls g1 g2 g3 g4 => va_put a1 a2 a6 hin ty0 hty hnm a5 a7.1 g1 g2 g3 q0 he hc k hk (a6 _ hlink) (fun x h => u_same (a6 _ hsame) x h) hfin hd hn hfit hl d (fun H1 locs1 b1 b2 b3 => kk H1 locs1 ls b1 b2 b3 g4)
theorem j_aret {v : Value} {rt : FieldType} (C : jC l R D tys G cc nL own) (hr : jR D tys G cs (some rt) (some v) ws) (hrt : (∃ n, rt = .object n) ∨ ∃ t, rt = .array t) (hv : v = .null ∨ ∃ a, v = .ref a) (d : decode cc pc = .ok (.areturn, 1)) : J l R D G cs ws lv [v] pc := by
  obtain ⟨p, e, s, m, args, below, meth, c, A, nL', Q⟩ := G
  obtain ⟨a1, a2, a3, a4, a5, a6, a7, a8, a9⟩ := C
  obtain ⟨h1, rfl⟩ := hr
  exact fun H locs ls g1 g2 g3 g4 => W.aret (hlocks := a9) a1 a2 h1 hrt hv (fun t ht hW => ⟨⟨rfl, by rw [ht]; exact g1, g2⟩, g3.F ht⟩) g3.2.2 d
theorem j_null (C : jC l R D tys G cc nL own) (d : decode cc pc = .ok (.aconst_null, 1)) (kk : J l R D G cs ws lv (.null :: st) (pc + 1)) : J l R D G cs ws lv st pc := by
  obtain ⟨p, e, s, m, args, below, meth, c, A, nL', Q⟩ := G
  obtain ⟨a1, a2, a5⟩ := C
  exact fun H locs ls h1 h2 h3 h4 => lv_null a1 a2 d (kk H locs ls h1 h2 h3 h4)
/-- a place of an array of references, of whatever kind -/
theorem j_aald {a t0 : Nat} {cA : ClassId} {n : Nat} {f : Nat → Option Nat} {i : Int32} {ty : FieldType} (C : jC l R D tys G cc nL own) (q0 : Nat) (ha : ws[q0]? = some (a, .inl (cA, n, .inr (.inr (.inr (.inr f)))))) (ht : tys[t0]? = some (cA, ty)) (hty : ty.isReference = true) (hin : vp_in i n) (d : decode cc pc = .ok (.aaload, 1)) (kk : J l R D G cs ws lv (va_rf (f i.toNatClampNeg) :: st) (pc + 1)) : J l R D G cs ws lv (.int i :: .ref a :: st) pc := by
  obtain ⟨p, e, s, m, args, below, meth, c, A, nL', Q⟩ := G
  obtain ⟨a1, a2, a3, a4, a5, a6, a7, a8⟩ := C
  intro H locs ls g1 g2 g3 g4
  have hlt : i.toNatClampNeg < n := Nat.not_le.mp fun q => hin (Or.inr q)
  exact W.aald (v := va_rf (f i.toNatClampNeg)) (ty := ty) a1 a2 (g1 q0 _ ha) ((a7.1.2 t0 _ ht).1 n (fun j => va_rf (f j))) hty (fun q => by cases q) (by show ¬ (i < 0 ∨ (arrV _ _ _).slots.size ≤ _); rw [arrV_size]; exact hin) (by show (arrV _ _ _).slots[_]? = _; rw [arrV_read _ _ hlt]) rfl rfl d (kk H locs ls g1 g2 g3 g4)
theorem j_inst1 {a q0 ci index : Nat} {fs : List Value} {Cn nm : String} {T : u_T} {N : Nat} (C : jC l R D tys G cc nL own) (he : ws[q0]? = some (a, .inr (ci, fs))) (hc : vwCl[ci]? = some (Cn, T, N)) (hlink : Cond.classLink own index nm ∈ gW) (hcast : Cond.castable Cn nm ∈ nW) (d : decode cc pc = .ok (.instanceof index, 3)) (kk : J l R D G cs ws lv (.int 1 :: st) (pc + 3)) : J l R D G cs ws lv (.ref a :: st) pc := by
  obtain ⟨p, e, s, m, args, below, meth, c, A, nL', Q⟩ := G
  obtain ⟨a1, a2, a3, a4, a5, a6, a7, a8⟩ := C
  exact fun H locs ls g1 g2 g3 g4 => va_instY a1 a2 a5 (a6 _ hlink) (a7.2.1 _ hcast) (va_recv a7.1 g1 hc he) d (kk H locs ls g1 g2 g3 g4)
theorem j_instS {a q0 ci index : Nat} {fs : List Value} {Cn : String} {T : u_T} {N : Nat} (C : jC l R D tys G cc nL own) (he : ws[q0]? = some (a, .inr (ci, fs))) (hc : vwCl[ci]? = some (Cn, T, N)) (hlink : Cond.classLink own index Cn ∈ gW) (d : decode cc pc = .ok (.instanceof index, 3)) (kk : J l R D G cs ws lv (.int 1 :: st) (pc + 3)) : J l R D G cs ws lv (.ref a :: st) pc := by
  obtain ⟨p, e, s, m, args, below, meth, c, A, nL', Q⟩ := G
  obtain ⟨a1, a2, a3, a4, a5, a6, a7, a8⟩ := C
  exact fun H locs ls g1 g2 g3 g4 => va_instS a1 a2 a5 (a6 _ hlink) (a7.1.1 ci _ hc).2 (va_recv a7.1 g1 hc he) d (kk H locs ls g1 g2 g3 g4)
theorem j_inst0 {a q0 ci index : Nat} {fs : List Value} {Cn nm : String} {T : u_T} {N : Nat} (C : jC l R D tys G cc nL own) (he : ws[q0]? = some (a, .inr (ci, fs))) (hc : vwCl[ci]? = some (Cn, T, N)) (hlink : Cond.classLink own index nm ∈ gW) (hno : (Cn, nm) ∈ ncW) (d : decode cc pc = .ok (.instanceof index, 3)) (kk : J l R D G cs ws lv (.int 0 :: st) (pc + 3)) : J l R D G cs ws lv (.ref a :: st) pc := by
  obtain ⟨p, e, s, m, args, below, meth, c, A, nL', Q⟩ := G
  obtain ⟨a1, a2, a3, a4, a5, a6, a7, a8⟩ := C
  exact fun H locs ls g1 g2 g3 g4 => va_instNo a1 a2 a5 (a6 _ hlink) (a7.2.2.1 _ hno) (va_recv a7.1 g1 hc he) d (kk H locs ls g1 g2 g3 g4)
theorem j_castY {a q0 ci index : Nat} {fs : List Value} {Cn nm : String} {T : u_T} {N : Nat} (C : jC l R D tys G cc nL own) (he : ws[q0]? = some (a, .inr (ci, fs))) (hc : vwCl[ci]? = some (Cn, T, N)) (hlink : Cond.classLink own index nm ∈ gW) (hcast : Cond.castable Cn nm ∈ nW) (d : decode cc pc = .ok (.checkcast index, 3)) (kk : J l R D G cs ws lv (.ref a :: st) (pc + 3)) : J l R D G cs ws lv (.ref a :: st) pc := by
  obtain ⟨p, e, s, m, args, below, meth, c, A, nL', Q⟩ := G
  obtain ⟨a1, a2, a3, a4, a5, a6, a7, a8⟩ := C
  exact fun H locs ls g1 g2 g3 g4 => va_castY a1 a2 a5 (a6 _ hlink) (a7.2.1 _ hcast) (va_recv a7.1 g1 hc he) d (kk H locs ls g1 g2 g3 g4)
theorem j_castS {a q0 ci index : Nat} {fs : List Value} {Cn : String} {T : u_T} {N : Nat} (C : jC l R D tys G cc nL own) (he : ws[q0]? = some (a, .inr (ci, fs))) (hc : vwCl[ci]? = some (Cn, T, N)) (hlink : Cond.classLink own index Cn ∈ gW) (d : decode cc pc = .ok (.checkcast index, 3)) (kk : J l R D G cs ws lv (.ref a :: st) (pc + 3)) : J l R D G cs ws lv (.ref a :: st) pc := by
  obtain ⟨p, e, s, m, args, below, meth, c, A, nL', Q⟩ := G
  obtain ⟨a1, a2, a3, a4, a5, a6, a7, a8⟩ := C
  exact fun H locs ls g1 g2 g3 g4 => va_castS a1 a2 a5 (a6 _ hlink) (a7.1.1 ci _ hc).2 (va_recv a7.1 g1 hc he) d (kk H locs ls g1 g2 g3 g4)
theorem j_copyi {a a0 index : Nat} {c0 c1 : ClassId} {n0 n1 : Nat} {f g : Nat → Int32} {ws' : va_W} (C : jC l R D tys G cc nL own) (hlink : Cond.methodLink own index arraycopyName ∈ gW) (hnat : Cond.native arraycopyName ∈ gW) (hstat : Cond.static arraycopyName ∈ gW) (hini : Cond.initialized "java/lang/System" ∈ gW) (q0 q1 t0 t1 : Nat) (ha0 : ws[q0]? = some (a0, .inl (c0, n0, .inl f))) (ha1 : ws[q1]? = some (a, .inl (c1, n1, .inl g))) (ht0 : tys[t0]? = some (c0, .int)) (ht1 : tys[t1]? = some (c1, .int)) {sp dp n : Int32} (h1 : ¬ sp < 0) (h2 : ¬ dp < 0) (h3 : ¬ n < 0) (h4 : sp.toNatClampNeg + n.toNatClampNeg ≤ n0) (h5 : dp.toNatClampNeg + n.toNatClampNeg ≤ n1) (hframes : 1 ≤ R.frames) (hlocals : (st.map fun v => v.category).sum + (nativeFrameWords "java/lang/System" "arraycopy" 5 + 11) ≤ R.locals) (hw : ws.set q1 (a, .inl (c1, n1, .inl (va_cpy f g sp.toNatClampNeg dp.toNatClampNeg n.toNatClampNeg))) = ws') (d : decode cc pc = .ok (.invokestatic index, 3)) (kk : J l R D G cs ws' lv st (pc + 3)) : J l R D G cs ws lv (.int n :: .int dp :: .ref a :: .int sp :: .ref a0 :: st) pc := by
  obtain ⟨p, e, s, m, args, below, meth, c, A, nL', Q⟩ := G
  obtain ⟨a1, a2, a3, rfl, a5, a6, a7, a8⟩ := C
  subst hw
  exact fun H locs ls g1 g2 g3 g4 => va_copyi a1 a2 (a3.trans g4.1.symm) a5 (a6 _ hlink) (a6 _ hnat) (a6 _ hstat) (a6 _ hini) a7.1 g1 g2 g3 q0 q1 t0 t1 ha0 ha1 ht0 ht1 rfl h1 h2 h3 h4 h5 (fun _ _ => rfl) hframes hlocals d (fun H1 locs1 b1 b2 b3 => kk H1 locs1 ls b1 b2 b3 g4)
/-- a virtual call on an object of the class Cn: x is named, y is chosen -/
theorem j_callU {x y : MethodName} {bytes b0 : ByteArray} {maxL m0 index n b ci : Nat} {rt r0 : Option FieldType} {rm : Room} {As rest : List Value} {ret : Option Value} {ws' : va_W} {fs : List Value} {Tq : u_T} {Nq : Nat} {Cn owner : String} {cs' : Nat × Nat}
    (C : jC l R D tys G cc nL own) (hM : Con l D tys y (wS y bytes maxL rt) rm (.ref b :: As) ws ret ws')
    (hcode : Cond.code y bytes maxL rt ∈ gW) (h0 : Cond.code ⟨owner, x.name, x.desc⟩ b0 m0 r0 ∈ gW) (hlink : Cond.methodLink own index x ∈ gW) (hsame : Cond.sameMethod x.cls owner x.name x.desc ∈ gW) (hin0 : Cond.instanceMethod ⟨owner, x.name, x.desc⟩ ∈ gW) (hsel : Cond.selects Cn x y ∈ gW) (hinst : Cond.instanceMethod y ∈ gW) (hini : Cond.initialized y.cls ∈ gW)
    (hd : owner ≠ "java/lang/invoke/MethodHandle" ∧ owner ≠ "java/lang/invoke/VarHandle" ∧ (parseMethodDescriptor x.desc).map (fun d => d.parameters.length) = some n)
    (hR : rm.frames + 1 ≤ R.frames ∧ 8 + (maxL + 11) + rm.locals ≤ R.locals) (q0 : Nat) (he : ws[q0]? = some (b, .inr (ci, fs))) (hc : vwCl[ci]? = some (Cn, Tq, Nq))
    (hn : As.length = n) (hrest : (rest.map fun v => v.category).sum ≤ 8) (d : decode cc pc = .ok (.invokevirtual index, 3)) (hcells : cs.1 + rm.cells ≤ R.cells ∧ cs.2 + rm.slots ≤ R.slots)
    (hst : st = As.reverse ++ .ref b :: rest) (hcs : (cs.1 + rm.cells, cs.2 + rm.slots) = cs') (kk : J l R D G cs' ws' lv (ret.toList ++ rest) (pc + 3)) : J l R D G cs ws lv st pc := by
  subst hcs
  obtain ⟨p, e, s, m, args, below, meth, c, A, nL', Q⟩ := G
  obtain ⟨a1, a2, a3, rfl, a5, a6, a7, a8, a9⟩ := C
  intro H locs ls g1 g2 g3 g4
  have hF := jF_all a8 g2 g3
  have hG : GoodIn gW (va_wsO own index Cn owner x y (wS y bytes maxL rt)) := fun w hw => by
    rcases List.mem_append.mp hw with h | h
    · simp only [List.mem_cons, List.not_mem_nil, or_false] at h
      rcases h with rfl | rfl | rfl | rfl | rfl | rfl
      · exact ⟨hlink, gW_good _ hlink⟩
      · exact ⟨hsame, gW_good _ hsame⟩
      · exact ⟨hin0, gW_good _ hin0⟩
      · exact ⟨hsel, gW_good _ hsel⟩
      · exact ⟨hinst, gW_good _ hinst⟩
      · exact ⟨hini, gW_good _ hini⟩
    · exact gW_sub (fun _ h => h) hcode w h
  have hrun := va_runU (As := As) (rest := rest) (g := F0 m pc ls st) (cells := cs.1) (slots := cs.2) (R := R) (below := below) (p := p) (e := e) (locs := locs) (meth := meth) ⟨a1, a2, a3, a5, a6⟩ (hM H.size) (va_cwO n a6 hG rfl rfl rfl h0 hd hR) ⟨jBlind, va_recv a7.1 g1 hc he, fun U hU hW => ⟨rfl, by rw [hU], by rw [hU]; exact g1, a7.warm hW, g2.weaken (fun _ _ _ _ => trivial)⟩⟩ rfl hn g4.1 hst (lv_room (m := m) (pc := pc) (ls := ls) (rest := st) hrest) d hcells
  intro T hT X
  obtain ⟨v, st₀, t, T', L, h0, X', hL, e1, e2, ⟨⟨hv, hP1, hD1⟩, hz, hk⟩, stp⟩ := hrun T hT X
  cases hv
  rw [h0] at hz hk
  obtain ⟨t2, b1, b2⟩ := kk T'.heap (locs ++ L) ls (by rw [e1]; exact hP1) (hD1.weaken (fun _ _ _ h => hF _ h)) (jS_after g3 hF (by rw [e1]; exact hz) (by rw [e1]; exact hk) hL) g4 T' rfl X'
  exact ⟨t2, stp t2 b1, b2⟩
/-- a static call that works on the world -/
theorem j_callSW {y : MethodName} {bytes : ByteArray} {maxL index n : Nat} {rt : Option FieldType} {rm : Room} {As rest : List Value} {ret : Option Value} {ws' : va_W} {cs' : Nat × Nat}
    (C : jC l R D tys G cc nL own) (hM : Con l D tys y (wS y bytes maxL rt) rm As ws ret ws')
    (hcode : Cond.code y bytes maxL rt ∈ gW) (hlink : Cond.methodLink own index y ∈ gW) (hstat : Cond.static y ∈ gW) (hini : Cond.initialized y.cls ∈ gW)
    (hd : y.cls ≠ "java/lang/invoke/MethodHandle" ∧ y.cls ≠ "java/lang/invoke/VarHandle" ∧ (parseMethodDescriptor y.desc).map (fun d => d.parameters.length) = some n)
    (hR : rm.frames + 1 ≤ R.frames ∧ 8 + (maxL + 11) + rm.locals ≤ R.locals)
    (hn : As.length = n) (hrest : (rest.map fun v => v.category).sum ≤ 8) (d : decode cc pc = .ok (.invokestatic index, 3)) (hcells : cs.1 + rm.cells ≤ R.cells ∧ cs.2 + rm.slots ≤ R.slots)
    (hst : st = As.reverse ++ rest) (hcs : (cs.1 + rm.cells, cs.2 + rm.slots) = cs') (kk : J l R D G cs' ws' lv (ret.toList ++ rest) (pc + 3)) : J l R D G cs ws lv st pc := by
  subst hcs
  obtain ⟨p, e, s, m, args, below, meth, c, A, nL', Q⟩ := G
  obtain ⟨a1, a2, a3, rfl, a5, a6, a7, a8, a9⟩ := C
  intro H locs ls g1 g2 g3 g4
  have hF := jF_all a8 g2 g3
  have hrun := va_runS (As := As) (rest := rest) (g := F0 m pc ls st) (cells := cs.1) (slots := cs.2) (R := R) (below := below) (p := p) (e := e) (locs := locs) (meth := meth) (H := H) ⟨a1, a2, a3, a5, a6⟩ (hM H.size) ⟨callB_of n a6 (gW_sub (fun _ h => h) hcode) rfl rfl rfl (a6 _ hini) (a6 _ hlink) hd hR, a6 _ hstat⟩ ⟨jBlind, fun U hU hW => ⟨rfl, by rw [hU], by rw [hU]; exact g1, a7.warm hW, g2.weaken (fun _ _ _ _ => trivial)⟩⟩ rfl hn g4.1 hst (lv_room (m := m) (pc := pc) (ls := ls) (rest := st) hrest) d hcells
  intro T hT X
  obtain ⟨v, st₀, t, T', L, h0, X', hL, e1, e2, ⟨⟨hv, hP1, hD1⟩, hz, hk⟩, stp⟩ := hrun T hT X
  cases hv
  rw [h0] at hz hk
  obtain ⟨t2, b1, b2⟩ := kk T'.heap (locs ++ L) ls (by rw [e1]; exact hP1) (hD1.weaken (fun _ _ _ h => hF _ h)) (jS_after g3 hF (by rw [e1]; exact hz) (by rw [e1]; exact hk) hL) g4 T' rfl X'
  exact ⟨t2, stp t2 b1, b2⟩
/-- a static call of a nest mate that works on no world -/
theorem j_callSN {y : MethodName} {bytes : ByteArray} {maxL index n : Nat} {rt : Option FieldType} {rm : Room} {As rest : List Value} {ret : Option Value} {host : String} {cs' : Nat × Nat}
    (C : jC l R D tys G cc nL own) (hM : Con l D tys y (wS y bytes maxL rt) rm As [] ret [])
    (hcode : Cond.code y bytes maxL rt ∈ gW) (hlink : Cond.methodLinkNest own index y host ∈ nW) (hstat : Cond.static y ∈ gW) (hini : Cond.initialized y.cls ∈ gW)
    (hd : y.cls ≠ "java/lang/invoke/MethodHandle" ∧ y.cls ≠ "java/lang/invoke/VarHandle" ∧ (parseMethodDescriptor y.desc).map (fun d => d.parameters.length) = some n)
    (hR : rm.frames + 1 ≤ R.frames ∧ 8 + (maxL + 11) + rm.locals ≤ R.locals)
    (hn : As.length = n) (hrest : (rest.map fun v => v.category).sum ≤ 8) (d : decode cc pc = .ok (.invokestatic index, 3)) (hcells : cs.1 + rm.cells ≤ R.cells ∧ cs.2 + rm.slots ≤ R.slots)
    (hst : st = As.reverse ++ rest) (hcs : (cs.1 + rm.cells, cs.2 + rm.slots) = cs') (kk : J l R D G cs' ws lv (ret.toList ++ rest) (pc + 3)) : J l R D G cs ws lv st pc := by
  subst hcs
  obtain ⟨p, e, s, m, args, below, meth, c, A, nL', Q⟩ := G
  obtain ⟨a1, a2, a3, rfl, a5, a6, a7, a8, a9⟩ := C
  intro H locs ls g1 g2 g3 g4
  have hF : ∀ q, va_A [] H.size q → A q := fun q h => by
    rcases h with ⟨k, e, h⟩ | h
    · simp at h
    · exact a8 q (Nat.le_trans g3.1 h)
  have hrun := va_runSN (As := As) (rest := rest) (g := F0 m pc ls st) (cells := cs.1) (slots := cs.2) (R := R) (below := below) (p := p) (e := e) (locs := locs) (meth := meth) (H := H) ⟨a1, a2, a3, a5, a6⟩ (hM H.size) ⟨va_cnB n a6 (gW_sub (fun _ h => h) hcode) rfl rfl rfl (a7.2.1 _ hlink) (a6 _ hini) hd hR, a6 _ hstat, trivial⟩ ⟨jBlind, fun U hU hW => ⟨rfl, by rw [hU], fun k q h => by simp at h, a7.warm hW, ⟨fun i j p q h => by simp at h, fun k q h => by simp at h⟩⟩⟩ rfl hn g4.1 hst (lv_room (m := m) (pc := pc) (ls := ls) (rest := st) hrest) d hcells
  intro T hT X
  obtain ⟨v, st₀, t, T', L, h0, X', hL, e1, e2, ⟨⟨hv, hP1, hD1⟩, hz, hk⟩, stp⟩ := hrun T hT X
  cases hv
  rw [h0] at hz hk
  have hkeep : va_P D vwCl ws T'.heap := g1.kept (fun k x hx => by
    rw [e1]
    have hlt := (g1 k x hx).lt
    exact hk _ hlt (fun z => by
      rcases z with ⟨k, e, h⟩ | h
      · simp at h
      · omega))
  obtain ⟨t2, b1, b2⟩ := kk T'.heap (locs ++ L) ls hkeep g2 (jS_after g3 hF (by rw [e1]; exact hz) (by rw [e1]; exact hk) hL) g4 T' rfl X'
  exact ⟨t2, stp t2 b1, b2⟩
end JX
