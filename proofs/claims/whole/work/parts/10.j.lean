/-- what the tables say and no word of gW carries: nest mates, casts, what is no cast -/
def isNw : Cond → Bool
  | .methodLinkNest _ _ _ _ => true
  | .fieldLinkNest _ _ _ _ _ _ => true
  | .castable _ _ => true
  | _ => false
def nW : List Cond := lw_tbl.filter isNw
theorem nW_in {w : Cond} (i : Nat) (h : lw_tbl[i]? = some w) (g : isNw w = true) : w ∈ nW := List.mem_filter.mpr ⟨List.mem_of_getElem? h, g⟩
def ncW : List (String × String) := [("NineBridges$Bridge", "NineBridges$Frosty"), ("NineBridges$Bridge", "NineBridges$Swinging"), ("NineBridges$Bridge", "NineBridges$Fixed"), ("NineBridges$Fixed", "NineBridges$Frosty"), ("NineBridges$Fixed", "NineBridges$Swinging"), ("NineBridges$Frosty", "NineBridges$Swinging"), ("NineBridges$Frosty", "NineBridges$Fixed"), ("NineBridges$Swinging", "NineBridges$Fixed")]
def jK (D : va_G) (tys : List (ClassId × FieldType)) (U : State) : Prop := va_K D vwCl tys U ∧ (∀ w ∈ nW, va_Nw w U) ∧ (∀ q ∈ ncW, va_Nc q.1 q.2 U) ∧ va_AO "java/lang/Object" U
theorem nW_tab {w : Cond} (h : isNw w = true) : w.onTables = true := by
  cases w <;> first | rfl | cases h
theorem jK.warm {D : va_G} {tys : List (ClassId × FieldType)} {s U : State} (h : jK D tys s) (hW : s.WarmedH U.vm) : jK D tys U := by
  refine ⟨va_K.moved hW.alike h.1, fun w hw => ?_, fun q hq => va_Nc.moved hW.alike (h.2.2.1 q hq), va_AO.moved hW.alike h.2.2.2⟩
  have h1 := h.2.1 w hw
  have h2 := (List.mem_filter.mp hw).2
  cases w with
  | methodLinkNest a b c d => exact va_Nw.warmM hW h1
  | fieldLinkNest a b c d e f => exact va_Nw.warmF hW h1
  | castable a b => exact va_Nw.warmC hW h1
  | _ => cases h2
theorem jK.blind {D : va_G} {tys : List (ClassId × FieldType)} {s U : State} (h : jK D tys s) (hv : U.vm = s.vm) : jK D tys U := by
  have ha : s.vm.Alike U.vm := by rw [hv]; exact Vm.Alike.refl s.vm
  exact ⟨va_K.moved ha h.1, fun w hw => va_tabs (nW_tab (List.mem_filter.mp hw).2) hv.symm (h.2.1 w hw), fun q hq => va_Nc.moved ha (h.2.2.1 q hq), va_AO.moved ha h.2.2.2⟩
/-- the frame of a walk: program, env, start, method, args, below, method's row, code, own cells, locals, end -/
abbrev Gx : Type := Program × Env × State × MethodId × Array Value × List Frame × Method × Code × (Nat → Prop) × Nat × (State → Prop)
def jC (l : Launch) (R : Room) (D : va_G) (tys : List (ClassId × FieldType)) (G : Gx) (cc : ByteArray) (nL : Nat) (own : String) : Prop :=
  match G with
  | (p, _, s, m, args, _, meth, c, A, nL', _) => p.tables.exec = Jvm.exec ∧ c.code = cc ∧ c.maxLocals = nL ∧ nL' = nL ∧ s.vm.findClass own = some m.cls ∧ (∀ w ∈ gW, w.before args s = true) ∧ jK D tys s ∧ (∀ q, s.heap.size ≤ q → A q) ∧ meth.locks = false
def J (l : Launch) (R : Room) (D : va_G) (G : Gx) (cs : Nat × Nat) (ws : va_W) (lv : List (Nat × Value)) (st : List Value) (pc : Nat) : Prop :=
  match G with
  | (p, e, s, m, args, below, meth, c, A, nL, Q) => ∀ (H : Heap) (locs : List Loc) (ls : Array Slot), va_P D vwCl ws H → va_D A ws → va_S A s.heap H locs → lv_has ls nL lv → W p l e R s m args below meth c H locs cs.1 cs.2 Q (F0 m pc ls st)
/-- what a contract says of its end: what it answers, the world behind it -/
def jQ (D : va_G) (tys : List (ClassId × FieldType)) (ret : Option Value) (ws' : va_W) (A : Nat → Prop) : Array Value → State → Outcome → State → Prop := fun _ st oc t => (oc = .returned ret ∧ va_P D vwCl ws' t.heap ∧ va_D A ws') ∧ va_F A st t
def jR (D : va_G) (tys : List (ClassId × FieldType)) (G : Gx) (cs : Nat × Nat) (rt : Option FieldType) (ret : Option Value) (ws' : va_W) : Prop :=
  match G with
  | (_, _, s, _, args, below, meth, _, A, _, Q) => meth.sig.returnType = rt ∧ Q = MQ below (jQ D tys ret ws' A) args s cs.1 cs.2 A
/-- a contract: from the world ws with the arguments av it answers ret, and the world is ws' -/
def Con (l : Launch) (D : va_G) (tys : List (ClassId × FieldType)) (y : MethodName) (wy : List Cond) (rm : Room) (av : List Value) (ws : va_W) (ret : Option Value) (ws' : va_W) : Prop :=
  ∀ sz : Nat, Met l y wy rm (va_Pc av (fun U => U.heap.size = sz ∧ va_P D vwCl ws U.heap ∧ jK D tys U ∧ va_D (fun _ => True) ws)) (jQ D tys ret ws' (va_A ws sz)) rm.cells rm.slots (va_A ws sz)
theorem Met.ofWF {l : Launch} {y : MethodName} {ws ws' : List Cond} {rm : Room} {Pc : Array Value → State → Prop} {Qc : Array Value → State → Outcome → State → Prop} {mc ms : Nat} {free : Addr → Prop} {cc : ByteArray} {maxL : Nat} {ret : Option FieldType}
    (hy : plainFor y = true) (hw : ws = Cond.code y cc maxL ret :: ws')
    (body : ∀ p e s m args below meth c s₁, BodyLoose p l y (headSpec ws rm) cc maxL ret e s m args below meth c s₁ → c.maxLocals = maxL → Pc args s →
      W p l e (headSpec ws rm).room s m args below meth c s.heap [] 0 0 (MQ below Qc args s mc ms free) (entryFrame m args maxL)) : Met l y ws rm Pc Qc mc ms free := by
  refine MetFree.of_bodySF (code := cc) (maxLocals := maxL) (ret := ret) hy ?_ ?_
  · intro args s m h hn
    obtain ⟨meth, c, h1, h2, h3, h4, h5, h6, -, -⟩ := Cond.code_spec hn (atoms_spec (ws := ws) h _ (by rw [hw]; exact List.mem_cons_self))
    exact ⟨meth, c, h1, h2, h3, h4, h5, h6⟩
  · intro p e s m args below meth c s₁ B hml hP _
    have hh0 : s₁.heap = s.heap := by rw [B.state]; rfl
    obtain ⟨t, a1, o, b1, b2, b3⟩ := body p e s m args below meth c s₁ B hml hP s₁ hh0 (Stand.of_body B)
    exact ⟨t, o, a1, b1, b2, ⟨b3.1, b3.2⟩⟩
theorem Con.of {l : Launch} {D : va_G} {tys : List (ClassId × FieldType)} {y : MethodName} {cc : ByteArray} {maxL : Nat} {rt : Option FieldType} {rm : Room} {av : List Value} {ws : va_W} {ret : Option Value} {ws' : va_W} (hy : plainFor y = true) (hn : (lg_sl av).length ≤ maxL)
    (body : ∀ G : Gx, jC l rm D tys G cc maxL y.cls → jR D tys G (rm.cells, rm.slots) rt ret ws' → J l rm D G (0, 0) ws (lv_args 0 av) [] 0) : Con l D tys y (wS y cc maxL rt) rm av ws ret ws' := by
  intro sz
  refine Met.ofWF (cc := cc) (maxL := maxL) (ret := rt) hy rfl ?_
  intro p e s m args below meth c s₁ B hml hv
  obtain ⟨rfl, hsz, hP, hK, hD0⟩ := hv
  subst hsz
  have hts := atoms_spec (ws := wS y cc maxL rt) B.pre
  have hC : jC l rm D tys (p, e, s, m, av.toArray, below, meth, c, va_A ws s.heap.size, maxL, MQ below (jQ D tys ret ws' (va_A ws s.heap.size)) av.toArray s rm.cells rm.slots (va_A ws s.heap.size)) cc maxL y.cls :=
    ⟨B.exec, B.bytes, hml, rfl, findClass_of_methodNamed B.named, fun w hw => hts w (List.mem_cons_of_mem _ hw), hK, fun q h => Or.inr h, B.notSynchronized⟩
  have h := body (p, e, s, m, av.toArray, below, meth, c, va_A ws s.heap.size, maxL, MQ below (jQ D tys ret ws' (va_A ws s.heap.size)) av.toArray s rm.cells rm.slots (va_A ws s.heap.size)) hC ⟨B.returns, rfl⟩
  rw [lg_entry_eq]
  exact h s.heap [] _ hP hD0.self va_S.rf (lv_entry av hn)
section JR
variable {l : Launch} {R : Room} {D : va_G} {tys : List (ClassId × FieldType)} {G : Gx} {cc : ByteArray} {nL : Nat} {own : String} {cs : Nat × Nat} {ws : va_W} {lv : List (Nat × Value)} {st : List Value} {pc : Nat}
theorem J.sub {lv' : List (Nat × Value)} (ks : List Nat) (h : lv_pick lv ks = lv') (k : J l R D G cs ws lv' st pc) : J l R D G cs ws lv st pc := by
  obtain ⟨p, e, s, m, args, below, meth, c, A, nL', Q⟩ := G
  exact fun H locs ls h1 h2 h3 h4 => k H locs ls h1 h2 h3 (lv_sub h4 ks h)
theorem J.widen {cs' : Nat × Nat} (h1 : cs.1 ≤ cs'.1) (h2 : cs.2 ≤ cs'.2) (k : J l R D G cs' ws lv st pc) : J l R D G cs ws lv st pc := by
  obtain ⟨p, e, s, m, args, below, meth, c, A, nL', Q⟩ := G
  exact fun H locs ls a1 a2 a3 a4 => W.widen h1 h2 (k H locs ls a1 a2 a3 a4)
theorem jC.word (C : jC l R D tys G cc nL own) {w : Cond} (h : w ∈ gW) : w.before G.2.2.2.2.1 G.2.2.1 = true := by
  obtain ⟨p, e, s, m, args, below, meth, c, A, nL', Q⟩ := G
  exact C.2.2.2.2.2.1 w h
theorem j_istore_n {k : Fin 4} {i : Nat} {x : Int32} {lv' : List (Nat × Value)} (C : jC l R D tys G cc nL own) (d : decode cc pc = .ok (.istore_n k, 1)) (hi : (k : Nat) = i) (hn : i < nL) (hl : (i, Value.int x) :: lv.filter (fun q => !(q.1 == i) && !(q.1 + 1 == i && q.2.category == 2)) = lv') (kk : J l R D G cs ws lv' st (pc + 1)) : J l R D G cs ws lv (.int x :: st) pc := by
  obtain ⟨p, e, s, m, args, below, meth, c, A, nL', Q⟩ := G
  obtain ⟨a1, a2, a3, rfl, a5⟩ := C
  exact fun H locs ls h1 h2 h3 h4 => lv_istore_n a1 a2 d hi h4 hn hl (fun ls' h => kk H locs ls' h1 h2 h3 h)
theorem j_istore {i : Nat} {x : Int32} {lv' : List (Nat × Value)} (C : jC l R D tys G cc nL own) (d : decode cc pc = .ok (.istore i, 2)) (hn : i < nL) (hl : (i, Value.int x) :: lv.filter (fun q => !(q.1 == i) && !(q.1 + 1 == i && q.2.category == 2)) = lv') (kk : J l R D G cs ws lv' st (pc + 2)) : J l R D G cs ws lv (.int x :: st) pc := by
  obtain ⟨p, e, s, m, args, below, meth, c, A, nL', Q⟩ := G
  obtain ⟨a1, a2, a3, rfl, a5⟩ := C
  exact fun H locs ls h1 h2 h3 h4 => lv_istore a1 a2 d h4 hn hl (fun ls' h => kk H locs ls' h1 h2 h3 h)
theorem j_astore_n {k : Fin 4} {i : Nat} {x : Nat} {lv' : List (Nat × Value)} (C : jC l R D tys G cc nL own) (d : decode cc pc = .ok (.astore_n k, 1)) (hi : (k : Nat) = i) (hn : i < nL) (hl : (i, Value.ref x) :: lv.filter (fun q => !(q.1 == i) && !(q.1 + 1 == i && q.2.category == 2)) = lv') (kk : J l R D G cs ws lv' st (pc + 1)) : J l R D G cs ws lv (.ref x :: st) pc := by
  obtain ⟨p, e, s, m, args, below, meth, c, A, nL', Q⟩ := G
  obtain ⟨a1, a2, a3, rfl, a5⟩ := C
  exact fun H locs ls h1 h2 h3 h4 => lv_astore_n a1 a2 d hi h4 hn hl (fun ls' h => kk H locs ls' h1 h2 h3 h)
theorem j_astore {i : Nat} {x : Nat} {lv' : List (Nat × Value)} (C : jC l R D tys G cc nL own) (d : decode cc pc = .ok (.astore i, 2)) (hn : i < nL) (hl : (i, Value.ref x) :: lv.filter (fun q => !(q.1 == i) && !(q.1 + 1 == i && q.2.category == 2)) = lv') (kk : J l R D G cs ws lv' st (pc + 2)) : J l R D G cs ws lv (.ref x :: st) pc := by
  obtain ⟨p, e, s, m, args, below, meth, c, A, nL', Q⟩ := G
  obtain ⟨a1, a2, a3, rfl, a5⟩ := C
  exact fun H locs ls h1 h2 h3 h4 => lv_astore a1 a2 d h4 hn hl (fun ls' h => kk H locs ls' h1 h2 h3 h)
theorem j_lstore_n {k : Fin 4} {i : Nat} {x : Int64} {lv' : List (Nat × Value)} (C : jC l R D tys G cc nL own) (d : decode cc pc = .ok (.lstore_n k, 1)) (hi : (k : Nat) = i) (hn : i + 1 < nL) (hl : (i, Value.long x) :: lv.filter (fun q => !(q.1 == i) && (!(q.1 == i + 1) && !(q.1 + 1 == i && q.2.category == 2))) = lv') (kk : J l R D G cs ws lv' st (pc + 1)) : J l R D G cs ws lv (.long x :: st) pc := by
  obtain ⟨p, e, s, m, args, below, meth, c, A, nL', Q⟩ := G
  obtain ⟨a1, a2, a3, rfl, a5⟩ := C
  exact fun H locs ls h1 h2 h3 h4 => lv_lstore_n a1 a2 d hi h4 hn hl (fun ls' h => kk H locs ls' h1 h2 h3 h)
theorem j_lstore {i : Nat} {x : Int64} {lv' : List (Nat × Value)} (C : jC l R D tys G cc nL own) (d : decode cc pc = .ok (.lstore i, 2)) (hn : i + 1 < nL) (hl : (i, Value.long x) :: lv.filter (fun q => !(q.1 == i) && (!(q.1 == i + 1) && !(q.1 + 1 == i && q.2.category == 2))) = lv') (kk : J l R D G cs ws lv' st (pc + 2)) : J l R D G cs ws lv (.long x :: st) pc := by
  obtain ⟨p, e, s, m, args, below, meth, c, A, nL', Q⟩ := G
  obtain ⟨a1, a2, a3, rfl, a5⟩ := C
  exact fun H locs ls h1 h2 h3 h4 => lv_lstore a1 a2 d h4 hn hl (fun ls' h => kk H locs ls' h1 h2 h3 h)
theorem j_iinc {i : Nat} {n : Int} {x v : Int32} {lv' : List (Nat × Value)} (C : jC l R D tys G cc nL own) (d : decode cc pc = .ok (.iinc i n, 3)) (k : Nat) (hk : lv[k]? = some (i, .int x)) (hv : x + Int32.ofInt n = v) (hn : i < nL) (hl : (i, Value.int v) :: lv.filter (fun q => !(q.1 == i) && !(q.1 + 1 == i && q.2.category == 2)) = lv') (kk : J l R D G cs ws lv' st (pc + 3)) : J l R D G cs ws lv st pc := by
  obtain ⟨p, e, s, m, args, below, meth, c, A, nL', Q⟩ := G
  obtain ⟨a1, a2, a3, rfl, a5⟩ := C
  exact fun H locs ls h1 h2 h3 h4 => lv_iinc a1 a2 d h4 hk hv hn hl (fun ls' h => kk H locs ls' h1 h2 h3 h)
theorem j_goto {off : Int} {tgt : Nat} (C : jC l R D tys G cc nL own) (d : decode cc pc = .ok (.goto off, 3)) (ht : (pc : Int) + off = (tgt : Int)) (kk : J l R D G cs ws lv st tgt) : J l R D G cs ws lv st pc := by
  obtain ⟨p, e, s, m, args, below, meth, c, A, nL', Q⟩ := G
  obtain ⟨a1, a2, a5⟩ := C
  exact fun H locs ls h1 h2 h3 h4 => lv_goto a1 a2 d ht (kk H locs ls h1 h2 h3 h4)
theorem j_lcmp {x y : Int64} (C : jC l R D tys G cc nL own) (d : decode cc pc = .ok (.lcmp, 1)) (kk : J l R D G cs ws lv (.int (lg_cmp x y) :: st) (pc + 1)) : J l R D G cs ws lv (.long y :: .long x :: st) pc := by
  obtain ⟨p, e, s, m, args, below, meth, c, A, nL', Q⟩ := G
  obtain ⟨a1, a2, a5⟩ := C
  exact fun H locs ls h1 h2 h3 h4 => W.lcmp a1 a2 d (kk H locs ls h1 h2 h3 h4)
theorem j_ldc {index : Nat} {v : Int32} (C : jC l R D tys G cc nL own) (d : decode cc pc = .ok (.ldc index, 2)) (hw : Cond.constant own index v ∈ gW) (kk : J l R D G cs ws lv (.int v :: st) (pc + 2)) : J l R D G cs ws lv st pc := by
  obtain ⟨p, e, s, m, args, below, meth, c, A, nL', Q⟩ := G
  obtain ⟨a1, a2, a3, a4, a5, a6, a7⟩ := C
  exact fun H locs ls h1 h2 h3 h4 => lv_ldc a1 a2 a5 (a6 _ hw) d (kk H locs ls h1 h2 h3 h4)
theorem j_ldc2 {index : Nat} {v : Int64} (C : jC l R D tys G cc nL own) (d : decode cc pc = .ok (.ldc2_w index, 3)) (hw : Cond.constantLong own index v ∈ gW) (kk : J l R D G cs ws lv (.long v :: st) (pc + 3)) : J l R D G cs ws lv st pc := by
  obtain ⟨p, e, s, m, args, below, meth, c, A, nL', Q⟩ := G
  obtain ⟨a1, a2, a3, a4, a5, a6, a7⟩ := C
  exact fun H locs ls h1 h2 h3 h4 => lv_ldc2 a1 a2 a5 (a6 _ hw) d (kk H locs ls h1 h2 h3 h4)
theorem j_iconst {n : Int} {v : Int32} (C : jC l R D tys G cc nL own) (d : decode cc pc = .ok (.iconst n, 1)) (hv : Int32.ofInt n = v) (kk : J l R D G cs ws lv (.int v :: st) (pc + 1)) : J l R D G cs ws lv (st) pc := by
  obtain ⟨p, e, s, m, args, below, meth, c, A, nL', Q⟩ := G
  obtain ⟨a1, a2, a5⟩ := C
  exact fun H locs ls h1 h2 h3 h4 => lv_iconst a1 a2 d hv (kk H locs ls h1 h2 h3 h4)
theorem j_bipush {n : Int} {v : Int32} (C : jC l R D tys G cc nL own) (d : decode cc pc = .ok (.bipush n, 2)) (hv : (Int8.ofInt n).toInt32 = v) (kk : J l R D G cs ws lv (.int v :: st) (pc + 2)) : J l R D G cs ws lv (st) pc := by
  obtain ⟨p, e, s, m, args, below, meth, c, A, nL', Q⟩ := G
  obtain ⟨a1, a2, a5⟩ := C
  exact fun H locs ls h1 h2 h3 h4 => lv_bipush a1 a2 d hv (kk H locs ls h1 h2 h3 h4)
theorem j_sipush {n : Int} {v : Int32} (C : jC l R D tys G cc nL own) (d : decode cc pc = .ok (.sipush n, 3)) (hv : (Int16.ofInt n).toInt32 = v) (kk : J l R D G cs ws lv (.int v :: st) (pc + 3)) : J l R D G cs ws lv (st) pc := by
  obtain ⟨p, e, s, m, args, below, meth, c, A, nL', Q⟩ := G
  obtain ⟨a1, a2, a5⟩ := C
  exact fun H locs ls h1 h2 h3 h4 => lv_sipush a1 a2 d hv (kk H locs ls h1 h2 h3 h4)
theorem j_lconst {n : Fin 2} {v : Int64} (C : jC l R D tys G cc nL own) (d : decode cc pc = .ok (.lconst n, 1)) (hv : Int64.ofNat (n : Nat) = v) (kk : J l R D G cs ws lv (.long v :: st) (pc + 1)) : J l R D G cs ws lv (st) pc := by
  obtain ⟨p, e, s, m, args, below, meth, c, A, nL', Q⟩ := G
  obtain ⟨a1, a2, a5⟩ := C
  exact fun H locs ls h1 h2 h3 h4 => lv_lconst a1 a2 d hv (kk H locs ls h1 h2 h3 h4)
theorem j_iload_n {k : Fin 4} {i : Nat} {x : Int32} (C : jC l R D tys G cc nL own) (d : decode cc pc = .ok (.iload_n k, 1)) (hi : (k : Nat) = i) (j : Nat) (hl : lv[j]? = some (i, .int x)) (kk : J l R D G cs ws lv (.int x :: st) (pc + 1)) : J l R D G cs ws lv (st) pc := by
  obtain ⟨p, e, s, m, args, below, meth, c, A, nL', Q⟩ := G
  obtain ⟨a1, a2, a5⟩ := C
  exact fun H locs ls h1 h2 h3 h4 => lv_iload_n a1 a2 d hi (lv_at h4 j hl) (kk H locs ls h1 h2 h3 h4)
theorem j_iload {i : Nat} {x : Int32} (C : jC l R D tys G cc nL own) (d : decode cc pc = .ok (.iload i, 2)) (j : Nat) (hl : lv[j]? = some (i, .int x)) (kk : J l R D G cs ws lv (.int x :: st) (pc + 2)) : J l R D G cs ws lv (st) pc := by
  obtain ⟨p, e, s, m, args, below, meth, c, A, nL', Q⟩ := G
  obtain ⟨a1, a2, a5⟩ := C
  exact fun H locs ls h1 h2 h3 h4 => lv_iload a1 a2 d (lv_at h4 j hl) (kk H locs ls h1 h2 h3 h4)
theorem j_lload_n {k : Fin 4} {i : Nat} {x : Int64} (C : jC l R D tys G cc nL own) (d : decode cc pc = .ok (.lload_n k, 1)) (hi : (k : Nat) = i) (j : Nat) (hl : lv[j]? = some (i, .long x)) (kk : J l R D G cs ws lv (.long x :: st) (pc + 1)) : J l R D G cs ws lv (st) pc := by
  obtain ⟨p, e, s, m, args, below, meth, c, A, nL', Q⟩ := G
  obtain ⟨a1, a2, a5⟩ := C
  exact fun H locs ls h1 h2 h3 h4 => lv_lload_n a1 a2 d hi (lv_at h4 j hl) (kk H locs ls h1 h2 h3 h4)
theorem j_lload {i : Nat} {x : Int64} (C : jC l R D tys G cc nL own) (d : decode cc pc = .ok (.lload i, 2)) (j : Nat) (hl : lv[j]? = some (i, .long x)) (kk : J l R D G cs ws lv (.long x :: st) (pc + 2)) : J l R D G cs ws lv (st) pc := by
  obtain ⟨p, e, s, m, args, below, meth, c, A, nL', Q⟩ := G
  obtain ⟨a1, a2, a5⟩ := C
  exact fun H locs ls h1 h2 h3 h4 => lv_lload a1 a2 d (lv_at h4 j hl) (kk H locs ls h1 h2 h3 h4)
theorem j_aload_n {k : Fin 4} {i : Nat} {x : Nat} (C : jC l R D tys G cc nL own) (d : decode cc pc = .ok (.aload_n k, 1)) (hi : (k : Nat) = i) (j : Nat) (hl : lv[j]? = some (i, .ref x)) (kk : J l R D G cs ws lv (.ref x :: st) (pc + 1)) : J l R D G cs ws lv (st) pc := by
  obtain ⟨p, e, s, m, args, below, meth, c, A, nL', Q⟩ := G
  obtain ⟨a1, a2, a5⟩ := C
  exact fun H locs ls h1 h2 h3 h4 => lv_aload_n a1 a2 d hi (lv_at h4 j hl) (kk H locs ls h1 h2 h3 h4)
theorem j_aload {i : Nat} {x : Nat} (C : jC l R D tys G cc nL own) (d : decode cc pc = .ok (.aload i, 2)) (j : Nat) (hl : lv[j]? = some (i, .ref x)) (kk : J l R D G cs ws lv (.ref x :: st) (pc + 2)) : J l R D G cs ws lv (st) pc := by
  obtain ⟨p, e, s, m, args, below, meth, c, A, nL', Q⟩ := G
  obtain ⟨a1, a2, a5⟩ := C
  exact fun H locs ls h1 h2 h3 h4 => lv_aload a1 a2 d (lv_at h4 j hl) (kk H locs ls h1 h2 h3 h4)
theorem j_iadd {x y : Int32} (C : jC l R D tys G cc nL own) (d : decode cc pc = .ok (.iadd, 1))  (kk : J l R D G cs ws lv (.int (x + y) :: st) (pc + 1)) : J l R D G cs ws lv (.int y :: .int x :: st) pc := by
  obtain ⟨p, e, s, m, args, below, meth, c, A, nL', Q⟩ := G
  obtain ⟨a1, a2, a5⟩ := C
  exact fun H locs ls h1 h2 h3 h4 => lv_iadd a1 a2 d  (kk H locs ls h1 h2 h3 h4)
theorem j_isub {x y : Int32} (C : jC l R D tys G cc nL own) (d : decode cc pc = .ok (.isub, 1))  (kk : J l R D G cs ws lv (.int (x - y) :: st) (pc + 1)) : J l R D G cs ws lv (.int y :: .int x :: st) pc := by
  obtain ⟨p, e, s, m, args, below, meth, c, A, nL', Q⟩ := G
  obtain ⟨a1, a2, a5⟩ := C
  exact fun H locs ls h1 h2 h3 h4 => lv_isub a1 a2 d  (kk H locs ls h1 h2 h3 h4)
theorem j_imul {x y : Int32} (C : jC l R D tys G cc nL own) (d : decode cc pc = .ok (.imul, 1))  (kk : J l R D G cs ws lv (.int (x * y) :: st) (pc + 1)) : J l R D G cs ws lv (.int y :: .int x :: st) pc := by
  obtain ⟨p, e, s, m, args, below, meth, c, A, nL', Q⟩ := G
  obtain ⟨a1, a2, a5⟩ := C
  exact fun H locs ls h1 h2 h3 h4 => lv_imul a1 a2 d  (kk H locs ls h1 h2 h3 h4)
theorem j_iand {x y : Int32} (C : jC l R D tys G cc nL own) (d : decode cc pc = .ok (.iand, 1))  (kk : J l R D G cs ws lv (.int (x &&& y) :: st) (pc + 1)) : J l R D G cs ws lv (.int y :: .int x :: st) pc := by
  obtain ⟨p, e, s, m, args, below, meth, c, A, nL', Q⟩ := G
  obtain ⟨a1, a2, a5⟩ := C
  exact fun H locs ls h1 h2 h3 h4 => lv_iand a1 a2 d  (kk H locs ls h1 h2 h3 h4)
theorem j_ior {x y : Int32} (C : jC l R D tys G cc nL own) (d : decode cc pc = .ok (.ior, 1))  (kk : J l R D G cs ws lv (.int (x ||| y) :: st) (pc + 1)) : J l R D G cs ws lv (.int y :: .int x :: st) pc := by
  obtain ⟨p, e, s, m, args, below, meth, c, A, nL', Q⟩ := G
  obtain ⟨a1, a2, a5⟩ := C
  exact fun H locs ls h1 h2 h3 h4 => lv_ior a1 a2 d  (kk H locs ls h1 h2 h3 h4)
theorem j_ixor {x y : Int32} (C : jC l R D tys G cc nL own) (d : decode cc pc = .ok (.ixor, 1))  (kk : J l R D G cs ws lv (.int (x ^^^ y) :: st) (pc + 1)) : J l R D G cs ws lv (.int y :: .int x :: st) pc := by
  obtain ⟨p, e, s, m, args, below, meth, c, A, nL', Q⟩ := G
  obtain ⟨a1, a2, a5⟩ := C
  exact fun H locs ls h1 h2 h3 h4 => lv_ixor a1 a2 d  (kk H locs ls h1 h2 h3 h4)
theorem j_ishl {x y : Int32} (C : jC l R D tys G cc nL own) (d : decode cc pc = .ok (.ishl, 1))  (kk : J l R D G cs ws lv (.int (x <<< (y &&& 31)) :: st) (pc + 1)) : J l R D G cs ws lv (.int y :: .int x :: st) pc := by
  obtain ⟨p, e, s, m, args, below, meth, c, A, nL', Q⟩ := G
  obtain ⟨a1, a2, a5⟩ := C
  exact fun H locs ls h1 h2 h3 h4 => lv_ishl a1 a2 d  (kk H locs ls h1 h2 h3 h4)
theorem j_ishr {x y : Int32} (C : jC l R D tys G cc nL own) (d : decode cc pc = .ok (.ishr, 1))  (kk : J l R D G cs ws lv (.int (x >>> (y &&& 31)) :: st) (pc + 1)) : J l R D G cs ws lv (.int y :: .int x :: st) pc := by
  obtain ⟨p, e, s, m, args, below, meth, c, A, nL', Q⟩ := G
  obtain ⟨a1, a2, a5⟩ := C
  exact fun H locs ls h1 h2 h3 h4 => lv_ishr a1 a2 d  (kk H locs ls h1 h2 h3 h4)
theorem j_idiv {x y : Int32} (C : jC l R D tys G cc nL own) (d : decode cc pc = .ok (.idiv, 1)) (hne : ¬ y = 0) (kk : J l R D G cs ws lv (.int (x / y) :: st) (pc + 1)) : J l R D G cs ws lv (.int y :: .int x :: st) pc := by
  obtain ⟨p, e, s, m, args, below, meth, c, A, nL', Q⟩ := G
  obtain ⟨a1, a2, a5⟩ := C
  exact fun H locs ls h1 h2 h3 h4 => lv_idiv a1 a2 d hne (kk H locs ls h1 h2 h3 h4)
theorem j_irem {x y : Int32} (C : jC l R D tys G cc nL own) (d : decode cc pc = .ok (.irem, 1)) (hne : ¬ y = 0) (kk : J l R D G cs ws lv (.int (x - x / y * y) :: st) (pc + 1)) : J l R D G cs ws lv (.int y :: .int x :: st) pc := by
  obtain ⟨p, e, s, m, args, below, meth, c, A, nL', Q⟩ := G
  obtain ⟨a1, a2, a5⟩ := C
  exact fun H locs ls h1 h2 h3 h4 => lv_irem a1 a2 d hne (kk H locs ls h1 h2 h3 h4)
theorem j_ladd {x y : Int64} (C : jC l R D tys G cc nL own) (d : decode cc pc = .ok (.ladd, 1))  (kk : J l R D G cs ws lv (.long (x + y) :: st) (pc + 1)) : J l R D G cs ws lv (.long y :: .long x :: st) pc := by
  obtain ⟨p, e, s, m, args, below, meth, c, A, nL', Q⟩ := G
  obtain ⟨a1, a2, a5⟩ := C
  exact fun H locs ls h1 h2 h3 h4 => lv_ladd a1 a2 d  (kk H locs ls h1 h2 h3 h4)
theorem j_lsub {x y : Int64} (C : jC l R D tys G cc nL own) (d : decode cc pc = .ok (.lsub, 1))  (kk : J l R D G cs ws lv (.long (x - y) :: st) (pc + 1)) : J l R D G cs ws lv (.long y :: .long x :: st) pc := by
  obtain ⟨p, e, s, m, args, below, meth, c, A, nL', Q⟩ := G
  obtain ⟨a1, a2, a5⟩ := C
  exact fun H locs ls h1 h2 h3 h4 => lv_lsub a1 a2 d  (kk H locs ls h1 h2 h3 h4)
theorem j_lmul {x y : Int64} (C : jC l R D tys G cc nL own) (d : decode cc pc = .ok (.lmul, 1))  (kk : J l R D G cs ws lv (.long (x * y) :: st) (pc + 1)) : J l R D G cs ws lv (.long y :: .long x :: st) pc := by
  obtain ⟨p, e, s, m, args, below, meth, c, A, nL', Q⟩ := G
  obtain ⟨a1, a2, a5⟩ := C
  exact fun H locs ls h1 h2 h3 h4 => lv_lmul a1 a2 d  (kk H locs ls h1 h2 h3 h4)
theorem j_land {x y : Int64} (C : jC l R D tys G cc nL own) (d : decode cc pc = .ok (.land, 1))  (kk : J l R D G cs ws lv (.long (x &&& y) :: st) (pc + 1)) : J l R D G cs ws lv (.long y :: .long x :: st) pc := by
  obtain ⟨p, e, s, m, args, below, meth, c, A, nL', Q⟩ := G
  obtain ⟨a1, a2, a5⟩ := C
  exact fun H locs ls h1 h2 h3 h4 => lv_land a1 a2 d  (kk H locs ls h1 h2 h3 h4)
theorem j_lor {x y : Int64} (C : jC l R D tys G cc nL own) (d : decode cc pc = .ok (.lor, 1))  (kk : J l R D G cs ws lv (.long (x ||| y) :: st) (pc + 1)) : J l R D G cs ws lv (.long y :: .long x :: st) pc := by
  obtain ⟨p, e, s, m, args, below, meth, c, A, nL', Q⟩ := G
  obtain ⟨a1, a2, a5⟩ := C
  exact fun H locs ls h1 h2 h3 h4 => lv_lor a1 a2 d  (kk H locs ls h1 h2 h3 h4)
theorem j_ldiv {x y : Int64} (C : jC l R D tys G cc nL own) (d : decode cc pc = .ok (.ldiv, 1)) (hne : ¬ y = 0) (kk : J l R D G cs ws lv (.long (x / y) :: st) (pc + 1)) : J l R D G cs ws lv (.long y :: .long x :: st) pc := by
  obtain ⟨p, e, s, m, args, below, meth, c, A, nL', Q⟩ := G
  obtain ⟨a1, a2, a5⟩ := C
  exact fun H locs ls h1 h2 h3 h4 => lv_ldiv a1 a2 d hne (kk H locs ls h1 h2 h3 h4)
theorem j_lrem {x y : Int64} (C : jC l R D tys G cc nL own) (d : decode cc pc = .ok (.lrem, 1)) (hne : ¬ y = 0) (kk : J l R D G cs ws lv (.long (x - x / y * y) :: st) (pc + 1)) : J l R D G cs ws lv (.long y :: .long x :: st) pc := by
  obtain ⟨p, e, s, m, args, below, meth, c, A, nL', Q⟩ := G
  obtain ⟨a1, a2, a5⟩ := C
  exact fun H locs ls h1 h2 h3 h4 => lv_lrem a1 a2 d hne (kk H locs ls h1 h2 h3 h4)
theorem j_lshl {x : Int64} {y : Int32} (C : jC l R D tys G cc nL own) (d : decode cc pc = .ok (.lshl, 1))  (kk : J l R D G cs ws lv (.long (x <<< (y.toInt64 &&& 63)) :: st) (pc + 1)) : J l R D G cs ws lv (.int y :: .long x :: st) pc := by
  obtain ⟨p, e, s, m, args, below, meth, c, A, nL', Q⟩ := G
  obtain ⟨a1, a2, a5⟩ := C
  exact fun H locs ls h1 h2 h3 h4 => lv_lshl a1 a2 d rfl (kk H locs ls h1 h2 h3 h4)
theorem j_lushr {x : Int64} {y : Int32} (C : jC l R D tys G cc nL own) (d : decode cc pc = .ok (.lushr, 1))  (kk : J l R D G cs ws lv (.long ((x.toUInt64 >>> (y.toInt64.toUInt64 &&& Int64.toUInt64 63)).toInt64) :: st) (pc + 1)) : J l R D G cs ws lv (.int y :: .long x :: st) pc := by
  obtain ⟨p, e, s, m, args, below, meth, c, A, nL', Q⟩ := G
  obtain ⟨a1, a2, a5⟩ := C
  exact fun H locs ls h1 h2 h3 h4 => lv_lushr a1 a2 d rfl (kk H locs ls h1 h2 h3 h4)
theorem j_i2l {x : Int32} (C : jC l R D tys G cc nL own) (d : decode cc pc = .ok (.i2l, 1))  (kk : J l R D G cs ws lv (.long x.toInt64 :: st) (pc + 1)) : J l R D G cs ws lv (.int x :: st) pc := by
  obtain ⟨p, e, s, m, args, below, meth, c, A, nL', Q⟩ := G
  obtain ⟨a1, a2, a5⟩ := C
  exact fun H locs ls h1 h2 h3 h4 => lv_i2l a1 a2 d rfl (kk H locs ls h1 h2 h3 h4)
theorem j_l2i {x : Int64} (C : jC l R D tys G cc nL own) (d : decode cc pc = .ok (.l2i, 1))  (kk : J l R D G cs ws lv (.int x.toInt32 :: st) (pc + 1)) : J l R D G cs ws lv (.long x :: st) pc := by
  obtain ⟨p, e, s, m, args, below, meth, c, A, nL', Q⟩ := G
  obtain ⟨a1, a2, a5⟩ := C
  exact fun H locs ls h1 h2 h3 h4 => lv_l2i a1 a2 d rfl (kk H locs ls h1 h2 h3 h4)
theorem j_dup {va : Value} (C : jC l R D tys G cc nL own) (d : decode cc pc = .ok (.dup, 1)) (hva : va.category = 1) (kk : J l R D G cs ws lv (va :: va :: st) (pc + 1)) : J l R D G cs ws lv (va :: st) pc := by
  obtain ⟨p, e, s, m, args, below, meth, c, A, nL', Q⟩ := G
  obtain ⟨a1, a2, a5⟩ := C
  exact fun H locs ls h1 h2 h3 h4 => lv_dup a1 a2 d hva (kk H locs ls h1 h2 h3 h4)
theorem j_pop {va : Value} (C : jC l R D tys G cc nL own) (d : decode cc pc = .ok (.pop, 1)) (hva : va.category = 1) (kk : J l R D G cs ws lv (st) (pc + 1)) : J l R D G cs ws lv (va :: st) pc := by
  obtain ⟨p, e, s, m, args, below, meth, c, A, nL', Q⟩ := G
  obtain ⟨a1, a2, a5⟩ := C
  exact fun H locs ls h1 h2 h3 h4 => lv_pop a1 a2 d hva (kk H locs ls h1 h2 h3 h4)
theorem j_dup_x1 {va vb : Value} (C : jC l R D tys G cc nL own) (d : decode cc pc = .ok (.dup_x1, 1)) (hva : va.category = 1) (hvb : vb.category = 1) (kk : J l R D G cs ws lv (va :: vb :: va :: st) (pc + 1)) : J l R D G cs ws lv (va :: vb :: st) pc := by
  obtain ⟨p, e, s, m, args, below, meth, c, A, nL', Q⟩ := G
  obtain ⟨a1, a2, a5⟩ := C
  exact fun H locs ls h1 h2 h3 h4 => lv_dup_x1 a1 a2 d hva hvb (kk H locs ls h1 h2 h3 h4)
theorem j_dup2_11 {va vb : Value} (C : jC l R D tys G cc nL own) (d : decode cc pc = .ok (.dup2, 1)) (hva : va.category = 1) (hvb : vb.category = 1) (kk : J l R D G cs ws lv (va :: vb :: va :: vb :: st) (pc + 1)) : J l R D G cs ws lv (va :: vb :: st) pc := by
  obtain ⟨p, e, s, m, args, below, meth, c, A, nL', Q⟩ := G
  obtain ⟨a1, a2, a5⟩ := C
  exact fun H locs ls h1 h2 h3 h4 => lv_dup2_11 a1 a2 d hva hvb (kk H locs ls h1 h2 h3 h4)
theorem j_icmp_eq {x y : Int32} {off : Int} {tgt : Nat} (C : jC l R D tys G cc nL own) (d : decode cc pc = .ok (.if_icmp .eq off, 3)) (ht : (pc : Int) + off = (tgt : Int)) (kt : x = y → J l R D G cs ws lv st tgt) (kf : ¬ x = y → J l R D G cs ws lv st (pc + 3)) : J l R D G cs ws lv (.int y :: .int x :: st) pc := by
  obtain ⟨p, e, s, m, args, below, meth, c, A, nL', Q⟩ := G
  obtain ⟨a1, a2, a5⟩ := C
  exact fun H locs ls h1 h2 h3 h4 => lv_icmp_eq a1 a2 d ht (fun q => kt q H locs ls h1 h2 h3 h4) (fun q => kf q H locs ls h1 h2 h3 h4)
theorem j_if_eq {x : Int32} {off : Int} {tgt : Nat} (C : jC l R D tys G cc nL own) (d : decode cc pc = .ok (.ifCond .eq off, 3)) (ht : (pc : Int) + off = (tgt : Int)) (kt : x = 0 → J l R D G cs ws lv st tgt) (kf : ¬ x = 0 → J l R D G cs ws lv st (pc + 3)) : J l R D G cs ws lv (.int x :: st) pc := by
  obtain ⟨p, e, s, m, args, below, meth, c, A, nL', Q⟩ := G
  obtain ⟨a1, a2, a5⟩ := C
  exact fun H locs ls h1 h2 h3 h4 => lv_if_eq a1 a2 d ht (fun q => kt q H locs ls h1 h2 h3 h4) (fun q => kf q H locs ls h1 h2 h3 h4)
theorem j_icmp_ne {x y : Int32} {off : Int} {tgt : Nat} (C : jC l R D tys G cc nL own) (d : decode cc pc = .ok (.if_icmp .ne off, 3)) (ht : (pc : Int) + off = (tgt : Int)) (kt : ¬ x = y → J l R D G cs ws lv st tgt) (kf : x = y → J l R D G cs ws lv st (pc + 3)) : J l R D G cs ws lv (.int y :: .int x :: st) pc := by
  obtain ⟨p, e, s, m, args, below, meth, c, A, nL', Q⟩ := G
  obtain ⟨a1, a2, a5⟩ := C
  exact fun H locs ls h1 h2 h3 h4 => lv_icmp_ne a1 a2 d ht (fun q => kt q H locs ls h1 h2 h3 h4) (fun q => kf q H locs ls h1 h2 h3 h4)
theorem j_if_ne {x : Int32} {off : Int} {tgt : Nat} (C : jC l R D tys G cc nL own) (d : decode cc pc = .ok (.ifCond .ne off, 3)) (ht : (pc : Int) + off = (tgt : Int)) (kt : ¬ x = 0 → J l R D G cs ws lv st tgt) (kf : x = 0 → J l R D G cs ws lv st (pc + 3)) : J l R D G cs ws lv (.int x :: st) pc := by
  obtain ⟨p, e, s, m, args, below, meth, c, A, nL', Q⟩ := G
  obtain ⟨a1, a2, a5⟩ := C
  exact fun H locs ls h1 h2 h3 h4 => lv_if_ne a1 a2 d ht (fun q => kt q H locs ls h1 h2 h3 h4) (fun q => kf q H locs ls h1 h2 h3 h4)
theorem j_icmp_lt {x y : Int32} {off : Int} {tgt : Nat} (C : jC l R D tys G cc nL own) (d : decode cc pc = .ok (.if_icmp .lt off, 3)) (ht : (pc : Int) + off = (tgt : Int)) (kt : x < y → J l R D G cs ws lv st tgt) (kf : ¬ x < y → J l R D G cs ws lv st (pc + 3)) : J l R D G cs ws lv (.int y :: .int x :: st) pc := by
  obtain ⟨p, e, s, m, args, below, meth, c, A, nL', Q⟩ := G
  obtain ⟨a1, a2, a5⟩ := C
  exact fun H locs ls h1 h2 h3 h4 => lv_icmp_lt a1 a2 d ht (fun q => kt q H locs ls h1 h2 h3 h4) (fun q => kf q H locs ls h1 h2 h3 h4)
theorem j_if_lt {x : Int32} {off : Int} {tgt : Nat} (C : jC l R D tys G cc nL own) (d : decode cc pc = .ok (.ifCond .lt off, 3)) (ht : (pc : Int) + off = (tgt : Int)) (kt : x < 0 → J l R D G cs ws lv st tgt) (kf : ¬ x < 0 → J l R D G cs ws lv st (pc + 3)) : J l R D G cs ws lv (.int x :: st) pc := by
  obtain ⟨p, e, s, m, args, below, meth, c, A, nL', Q⟩ := G
  obtain ⟨a1, a2, a5⟩ := C
  exact fun H locs ls h1 h2 h3 h4 => lv_if_lt a1 a2 d ht (fun q => kt q H locs ls h1 h2 h3 h4) (fun q => kf q H locs ls h1 h2 h3 h4)
theorem j_icmp_ge {x y : Int32} {off : Int} {tgt : Nat} (C : jC l R D tys G cc nL own) (d : decode cc pc = .ok (.if_icmp .ge off, 3)) (ht : (pc : Int) + off = (tgt : Int)) (kt : y ≤ x → J l R D G cs ws lv st tgt) (kf : ¬ y ≤ x → J l R D G cs ws lv st (pc + 3)) : J l R D G cs ws lv (.int y :: .int x :: st) pc := by
  obtain ⟨p, e, s, m, args, below, meth, c, A, nL', Q⟩ := G
  obtain ⟨a1, a2, a5⟩ := C
  exact fun H locs ls h1 h2 h3 h4 => lv_icmp_ge a1 a2 d ht (fun q => kt q H locs ls h1 h2 h3 h4) (fun q => kf q H locs ls h1 h2 h3 h4)
theorem j_if_ge {x : Int32} {off : Int} {tgt : Nat} (C : jC l R D tys G cc nL own) (d : decode cc pc = .ok (.ifCond .ge off, 3)) (ht : (pc : Int) + off = (tgt : Int)) (kt : 0 ≤ x → J l R D G cs ws lv st tgt) (kf : ¬ 0 ≤ x → J l R D G cs ws lv st (pc + 3)) : J l R D G cs ws lv (.int x :: st) pc := by
  obtain ⟨p, e, s, m, args, below, meth, c, A, nL', Q⟩ := G
  obtain ⟨a1, a2, a5⟩ := C
  exact fun H locs ls h1 h2 h3 h4 => lv_if_ge a1 a2 d ht (fun q => kt q H locs ls h1 h2 h3 h4) (fun q => kf q H locs ls h1 h2 h3 h4)
theorem j_icmp_gt {x y : Int32} {off : Int} {tgt : Nat} (C : jC l R D tys G cc nL own) (d : decode cc pc = .ok (.if_icmp .gt off, 3)) (ht : (pc : Int) + off = (tgt : Int)) (kt : y < x → J l R D G cs ws lv st tgt) (kf : ¬ y < x → J l R D G cs ws lv st (pc + 3)) : J l R D G cs ws lv (.int y :: .int x :: st) pc := by
  obtain ⟨p, e, s, m, args, below, meth, c, A, nL', Q⟩ := G
  obtain ⟨a1, a2, a5⟩ := C
  exact fun H locs ls h1 h2 h3 h4 => lv_icmp_gt a1 a2 d ht (fun q => kt q H locs ls h1 h2 h3 h4) (fun q => kf q H locs ls h1 h2 h3 h4)
theorem j_if_gt {x : Int32} {off : Int} {tgt : Nat} (C : jC l R D tys G cc nL own) (d : decode cc pc = .ok (.ifCond .gt off, 3)) (ht : (pc : Int) + off = (tgt : Int)) (kt : 0 < x → J l R D G cs ws lv st tgt) (kf : ¬ 0 < x → J l R D G cs ws lv st (pc + 3)) : J l R D G cs ws lv (.int x :: st) pc := by
  obtain ⟨p, e, s, m, args, below, meth, c, A, nL', Q⟩ := G
  obtain ⟨a1, a2, a5⟩ := C
  exact fun H locs ls h1 h2 h3 h4 => lv_if_gt a1 a2 d ht (fun q => kt q H locs ls h1 h2 h3 h4) (fun q => kf q H locs ls h1 h2 h3 h4)
theorem j_icmp_le {x y : Int32} {off : Int} {tgt : Nat} (C : jC l R D tys G cc nL own) (d : decode cc pc = .ok (.if_icmp .le off, 3)) (ht : (pc : Int) + off = (tgt : Int)) (kt : x ≤ y → J l R D G cs ws lv st tgt) (kf : ¬ x ≤ y → J l R D G cs ws lv st (pc + 3)) : J l R D G cs ws lv (.int y :: .int x :: st) pc := by
  obtain ⟨p, e, s, m, args, below, meth, c, A, nL', Q⟩ := G
  obtain ⟨a1, a2, a5⟩ := C
  exact fun H locs ls h1 h2 h3 h4 => lv_icmp_le a1 a2 d ht (fun q => kt q H locs ls h1 h2 h3 h4) (fun q => kf q H locs ls h1 h2 h3 h4)
theorem j_if_le {x : Int32} {off : Int} {tgt : Nat} (C : jC l R D tys G cc nL own) (d : decode cc pc = .ok (.ifCond .le off, 3)) (ht : (pc : Int) + off = (tgt : Int)) (kt : x ≤ 0 → J l R D G cs ws lv st tgt) (kf : ¬ x ≤ 0 → J l R D G cs ws lv st (pc + 3)) : J l R D G cs ws lv (.int x :: st) pc := by
  obtain ⟨p, e, s, m, args, below, meth, c, A, nL', Q⟩ := G
  obtain ⟨a1, a2, a5⟩ := C
  exact fun H locs ls h1 h2 h3 h4 => lv_if_le a1 a2 d ht (fun q => kt q H locs ls h1 h2 h3 h4) (fun q => kf q H locs ls h1 h2 h3 h4)
theorem j_tableIn {dflt lo hi : Int} {offs : Array Int} {len : Nat} {x : Int32} {off : Int} {tgt : Nat} (C : jC l R D tys G cc nL own) (d : decode cc pc = .ok (.tableswitch dflt lo hi offs, len)) (h1 : ¬ x.toInt < lo) (h2 : ¬ hi < x.toInt) (ho : offs[(x.toInt - lo).toNat]? = some off) (ht : (pc : Int) + off = (tgt : Int)) (kk : J l R D G cs ws lv st tgt) : J l R D G cs ws lv (.int x :: st) pc := by
  obtain ⟨p, e, s, m, args, below, meth, c, A, nL', Q⟩ := G
  obtain ⟨a1, a2, a5⟩ := C
  exact fun H locs ls g1 g2 g3 g4 => lv_tableIn a1 a2 d h1 h2 ho ht (kk H locs ls g1 g2 g3 g4)
theorem j_tableOut {dflt lo hi : Int} {offs : Array Int} {len : Nat} {x : Int32} {tgt : Nat} (C : jC l R D tys G cc nL own) (d : decode cc pc = .ok (.tableswitch dflt lo hi offs, len)) (h : x.toInt < lo ∨ hi < x.toInt) (ht : (pc : Int) + dflt = (tgt : Int)) (kk : J l R D G cs ws lv st tgt) : J l R D G cs ws lv (.int x :: st) pc := by
  obtain ⟨p, e, s, m, args, below, meth, c, A, nL', Q⟩ := G
  obtain ⟨a1, a2, a5⟩ := C
  exact fun H locs ls g1 g2 g3 g4 => lv_tableOut a1 a2 d h ht (kk H locs ls g1 g2 g3 g4)
theorem j_get {ref : String} {Cn : String} {T : u_T} {N ci index a : Nat} {fs : List Value} {v : Value} (C : jC l R D tys G cc nL own) (hin : ∀ w ∈ u_ws Cn T N, w ∈ gW) (q0 : Nat) (he : ws[q0]? = some (a, .inr (ci, fs))) (hc : vwCl[ci]? = some (Cn, T, N)) (k : Nat) (hk : k < N) (hlink : Cond.fieldLink own index ref (T k).2.1 (T k).2.2.1 ∈ gW) (hsame : (T k).1 = ref) (hv : fs[k]? = some v) (d : decode cc pc = .ok (.getfield index, 3)) (kk : J l R D G cs ws lv (v :: st) (pc + 3)) : J l R D G cs ws lv (.ref a :: st) pc := by
  obtain ⟨p, e, s, m, args, below, meth, c, A, nL', Q⟩ := G
  obtain ⟨a1, a2, a3, a4, a5, a6, a7, a8⟩ := C
  subst hsame
  exact fun H locs ls g1 g2 g3 g4 => va_get a1 a2 a6 hin a5 a7.1 g1 q0 he hc k hk (a6 _ hlink) (fun _ h => h) hv d (kk H locs ls g1 g2 g3 g4)
theorem j_put {ref : String} {Cn : String} {T : u_T} {N ci index a : Nat} {fs : List Value} {v : Value} {ws' : va_W} {ty : FieldType} (C : jC l R D tys G cc nL own) (hin : ∀ w ∈ u_ws Cn T N, w ∈ gW) (ty0 : Nat → FieldType) (hty : ∀ k, k < N → parseFieldDescriptor (T k).2.2.1 = some (ty0 k)) (hnm : ∀ a, a < N → ∀ b, b < N → a ≠ b → (T a).2.1 ≠ (T b).2.1) (q0 : Nat) (he : ws[q0]? = some (a, .inr (ci, fs))) (hc : vwCl[ci]? = some (Cn, T, N)) (k : Nat) (hk : k < N) (hlink : Cond.fieldLink own index ref (T k).2.1 (T k).2.2.1 ∈ gW) (hsame : (T k).1 = ref) (hfin : (T k).2.2.2 = false) (hd : parseFieldDescriptor (T k).2.2.1 = some ty) (hn : narrow ty v = v) (hfit : fits ty v = true) (hl : k < fs.length) (hw : ws.set q0 (a, .inr (ci, fs.set k v)) = ws') (d : decode cc pc = .ok (.putfield index, 3)) (kk : J l R D G cs ws' lv st (pc + 3)) : J l R D G cs ws lv (v :: .ref a :: st) pc := by
  obtain ⟨p, e, s, m, args, below, meth, c, A, nL', Q⟩ := G
  obtain ⟨a1, a2, a3, a4, a5, a6, a7, a8⟩ := C
  subst hsame
  subst hw
  exact fun H locs ls g1 g2 g3 g4 => va_put a1 a2 a6 hin ty0 hty hnm a5 a7.1 g1 g2 g3 q0 he hc k hk (a6 _ hlink) (fun _ h => h) hfin hd hn hfit hl d (fun H1 locs1 b1 b2 b3 => kk H1 locs1 ls b1 b2 b3 g4)
theorem j_iald {a : Nat} {cA : ClassId} {n : Nat} {f : Nat → Int32} {i : Int32} (C : jC l R D tys G cc nL own) (q0 t0 : Nat) (ha : ws[q0]? = some (a, .inl (cA, n, .inl f))) (ht : tys[t0]? = some (cA, .int)) (hin : vp_in i n) (d : decode cc pc = .ok (.iaload, 1)) (kk : J l R D G cs ws lv (.int (f i.toNatClampNeg) :: st) (pc + 1)) : J l R D G cs ws lv (.int i :: .ref a :: st) pc := by
  obtain ⟨p, e, s, m, args, below, meth, c, A, nL', Q⟩ := G
  obtain ⟨a1, a2, a3, a4, a5, a6, a7, a8⟩ := C
  exact fun H locs ls g1 g2 g3 g4 => va_iald a1 a2 a7.1 g1 q0 t0 ha ht hin d (kk H locs ls g1 g2 g3 g4)
theorem j_iast {a : Nat} {cA : ClassId} {n : Nat} {f : Nat → Int32} {i x : Int32} {ws' : va_W} (C : jC l R D tys G cc nL own) (q0 t0 : Nat) (ha : ws[q0]? = some (a, .inl (cA, n, .inl f))) (ht : tys[t0]? = some (cA, .int)) (hin : vp_in i n) (hw : ws.set q0 (a, .inl (cA, n, .inl (upd f i.toNatClampNeg x))) = ws') (d : decode cc pc = .ok (.iastore, 1)) (kk : J l R D G cs ws' lv st (pc + 1)) : J l R D G cs ws lv (.int x :: .int i :: .ref a :: st) pc := by
  obtain ⟨p, e, s, m, args, below, meth, c, A, nL', Q⟩ := G
  obtain ⟨a1, a2, a3, a4, a5, a6, a7, a8⟩ := C
  subst hw
  exact fun H locs ls g1 g2 g3 g4 => va_iast a1 a2 a7.1 g1 g2 g3 q0 t0 ha ht hin d (fun H1 locs1 b1 b2 b3 => kk H1 locs1 ls b1 b2 b3 g4)
theorem j_alen {a : Nat} {cA : ClassId} {x : vp_A} {ty : FieldType} {v : Int32} (C : jC l R D tys G cc nL own) (q0 t0 : Nat) (ha : ws[q0]? = some (a, .inl (cA, x))) (ht : tys[t0]? = some (cA, ty)) (hv : Int32.ofNat x.1 = v) (d : decode cc pc = .ok (.arraylength, 1)) (kk : J l R D G cs ws lv (.int v :: st) (pc + 1)) : J l R D G cs ws lv (.ref a :: st) pc := by
  obtain ⟨p, e, s, m, args, below, meth, c, A, nL', Q⟩ := G
  obtain ⟨a1, a2, a3, a4, a5, a6, a7, a8⟩ := C
  exact fun H locs ls g1 g2 g3 g4 => va_alen a1 a2 a7.1 g1 q0 t0 ha ht hv d (kk H locs ls g1 g2 g3 g4)
theorem j_iret {x : Int32} (C : jC l R D tys G cc nL own) (hr : jR D tys G cs (some .int) (some (.int x)) ws) (d : decode cc pc = .ok (.ireturn, 1)) : J l R D G cs ws lv [.int x] pc := by
  obtain ⟨p, e, s, m, args, below, meth, c, A, nL', Q⟩ := G
  obtain ⟨a1, a2, a3, a4, a5, a6, a7, a8, a9⟩ := C
  obtain ⟨h1, rfl⟩ := hr
  exact fun H locs ls g1 g2 g3 g4 => W.iret (hlocks := a9) a1 a2 h1 (fun t ht hW => ⟨⟨rfl, by rw [ht]; exact g1, g2⟩, g3.F ht⟩) g3.2.2 d
theorem j_zret {x : Int32} (C : jC l R D tys G cc nL own) (hr : jR D tys G cs (some .boolean) (some (.int x)) ws) (hn : narrow .boolean (.int x) = .int x) (d : decode cc pc = .ok (.ireturn, 1)) : J l R D G cs ws lv [.int x] pc := by
  obtain ⟨p, e, s, m, args, below, meth, c, A, nL', Q⟩ := G
  obtain ⟨a1, a2, a3, a4, a5, a6, a7, a8, a9⟩ := C
  obtain ⟨h1, rfl⟩ := hr
  exact fun H locs ls g1 g2 g3 g4 => W.zret (hlocks := a9) a1 a2 h1 hn (fun t ht hW => ⟨⟨rfl, by rw [ht]; exact g1, g2⟩, g3.F ht⟩) g3.2.2 d
theorem j_lret {x : Int64} (C : jC l R D tys G cc nL own) (hr : jR D tys G cs (some .long) (some (.long x)) ws) (d : decode cc pc = .ok (.lreturn, 1)) : J l R D G cs ws lv [.long x] pc := by
  obtain ⟨p, e, s, m, args, below, meth, c, A, nL', Q⟩ := G
  obtain ⟨a1, a2, a3, a4, a5, a6, a7, a8, a9⟩ := C
  obtain ⟨h1, rfl⟩ := hr
  exact fun H locs ls g1 g2 g3 g4 => W.lret (hlocks := a9) a1 a2 h1 (fun t ht hW => ⟨⟨rfl, by rw [ht]; exact g1, g2⟩, g3.F ht⟩) g3.2.2 d
theorem j_vret (C : jC l R D tys G cc nL own) (hr : jR D tys G cs none none ws) (d : decode cc pc = .ok (.return_, 1)) : J l R D G cs ws lv [] pc := by
  obtain ⟨p, e, s, m, args, below, meth, c, A, nL', Q⟩ := G
  obtain ⟨a1, a2, a3, a4, a5, a6, a7, a8, a9⟩ := C
  obtain ⟨h1, rfl⟩ := hr
  exact fun H locs ls g1 g2 g3 g4 => W.vret (hlocks := a9) a1 a2 h1 (fun t ht hW => ⟨⟨rfl, by rw [ht]; exact g1, g2⟩, g3.F ht⟩) g3.2.2 d
end JR
