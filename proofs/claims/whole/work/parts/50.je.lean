/-- the list's own empty row, which the library made ahead of all: where it lies, and that it is none of ours -/
def jE (t0 : Nat) (A : Nat → Prop) (U : State) (H : Heap) : Prop := va_Z "java/util/ArrayList" "DEFAULTCAPACITY_EMPTY_ELEMENTDATA" "[Ljava/lang/Object;" (.ref t0) A U H ∧ va_T (.object "java/lang/Object") t0 0 (fun _ => .null) A U H ∧ va_AOA .int U
def jX0 (t0 : Nat) (G : Gx) : Prop := match G with
  | (_, _, s, _, _, _, _, _, A, _, _) => jE t0 A s s.heap
def jNm (G : Gx) (n : String) : Prop := match G with
  | (_, _, _, _, _, _, meth, _, _, _, _) => meth.name = n
def jQE (D : va_G) (P : Option Value → va_W → Prop) (A : Nat → Prop) : Array Value → State → Outcome → State → Prop := fun _ st oc t => (∃ rv ws', oc = .returned rv ∧ P rv ws' ∧ va_P D vwCl ws' t.heap ∧ va_D A ws') ∧ va_F A st t
def jRE (D : va_G) (G : Gx) (cs : Nat × Nat) (rt : Option FieldType) (P : Option Value → va_W → Prop) : Prop :=
  match G with
  | (_, _, s, _, args, below, meth, _, A, _, Q) => meth.sig.returnType = rt ∧ Q = MQ below (jQE D P A) args s cs.1 cs.2 A
/-- a contract of what makes cells: what it answers and the world behind it are as P says -/
def ConE (l : Launch) (D : va_G) (tys : List (ClassId × FieldType)) (t0 : Nat) (y : MethodName) (wy : List Cond) (rm : Room) (av : List Value) (ws : va_W) (P : Option Value → va_W → Prop) : Prop :=
  ∀ sz : Nat, Met l y wy rm (va_Pc av (fun U => U.heap.size = sz ∧ va_P D vwCl ws U.heap ∧ jK D tys U ∧ va_D (fun _ => True) ws ∧ jE t0 (va_A ws sz) U U.heap)) (jQE D P (va_A ws sz)) rm.cells rm.slots (va_A ws sz)
theorem ConE.of {l : Launch} {D : va_G} {tys : List (ClassId × FieldType)} {t0 : Nat} {y : MethodName} {cc : ByteArray} {maxL : Nat} {rt : Option FieldType} {rm : Room} {av : List Value} {ws : va_W} {P : Option Value → va_W → Prop} (hy : plainFor y = true) (hn : (lg_sl av).length ≤ maxL)
    (body : ∀ G : Gx, jC l rm D tys G cc maxL y.cls → jRE D G (rm.cells, rm.slots) rt P → jX0 t0 G → jNm G y.name → J l rm D G (0, 0) ws (lv_args 0 av) [] 0) : ConE l D tys t0 y (wS y cc maxL rt) rm av ws P := by
  intro sz
  refine Met.ofWF (cc := cc) (maxL := maxL) (ret := rt) hy rfl ?_
  intro p e s m args below meth c s₁ B hml hv
  obtain ⟨rfl, hsz, hP, hK, hD0, hE⟩ := hv
  subst hsz
  have hts := atoms_spec (ws := wS y cc maxL rt) B.pre
  have h := body (p, e, s, m, av.toArray, below, meth, c, va_A ws s.heap.size, maxL, MQ below (jQE D P (va_A ws s.heap.size)) av.toArray s rm.cells rm.slots (va_A ws s.heap.size))
    ⟨B.exec, B.bytes, hml, rfl, findClass_of_methodNamed B.named, fun w hw => hts w (List.mem_cons_of_mem _ hw), hK, fun q h => Or.inr h, B.notSynchronized⟩ ⟨B.returns, rfl⟩ hE (name_of_methodNamed B.named B.method).1
  rw [lg_entry_eq]
  exact h s.heap [] _ hP hD0.self va_S.rf (lv_entry av hn)
theorem jE.warm {t0 : Nat} {A : Nat → Prop} {s U : State} {H : Heap} (h : jE t0 A s H) (hv : s.vm.Alike U.vm) : jE t0 A U H := ⟨va_Z.moved hv h.1, va_T.moved hv h.2.1, va_AOA.moved hv h.2.2⟩
theorem jE.call {t0 : Nat} {A B : Nat → Prop} {s U : State} {H : Heap} {locs : List Loc} (h : jE t0 A s s.heap) (hS : va_S A s.heap H locs) (hB : ∀ q, B q → A q) (hv : s.vm.Alike U.vm) (hU : U.heap = H) : jE t0 B U U.heap := by
  rw [hU]
  exact ⟨va_Z.narrow (va_Z.moved hv (va_Z.kept h.1 (fun a h1 h2 => hS.2.1 a h1 h2))) hB, va_T.narrow (va_T.moved hv (va_T.kept h.2.1 (fun a h1 h2 => hS.2.1 a h1 h2))) hB, va_AOA.moved hv h.2.2⟩
theorem jBlindE {av : List Value} {D : va_G} {tys : List (ClassId × FieldType)} {t0 : Nat} {ws : va_W} {sz : Nat} {A : Nat → Prop} : FrameBlind (va_Pc av (fun U => U.heap.size = sz ∧ va_P D vwCl ws U.heap ∧ jK D tys U ∧ va_D (fun _ => True) ws ∧ jE t0 A U U.heap)) := fun a U g mk q => by
  obtain ⟨q0, q1, qP, qK, qD, qE⟩ := q
  exact ⟨q0, q1, qP, qK.blind rfl, qD, qE.warm (U := U.calling g mk a) (Vm.Alike.refl U.vm)⟩
section JE
variable {l : Launch} {R : Room} {D : va_G} {tys : List (ClassId × FieldType)} {G : Gx} {cc : ByteArray} {nL : Nat} {own : String} {cs : Nat × Nat} {ws : va_W} {lv : List (Nat × Value)} {st : List Value} {pc : Nat} {P : Option Value → va_W → Prop} {t0 : Nat}
theorem j_vretE (C : jC l R D tys G cc nL own) (hr : jRE D G cs none P) (hP : P none ws) (d : decode cc pc = .ok (.return_, 1)) : J l R D G cs ws lv [] pc := by
  obtain ⟨p, e, s, m, args, below, meth, c, A, nL', Q⟩ := G
  obtain ⟨a1, a2, a3, a4, a5, a6, a7, a8, a9⟩ := C
  obtain ⟨h1, rfl⟩ := hr
  exact fun H locs ls g1 g2 g3 g4 => W.vret (hlocks := a9) a1 a2 h1 (fun t ht hW => ⟨⟨_, ws, rfl, hP, by rw [ht]; exact g1, g2⟩, g3.F ht⟩) g3.2.2 d
theorem j_iretE {x : Int32} (C : jC l R D tys G cc nL own) (hr : jRE D G cs (some .int) P) (hP : P (some (.int x)) ws) (d : decode cc pc = .ok (.ireturn, 1)) : J l R D G cs ws lv [.int x] pc := by
  obtain ⟨p, e, s, m, args, below, meth, c, A, nL', Q⟩ := G
  obtain ⟨a1, a2, a3, a4, a5, a6, a7, a8, a9⟩ := C
  obtain ⟨h1, rfl⟩ := hr
  exact fun H locs ls g1 g2 g3 g4 => W.iret (hlocks := a9) a1 a2 h1 (fun t ht hW => ⟨⟨_, ws, rfl, hP, by rw [ht]; exact g1, g2⟩, g3.F ht⟩) g3.2.2 d
theorem j_zretE {x : Int32} (C : jC l R D tys G cc nL own) (hr : jRE D G cs (some .boolean) P) (hn : narrow .boolean (.int x) = .int x) (hP : P (some (.int x)) ws) (d : decode cc pc = .ok (.ireturn, 1)) : J l R D G cs ws lv [.int x] pc := by
  obtain ⟨p, e, s, m, args, below, meth, c, A, nL', Q⟩ := G
  obtain ⟨a1, a2, a3, a4, a5, a6, a7, a8, a9⟩ := C
  obtain ⟨h1, rfl⟩ := hr
  exact fun H locs ls g1 g2 g3 g4 => W.zret (hlocks := a9) a1 a2 h1 hn (fun t ht hW => ⟨⟨_, ws, rfl, hP, by rw [ht]; exact g1, g2⟩, g3.F ht⟩) g3.2.2 d
theorem j_aretE {a : Nat} {rt : FieldType} (C : jC l R D tys G cc nL own) (hr : jRE D G cs (some rt) P) (hrt : (∃ n, rt = .object n) ∨ ∃ t, rt = .array t) (hP : P (some (.ref a)) ws) (d : decode cc pc = .ok (.areturn, 1)) : J l R D G cs ws lv [.ref a] pc := by
  obtain ⟨p, e, s, m, args, below, meth, c, A, nL', Q⟩ := G
  obtain ⟨a1, a2, a3, a4, a5, a6, a7, a8, a9⟩ := C
  obtain ⟨h1, rfl⟩ := hr
  exact fun H locs ls g1 g2 g3 g4 => W.aret (hlocks := a9) a1 a2 h1 hrt (Or.inr ⟨a, rfl⟩) (fun t ht hW => ⟨⟨_, ws, rfl, hP, by rw [ht]; exact g1, g2⟩, g3.F ht⟩) g3.2.2 d
theorem j_new {Cn : String} {T : u_T} {N ci index : Nat} {fs : List Value} (C : jC l R D tys G cc nL own) (hin : ∀ w ∈ u_ws Cn T N, w ∈ gW) (ty : Nat → FieldType) (hty : ∀ k, k < N → parseFieldDescriptor (T k).2.2.1 = some (ty k)) (hcl : Cond.classLink own index Cn ∈ gW) (hinst : Cond.instantiable Cn N ∈ gW) (hini : Cond.initialized Cn ∈ gW) (hc : vwCl[ci]? = some (Cn, T, N)) (hfs : ∀ j, j < N → defaultValue (ty j) = vp_V fs j) (hcells : cs.1 + 1 ≤ R.cells) (hslots : cs.2 + N ≤ R.slots) (d : decode cc pc = .ok (.new index, 3)) (kk : ∀ q : Nat, J l R D G (cs.1 + 1, cs.2 + N) (ws ++ [(q, .inr (ci, fs))]) lv (.ref q :: st) (pc + 3)) : J l R D G cs ws lv st pc := by
  obtain ⟨p, e, s, m, args, below, meth, c, A, nL', Q⟩ := G
  obtain ⟨a1, a2, a3, a4, a5, a6, a7, a8, a9⟩ := C
  exact fun H locs ls g1 g2 g3 g4 => va_new a1 a2 a6 hin ty hty a5 (a6 _ hcl) (a6 _ hinst) (a6 _ hini) a7.1 g1 g2 g3 a8 hc hfs hcells hslots d (fun q H1 b1 b2 b3 => kk q H1 locs ls b1 b2 b3 g4)
theorem j_newa {n : Int32} {N' : Nat} {cI : ClassId} (C : jC l R D tys G cc nL own) (harr : Cond.arrayClass .int ∈ gW) (t1 : Nat) (ht : tys[t1]? = some (cI, .int)) (hn : ¬ n < 0) (hN : n.toNatClampNeg = N') (hb : N' * 4 ≤ 536870912) (hcells : cs.1 + 1 ≤ R.cells) (hslots : cs.2 + N' ≤ R.slots) (d : decode cc pc = .ok (.newarray .int, 2)) (kk : ∀ q : Nat, J l R D G (cs.1 + 1, cs.2 + N') (ws ++ [(q, .inl (cI, N', .inl (fun _ => 0)))]) lv (.ref q :: st) (pc + 2)) : J l R D G cs ws lv (.int n :: st) pc := by
  obtain ⟨p, e, s, m, args, below, meth, c, A, nL', Q⟩ := G
  obtain ⟨a1, a2, a3, a4, a5, a6, a7, a8, a9⟩ := C
  intro H locs ls g1 g2 g3 g4
  refine va_newa (atype := .int) (a0 := (N', .inl (fun _ => 0))) (ty := .int) a1 a2 (a6 _ harr) rfl a7.1 g1 g2 g3 a8 (fun _ => rfl) hn hN hb hcells hslots d (fun q cA H1 hK1 b1 b2 b3 => ?_)
  have h1 := (a7.1.2 t1 _ ht).2
  have h2 := (hK1.2 tys.length (cA, .int) (by rw [List.getElem?_append_right (Nat.le_refl _), Nat.sub_self]; rfl)).2
  have e : cA = cI := Option.some.inj (Eq.trans (Eq.symm h2) h1)
  subst e
  exact kk q H1 locs ls b1 b2 b3 g4
theorem j_newq {n : Int32} {N' index : Nat} {cO : ClassId} (C : jC l R D tys G cc nL own) (hcl : Cond.classLink own index "java/lang/Object" ∈ gW) (t1 : Nat) (ht : tys[t1]? = some (cO, .object "java/lang/Object")) (hn : ¬ n < 0) (hN : n.toNatClampNeg = N') (hb : N' * 4 ≤ 536870912) (hcells : cs.1 + 1 ≤ R.cells) (hslots : cs.2 + N' ≤ R.slots) (d : decode cc pc = .ok (.anewarray index, 3)) (kk : ∀ q : Nat, J l R D G (cs.1 + 1, cs.2 + N') (ws ++ [(q, .inl (cO, N', .inr (.inr (.inr (.inr (fun _ => none))))))]) lv (.ref q :: st) (pc + 3)) : J l R D G cs ws lv (.int n :: st) pc := by
  obtain ⟨p, e, s, m, args, below, meth, c, A, nL', Q⟩ := G
  obtain ⟨a1, a2, a3, a4, a5, a6, a7, a8, a9⟩ := C
  intro H locs ls g1 g2 g3 g4
  refine va_newq a1 a2 a5 (a6 _ hcl) a7.2.2.2 a7.1 g1 g2 g3 a8 hn hN hb hcells hslots d (fun q cA H1 hK1 b1 b2 b3 => ?_)
  obtain ⟨-, -, -, -, -, h1⟩ := (a7.1.2 t1 _ ht).2
  obtain ⟨-, -, -, -, -, h2⟩ := (hK1.2 tys.length (cA, .object "java/lang/Object") (by rw [List.getElem?_append_right (Nat.le_refl _), Nat.sub_self]; rfl)).2
  have e : cA = cO := Option.some.inj (Eq.trans (Eq.symm h2) h1)
  subst e
  exact kk q H1 locs ls b1 b2 b3 g4
theorem j_putF {ref : String} {Cn : String} {T : u_T} {N ci index a : Nat} {fs : List Value} {v : Value} {ws' : va_W} {ty : FieldType} (C : jC l R D tys G cc nL own) (hnmi : jNm G "<init>") (hin : ∀ w ∈ u_ws Cn T N, w ∈ gW) (ty0 : Nat → FieldType) (hty : ∀ k, k < N → parseFieldDescriptor (T k).2.2.1 = some (ty0 k)) (hnm : ∀ a, a < N → ∀ b, b < N → a ≠ b → (T a).2.1 ≠ (T b).2.1) (q0 : Nat) (he : ws[q0]? = some (a, .inr (ci, fs))) (hc : vwCl[ci]? = some (Cn, T, N)) (k : Nat) (hk : k < N) (hlink : Cond.fieldLink own index ref (T k).2.1 (T k).2.2.1 ∈ gW) (hsame : (T k).1 = ref) (hfin : (T k).2.2.2 = true) (hdecl : (T k).1 = own) (hd : parseFieldDescriptor (T k).2.2.1 = some ty) (hn : narrow ty v = v) (hfit : fits ty v = true) (hl : k < fs.length) (hw : ws.set q0 (a, .inr (ci, fs.set k v)) = ws') (d : decode cc pc = .ok (.putfield index, 3)) (kk : J l R D G cs ws' lv st (pc + 3)) : J l R D G cs ws lv (v :: .ref a :: st) pc := by
  obtain ⟨p, e, s, m, args, below, meth, c, A, nL', Q⟩ := G
  obtain ⟨a1, a2, a3, a4, a5, a6, a7, a8⟩ := C
  subst hsame
  subst hw
  exact fun H locs ls g1 g2 g3 g4 => va_putF a1 a2 a6 hin ty0 hty hnm a5 a7.1 g1 g2 g3 q0 he hc k hk (a6 _ hlink) (fun _ h => h) hfin hnmi hdecl hd hn hfit hl d (fun H1 locs1 b1 b2 b3 => kk H1 locs1 ls b1 b2 b3 g4)
theorem j_getN {ref host : String} {Cn : String} {T : u_T} {N ci index a : Nat} {fs : List Value} {v : Value} (C : jC l R D tys G cc nL own) (hin : ∀ w ∈ u_ws Cn T N, w ∈ gW) (q0 : Nat) (he : ws[q0]? = some (a, .inr (ci, fs))) (hc : vwCl[ci]? = some (Cn, T, N)) (k : Nat) (hk : k < N) (hlink : Cond.fieldLinkNest own index ref (T k).2.1 (T k).2.2.1 host ∈ nW) (hsame : (T k).1 = ref) (hv : fs[k]? = some v) (d : decode cc pc = .ok (.getfield index, 3)) (kk : J l R D G cs ws lv (v :: st) (pc + 3)) : J l R D G cs ws lv (.ref a :: st) pc := by
  obtain ⟨p, e, s, m, args, below, meth, c, A, nL', Q⟩ := G
  obtain ⟨a1, a2, a3, a4, a5, a6, a7, a8⟩ := C
  subst hsame
  exact fun H locs ls g1 g2 g3 g4 => va_getN a1 a2 a6 hin a5 a7.1 g1 q0 he hc k hk (va_Nw.use rfl (a7.2.1 _ hlink)) (fun _ h => h) hv d (kk H locs ls g1 g2 g3 g4)
theorem j_objInit {idx a : Nat} (C : jC l R D tys G cc nL own) (hlink : Cond.methodLink own idx objectInit ∈ gW) (hinst : Cond.instanceMethod objectInit ∈ gW) (hcode : Cond.code objectInit ⟨#[0xb1]⟩ 1 none ∈ gW) (hframes : 1 ≤ R.frames) (hlocals : (st.map fun v => v.category).sum + 12 ≤ R.locals) (d : decode cc pc = .ok (.invokespecial idx, 3)) (kk : J l R D G cs ws lv st (pc + 3)) : J l R D G cs ws lv (.ref a :: st) pc := by
  obtain ⟨p, e, s, m, args, below, meth, c, A, nL', Q⟩ := G
  obtain ⟨a1, a2, a3, rfl, a5, a6, a7, a8⟩ := C
  exact fun H locs ls g1 g2 g3 g4 => W.objInit a1 a2 a5 (a6 _ hlink) (a6 _ hinst) (a6 _ hcode) rfl (g4.1.trans a3.symm) rfl d hframes (by show 2 * 0 + _ + 12 ≤ _; omega) (kk H locs ls g1 g2 g3 g4)
theorem j_gets {index : Nat} (C : jC l R D tys G cc nL own) (E : jX0 t0 G) (hlink : Cond.fieldLink own index "java/util/ArrayList" "DEFAULTCAPACITY_EMPTY_ELEMENTDATA" "[Ljava/lang/Object;" ∈ gW) (d : decode cc pc = .ok (.getstatic index, 3)) (kk : J l R D G cs ws lv (.ref t0 :: st) (pc + 3)) : J l R D G cs ws lv st pc := by
  obtain ⟨p, e, s, m, args, below, meth, c, A, nL', Q⟩ := G
  obtain ⟨a1, a2, a3, a4, a5, a6, a7, a8⟩ := C
  exact fun H locs ls g1 g2 g3 g4 => va_gets a1 a2 E.1 g3 a5 (a6 _ hlink) (fun _ h => h) d (kk H locs ls g1 g2 g3 g4)
theorem j_tlen (C : jC l R D tys G cc nL own) (E : jX0 t0 G) (d : decode cc pc = .ok (.arraylength, 1)) (kk : J l R D G cs ws lv (.int 0 :: st) (pc + 1)) : J l R D G cs ws lv (.ref t0 :: st) pc := by
  obtain ⟨p, e, s, m, args, below, meth, c, A, nL', Q⟩ := G
  obtain ⟨a1, a2, a3, a4, a5, a6, a7, a8⟩ := C
  exact fun H locs ls g1 g2 g3 g4 => va_tlen a1 a2 E.2.1 g3 rfl d (kk H locs ls g1 g2 g3 g4)
theorem vr_list (r : Nat → Nat) (f : Nat → va_E) (e : va_E) (N : Nat) : va_pl (([] : List Nat) ++ (List.range N).map r) (vr_up f ((List.range N).map r) e) = (List.range N).map (fun i => (r i, e)) := by
  unfold va_pl
  rw [List.nil_append, List.map_map]
  apply List.map_congr_left
  intro i hi
  show (r i, vr_up f _ e (r i)) = _
  rw [vr_up_in (List.mem_map.mpr ⟨i, hi, rfl⟩)]
theorem j_mna {index : Nat} {n k : Int32} {N' K' : Nat} {cI cR : ClassId} (C : jC l R D tys G cc nL own) (E : jX0 t0 G) (hcl : Cond.classLink own index "[[I" ∈ gW) (harr : Cond.arrayClass .int ∈ gW) (t1 t2 : Nat) (ht1 : tys[t1]? = some (cI, .int)) (ht2 : tys[t2]? = some (cR, .array .int)) (hn : ¬ n < 0) (hk : ¬ k < 0) (hN : n.toNatClampNeg = N') (hM : k.toNatClampNeg = K') (hb1 : N' * 4 ≤ 536870912) (hb2 : K' * 4 ≤ 536870912) (hb3 : K' ≤ 536870912) (hcells : cs.1 + (1 + N') ≤ R.cells) (hslots : cs.2 + (N' + N' * K') ≤ R.slots) (d : decode cc pc = .ok (.multianewarray index 2, 4)) (kk : ∀ (q : Nat) (r : Nat → Nat), J l R D G (cs.1 + 1 + N', cs.2 + N' + N' * K') ((ws ++ [(q, .inl (cR, N', .inr (.inr (.inr (.inr (fun i => if i < N' then some (r i) else none))))))]) ++ (List.range N').map (fun i => (r i, .inl (cI, K', .inl (fun _ => 0))))) lv (.ref q :: st) (pc + 4)) : J l R D G cs ws lv (.int k :: .int n :: st) pc := by
  obtain ⟨p, e, s, m, args, below, meth, c, A, nL', Q⟩ := G
  obtain ⟨a1, a2, a3, a4, a5, a6, a7, a8, a9⟩ := C
  intro H locs ls g1 g2 g3 g4
  have hI : s.vm.findClass ("[" ++ (FieldType.int).toString) = some cI := (a7.1.2 t1 _ ht1).2
  have hP0 : va_P D vwCl (ws ++ va_pl ([] : List Nat) (fun _ => .inr (0, []))) H := by
    show va_P D vwCl (ws ++ []) H
    rw [List.append_nil]
    exact g1
  have hD0 : va_D A (ws ++ va_pl ([] : List Nat) (fun _ => .inr (0, []))) := by
    show va_D A (ws ++ [])
    rw [List.append_nil]
    exact g2
  refine va_mna (L := []) (f := fun _ => .inr (0, [])) (ty := .int) (z := (K', .inl (fun _ => 0))) (cy := cI) a1 a2 a5 (a6 _ hcl) E.2.2 (a6 _ harr) hI a7.1 hP0 hD0 g3 a8 hn hk hN hM hb1 hb2 hb3 rfl rfl hcells hslots (fun _ => ?_) d (fun q r cA H1 hi1 hi2 hK1 b1 b2 b3 => ?_)
  · exact arrV_new _ _ _
  · have h1 : s.vm.findClass ("[" ++ (FieldType.array .int).toString) = some cR := (a7.1.2 t2 _ ht2).2
    have h2 : s.vm.findClass ("[" ++ (FieldType.array .int).toString) = some cA := (hK1.2 tys.length (cA, .array .int) (by rw [List.getElem?_append_right (Nat.le_refl _), Nat.sub_self]; rfl)).2
    have e : cA = cR := Option.some.inj (Eq.trans (Eq.symm h2) h1)
    subst e
    rw [vr_list] at b1 b2
    exact kk q r H1 locs ls b1 b2 b3 g4
/-- a constructor called; a nest mate's where nest is told; the cells it works on by their places -/
theorem j_callI {y : MethodName} {bytes : ByteArray} {maxL index n b : Nat} {rm : Room} {As rest : List Value} {wc wr : va_W} {cs' : Nat × Nat} (nest : Option String)
    (C : jC l R D tys G cc nL own) (E : jX0 t0 G) (hM : ConE l D tys t0 y (wS y bytes maxL none) rm (.ref b :: As) wc P)
    (hcode : Cond.code y bytes maxL none ∈ gW) (hlink : match nest with | none => Cond.methodLink own index y ∈ gW | some host => Cond.methodLinkNest own index y host ∈ nW) (hinst : Cond.instanceMethod y ∈ gW) (hini : Cond.initialized y.cls ∈ gW) (hyn : y.name = "<init>")
    (hd : y.cls ≠ "java/lang/invoke/MethodHandle" ∧ y.cls ≠ "java/lang/invoke/VarHandle" ∧ (parseMethodDescriptor y.desc).map (fun d => d.parameters.length) = some n)
    (hR : rm.frames + 1 ≤ R.frames ∧ 8 + (maxL + 11) + rm.locals ≤ R.locals) (isC isR : List Nat) (hC : isC.map (fun i => ws[i]?) = wc.map some) (hR2 : isR.map (fun i => ws[i]?) = wr.map some) (hnC : va_nd isC = true) (hnd : va_nd isR = true) (hdis : ∀ i ∈ isR, i ∉ isC)
    (hn : As.length = n) (hrest : (rest.map fun v => v.category).sum ≤ 8) (d : decode cc pc = .ok (.invokespecial index, 3)) (hcells : cs.1 + rm.cells ≤ R.cells ∧ cs.2 + rm.slots ≤ R.slots)
    (hst : st = As.reverse ++ .ref b :: rest) (hcs : (cs.1 + rm.cells, cs.2 + rm.slots) = cs') (kk : ∀ rv w1, P rv w1 → J l R D G cs' (wr ++ w1) lv (rv.toList ++ rest) (pc + 3)) : J l R D G cs ws lv st pc := by
  subst hcs
  obtain ⟨p, e, s, m, args, below, meth, c, A, nL', Q⟩ := G
  obtain ⟨a1, a2, a3, rfl, a5, a6, a7, a8, a9⟩ := C
  intro H locs ls g1 g2 g3 g4
  have hD : va_D A wc := g2.sub isC hnC hC
  have hPc : va_P D vwCl wc H := g1.sub isC (by
    have h1 := congrArg (List.filterMap id) hC
    rw [List.filterMap_map, List.filterMap_map] at h1
    simpa using h1)
  have hF := va_free (wc := wc) g2 g3 a8 isC hC
  have hpre : PreS s H (va_Pc (.ref b :: As) (fun U => U.heap.size = H.size ∧ va_P D vwCl wc U.heap ∧ jK D tys U ∧ va_D (fun _ => True) wc ∧ jE t0 (va_A wc H.size) U U.heap)) (.ref b :: As) := ⟨jBlindE, fun U hU hW => ⟨rfl, by rw [hU], by rw [hU]; exact hPc, a7.warm hW, hD.weaken (fun _ _ _ _ => trivial), jE.call E g3 hF hW.alike hU⟩⟩
  have hrun : va_Run p l e R s m args below meth c H locs cs.1 cs.2 rm.cells rm.slots (F0 m pc ls st) rest (jQE D P (va_A wc H.size) (Value.ref b :: As).toArray) (va_A wc H.size) := by
    cases nest with
    | none => exact va_runI (As := As) (rest := rest) (g := F0 m pc ls st) ⟨a1, a2, a3, a5, a6⟩ (hM H.size) (cwI n a6 (gW_sub (fun _ h => h) hcode) rfl rfl rfl (a6 _ hini) (a6 _ hlink) (a6 _ hinst) hyn hd hR) hpre rfl hn g4.1 hst (lv_room (m := m) (pc := pc) (ls := ls) (rest := st) hrest) d hcells
    | some host => exact va_runIN (As := As) (rest := rest) (g := F0 m pc ls st) ⟨a1, a2, a3, a5, a6⟩ (hM H.size) ⟨va_cnB n a6 (gW_sub (fun _ h => h) hcode) rfl rfl rfl (a7.2.1 _ hlink) (a6 _ hini) hd hR, hyn, a6 _ hinst⟩ hpre rfl hn g4.1 hst (lv_room (m := m) (pc := pc) (ls := ls) (rest := st) hrest) d hcells
  intro T hT X
  obtain ⟨v, st₀, t, T', L, h0, X', hL, e1, e2, ⟨⟨rv, w1, hv, hp, hP1, hD1⟩, hz, hk⟩, stp⟩ := hrun T hT X
  cases hv
  rw [h0] at hz hk
  obtain ⟨hP2, hD2⟩ := va_join (H1 := T'.heap) g1 g2 isC isR hC hR2 hnd hdis (by rw [e1]; exact hk) hF (by rw [e1]; exact hP1) hD1
  obtain ⟨t2, b1, b2⟩ := kk _ w1 hp T'.heap (locs ++ L) ls hP2 hD2 (jS_after g3 hF (by rw [e1]; exact hz) (by rw [e1]; exact hk) hL) g4 T' rfl X'
  exact ⟨t2, stp t2 b1, b2⟩
end JE
