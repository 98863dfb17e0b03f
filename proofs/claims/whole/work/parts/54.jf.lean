section JF
variable {l : Launch} {R : Room} {D : va_G} {tys : List (ClassId × FieldType)} {G : Gx} {cc : ByteArray} {nL : Nat} {own : String} {cs : Nat × Nat} {ws : va_W} {lv : List (Nat × Value)} {st : List Value} {pc : Nat} {P : Option Value → va_W → Prop} {t0 : Nat}
theorem jE_sub {X pl cx : va_W} {A : Nat → Prop} (hD : va_D A (X ++ pl)) (isC : List Nat) (hnC : va_nd isC = true) (hC : isC.map (fun i => X[i]?) = cx.map some) : isC.map (fun i => (X ++ pl)[i]?) = cx.map some := by
  rw [← hC]
  apply List.map_congr_left
  intro i hi
  have h1 : X[i]? ∈ cx.map some := by rw [← hC]; exact List.mem_map.mpr ⟨i, hi, rfl⟩
  obtain ⟨x, -, hx⟩ := List.mem_map.mp h1
  have hlt : i < X.length := (List.getElem?_eq_some_iff.mp hx.symm).1
  exact List.getElem?_append_left hlt
/-- an instance method that makes cells, called on the cells that the places isC tell of X; pl lies aside -/
theorem j_callVQ {y : MethodName} {bytes : ByteArray} {maxL index n b ci : Nat} {rt : Option FieldType} {rm : Room} {As rest : List Value} {X pl cx wr : va_W} {fs : List Value} {Tq : u_T} {Nq : Nat} {cs' : Nat × Nat}
    (C : jC l R D tys G cc nL own) (E : jX0 t0 G) (hws : ws = X ++ pl) (hM : ConE l D tys t0 y (wS y bytes maxL rt) rm (.ref b :: As) cx P)
    (hcode : Cond.code y bytes maxL rt ∈ gW) (hlink : Cond.methodLink own index y ∈ gW) (hinst : Cond.instanceMethod y ∈ gW) (hsel : Cond.selects y.cls y y ∈ gW) (hini : Cond.initialized y.cls ∈ gW)
    (hd : y.cls ≠ "java/lang/invoke/MethodHandle" ∧ y.cls ≠ "java/lang/invoke/VarHandle" ∧ (parseMethodDescriptor y.desc).map (fun d => d.parameters.length) = some n)
    (hR : rm.frames + 1 ≤ R.frames ∧ 8 + (maxL + 11) + rm.locals ≤ R.locals) (q0 : Nat) (he : X[q0]? = some (b, .inr (ci, fs))) (hc : vwCl[ci]? = some (y.cls, Tq, Nq))
    (isC isR : List Nat) (hC : isC.map (fun i => X[i]?) = cx.map some) (hR2 : isR.map (fun i => X[i]?) = wr.map some) (hnC : va_nd isC = true) (hnd : va_nd isR = true) (hdis : ∀ i ∈ isR, i ∉ isC)
    (hn : As.length = n) (hrest : (rest.map fun v => v.category).sum ≤ 8) (d : decode cc pc = .ok (.invokevirtual index, 3)) (hcells : cs.1 + rm.cells ≤ R.cells ∧ cs.2 + rm.slots ≤ R.slots)
    (hst : st = As.reverse ++ .ref b :: rest) (hcs : (cs.1 + rm.cells, cs.2 + rm.slots) = cs') (kk : ∀ rv w1, P rv w1 → J l R D G cs' ((wr ++ w1) ++ pl) lv (rv.toList ++ rest) (pc + 3)) : J l R D G cs ws lv st pc := by
  subst hcs
  subst hws
  obtain ⟨p, e, s, m, args, below, meth, c, A, nL', Q⟩ := G
  obtain ⟨a1, a2, a3, rfl, a5, a6, a7, a8, a9⟩ := C
  intro H locs ls g1 g2 g3 g4
  have hC' := jE_sub g2 isC hnC hC
  have hD : va_D A cx := g2.sub isC hnC hC'
  have hPc : va_P D vwCl cx H := g1.sub isC (by
    have h1 := congrArg (List.filterMap id) hC'
    rw [List.filterMap_map, List.filterMap_map] at h1
    simpa using h1)
  have hF := va_free (wc := cx) g2 g3 a8 isC hC'
  have hG : GoodIn gW (wsV own index y.cls y (wS y bytes maxL rt)) := fun w hw => by
    rcases List.mem_append.mp hw with h | h
    · simp only [List.mem_cons, List.not_mem_nil, or_false] at h
      rcases h with rfl | rfl | rfl | rfl
      · exact ⟨hlink, gW_good _ hlink⟩
      · exact ⟨hinst, gW_good _ hinst⟩
      · exact ⟨hsel, gW_good _ hsel⟩
      · exact ⟨hini, gW_good _ hini⟩
    · exact gW_sub (fun _ h => h) hcode w h
  have he' : (X ++ pl)[q0]? = some (b, .inr (ci, fs)) := (List.getElem?_append_left (List.getElem?_eq_some_iff.mp he).1).trans he
  have hrun := va_runV (As := As) (rest := rest) (g := F0 m pc ls st) (cells := cs.1) (slots := cs.2) (R := R) (below := below) (p := p) (e := e) (locs := locs) (meth := meth) ⟨a1, a2, a3, a5, a6⟩ (hM H.size) (cwV n a6 hG rfl rfl rfl ⟨rfl, hd⟩ hR) ⟨jBlindE, va_recv a7.1 g1 hc he', fun U hU hW => ⟨rfl, by rw [hU], by rw [hU]; exact hPc, a7.warm hW, hD.weaken (fun _ _ _ _ => trivial), jE.call E g3 hF hW.alike hU⟩⟩ rfl hn g4.1 hst (lv_room (m := m) (pc := pc) (ls := ls) (rest := st) hrest) d hcells
  intro T hT X'
  obtain ⟨v, st₀, t, T', L, h0, X'', hL, e1, e2, ⟨⟨rv, w1, hv, hp, hP1, hD1⟩, hz, hk⟩, stp⟩ := hrun T hT X'
  cases hv
  rw [h0] at hz hk
  obtain ⟨hP2, hD2⟩ := va_joinQ (H1 := T'.heap) g1 g2 isC isR hC hR2 hnd hdis (by rw [e1]; exact hk) hF (by rw [e1]; exact hP1) hD1
  obtain ⟨t2, b1, b2⟩ := kk _ w1 hp T'.heap (locs ++ L) ls hP2 hD2 (jS_after g3 hF (by rw [e1]; exact hz) (by rw [e1]; exact hk) hL) g4 T' rfl X''
  exact ⟨t2, stp t2 b1, b2⟩
theorem j_callSQ {y : MethodName} {bytes : ByteArray} {maxL index n : Nat} {rt : Option FieldType} {rm : Room} {As rest : List Value} {X pl cx wr : va_W} {cs' : Nat × Nat}
    (C : jC l R D tys G cc nL own) (E : jX0 t0 G) (hws : ws = X ++ pl) (hM : ConE l D tys t0 y (wS y bytes maxL rt) rm As cx P)
    (hcode : Cond.code y bytes maxL rt ∈ gW) (hlink : Cond.methodLink own index y ∈ gW) (hstat : Cond.static y ∈ gW) (hini : Cond.initialized y.cls ∈ gW)
    (hd : y.cls ≠ "java/lang/invoke/MethodHandle" ∧ y.cls ≠ "java/lang/invoke/VarHandle" ∧ (parseMethodDescriptor y.desc).map (fun d => d.parameters.length) = some n)
    (hR : rm.frames + 1 ≤ R.frames ∧ 8 + (maxL + 11) + rm.locals ≤ R.locals)
    (isC isR : List Nat) (hC : isC.map (fun i => X[i]?) = cx.map some) (hR2 : isR.map (fun i => X[i]?) = wr.map some) (hnC : va_nd isC = true) (hnd : va_nd isR = true) (hdis : ∀ i ∈ isR, i ∉ isC)
    (hn : As.length = n) (hrest : (rest.map fun v => v.category).sum ≤ 8) (d : decode cc pc = .ok (.invokestatic index, 3)) (hcells : cs.1 + rm.cells ≤ R.cells ∧ cs.2 + rm.slots ≤ R.slots)
    (hst : st = As.reverse ++ rest) (hcs : (cs.1 + rm.cells, cs.2 + rm.slots) = cs') (kk : ∀ rv w1, P rv w1 → J l R D G cs' ((wr ++ w1) ++ pl) lv (rv.toList ++ rest) (pc + 3)) : J l R D G cs ws lv st pc := by
  subst hcs
  subst hws
  obtain ⟨p, e, s, m, args, below, meth, c, A, nL', Q⟩ := G
  obtain ⟨a1, a2, a3, rfl, a5, a6, a7, a8, a9⟩ := C
  intro H locs ls g1 g2 g3 g4
  have hC' := jE_sub g2 isC hnC hC
  have hD : va_D A cx := g2.sub isC hnC hC'
  have hPc : va_P D vwCl cx H := g1.sub isC (by
    have h1 := congrArg (List.filterMap id) hC'
    rw [List.filterMap_map, List.filterMap_map] at h1
    simpa using h1)
  have hF := va_free (wc := cx) g2 g3 a8 isC hC'
  have hrun := va_runS (As := As) (rest := rest) (g := F0 m pc ls st) (cells := cs.1) (slots := cs.2) (R := R) (below := below) (p := p) (e := e) (locs := locs) (meth := meth) (H := H) ⟨a1, a2, a3, a5, a6⟩ (hM H.size) ⟨callB_of n a6 (gW_sub (fun _ h => h) hcode) rfl rfl rfl (a6 _ hini) (a6 _ hlink) hd hR, a6 _ hstat⟩ ⟨jBlindE, fun U hU hW => ⟨rfl, by rw [hU], by rw [hU]; exact hPc, a7.warm hW, hD.weaken (fun _ _ _ _ => trivial), jE.call E g3 hF hW.alike hU⟩⟩ rfl hn g4.1 hst (lv_room (m := m) (pc := pc) (ls := ls) (rest := st) hrest) d hcells
  intro T hT X'
  obtain ⟨v, st₀, t, T', L, h0, X'', hL, e1, e2, ⟨⟨rv, w1, hv, hp, hP1, hD1⟩, hz, hk⟩, stp⟩ := hrun T hT X'
  cases hv
  rw [h0] at hz hk
  obtain ⟨hP2, hD2⟩ := va_joinQ (H1 := T'.heap) g1 g2 isC isR hC hR2 hnd hdis (by rw [e1]; exact hk) hF (by rw [e1]; exact hP1) hD1
  obtain ⟨t2, b1, b2⟩ := kk _ w1 hp T'.heap (locs ++ L) ls hP2 hD2 (jS_after g3 hF (by rw [e1]; exact hz) (by rw [e1]; exact hk) hL) g4 T' rfl X''
  exact ⟨t2, stp t2 b1, b2⟩
theorem j_clone {index a : Nat} {cI : ClassId} {n : Nat} {f : Nat → Int32} (C : jC l R D tys G cc nL own) (hlink : Cond.methodLink own index ⟨"[I", "clone", "()Ljava/lang/Object;"⟩ ∈ gW) (hsame : Cond.sameMethod "[I" "java/lang/Object" "clone" "()Ljava/lang/Object;" ∈ gW) (hnat : Cond.native ⟨"java/lang/Object", "clone", "()Ljava/lang/Object;"⟩ ∈ gW) (hinst : Cond.instanceMethod ⟨"java/lang/Object", "clone", "()Ljava/lang/Object;"⟩ ∈ gW) (hsel : Cond.selects "[I" ⟨"[I", "clone", "()Ljava/lang/Object;"⟩ ⟨"java/lang/Object", "clone", "()Ljava/lang/Object;"⟩ ∈ gW) (hcl : Cond.castable "[I" "java/lang/Cloneable" ∈ nW) (q0 t1 : Nat) (ha : ws[q0]? = some (a, .inl (cI, n, .inl f))) (ht : tys[t1]? = some (cI, .int)) (hframes : 1 ≤ R.frames) (hlocals : (st.map fun v => v.category).sum + 14 ≤ R.locals) (hcells : cs.1 + 1 ≤ R.cells) (hslots : cs.2 + n ≤ R.slots) (d : decode cc pc = .ok (.invokevirtual index, 3)) (kk : ∀ q : Nat, J l R D G (cs.1 + 1, cs.2 + n) (ws ++ [(q, .inl (cI, n, .inl f))]) lv (.ref q :: st) (pc + 3)) : J l R D G cs ws lv (.ref a :: st) pc := by
  obtain ⟨p, e, s, m, args, below, meth, c, A, nL', Q⟩ := G
  obtain ⟨a1, a2, a3, rfl, a5, a6, a7, a8, a9⟩ := C
  intro H locs ls g1 g2 g3 g4
  have hI : s.vm.findClass "[I" = some cI := (a7.1.2 t1 _ ht).2
  refine va_clone a1 a2 (a3.trans g4.1.symm) a5 (a6 _ hlink) (a6 _ hsame) (a6 _ hnat) (a6 _ hinst) (a6 _ hsel) (a7.2.1 _ hcl) a7.1 g1 g2 g3 a8 q0 t1 ha ht hI (fun i v hv => ?_) hframes hlocals hcells hslots d (fun q H1 hK1 b1 b2 b3 => kk q H1 locs ls b1 b2 b3 g4)
  have hv' : (arrV cI n (fun j => .int (f j))).slots[i]? = some v := hv
  by_cases hi : i < n
  · rw [arrV_read _ _ hi] at hv'
    cases hv'
    rfl
  · rw [Array.getElem?_eq_none (by rw [arrV_size]; omega)] at hv'
    cases hv'
theorem j_castA {index a : Nat} {cI : ClassId} {x : vp_A} (C : jC l R D tys G cc nL own) (hlink : Cond.classLink own index "[I" ∈ gW) (q0 t1 : Nat) (ha : ws[q0]? = some (a, .inl (cI, x))) (ht : tys[t1]? = some (cI, .int)) (d : decode cc pc = .ok (.checkcast index, 3)) (kk : J l R D G cs ws lv (.ref a :: st) (pc + 3)) : J l R D G cs ws lv (.ref a :: st) pc := by
  obtain ⟨p, e, s, m, args, below, meth, c, A, nL', Q⟩ := G
  obtain ⟨a1, a2, a3, rfl, a5, a6, a7, a8, a9⟩ := C
  intro H locs ls g1 g2 g3 g4
  have hI : s.vm.findClass "[I" = some cI := (a7.1.2 t1 _ ht).2
  exact va_castA a1 a2 a5 (a6 _ hlink) g1 q0 ha hI d (kk H locs ls g1 g2 g3 g4)
theorem j_astO {a v ci : Nat} {cO : ClassId} {Cn : String} {T : u_T} {N : Nat} {n : Nat} {vs : List Value} {f : Nat → Option Nat} {i : Int32} {ws' : va_W} (C : jC l R D tys G cc nL own) (q0 t1 qk : Nat) (ha : ws[q0]? = some (a, .inl (cO, n, .inr (.inr (.inr (.inr f)))))) (ht : tys[t1]? = some (cO, .object "java/lang/Object")) (hca : Cond.castable Cn "java/lang/Object" ∈ nW) (hv : ws[qk]? = some (v, .inr (ci, vs))) (hc : vwCl[ci]? = some (Cn, T, N)) (hin : vp_in i n) (hw : ws.set q0 (a, .inl (cO, n, .inr (.inr (.inr (.inr (va_up f i.toNatClampNeg (some v))))))) = ws') (d : decode cc pc = .ok (.aastore, 1)) (kk : J l R D G cs ws' lv st (pc + 1)) : J l R D G cs ws lv (.ref v :: .int i :: .ref a :: st) pc := by
  obtain ⟨p, e, s, m, args, below, meth, c, A, nL', Q⟩ := G
  obtain ⟨a1, a2, a3, rfl, a5, a6, a7, a8, a9⟩ := C
  subst hw
  exact fun H locs ls g1 g2 g3 g4 => va_astqO a1 a2 a7.1 g1 g2 g3 q0 t1 qk ci ha ht (a7.2.1 _ hca) hv hc hin d (fun H1 locs1 b1 b2 b3 => kk H1 locs1 ls b1 b2 b3 g4)
theorem j_acmp_eq {x y : Nat} {off : Int} {tgt : Nat} (C : jC l R D tys G cc nL own) (d : decode cc pc = .ok (.if_acmp .eq off, 3)) (ht : (pc : Int) + off = (tgt : Int)) (kt : x = y → J l R D G cs ws lv st tgt) (kf : ¬ x = y → J l R D G cs ws lv st (pc + 3)) : J l R D G cs ws lv (.ref y :: .ref x :: st) pc := by
  obtain ⟨p, e, s, m, args, below, meth, c, A, nL', Q⟩ := G
  obtain ⟨a1, a2, a5⟩ := C
  exact fun H locs ls h1 h2 h3 h4 => lv_acmp_eq (rx := some x) (ry := some y) a1 a2 d ht (fun q => kt (Option.some.inj q) H locs ls h1 h2 h3 h4) (fun q => kf (fun z => q (congrArg some z)) H locs ls h1 h2 h3 h4)
end JF
theorem mmax_eq (N : Nat) (x y : Int32) : mJ9_max_7cf53 N x y = some (if x < y then y else x) := by
  unfold mJ9_max_7cf53
  split <;> rfl
theorem mmin_eq (N : Nat) (x y : Int32) : mJ9_min_7cf53 N x y = some (if y < x then y else x) := by
  unfold mJ9_min_7cf53
  split <;> rfl
