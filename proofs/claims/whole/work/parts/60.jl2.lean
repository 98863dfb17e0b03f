theorem wj_apart {A : Nat → Prop} {D : va_G} {cl : List vw_C} {w1 w2 : va_W} {H : Heap} (hP : va_P D cl (w1 ++ w2) H) (hD : va_D A (w1 ++ w2)) : (∀ (k : Nat) (x : Nat × va_E), w2[k]? = some x → x.1 < H.size ∧ ¬ va_A w1 H.size x.1) ∧ (∀ (k : Nat) (x : Nat × va_E), w1[k]? = some x → x.1 < H.size ∧ ¬ va_A w2 H.size x.1) := by
  refine ⟨fun k x hx => ?_, fun k x hx => ?_⟩
  · have h1 : (w1 ++ w2)[w1.length + k]? = some x := by rw [List.getElem?_append_right (by omega), show w1.length + k - w1.length = k by omega]; exact hx
    refine ⟨(hP _ _ h1).lt, fun z => ?_⟩
    rcases z with ⟨j, e, h⟩ | h
    · have hl := (List.getElem?_eq_some_iff.mp h).1
      have h2 : (w1 ++ w2)[j]? = some (x.1, e) := by rw [List.getElem?_append_left hl]; exact h
      have := hD.1 _ _ _ _ h1 h2 rfl
      omega
    · exact absurd (hP _ _ h1).lt (by omega)
  · have hl := (List.getElem?_eq_some_iff.mp hx).1
    have h1 : (w1 ++ w2)[k]? = some x := by rw [List.getElem?_append_left hl]; exact hx
    refine ⟨(hP _ _ h1).lt, fun z => ?_⟩
    rcases z with ⟨j, e, h⟩ | h
    · have h2 : (w1 ++ w2)[w1.length + j]? = some (x.1, e) := by rw [List.getElem?_append_right (by omega), show w1.length + j - w1.length = j by omega]; exact h
      have := hD.1 _ _ _ _ h1 h2 rfl
      omega
    · exact absurd (hP _ _ h1).lt (by omega)
theorem va_P.right {D : va_G} {cl : List vw_C} {w v : va_W} {H : Heap} (h : va_P D cl (w ++ v) H) : va_P D cl v H := fun k q hk => h (w.length + k) q (by rw [List.getElem?_append_right (by omega), show w.length + k - w.length = k by omega]; exact hk)
theorem va_D.right {A : Nat → Prop} {w v : va_W} (h : va_D A (w ++ v)) : va_D A v :=
  ⟨fun i j p q hi hj e => by
    have := h.1 (w.length + i) (w.length + j) p q (by rw [List.getElem?_append_right (by omega), show w.length + i - w.length = i by omega]; exact hi) (by rw [List.getElem?_append_right (by omega), show w.length + j - w.length = j by omega]; exact hj) e
    omega, fun k q hk => h.2 (w.length + k) q (by rw [List.getElem?_append_right (by omega), show w.length + k - w.length = k by omega]; exact hk)⟩
/-- two worlds that lie apart -/
theorem va_D.both {A B : Nat → Prop} {w v : va_W} (hw : va_D B w) (hv : va_D A v) (hB : ∀ q, B q → A q) (hap : ∀ (k : Nat) (x : Nat × va_E), v[k]? = some x → ¬ B x.1) : va_D A (w ++ v) ∧ va_D A (v ++ w) := by
  refine ⟨⟨fun i j p q hi hj e => ?_, fun k q hk => ?_⟩, ⟨fun i j p q hi hj e => ?_, fun k q hk => ?_⟩⟩
  · by_cases h1 : i < w.length <;> by_cases h2 : j < w.length
    · rw [List.getElem?_append_left h1] at hi
      rw [List.getElem?_append_left h2] at hj
      exact hw.1 i j p q hi hj e
    · rw [List.getElem?_append_left h1] at hi
      rw [List.getElem?_append_right (by omega)] at hj
      exact absurd (e ▸ hw.2 i p hi) (hap _ _ hj)
    · rw [List.getElem?_append_right (by omega)] at hi
      rw [List.getElem?_append_left h2] at hj
      exact absurd (e.symm ▸ hw.2 j q hj) (hap _ _ hi)
    · rw [List.getElem?_append_right (by omega)] at hi hj
      have := hv.1 _ _ p q hi hj e
      omega
  · by_cases h1 : k < w.length
    · rw [List.getElem?_append_left h1] at hk
      exact hB _ (hw.2 k q hk)
    · rw [List.getElem?_append_right (by omega)] at hk
      exact hv.2 _ q hk
  · by_cases h1 : i < v.length <;> by_cases h2 : j < v.length
    · rw [List.getElem?_append_left h1] at hi
      rw [List.getElem?_append_left h2] at hj
      exact hv.1 i j p q hi hj e
    · rw [List.getElem?_append_left h1] at hi
      rw [List.getElem?_append_right (by omega)] at hj
      exact absurd (e.symm ▸ hw.2 _ q hj) (hap _ _ hi)
    · rw [List.getElem?_append_right (by omega)] at hi
      rw [List.getElem?_append_left h2] at hj
      exact absurd (e ▸ hw.2 _ p hi) (hap _ _ hj)
    · rw [List.getElem?_append_right (by omega)] at hi hj
      have := hw.1 _ _ p q hi hj e
      omega
  · by_cases h1 : k < v.length
    · rw [List.getElem?_append_left h1] at hk
      exact hv.2 k q hk
    · rw [List.getElem?_append_right (by omega)] at hk
      exact hB _ (hw.2 _ q hk)
def jXs (b L : Nat) (xs : Nat → Int32) (G : Gx) : Prop := match G with
  | (_, _, s, _, _, _, _, _, A, _, _) => va_X b L xs s s.heap ∧ b < s.heap.size ∧ ¬ A b
def jKs (D : va_G) (tys : List (ClassId × FieldType)) (G : Gx) : Prop := match G with
  | (_, _, s, _, _, _, _, _, _, _, _) => jK D tys s
section JLW
variable {l : Launch} {R : Room} {D : va_G} {tys tys' : List (ClassId × FieldType)} {G : Gx} {cc : ByteArray} {nL : Nat} {own : String} {cs : Nat × Nat} {ws w1 w2 : va_W} {lv : List (Nat × Value)} {st : List Value} {pc : Nat} {t0 : Nat} {P : Option Value → va_W → Prop}
theorem j_sld {b L : Nat} {xs : Nat → Int32} {i : Int32} (C : jC l R D tys G cc nL own) (X : jXs b L xs G) (hin : vp_in i L) (d : decode cc pc = .ok (.iaload, 1)) (kk : J l R D G cs ws lv (.int (xs i.toNatClampNeg) :: st) (pc + 1)) : J l R D G cs ws lv (.int i :: .ref b :: st) pc := by
  obtain ⟨p, e, s, m, args, below, meth, c, A, nL', Q⟩ := G
  obtain ⟨a1, a2, a5⟩ := C
  exact fun H locs ls g1 g2 g3 g4 => va_sld a1 a2 X.1 X.2.1 X.2.2 g3 hin d (kk H locs ls g1 g2 g3 g4)
theorem j_slen {b L : Nat} {xs : Nat → Int32} (C : jC l R D tys G cc nL own) (X : jXs b L xs G) (d : decode cc pc = .ok (.arraylength, 1)) (kk : J l R D G cs ws lv (.int (Int32.ofNat L) :: st) (pc + 1)) : J l R D G cs ws lv (.ref b :: st) pc := by
  obtain ⟨p, e, s, m, args, below, meth, c, A, nL', Q⟩ := G
  obtain ⟨a1, a2, a5⟩ := C
  exact fun H locs ls g1 g2 g3 g4 => va_slen a1 a2 X.1 X.2.1 X.2.2 g3 d (kk H locs ls g1 g2 g3 g4)
theorem jGoodV {index maxL : Nat} {y : MethodName} {bytes : ByteArray} {rt : Option FieldType} (hcode : Cond.code y bytes maxL rt ∈ gW) (hlink : Cond.methodLink own index y ∈ gW) (hinst : Cond.instanceMethod y ∈ gW) (hsel : Cond.selects y.cls y y ∈ gW) (hini : Cond.initialized y.cls ∈ gW) : GoodIn gW (wsV own index y.cls y (wS y bytes maxL rt)) := fun w hw => by
  rcases List.mem_append.mp hw with h | h
  · simp only [List.mem_cons, List.not_mem_nil, or_false] at h
    rcases h with rfl | rfl | rfl | rfl
    · exact ⟨hlink, gW_good _ hlink⟩
    · exact ⟨hinst, gW_good _ hinst⟩
    · exact ⟨hsel, gW_good _ hsel⟩
    · exact ⟨hini, gW_good _ hini⟩
  · exact gW_sub (fun _ h => h) hcode w h
/-- a call on the first of two worlds -/
theorem j_callL {y : MethodName} {bytes : ByteArray} {maxL index n b ci : Nat} {rt : Option FieldType} {rm : Room} {As rest : List Value} {ret : Option Value} {w1' : va_W} {fs : List Value} {Tq : u_T} {Nq : Nat}
    (C : jC l R D tys G cc nL own) (hM : Con l D tys y (wS y bytes maxL rt) rm (.ref b :: As) w1 ret w1')
    (hcode : Cond.code y bytes maxL rt ∈ gW) (hlink : Cond.methodLink own index y ∈ gW) (hinst : Cond.instanceMethod y ∈ gW) (hsel : Cond.selects y.cls y y ∈ gW) (hini : Cond.initialized y.cls ∈ gW)
    (hd : y.cls ≠ "java/lang/invoke/MethodHandle" ∧ y.cls ≠ "java/lang/invoke/VarHandle" ∧ (parseMethodDescriptor y.desc).map (fun d => d.parameters.length) = some n)
    (hR : rm.frames + 1 ≤ R.frames ∧ 8 + (maxL + 11) + rm.locals ≤ R.locals) (q0 : Nat) (he : w1[q0]? = some (b, .inr (ci, fs))) (hc : vwCl[ci]? = some (y.cls, Tq, Nq))
    (hn : As.length = n) (hrest : (rest.map fun v => v.category).sum ≤ 8) (d : decode cc pc = .ok (.invokevirtual index, 3)) (hz : rm.cells = 0 ∧ rm.slots = 0) (hcells : cs.1 ≤ R.cells ∧ cs.2 ≤ R.slots)
    (hst : st = As.reverse ++ .ref b :: rest) (kk : J l R D G cs (w1' ++ w2) lv (ret.toList ++ rest) (pc + 3)) : J l R D G cs (w1 ++ w2) lv st pc := by
  obtain ⟨p, e, s, m, args, below, meth, c, A, nL', Q⟩ := G
  obtain ⟨a1, a2, a3, rfl, a5, a6, a7, a8, a9⟩ := C
  intro H locs ls g1 g2 g3 g4
  have hF := jF_all a8 g2.left g3
  have hrun := va_runV (As := As) (rest := rest) (g := F0 m pc ls st) (cells := cs.1) (slots := cs.2) (R := R) (below := below) (p := p) (e := e) (locs := locs) (meth := meth) ⟨a1, a2, a3, a5, a6⟩ (hM H.size) (cwV n a6 (jGoodV hcode hlink hinst hsel hini) rfl rfl rfl ⟨rfl, hd⟩ hR) ⟨jBlind, va_recv a7.1 g1.left hc he, fun U hU hW => ⟨rfl, by rw [hU], by rw [hU]; exact g1.left, a7.warm hW, g2.left.weaken (fun _ _ _ _ => trivial)⟩⟩ rfl hn g4.1 hst (lv_room (m := m) (pc := pc) (ls := ls) (rest := st) hrest) d ⟨by rw [hz.1]; exact hcells.1, by rw [hz.2]; exact hcells.2⟩
  rw [hz.1, hz.2] at hrun
  intro T hT X
  obtain ⟨v, st₀, t, T', L, h0, X', hL, e1, e2, ⟨⟨hv, hP1, hD1⟩, hz, hk⟩, stp⟩ := hrun T hT X
  cases hv
  rw [h0] at hz hk
  obtain ⟨hap, -⟩ := wj_apart g1 g2
  have hP2 : va_P D vwCl w2 T'.heap := g1.right.kept (fun k x hx => by rw [e1]; exact hk _ (hap k x hx).1 (hap k x hx).2)
  obtain ⟨t2, b1, b2⟩ := kk T'.heap (locs ++ L) ls (va_P.app (by rw [e1]; exact hP1) hP2) (va_D.both hD1 g2.right hF (fun k x hx => (hap k x hx).2)).1 (jS_after g3 hF (by rw [e1]; exact hz) (by rw [e1]; exact hk) hL) g4 T' rfl X'
  exact ⟨t2, stp t2 b1, b2⟩
/-- a call on the second of two worlds, by its own array classes -/
theorem j_callR {y : MethodName} {bytes : ByteArray} {maxL index n b ci : Nat} {rt : Option FieldType} {rm : Room} {As rest : List Value} {ret : Option Value} {w2' : va_W} {fs : List Value} {Tq : u_T} {Nq : Nat}
    (C : jC l R D tys G cc nL own) (K : jKs D tys' G) (hM : Con l D tys' y (wS y bytes maxL rt) rm (.ref b :: As) w2 ret w2')
    (hcode : Cond.code y bytes maxL rt ∈ gW) (hlink : Cond.methodLink own index y ∈ gW) (hinst : Cond.instanceMethod y ∈ gW) (hsel : Cond.selects y.cls y y ∈ gW) (hini : Cond.initialized y.cls ∈ gW)
    (hd : y.cls ≠ "java/lang/invoke/MethodHandle" ∧ y.cls ≠ "java/lang/invoke/VarHandle" ∧ (parseMethodDescriptor y.desc).map (fun d => d.parameters.length) = some n)
    (hR : rm.frames + 1 ≤ R.frames ∧ 8 + (maxL + 11) + rm.locals ≤ R.locals) (q0 : Nat) (he : w2[q0]? = some (b, .inr (ci, fs))) (hc : vwCl[ci]? = some (y.cls, Tq, Nq))
    (hn : As.length = n) (hrest : (rest.map fun v => v.category).sum ≤ 8) (d : decode cc pc = .ok (.invokevirtual index, 3)) (hz : rm.cells = 0 ∧ rm.slots = 0) (hcells : cs.1 ≤ R.cells ∧ cs.2 ≤ R.slots)
    (hst : st = As.reverse ++ .ref b :: rest) (kk : J l R D G cs (w1 ++ w2') lv (ret.toList ++ rest) (pc + 3)) : J l R D G cs (w1 ++ w2) lv st pc := by
  obtain ⟨p, e, s, m, args, below, meth, c, A, nL', Q⟩ := G
  obtain ⟨a1, a2, a3, rfl, a5, a6, a7, a8, a9⟩ := C
  have a7' : jK D tys' s := K
  intro H locs ls g1 g2 g3 g4
  have hF := jF_all a8 g2.right g3
  have hrun := va_runV (As := As) (rest := rest) (g := F0 m pc ls st) (cells := cs.1) (slots := cs.2) (R := R) (below := below) (p := p) (e := e) (locs := locs) (meth := meth) ⟨a1, a2, a3, a5, a6⟩ (hM H.size) (cwV n a6 (jGoodV hcode hlink hinst hsel hini) rfl rfl rfl ⟨rfl, hd⟩ hR) ⟨jBlind, va_recv a7.1 g1.right hc he, fun U hU hW => ⟨rfl, by rw [hU], by rw [hU]; exact g1.right, a7'.warm hW, g2.right.weaken (fun _ _ _ _ => trivial)⟩⟩ rfl hn g4.1 hst (lv_room (m := m) (pc := pc) (ls := ls) (rest := st) hrest) d ⟨by rw [hz.1]; exact hcells.1, by rw [hz.2]; exact hcells.2⟩
  rw [hz.1, hz.2] at hrun
  intro T hT X
  obtain ⟨v, st₀, t, T', L, h0, X', hL, e1, e2, ⟨⟨hv, hP1, hD1⟩, hz, hk⟩, stp⟩ := hrun T hT X
  cases hv
  rw [h0] at hz hk
  obtain ⟨-, hap⟩ := wj_apart g1 g2
  have hP2 : va_P D vwCl w1 T'.heap := g1.left.kept (fun k x hx => by rw [e1]; exact hk _ (hap k x hx).1 (hap k x hx).2)
  obtain ⟨t2, b1, b2⟩ := kk T'.heap (locs ++ L) ls (va_P.app hP2 (by rw [e1]; exact hP1)) (va_D.both hD1 g2.left hF (fun k x hx => (hap k x hx).2)).2 (jS_after g3 hF (by rw [e1]; exact hz) (by rw [e1]; exact hk) hL) g4 T' rfl X'
  exact ⟨t2, stp t2 b1, b2⟩
/-- a call on the first of two worlds that makes cells -/
theorem j_callLE {y : MethodName} {bytes : ByteArray} {maxL index n b ci : Nat} {rt : Option FieldType} {rm : Room} {As rest : List Value} {fs : List Value} {Tq : u_T} {Nq : Nat} {cs' : Nat × Nat}
    (C : jC l R D tys G cc nL own) (E : jX0 t0 G) (hM : ConE l D tys t0 y (wS y bytes maxL rt) rm (.ref b :: As) w1 P)
    (hcode : Cond.code y bytes maxL rt ∈ gW) (hlink : Cond.methodLink own index y ∈ gW) (hinst : Cond.instanceMethod y ∈ gW) (hsel : Cond.selects y.cls y y ∈ gW) (hini : Cond.initialized y.cls ∈ gW)
    (hd : y.cls ≠ "java/lang/invoke/MethodHandle" ∧ y.cls ≠ "java/lang/invoke/VarHandle" ∧ (parseMethodDescriptor y.desc).map (fun d => d.parameters.length) = some n)
    (hR : rm.frames + 1 ≤ R.frames ∧ 8 + (maxL + 11) + rm.locals ≤ R.locals) (q0 : Nat) (he : w1[q0]? = some (b, .inr (ci, fs))) (hc : vwCl[ci]? = some (y.cls, Tq, Nq))
    (hn : As.length = n) (hrest : (rest.map fun v => v.category).sum ≤ 8) (d : decode cc pc = .ok (.invokevirtual index, 3)) (hcells : cs.1 + rm.cells ≤ R.cells ∧ cs.2 + rm.slots ≤ R.slots)
    (hst : st = As.reverse ++ .ref b :: rest) (hcs : (cs.1 + rm.cells, cs.2 + rm.slots) = cs') (kk : ∀ rv w1', P rv w1' → J l R D G cs' (w1' ++ w2) lv (rv.toList ++ rest) (pc + 3)) : J l R D G cs (w1 ++ w2) lv st pc := by
  subst hcs
  obtain ⟨p, e, s, m, args, below, meth, c, A, nL', Q⟩ := G
  obtain ⟨a1, a2, a3, rfl, a5, a6, a7, a8, a9⟩ := C
  intro H locs ls g1 g2 g3 g4
  have hF := jF_all a8 g2.left g3
  have hrun := va_runV (As := As) (rest := rest) (g := F0 m pc ls st) (cells := cs.1) (slots := cs.2) (R := R) (below := below) (p := p) (e := e) (locs := locs) (meth := meth) ⟨a1, a2, a3, a5, a6⟩ (hM H.size) (cwV n a6 (jGoodV hcode hlink hinst hsel hini) rfl rfl rfl ⟨rfl, hd⟩ hR) ⟨jBlindE, va_recv a7.1 g1.left hc he, fun U hU hW => ⟨rfl, by rw [hU], by rw [hU]; exact g1.left, a7.warm hW, g2.left.weaken (fun _ _ _ _ => trivial), jE.call E g3 hF hW.alike hU⟩⟩ rfl hn g4.1 hst (lv_room (m := m) (pc := pc) (ls := ls) (rest := st) hrest) d hcells
  intro T hT X
  obtain ⟨v, st₀, t, T', L, h0, X', hL, e1, e2, ⟨⟨rv, w1', hv, hp, hP1, hD1⟩, hz, hk⟩, stp⟩ := hrun T hT X
  cases hv
  rw [h0] at hz hk
  obtain ⟨hap, -⟩ := wj_apart g1 g2
  have hP2 : va_P D vwCl w2 T'.heap := g1.right.kept (fun k x hx => by rw [e1]; exact hk _ (hap k x hx).1 (hap k x hx).2)
  obtain ⟨t2, b1, b2⟩ := kk _ w1' hp T'.heap (locs ++ L) ls (va_P.app (by rw [e1]; exact hP1) hP2) (va_D.both hD1 g2.right hF (fun k x hx => (hap k x hx).2)).1 (jS_after g3 hF (by rw [e1]; exact hz) (by rw [e1]; exact hk) hL) g4 T' rfl X'
  exact ⟨t2, stp t2 b1, b2⟩
theorem j_iand31 : True := trivial
end JLW
