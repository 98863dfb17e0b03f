section JC
variable {l : Launch} {R : Room} {D : va_G} {tys : List (ClassId × FieldType)} {G : Gx} {cc : ByteArray} {nL : Nat} {own : String} {cs : Nat × Nat} {ws : va_W} {lv : List (Nat × Value)} {st : List Value} {pc : Nat}
theorem jS_after {A : Nat → Prop} {wc : va_W} {H0 H H1 : Heap} {locs L : List Loc} (hS : va_S A H0 H locs) (hF : ∀ q, va_A wc H.size q → A q) (hz : H.size ≤ H1.size) (hk : ∀ q : Nat, q < H.size → ¬ va_A wc H.size q → H1[q]? = H[q]?) (hL : ∀ q ∈ L, va_A wc H.size q.base) : va_S A H0 H1 (locs ++ L) :=
  ⟨Nat.le_trans hS.1 hz, fun q h1 h2 => by rw [hk q (Nat.lt_of_lt_of_le h1 hS.1) (fun z => h2 (hF q z))]; exact hS.2.1 q h1 h2, fun q hq => by
    rcases List.mem_append.mp hq with h | h
    · exact hS.2.2 q h
    · exact hF _ (hL q h)⟩
theorem jF_all {A : Nat → Prop} {ws : va_W} {H0 H : Heap} {locs : List Loc} (hA : ∀ q, H0.size ≤ q → A q) (hD : va_D A ws) (hS : va_S A H0 H locs) : ∀ q, va_A ws H.size q → A q := fun q h => by
  rcases h with ⟨k, e, h⟩ | h
  · exact hD.2 k _ h
  · exact hA q (Nat.le_trans hS.1 h)
theorem jBlind {av : List Value} {D : va_G} {tys : List (ClassId × FieldType)} {ws : va_W} {sz : Nat} : FrameBlind (va_Pc av (fun U => U.heap.size = sz ∧ va_P D vwCl ws U.heap ∧ jK D tys U ∧ va_D (fun _ => True) ws)) := fun a U g mk q => by
  obtain ⟨q0, q1, qP, qK, qD⟩ := q
  exact ⟨q0, q1, qP, qK.blind rfl, qD⟩
theorem j_callV {y : MethodName} {bytes : ByteArray} {maxL index n b ci : Nat} {rt : Option FieldType} {rm : Room} {As rest : List Value} {ret : Option Value} {ws' : va_W} {fs : List Value} {Tq : u_T} {Nq : Nat} {cs' : Nat × Nat}
    (C : jC l R D tys G cc nL own) (hM : Con l D tys y (wS y bytes maxL rt) rm (.ref b :: As) ws ret ws')
    (hcode : Cond.code y bytes maxL rt ∈ gW) (hlink : Cond.methodLink own index y ∈ gW) (hinst : Cond.instanceMethod y ∈ gW) (hsel : Cond.selects y.cls y y ∈ gW) (hini : Cond.initialized y.cls ∈ gW)
    (hd : y.cls ≠ "java/lang/invoke/MethodHandle" ∧ y.cls ≠ "java/lang/invoke/VarHandle" ∧ (parseMethodDescriptor y.desc).map (fun d => d.parameters.length) = some n)
    (hR : rm.frames + 1 ≤ R.frames ∧ 8 + (maxL + 11) + rm.locals ≤ R.locals) (q0 : Nat) (he : ws[q0]? = some (b, .inr (ci, fs))) (hc : vwCl[ci]? = some (y.cls, Tq, Nq))
    (hn : As.length = n) (hrest : (rest.map fun v => v.category).sum ≤ 8) (d : decode cc pc = .ok (.invokevirtual index, 3)) (hcells : cs.1 + rm.cells ≤ R.cells ∧ cs.2 + rm.slots ≤ R.slots)
    (hst : st = As.reverse ++ .ref b :: rest) (hcs : (cs.1 + rm.cells, cs.2 + rm.slots) = cs') (kk : J l R D G cs' ws' lv (ret.toList ++ rest) (pc + 3)) : J l R D G cs ws lv st pc := by
  subst hcs
  obtain ⟨p, e, s, m, args, below, meth, c, A, nL', Q⟩ := G
  obtain ⟨a1, a2, a3, rfl, a5, a6, a7, a8, a9⟩ := C
  intro H locs ls g1 g2 g3 g4
  have hF := jF_all a8 g2 g3
  have hG : GoodIn gW (wsV own index y.cls y (wS y bytes maxL rt)) := fun w hw => by
    rcases List.mem_append.mp hw with h | h
    · simp only [List.mem_cons, List.not_mem_nil, or_false] at h
      rcases h with rfl | rfl | rfl | rfl
      · exact ⟨hlink, gW_good _ hlink⟩
      · exact ⟨hinst, gW_good _ hinst⟩
      · exact ⟨hsel, gW_good _ hsel⟩
      · exact ⟨hini, gW_good _ hini⟩
    · exact gW_sub (fun _ h => h) hcode w h
  have hrun := va_runV (As := As) (rest := rest) (g := F0 m pc ls st) (cells := cs.1) (slots := cs.2) (R := R) (below := below) (p := p) (e := e) (locs := locs) (meth := meth) ⟨a1, a2, a3, a5, a6⟩ (hM H.size) (cwV n a6 hG rfl rfl rfl ⟨rfl, hd⟩ hR) ⟨jBlind, va_recv a7.1 g1 hc he, fun U hU hW => ⟨rfl, by rw [hU], by rw [hU]; exact g1, a7.warm hW, g2.weaken (fun _ _ _ _ => trivial)⟩⟩ rfl hn g4.1 hst (lv_room (m := m) (pc := pc) (ls := ls) (rest := st) hrest) d hcells
  intro T hT X
  obtain ⟨v, st₀, t, T', L, h0, X', hL, e1, e2, ⟨⟨hv, hP1, hD1⟩, hz, hk⟩, stp⟩ := hrun T hT X
  cases hv
  rw [h0] at hz hk
  obtain ⟨t2, b1, b2⟩ := kk T'.heap (locs ++ L) ls (by rw [e1]; exact hP1) (hD1.weaken (fun _ _ _ h => hF _ h)) (jS_after g3 hF (by rw [e1]; exact hz) (by rw [e1]; exact hk) hL) g4 T' rfl X'
  exact ⟨t2, stp t2 b1, b2⟩
theorem j_callS {y : MethodName} {bytes : ByteArray} {maxL index n : Nat} {rt : Option FieldType} {rm : Room} {As rest : List Value} {ret : Option Value} {cs' : Nat × Nat}
    (C : jC l R D tys G cc nL own) (hM : Con l D tys y (wS y bytes maxL rt) rm As [] ret [])
    (hcode : Cond.code y bytes maxL rt ∈ gW) (hlink : Cond.methodLink own index y ∈ gW) (hstat : Cond.static y ∈ gW) (hini : Cond.initialized y.cls ∈ gW)
    (hd : y.cls ≠ "java/lang/invoke/MethodHandle" ∧ y.cls ≠ "java/lang/invoke/VarHandle" ∧ (parseMethodDescriptor y.desc).map (fun d => d.parameters.length) = some n)
    (hR : rm.frames + 1 ≤ R.frames ∧ 8 + (maxL + 11) + rm.locals ≤ R.locals)
    (hn : As.length = n) (hrest : (rest.map fun v => v.category).sum ≤ 8) (d : decode cc pc = .ok (.invokestatic index, 3)) (hcells : cs.1 + rm.cells ≤ R.cells ∧ cs.2 + rm.slots ≤ R.slots)
    (hst : st = As.reverse ++ rest) (hcs : (cs.1 + rm.cells, cs.2 + rm.slots) = cs') (kk : J l R D G cs' ws lv (ret.toList ++ rest) (pc + 3)) : J l R D G cs ws lv st pc := by
  subst hcs
  obtain ⟨p, e, s, m, args, below, meth, c, A, nL', Q⟩ := G
  obtain ⟨a1, a2, a3, rfl, a5, a6, a7, a8, a9⟩ := C
  intro H locs ls g1 g2 g3 g4
  have hF : ∀ q, va_A [] H.size q → A q := fun q h => by
    rcases h with ⟨k, e, h⟩ | h
    · simp at h
    · exact a8 q (Nat.le_trans g3.1 h)
  have hrun := va_runS (As := As) (rest := rest) (g := F0 m pc ls st) (cells := cs.1) (slots := cs.2) (R := R) (below := below) (p := p) (e := e) (locs := locs) (meth := meth) (H := H) ⟨a1, a2, a3, a5, a6⟩ (hM H.size) ⟨callB_of n a6 (gW_sub (fun _ h => h) hcode) rfl rfl rfl (a6 _ hini) (a6 _ hlink) hd hR, a6 _ hstat⟩ ⟨jBlind, fun U hU hW => ⟨rfl, by rw [hU], fun k q h => by simp at h, a7.warm hW, ⟨fun i j p q h => by simp at h, fun k q h => by simp at h⟩⟩⟩ rfl hn g4.1 hst (lv_room (m := m) (pc := pc) (ls := ls) (rest := st) hrest) d hcells
  intro T hT X
  obtain ⟨v, st₀, t, T', L, h0, X', hL, e1, e2, ⟨⟨hv, hP1, hD1⟩, hz, hk⟩, stp⟩ := hrun T hT X
  cases hv
  rw [h0] at hz hk
  have hkeep : va_P D vwCl ws T'.heap := g1.kept (fun k x hx => by
    rw [e1]
    have hlt := (g1 k x hx).lt
    exact hk _ hlt (fun z => by
      rcases z with ⟨k, e, h⟩ | h
      · simp at h
      · omega))
  obtain ⟨t2, b1, b2⟩ := kk T'.heap (locs ++ L) ls hkeep g2 (jS_after g3 hF (by rw [e1]; exact hz) (by rw [e1]; exact hk) hL) g4 T' rfl X'
  exact ⟨t2, stp t2 b1, b2⟩
end JC
/-- mirrors: a place looked at before it is used -/
def rd {α : Type} (f : Nat → Int32) (n : Nat) (i : Int32) (k : Int32 → Option α) : Option α := if 0 ≤ i.toInt ∧ i.toInt < n then k (f i.toNatClampNeg) else none
def wr {α : Type} (n : Nat) (i : Int32) (k : Nat → Option α) : Option α := if 0 ≤ i.toInt ∧ i.toInt < n then k i.toNatClampNeg else none
def gd {α : Type} (c : Prop) [Decidable c] (k : Option α) : Option α := if c then k else none
def nm {α β : Type} (x : α) (k : α → Option β) : Option β := k x
theorem rd_some {α : Type} {f : Nat → Int32} {n : Nat} {i : Int32} {k : Int32 → Option α} {r : α} (h : rd f n i k = some r) : vp_in i n ∧ k (f i.toNatClampNeg) = some r := by
  unfold rd at h
  split at h
  · exact ⟨vp_in_iff.mpr (by assumption), h⟩
  · cases h
theorem wr_some {α : Type} {n : Nat} {i : Int32} {k : Nat → Option α} {r : α} (h : wr n i k = some r) : vp_in i n ∧ k i.toNatClampNeg = some r := by
  unfold wr at h
  split at h
  · exact ⟨vp_in_iff.mpr (by assumption), h⟩
  · cases h
theorem gd_some {α : Type} {c : Prop} [Decidable c] {k : Option α} {r : α} (h : gd c k = some r) : c ∧ k = some r := by
  unfold gd at h
  split at h
  · exact ⟨by assumption, h⟩
  · cases h
theorem bd_some {α β : Type} {x : Option α} {f : α → Option β} {r : β} (h : x.bind f = some r) : ∃ y, x = some y ∧ f y = some r := by
  cases x with
  | none => cases h
  | some y => exact ⟨y, rfl, h⟩
theorem ip {α : Type} {c : Prop} [Decidable c] {x y : Option α} {r : α} (hc : c) (h : (if c then x else y) = some r) : x = some r := by rwa [if_pos hc] at h
theorem im {α : Type} {c : Prop} [Decidable c] {x y : Option α} {r : α} (hc : ¬ c) (h : (if c then x else y) = some r) : y = some r := by rwa [if_neg hc] at h
theorem nm_some {α β : Type} {x : α} {k : α → Option β} {r : β} (h : nm x k = some r) : k x = some r := h
